theorem d_M_tagAes_0 : decode b_M_tagAes 0 = .ok (.iconst 0, 1) := by decide +kernel
theorem d_M_tagAes_1 : decode b_M_tagAes 1 = .ok (.istore_n 3, 1) := by decide +kernel
theorem d_M_tagAes_2 : decode b_M_tagAes 2 = .ok (.iload_n 3, 1) := by decide +kernel
theorem d_M_tagAes_3 : decode b_M_tagAes 3 = .ok (.bipush 16, 2) := by decide +kernel
theorem d_M_tagAes_5 : decode b_M_tagAes 5 = .ok (.if_icmp .ge 16, 3) := by decide +kernel
theorem d_M_tagAes_8 : decode b_M_tagAes 8 = .ok (.aload_n 0, 1) := by decide +kernel
theorem d_M_tagAes_9 : decode b_M_tagAes 9 = .ok (.getfield 39, 3) := by decide +kernel
theorem d_M_tagAes_12 : decode b_M_tagAes 12 = .ok (.iload_n 3, 1) := by decide +kernel
theorem d_M_tagAes_13 : decode b_M_tagAes 13 = .ok (.iconst 0, 1) := by decide +kernel
theorem d_M_tagAes_14 : decode b_M_tagAes 14 = .ok (.iastore, 1) := by decide +kernel
theorem d_M_tagAes_15 : decode b_M_tagAes 15 = .ok (.iinc 3 1, 3) := by decide +kernel
theorem d_M_tagAes_18 : decode b_M_tagAes 18 = .ok (.goto (-16), 3) := by decide +kernel
theorem d_M_tagAes_21 : decode b_M_tagAes 21 = .ok (.aload_n 0, 1) := by decide +kernel
theorem d_M_tagAes_22 : decode b_M_tagAes 22 = .ok (.invokevirtual 85, 3) := by decide +kernel
theorem d_M_tagAes_25 : decode b_M_tagAes 25 = .ok (.aload_n 0, 1) := by decide +kernel
theorem d_M_tagAes_26 : decode b_M_tagAes 26 = .ok (.aload_n 0, 1) := by decide +kernel
theorem d_M_tagAes_27 : decode b_M_tagAes 27 = .ok (.getfield 39, 3) := by decide +kernel
theorem d_M_tagAes_30 : decode b_M_tagAes 30 = .ok (.iconst 0, 1) := by decide +kernel
theorem d_M_tagAes_31 : decode b_M_tagAes 31 = .ok (.bipush 16, 2) := by decide +kernel
theorem d_M_tagAes_33 : decode b_M_tagAes 33 = .ok (.invokestatic 103, 3) := by decide +kernel
theorem d_M_tagAes_36 : decode b_M_tagAes 36 = .ok (.putfield 95, 3) := by decide +kernel
theorem d_M_tagAes_39 : decode b_M_tagAes 39 = .ok (.aload_n 0, 1) := by decide +kernel
theorem d_M_tagAes_40 : decode b_M_tagAes 40 = .ok (.aload_n 0, 1) := by decide +kernel
theorem d_M_tagAes_41 : decode b_M_tagAes 41 = .ok (.getfield 39, 3) := by decide +kernel
theorem d_M_tagAes_44 : decode b_M_tagAes 44 = .ok (.bipush 8, 2) := by decide +kernel
theorem d_M_tagAes_46 : decode b_M_tagAes 46 = .ok (.bipush 16, 2) := by decide +kernel
theorem d_M_tagAes_48 : decode b_M_tagAes 48 = .ok (.invokestatic 103, 3) := by decide +kernel
theorem d_M_tagAes_51 : decode b_M_tagAes 51 = .ok (.putfield 98, 3) := by decide +kernel
theorem d_M_tagAes_54 : decode b_M_tagAes 54 = .ok (.aload_n 0, 1) := by decide +kernel
theorem d_M_tagAes_55 : decode b_M_tagAes 55 = .ok (.lconst 0, 1) := by decide +kernel
theorem d_M_tagAes_56 : decode b_M_tagAes 56 = .ok (.putfield 88, 3) := by decide +kernel
theorem d_M_tagAes_59 : decode b_M_tagAes 59 = .ok (.aload_n 0, 1) := by decide +kernel
theorem d_M_tagAes_60 : decode b_M_tagAes 60 = .ok (.lconst 0, 1) := by decide +kernel
theorem d_M_tagAes_61 : decode b_M_tagAes 61 = .ok (.putfield 92, 3) := by decide +kernel
theorem d_M_tagAes_64 : decode b_M_tagAes 64 = .ok (.iconst 0, 1) := by decide +kernel
theorem d_M_tagAes_65 : decode b_M_tagAes 65 = .ok (.istore_n 3, 1) := by decide +kernel
theorem d_M_tagAes_66 : decode b_M_tagAes 66 = .ok (.iload_n 3, 1) := by decide +kernel
theorem d_M_tagAes_67 : decode b_M_tagAes 67 = .ok (.aload_n 0, 1) := by decide +kernel
theorem d_M_tagAes_68 : decode b_M_tagAes 68 = .ok (.getfield 107, 3) := by decide +kernel
theorem d_M_tagAes_71 : decode b_M_tagAes 71 = .ok (.if_icmp .ge 40, 3) := by decide +kernel
theorem d_M_tagAes_74 : decode b_M_tagAes 74 = .ok (.aload_n 0, 1) := by decide +kernel
theorem d_M_tagAes_75 : decode b_M_tagAes 75 = .ok (.aload_n 0, 1) := by decide +kernel
theorem d_M_tagAes_76 : decode b_M_tagAes 76 = .ok (.getfield 17, 3) := by decide +kernel
theorem d_M_tagAes_79 : decode b_M_tagAes 79 = .ok (.iload_n 3, 1) := by decide +kernel
theorem d_M_tagAes_80 : decode b_M_tagAes 80 = .ok (.aload_n 0, 1) := by decide +kernel
theorem d_M_tagAes_81 : decode b_M_tagAes 81 = .ok (.getfield 107, 3) := by decide +kernel
theorem d_M_tagAes_84 : decode b_M_tagAes 84 = .ok (.invokestatic 103, 3) := by decide +kernel
theorem d_M_tagAes_87 : decode b_M_tagAes 87 = .ok (.aload_n 0, 1) := by decide +kernel
theorem d_M_tagAes_88 : decode b_M_tagAes 88 = .ok (.getfield 17, 3) := by decide +kernel
theorem d_M_tagAes_91 : decode b_M_tagAes 91 = .ok (.iload_n 3, 1) := by decide +kernel
theorem d_M_tagAes_92 : decode b_M_tagAes 92 = .ok (.bipush 8, 2) := by decide +kernel
theorem d_M_tagAes_94 : decode b_M_tagAes 94 = .ok (.iadd, 1) := by decide +kernel
theorem d_M_tagAes_95 : decode b_M_tagAes 95 = .ok (.aload_n 0, 1) := by decide +kernel
theorem d_M_tagAes_96 : decode b_M_tagAes 96 = .ok (.getfield 107, 3) := by decide +kernel
theorem d_M_tagAes_99 : decode b_M_tagAes 99 = .ok (.invokestatic 103, 3) := by decide +kernel
theorem d_M_tagAes_102 : decode b_M_tagAes 102 = .ok (.invokevirtual 110, 3) := by decide +kernel
theorem d_M_tagAes_105 : decode b_M_tagAes 105 = .ok (.iinc 3 16, 3) := by decide +kernel
theorem d_M_tagAes_108 : decode b_M_tagAes 108 = .ok (.goto (-42), 3) := by decide +kernel
theorem d_M_tagAes_111 : decode b_M_tagAes 111 = .ok (.iconst 0, 1) := by decide +kernel
theorem d_M_tagAes_112 : decode b_M_tagAes 112 = .ok (.istore_n 3, 1) := by decide +kernel
theorem d_M_tagAes_113 : decode b_M_tagAes 113 = .ok (.iload_n 3, 1) := by decide +kernel
theorem d_M_tagAes_114 : decode b_M_tagAes 114 = .ok (.iload_n 2, 1) := by decide +kernel
theorem d_M_tagAes_115 : decode b_M_tagAes 115 = .ok (.if_icmp .ge 28, 3) := by decide +kernel
theorem d_M_tagAes_118 : decode b_M_tagAes 118 = .ok (.aload_n 0, 1) := by decide +kernel
theorem d_M_tagAes_119 : decode b_M_tagAes 119 = .ok (.aload_n 1, 1) := by decide +kernel
theorem d_M_tagAes_120 : decode b_M_tagAes 120 = .ok (.iload_n 3, 1) := by decide +kernel
theorem d_M_tagAes_121 : decode b_M_tagAes 121 = .ok (.iload_n 2, 1) := by decide +kernel
theorem d_M_tagAes_122 : decode b_M_tagAes 122 = .ok (.invokestatic 103, 3) := by decide +kernel
theorem d_M_tagAes_125 : decode b_M_tagAes 125 = .ok (.aload_n 1, 1) := by decide +kernel
theorem d_M_tagAes_126 : decode b_M_tagAes 126 = .ok (.iload_n 3, 1) := by decide +kernel
theorem d_M_tagAes_127 : decode b_M_tagAes 127 = .ok (.bipush 8, 2) := by decide +kernel
theorem d_M_tagAes_129 : decode b_M_tagAes 129 = .ok (.iadd, 1) := by decide +kernel
theorem d_M_tagAes_130 : decode b_M_tagAes 130 = .ok (.iload_n 2, 1) := by decide +kernel
theorem d_M_tagAes_131 : decode b_M_tagAes 131 = .ok (.invokestatic 103, 3) := by decide +kernel
theorem d_M_tagAes_134 : decode b_M_tagAes 134 = .ok (.invokevirtual 110, 3) := by decide +kernel
theorem d_M_tagAes_137 : decode b_M_tagAes 137 = .ok (.iinc 3 16, 3) := by decide +kernel
theorem d_M_tagAes_140 : decode b_M_tagAes 140 = .ok (.goto (-27), 3) := by decide +kernel
theorem d_M_tagAes_143 : decode b_M_tagAes 143 = .ok (.aload_n 0, 1) := by decide +kernel
theorem d_M_tagAes_144 : decode b_M_tagAes 144 = .ok (.ldc2_w 114, 3) := by decide +kernel
theorem d_M_tagAes_147 : decode b_M_tagAes 147 = .ok (.aload_n 0, 1) := by decide +kernel
theorem d_M_tagAes_148 : decode b_M_tagAes 148 = .ok (.getfield 107, 3) := by decide +kernel
theorem d_M_tagAes_151 : decode b_M_tagAes 151 = .ok (.i2l, 1) := by decide +kernel
theorem d_M_tagAes_152 : decode b_M_tagAes 152 = .ok (.lmul, 1) := by decide +kernel
theorem d_M_tagAes_153 : decode b_M_tagAes 153 = .ok (.ldc2_w 114, 3) := by decide +kernel
theorem d_M_tagAes_156 : decode b_M_tagAes 156 = .ok (.iload_n 2, 1) := by decide +kernel
theorem d_M_tagAes_157 : decode b_M_tagAes 157 = .ok (.i2l, 1) := by decide +kernel
theorem d_M_tagAes_158 : decode b_M_tagAes 158 = .ok (.lmul, 1) := by decide +kernel
theorem d_M_tagAes_159 : decode b_M_tagAes 159 = .ok (.invokevirtual 110, 3) := by decide +kernel
theorem d_M_tagAes_162 : decode b_M_tagAes 162 = .ok (.aload_n 0, 1) := by decide +kernel
theorem d_M_tagAes_163 : decode b_M_tagAes 163 = .ok (.iconst 1, 1) := by decide +kernel
theorem d_M_tagAes_164 : decode b_M_tagAes 164 = .ok (.invokevirtual 116, 3) := by decide +kernel
theorem d_M_tagAes_167 : decode b_M_tagAes 167 = .ok (.iconst 0, 1) := by decide +kernel
theorem d_M_tagAes_168 : decode b_M_tagAes 168 = .ok (.istore_n 3, 1) := by decide +kernel
theorem d_M_tagAes_169 : decode b_M_tagAes 169 = .ok (.iload_n 3, 1) := by decide +kernel
theorem d_M_tagAes_170 : decode b_M_tagAes 170 = .ok (.bipush 16, 2) := by decide +kernel
theorem d_M_tagAes_172 : decode b_M_tagAes 172 = .ok (.if_icmp .ge 60, 3) := by decide +kernel
theorem d_M_tagAes_175 : decode b_M_tagAes 175 = .ok (.aload_n 0, 1) := by decide +kernel
theorem d_M_tagAes_176 : decode b_M_tagAes 176 = .ok (.getfield 69, 3) := by decide +kernel
theorem d_M_tagAes_179 : decode b_M_tagAes 179 = .ok (.iload_n 3, 1) := by decide +kernel
theorem d_M_tagAes_180 : decode b_M_tagAes 180 = .ok (.aload_n 0, 1) := by decide +kernel
theorem d_M_tagAes_181 : decode b_M_tagAes 181 = .ok (.getfield 39, 3) := by decide +kernel
theorem d_M_tagAes_184 : decode b_M_tagAes 184 = .ok (.iload_n 3, 1) := by decide +kernel
theorem d_M_tagAes_185 : decode b_M_tagAes 185 = .ok (.iaload, 1) := by decide +kernel
theorem d_M_tagAes_186 : decode b_M_tagAes 186 = .ok (.iload_n 3, 1) := by decide +kernel
theorem d_M_tagAes_187 : decode b_M_tagAes 187 = .ok (.bipush 8, 2) := by decide +kernel
theorem d_M_tagAes_189 : decode b_M_tagAes 189 = .ok (.if_icmp .ge 18, 3) := by decide +kernel
theorem d_M_tagAes_192 : decode b_M_tagAes 192 = .ok (.aload_n 0, 1) := by decide +kernel
theorem d_M_tagAes_193 : decode b_M_tagAes 193 = .ok (.getfield 88, 3) := by decide +kernel
theorem d_M_tagAes_196 : decode b_M_tagAes 196 = .ok (.bipush 56, 2) := by decide +kernel
theorem d_M_tagAes_198 : decode b_M_tagAes 198 = .ok (.bipush 8, 2) := by decide +kernel
theorem d_M_tagAes_200 : decode b_M_tagAes 200 = .ok (.iload_n 3, 1) := by decide +kernel
theorem d_M_tagAes_201 : decode b_M_tagAes 201 = .ok (.imul, 1) := by decide +kernel
theorem d_M_tagAes_202 : decode b_M_tagAes 202 = .ok (.isub, 1) := by decide +kernel
theorem d_M_tagAes_203 : decode b_M_tagAes 203 = .ok (.lushr, 1) := by decide +kernel
theorem d_M_tagAes_204 : decode b_M_tagAes 204 = .ok (.goto 15, 3) := by decide +kernel
theorem d_M_tagAes_207 : decode b_M_tagAes 207 = .ok (.aload_n 0, 1) := by decide +kernel
theorem d_M_tagAes_208 : decode b_M_tagAes 208 = .ok (.getfield 92, 3) := by decide +kernel
theorem d_M_tagAes_211 : decode b_M_tagAes 211 = .ok (.bipush 120, 2) := by decide +kernel
theorem d_M_tagAes_213 : decode b_M_tagAes 213 = .ok (.bipush 8, 2) := by decide +kernel
theorem d_M_tagAes_215 : decode b_M_tagAes 215 = .ok (.iload_n 3, 1) := by decide +kernel
theorem d_M_tagAes_216 : decode b_M_tagAes 216 = .ok (.imul, 1) := by decide +kernel
theorem d_M_tagAes_217 : decode b_M_tagAes 217 = .ok (.isub, 1) := by decide +kernel
theorem d_M_tagAes_218 : decode b_M_tagAes 218 = .ok (.lushr, 1) := by decide +kernel
theorem d_M_tagAes_219 : decode b_M_tagAes 219 = .ok (.ldc2_w 120, 3) := by decide +kernel
theorem d_M_tagAes_222 : decode b_M_tagAes 222 = .ok (.land, 1) := by decide +kernel
theorem d_M_tagAes_223 : decode b_M_tagAes 223 = .ok (.l2i, 1) := by decide +kernel
theorem d_M_tagAes_224 : decode b_M_tagAes 224 = .ok (.ixor, 1) := by decide +kernel
theorem d_M_tagAes_225 : decode b_M_tagAes 225 = .ok (.iastore, 1) := by decide +kernel
theorem d_M_tagAes_226 : decode b_M_tagAes 226 = .ok (.iinc 3 1, 3) := by decide +kernel
theorem d_M_tagAes_229 : decode b_M_tagAes 229 = .ok (.goto (-60), 3) := by decide +kernel
theorem d_M_tagAes_232 : decode b_M_tagAes 232 = .ok (.return_, 1) := by decide +kernel

def rm_M_tagAes : Room := { frames := 3, cells := 0, slots := 0, locals := 71 }
set_option maxHeartbeats 4000000 in
set_option maxRecDepth 100000 in
theorem c_M_tagAes (l : Launch) (D : va_G) (cI cL cB : ClassId) (tS tF : Nat) (mo : Nat) (a1 : Nat) (a2 : Nat) (a3 : Nat) (a4 : Nat) (a5 : Nat) (a6 : Nat) (a7 : Nat) (a8 : Nat) (a9 : Nat) (a10 : Nat) (a11 : Nat) (a12 : Nat) (a13 : Nat) (a14 : Nat) (a15 : Nat) (a16 : Nat) (a17 : Nat) (a18 : Nat) (a19 : Nat) (a20 : Nat) (thr : Int32) (ci : Int32) (bk : Int32) (se : Int32) (op : Int32) (fa : Int32) (lt : Nat) (lb : Nat) (lz : Nat) (rn : Nat) (nu : Int64) (kh : Int64) (kl : Int64) (sh : Int64) (sl : Int64) (gS : Nat → Nat) (gr : Nat → Nat) (gs : Nat → Nat) (gm : Nat → Nat) (gn : Nat → Nat) (gz : Nat → Nat) (gg : Nat → Nat) (tx : Nat) (gt : Nat → Nat) (nn : Nat) (sz : Nat) (hgS : By gS) (hgr : By gr) (hgs : By gs) (hgm : By gm) (hgn : By gn) (hrn : rn ≤ 14) (hlz : lz ≤ 20000) (hnn : nn ≤ 20000) : Met l y_M_tagAes (sbw y_M_tagAes b_M_tagAes 4 none) rm_M_tagAes (sbPc D cI cL cB tS tF [.ref mo, .ref tx, .int (nI nn)] sz [(mo, .inr (7, mFs thr a1 a2 a3 (nI lt) (nI lb) (nI lz) ci a4 a5 a6 nu bk se op fa a7 a8 a9 a10 a11 (nI rn) kh kl sh sl a12 a13 a14 a15 a16 a17 a18 a19 a20)), (a7, .inl (cI, 256, .inl (nF gS))), (a8, .inl (cI, 240, .inl (nF gr))), (a9, .inl (cI, 16, .inl (nF gs))), (a10, .inl (cI, 16, .inl (nF gm))), (a6, .inl (cI, 12, .inl (nF gn))), (a3, .inl (cI, 98816, .inl (nF gz))), (a19, .inl (cI, 16, .inl (nF gg))), (tx, .inl (cI, 98816, .inl (nF gt)))]) (sbQv D (fun (_ : Unit) => True) (fun (_ : Unit) => [(mo, .inr (7, mFs thr a1 a2 a3 (nI lt) (nI lb) (nI lz) ci a4 a5 a6 nu bk se op fa a7 a8 a9 a10 a11 (nI rn) (m8 (agK gS gr rn gs gm).1 0 16) (m8 (agK gS gr rn gs gm).1 8 16) ((agR (m8 (agK gS gr rn gs gm).1 0 16) (m8 (agK gS gr rn gs gm).1 8 16) gz lz gt nn).1) ((agR (m8 (agK gS gr rn gs gm).1 0 16) (m8 (agK gS gr rn gs gm).1 8 16) gz lz gt nn).2) a12 a13 a14 a15 a16 a17 a18 a19 a20)), (a7, .inl (cI, 256, .inl (nF gS))), (a8, .inl (cI, 240, .inl (nF gr))), (a9, .inl (cI, 16, .inl (nF ((agT gS gr rn gn (agK gS gr rn gs gm)).1)))), (a10, .inl (cI, 16, .inl (nF ((agT gS gr rn gn (agK gS gr rn gs gm)).2)))), (a6, .inl (cI, 12, .inl (nF gn))), (a3, .inl (cI, 98816, .inl (nF gz))), (a19, .inl (cI, 16, .inl (nF (iter (tgA (agT gS gr rn gn (agK gS gr rn gs gm)).1 (agR (m8 (agK gS gr rn gs gm).1 0 16) (m8 (agK gS gr rn gs gm).1 8 16) gz lz gt nn).1 (agR (m8 (agK gS gr rn gs gm).1 0 16) (m8 (agK gS gr rn gs gm).1 8 16) gz lz gt nn).2) 16 gg)))), (tx, .inl (cI, 98816, .inl (nF gt)))]) (va_A [(mo, .inr (7, mFs thr a1 a2 a3 (nI lt) (nI lb) (nI lz) ci a4 a5 a6 nu bk se op fa a7 a8 a9 a10 a11 (nI rn) kh kl sh sl a12 a13 a14 a15 a16 a17 a18 a19 a20)), (a7, .inl (cI, 256, .inl (nF gS))), (a8, .inl (cI, 240, .inl (nF gr))), (a9, .inl (cI, 16, .inl (nF gs))), (a10, .inl (cI, 16, .inl (nF gm))), (a6, .inl (cI, 12, .inl (nF gn))), (a3, .inl (cI, 98816, .inl (nF gz))), (a19, .inl (cI, 16, .inl (nF gg))), (tx, .inl (cI, 98816, .inl (nF gt)))] sz)) 0 0 (va_A [(mo, .inr (7, mFs thr a1 a2 a3 (nI lt) (nI lb) (nI lz) ci a4 a5 a6 nu bk se op fa a7 a8 a9 a10 a11 (nI rn) kh kl sh sl a12 a13 a14 a15 a16 a17 a18 a19 a20)), (a7, .inl (cI, 256, .inl (nF gS))), (a8, .inl (cI, 240, .inl (nF gr))), (a9, .inl (cI, 16, .inl (nF gs))), (a10, .inl (cI, 16, .inl (nF gm))), (a6, .inl (cI, 12, .inl (nF gn))), (a3, .inl (cI, 98816, .inl (nF gz))), (a19, .inl (cI, 16, .inl (nF gg))), (tx, .inl (cI, 98816, .inl (nF gt)))] sz) := by
  refine sb_ofW (y := y_M_tagAes) (maxL := 4) (av := [.ref mo, .ref tx, .int (nI nn)]) (Qc := fun A => (sbQv D (fun (_ : Unit) => True) (fun (_ : Unit) => [(mo, .inr (7, mFs thr a1 a2 a3 (nI lt) (nI lb) (nI lz) ci a4 a5 a6 nu bk se op fa a7 a8 a9 a10 a11 (nI rn) (m8 (agK gS gr rn gs gm).1 0 16) (m8 (agK gS gr rn gs gm).1 8 16) ((agR (m8 (agK gS gr rn gs gm).1 0 16) (m8 (agK gS gr rn gs gm).1 8 16) gz lz gt nn).1) ((agR (m8 (agK gS gr rn gs gm).1 0 16) (m8 (agK gS gr rn gs gm).1 8 16) gz lz gt nn).2) a12 a13 a14 a15 a16 a17 a18 a19 a20)), (a7, .inl (cI, 256, .inl (nF gS))), (a8, .inl (cI, 240, .inl (nF gr))), (a9, .inl (cI, 16, .inl (nF ((agT gS gr rn gn (agK gS gr rn gs gm)).1)))), (a10, .inl (cI, 16, .inl (nF ((agT gS gr rn gn (agK gS gr rn gs gm)).2)))), (a6, .inl (cI, 12, .inl (nF gn))), (a3, .inl (cI, 98816, .inl (nF gz))), (a19, .inl (cI, 16, .inl (nF (iter (tgA (agT gS gr rn gn (agK gS gr rn gs gm)).1 (agR (m8 (agK gS gr rn gs gm).1 0 16) (m8 (agK gS gr rn gs gm).1 8 16) gz lz gt nn).1 (agR (m8 (agK gS gr rn gs gm).1 0 16) (m8 (agK gS gr rn gs gm).1 8 16) gz lz gt nn).2) 16 gg)))), (tx, .inl (cI, 98816, .inl (nF gt)))]) A)) (by decide) (Nat.le_of_ble_eq_true rfl) ?_
  intro p e s m args below meth c A ls hx hb hr hml hts hown hlocks hin hsz hP hG hD hA hS hl
  have hl : lv_has ls 4 [(0, .ref mo), (1, .ref tx), (2, .int (nI nn))] := hl
  refine lv_iconst (v := 0) hx hb d_M_tagAes_0 (by decide) ?_
  refine lv_istore_n (lv' := [(3, .int 0), (0, .ref mo), (1, .ref tx), (2, .int (nI nn))]) hx hb d_M_tagAes_1 rfl hl (by decide) rfl (fun ls hl => ?_)
  have lp1 : ∀ (d1 i : Nat), i + d1 = 16 → ∀ (H : Heap) (locs : List Loc) (ls : Array Slot), va_P D vwCl [(mo, .inr (7, mFs thr a1 a2 a3 (nI lt) (nI lb) (nI lz) ci a4 a5 a6 nu bk se op fa a7 a8 a9 a10 a11 (nI rn) kh kl sh sl a12 a13 a14 a15 a16 a17 a18 a19 a20)), (a7, .inl (cI, 256, .inl (nF gS))), (a8, .inl (cI, 240, .inl (nF gr))), (a9, .inl (cI, 16, .inl (nF (iter nZero i gs)))), (a10, .inl (cI, 16, .inl (nF gm))), (a6, .inl (cI, 12, .inl (nF gn))), (a3, .inl (cI, 98816, .inl (nF gz))), (a19, .inl (cI, 16, .inl (nF gg))), (tx, .inl (cI, 98816, .inl (nF gt)))] H → va_D A [(mo, .inr (7, mFs thr a1 a2 a3 (nI lt) (nI lb) (nI lz) ci a4 a5 a6 nu bk se op fa a7 a8 a9 a10 a11 (nI rn) kh kl sh sl a12 a13 a14 a15 a16 a17 a18 a19 a20)), (a7, .inl (cI, 256, .inl (nF gS))), (a8, .inl (cI, 240, .inl (nF gr))), (a9, .inl (cI, 16, .inl (nF (iter nZero i gs)))), (a10, .inl (cI, 16, .inl (nF gm))), (a6, .inl (cI, 12, .inl (nF gn))), (a3, .inl (cI, 98816, .inl (nF gz))), (a19, .inl (cI, 16, .inl (nF gg))), (tx, .inl (cI, 98816, .inl (nF gt)))] → va_S A s.heap H locs → lv_has ls 4 [(3, .int (nI i)), (0, .ref mo), (1, .ref tx), (2, .int (nI nn))] → W p l e rm_M_tagAes s m args below meth c H locs 0 0 (MQ below (sbQv D (fun (_ : Unit) => True) (fun (_ : Unit) => [(mo, .inr (7, mFs thr a1 a2 a3 (nI lt) (nI lb) (nI lz) ci a4 a5 a6 nu bk se op fa a7 a8 a9 a10 a11 (nI rn) (m8 (agK gS gr rn gs gm).1 0 16) (m8 (agK gS gr rn gs gm).1 8 16) ((agR (m8 (agK gS gr rn gs gm).1 0 16) (m8 (agK gS gr rn gs gm).1 8 16) gz lz gt nn).1) ((agR (m8 (agK gS gr rn gs gm).1 0 16) (m8 (agK gS gr rn gs gm).1 8 16) gz lz gt nn).2) a12 a13 a14 a15 a16 a17 a18 a19 a20)), (a7, .inl (cI, 256, .inl (nF gS))), (a8, .inl (cI, 240, .inl (nF gr))), (a9, .inl (cI, 16, .inl (nF ((agT gS gr rn gn (agK gS gr rn gs gm)).1)))), (a10, .inl (cI, 16, .inl (nF ((agT gS gr rn gn (agK gS gr rn gs gm)).2)))), (a6, .inl (cI, 12, .inl (nF gn))), (a3, .inl (cI, 98816, .inl (nF gz))), (a19, .inl (cI, 16, .inl (nF (iter (tgA (agT gS gr rn gn (agK gS gr rn gs gm)).1 (agR (m8 (agK gS gr rn gs gm).1 0 16) (m8 (agK gS gr rn gs gm).1 8 16) gz lz gt nn).1 (agR (m8 (agK gS gr rn gs gm).1 0 16) (m8 (agK gS gr rn gs gm).1 8 16) gz lz gt nn).2) 16 gg)))), (tx, .inl (cI, 98816, .inl (nF gt)))]) A) args s 0 0 A) (F0 m 2 ls []) := by
    intro d1
    induction d1 with
    | zero =>
      intro i hi1 H locs ls hP hD hS hl
      obtain rfl : 16 = i := by omega
      refine lv_iload_n hx hb d_M_tagAes_2 rfl (lv_at hl 0 rfl) ?_
      refine lv_bipush (v := 16) hx hb d_M_tagAes_3 (by decide) ?_
      refine lv_icmp_ge (tgt := 21) hx hb d_M_tagAes_5 (by decide) (fun c_1 => ?_) (fun c_1 => absurd (sb_geT (a := 16) (b := 16) rfl rfl (by omega) (by omega) (by omega)) c_1)
      refine lv_aload_n hx hb d_M_tagAes_21 rfl (lv_at hl 1 rfl) ?_
      refine sb_callv (wr := [(a6, .inl (cI, 12, .inl (nF gn))), (a3, .inl (cI, 98816, .inl (nF gz))), (a19, .inl (cI, 16, .inl (nF gg))), (tx, .inl (cI, 98816, .inl (nF gt)))]) (va_runV (As := []) (rest := []) ⟨hx, hb, hml, hown, hts⟩ (c_M_turn l D cI cL cB tS tF mo a1 a2 a3 a4 a5 a6 a7 a8 a9 a10 a11 a12 a13 a14 a15 a16 a17 a18 a19 a20 thr ci bk se op fa lt lb lz rn nu kh kl sh sl gS gr (iter nZero 16 gs) gm _ hgS hgr (nZero_B 16 _ hgs) hgm hrn) (cwV 0 hts (sb_gV k_875 k_877 k_14 k_30 k_878) rfl rfl rfl (by decide +kernel) ⟨Nat.le_of_ble_eq_true rfl, Nat.le_of_ble_eq_true rfl⟩) (sb_pV hG hP hD hS hA [0, 1, 2, 3, 4] (by decide) rfl (ci := 7) (q0 := 0) rfl rfl) rfl rfl hl.1 rfl (lv_room (Nat.le_of_ble_eq_true rfl)) d_M_tagAes_22 ⟨Nat.le_of_ble_eq_true rfl, Nat.le_of_ble_eq_true rfl⟩) hP hD hS hA [0, 1, 2, 3, 4] [5, 6, 7, 8] rfl rfl (by decide) (by decide) (fun u H locs hw_2 hP hD hS => ?_)
      have hP : va_P D vwCl [(a6, .inl (cI, 12, .inl (nF gn))), (a3, .inl (cI, 98816, .inl (nF gz))), (a19, .inl (cI, 16, .inl (nF gg))), (tx, .inl (cI, 98816, .inl (nF gt))), (mo, .inr (7, mFs thr a1 a2 a3 (nI lt) (nI lb) (nI lz) ci a4 a5 a6 nu bk se op fa a7 a8 a9 a10 a11 (nI rn) kh kl sh sl a12 a13 a14 a15 a16 a17 a18 a19 a20)), (a7, .inl (cI, 256, .inl (nF gS))), (a8, .inl (cI, 240, .inl (nF gr))), (a9, .inl (cI, 16, .inl (nF ((turnN gS gr rn (iter nZero 16 gs) gm rn).1)))), (a10, .inl (cI, 16, .inl (nF ((turnN gS gr rn (iter nZero 16 gs) gm rn).2))))] H := hP
      have hD : va_D A [(a6, .inl (cI, 12, .inl (nF gn))), (a3, .inl (cI, 98816, .inl (nF gz))), (a19, .inl (cI, 16, .inl (nF gg))), (tx, .inl (cI, 98816, .inl (nF gt))), (mo, .inr (7, mFs thr a1 a2 a3 (nI lt) (nI lb) (nI lz) ci a4 a5 a6 nu bk se op fa a7 a8 a9 a10 a11 (nI rn) kh kl sh sl a12 a13 a14 a15 a16 a17 a18 a19 a20)), (a7, .inl (cI, 256, .inl (nF gS))), (a8, .inl (cI, 240, .inl (nF gr))), (a9, .inl (cI, 16, .inl (nF ((turnN gS gr rn (iter nZero 16 gs) gm rn).1)))), (a10, .inl (cI, 16, .inl (nF ((turnN gS gr rn (iter nZero 16 gs) gm rn).2))))] := hD
      obtain ⟨tk, htk⟩ : ∃ x : N2, x = turnN gS gr rn (iter nZero 16 gs) gm rn := ⟨_, rfl⟩
      rw [← htk] at hP hD
      have htk : tk = agK gS gr rn gs gm := htk
      have hP : va_P D vwCl [(a6, .inl (cI, 12, .inl (nF gn))), (a3, .inl (cI, 98816, .inl (nF gz))), (a19, .inl (cI, 16, .inl (nF gg))), (tx, .inl (cI, 98816, .inl (nF gt))), (mo, .inr (7, mFs thr a1 a2 a3 (nI lt) (nI lb) (nI lz) ci a4 a5 a6 nu bk se op fa a7 a8 a9 a10 a11 (nI rn) kh kl sh sl a12 a13 a14 a15 a16 a17 a18 a19 a20)), (a7, .inl (cI, 256, .inl (nF gS))), (a8, .inl (cI, 240, .inl (nF gr))), (a9, .inl (cI, 16, .inl (nF tk.1))), (a10, .inl (cI, 16, .inl (nF tk.2)))] H := hP
      have hD : va_D A [(a6, .inl (cI, 12, .inl (nF gn))), (a3, .inl (cI, 98816, .inl (nF gz))), (a19, .inl (cI, 16, .inl (nF gg))), (tx, .inl (cI, 98816, .inl (nF gt))), (mo, .inr (7, mFs thr a1 a2 a3 (nI lt) (nI lb) (nI lz) ci a4 a5 a6 nu bk se op fa a7 a8 a9 a10 a11 (nI rn) kh kl sh sl a12 a13 a14 a15 a16 a17 a18 a19 a20)), (a7, .inl (cI, 256, .inl (nF gS))), (a8, .inl (cI, 240, .inl (nF gr))), (a9, .inl (cI, 16, .inl (nF tk.1))), (a10, .inl (cI, 16, .inl (nF tk.2)))] := hD
      have btk : By tk.1 ∧ By tk.2 := by rw [htk]; unfold agK; exact turnN_B hgS hgr (nZero_B 16 _ hgs) hgm rn rn
      refine lv_aload_n hx hb d_M_tagAes_25 rfl (lv_at hl 1 rfl) ?_
      refine lv_aload_n hx hb d_M_tagAes_26 rfl (lv_at hl 1 rfl) ?_
      refine va_get (D := D) (ci := 7) (v := .ref a9) (C := R_M) (T := F_M) (N := 35) hx hb hts in_M hown hG.1 hP 4 rfl rfl 18 (by decide) (hts _ k_715) (fun _ h9 => h9) rfl d_M_tagAes_27 ?_
      refine lv_iconst (v := 0) hx hb d_M_tagAes_30 (by decide) ?_
      refine lv_bipush (v := 16) hx hb d_M_tagAes_31 (by decide) ?_
      refine vp_callSl (va_runS (As := [.ref a9, .int 0, .int 16]) (rest := [.ref mo]) ⟨hx, hb, hml, hown, hts⟩ (c_M_eight l D cI cL cB tS tF a9 16 tk.1 0 16 (by omega) (by omega) (by omega)) (va_cwS 3 hts (sb_gS k_899 k_900 k_30 k_901) rfl rfl rfl (by decide +kernel) ⟨Nat.le_of_ble_eq_true rfl, Nat.le_of_ble_eq_true rfl⟩) (sb_rS hG hP hS [7] rfl) rfl rfl hl.1 rfl (lv_room (Nat.le_of_ble_eq_true rfl)) d_M_tagAes_33 ⟨Nat.le_of_ble_eq_true rfl, Nat.le_of_ble_eq_true rfl⟩).run (fun r_3 er_3 => ?_)
      subst er_3
      refine lv_topl (fun x_4 ex_4 => ?_)
      refine va_put (D := D) (ci := 7) (v := .long x_4) (ty := .long) (C := R_M) (T := F_M) (N := 35) hx hb hts in_M tq_M tq_M_ok nq_M hown hG.1 hP hD hS 4 rfl rfl 22 (by decide) (hts _ k_719) (fun _ h9 => h9) rfl (by decide +kernel) rfl rfl (Nat.le_of_ble_eq_true rfl) d_M_tagAes_36 (fun H locs hP hD hS => ?_)
      have hP : va_P D vwCl [(a6, .inl (cI, 12, .inl (nF gn))), (a3, .inl (cI, 98816, .inl (nF gz))), (a19, .inl (cI, 16, .inl (nF gg))), (tx, .inl (cI, 98816, .inl (nF gt))), (mo, .inr (7, mFs thr a1 a2 a3 (nI lt) (nI lb) (nI lz) ci a4 a5 a6 nu bk se op fa a7 a8 a9 a10 a11 (nI rn) x_4 kl sh sl a12 a13 a14 a15 a16 a17 a18 a19 a20)), (a7, .inl (cI, 256, .inl (nF gS))), (a8, .inl (cI, 240, .inl (nF gr))), (a9, .inl (cI, 16, .inl (nF tk.1))), (a10, .inl (cI, 16, .inl (nF tk.2)))] H := hP
      have hD : va_D A [(a6, .inl (cI, 12, .inl (nF gn))), (a3, .inl (cI, 98816, .inl (nF gz))), (a19, .inl (cI, 16, .inl (nF gg))), (tx, .inl (cI, 98816, .inl (nF gt))), (mo, .inr (7, mFs thr a1 a2 a3 (nI lt) (nI lb) (nI lz) ci a4 a5 a6 nu bk se op fa a7 a8 a9 a10 a11 (nI rn) x_4 kl sh sl a12 a13 a14 a15 a16 a17 a18 a19 a20)), (a7, .inl (cI, 256, .inl (nF gS))), (a8, .inl (cI, 240, .inl (nF gr))), (a9, .inl (cI, 16, .inl (nF tk.1))), (a10, .inl (cI, 16, .inl (nF tk.2)))] := hD
      refine lv_aload_n hx hb d_M_tagAes_39 rfl (lv_at hl 1 rfl) ?_
      refine lv_aload_n hx hb d_M_tagAes_40 rfl (lv_at hl 1 rfl) ?_
      refine va_get (D := D) (ci := 7) (v := .ref a9) (C := R_M) (T := F_M) (N := 35) hx hb hts in_M hown hG.1 hP 4 rfl rfl 18 (by decide) (hts _ k_715) (fun _ h9 => h9) rfl d_M_tagAes_41 ?_
      refine lv_bipush (v := 8) hx hb d_M_tagAes_44 (by decide) ?_
      refine lv_bipush (v := 16) hx hb d_M_tagAes_46 (by decide) ?_
      refine vp_callSl (va_runS (As := [.ref a9, .int 8, .int 16]) (rest := [.ref mo]) ⟨hx, hb, hml, hown, hts⟩ (c_M_eight l D cI cL cB tS tF a9 16 tk.1 8 16 (by omega) (by omega) (by omega)) (va_cwS 3 hts (sb_gS k_899 k_900 k_30 k_901) rfl rfl rfl (by decide +kernel) ⟨Nat.le_of_ble_eq_true rfl, Nat.le_of_ble_eq_true rfl⟩) (sb_rS hG hP hS [7] rfl) rfl rfl hl.1 rfl (lv_room (Nat.le_of_ble_eq_true rfl)) d_M_tagAes_48 ⟨Nat.le_of_ble_eq_true rfl, Nat.le_of_ble_eq_true rfl⟩).run (fun r_5 er_5 => ?_)
      subst er_5
      refine lv_topl (fun x_6 ex_6 => ?_)
      refine va_put (D := D) (ci := 7) (v := .long x_6) (ty := .long) (C := R_M) (T := F_M) (N := 35) hx hb hts in_M tq_M tq_M_ok nq_M hown hG.1 hP hD hS 4 rfl rfl 23 (by decide) (hts _ k_720) (fun _ h9 => h9) rfl (by decide +kernel) rfl rfl (Nat.le_of_ble_eq_true rfl) d_M_tagAes_51 (fun H locs hP hD hS => ?_)
      have hP : va_P D vwCl [(a6, .inl (cI, 12, .inl (nF gn))), (a3, .inl (cI, 98816, .inl (nF gz))), (a19, .inl (cI, 16, .inl (nF gg))), (tx, .inl (cI, 98816, .inl (nF gt))), (mo, .inr (7, mFs thr a1 a2 a3 (nI lt) (nI lb) (nI lz) ci a4 a5 a6 nu bk se op fa a7 a8 a9 a10 a11 (nI rn) x_4 x_6 sh sl a12 a13 a14 a15 a16 a17 a18 a19 a20)), (a7, .inl (cI, 256, .inl (nF gS))), (a8, .inl (cI, 240, .inl (nF gr))), (a9, .inl (cI, 16, .inl (nF tk.1))), (a10, .inl (cI, 16, .inl (nF tk.2)))] H := hP
      have hD : va_D A [(a6, .inl (cI, 12, .inl (nF gn))), (a3, .inl (cI, 98816, .inl (nF gz))), (a19, .inl (cI, 16, .inl (nF gg))), (tx, .inl (cI, 98816, .inl (nF gt))), (mo, .inr (7, mFs thr a1 a2 a3 (nI lt) (nI lb) (nI lz) ci a4 a5 a6 nu bk se op fa a7 a8 a9 a10 a11 (nI rn) x_4 x_6 sh sl a12 a13 a14 a15 a16 a17 a18 a19 a20)), (a7, .inl (cI, 256, .inl (nF gS))), (a8, .inl (cI, 240, .inl (nF gr))), (a9, .inl (cI, 16, .inl (nF tk.1))), (a10, .inl (cI, 16, .inl (nF tk.2)))] := hD
      refine lv_aload_n hx hb d_M_tagAes_54 rfl (lv_at hl 1 rfl) ?_
      refine lv_lconst (v := 0) hx hb d_M_tagAes_55 (by decide) ?_
      refine va_put (D := D) (ci := 7) (v := .long 0) (ty := .long) (C := R_M) (T := F_M) (N := 35) hx hb hts in_M tq_M tq_M_ok nq_M hown hG.1 hP hD hS 4 rfl rfl 24 (by decide) (hts _ k_721) (fun _ h9 => h9) rfl (by decide +kernel) rfl rfl (Nat.le_of_ble_eq_true rfl) d_M_tagAes_56 (fun H locs hP hD hS => ?_)
      have hP : va_P D vwCl [(a6, .inl (cI, 12, .inl (nF gn))), (a3, .inl (cI, 98816, .inl (nF gz))), (a19, .inl (cI, 16, .inl (nF gg))), (tx, .inl (cI, 98816, .inl (nF gt))), (mo, .inr (7, mFs thr a1 a2 a3 (nI lt) (nI lb) (nI lz) ci a4 a5 a6 nu bk se op fa a7 a8 a9 a10 a11 (nI rn) x_4 x_6 0 sl a12 a13 a14 a15 a16 a17 a18 a19 a20)), (a7, .inl (cI, 256, .inl (nF gS))), (a8, .inl (cI, 240, .inl (nF gr))), (a9, .inl (cI, 16, .inl (nF tk.1))), (a10, .inl (cI, 16, .inl (nF tk.2)))] H := hP
      have hD : va_D A [(a6, .inl (cI, 12, .inl (nF gn))), (a3, .inl (cI, 98816, .inl (nF gz))), (a19, .inl (cI, 16, .inl (nF gg))), (tx, .inl (cI, 98816, .inl (nF gt))), (mo, .inr (7, mFs thr a1 a2 a3 (nI lt) (nI lb) (nI lz) ci a4 a5 a6 nu bk se op fa a7 a8 a9 a10 a11 (nI rn) x_4 x_6 0 sl a12 a13 a14 a15 a16 a17 a18 a19 a20)), (a7, .inl (cI, 256, .inl (nF gS))), (a8, .inl (cI, 240, .inl (nF gr))), (a9, .inl (cI, 16, .inl (nF tk.1))), (a10, .inl (cI, 16, .inl (nF tk.2)))] := hD
      refine lv_aload_n hx hb d_M_tagAes_59 rfl (lv_at hl 1 rfl) ?_
      refine lv_lconst (v := 0) hx hb d_M_tagAes_60 (by decide) ?_
      refine va_put (D := D) (ci := 7) (v := .long 0) (ty := .long) (C := R_M) (T := F_M) (N := 35) hx hb hts in_M tq_M tq_M_ok nq_M hown hG.1 hP hD hS 4 rfl rfl 25 (by decide) (hts _ k_722) (fun _ h9 => h9) rfl (by decide +kernel) rfl rfl (Nat.le_of_ble_eq_true rfl) d_M_tagAes_61 (fun H locs hP hD hS => ?_)
      have hP : va_P D vwCl [(a6, .inl (cI, 12, .inl (nF gn))), (a3, .inl (cI, 98816, .inl (nF gz))), (a19, .inl (cI, 16, .inl (nF gg))), (tx, .inl (cI, 98816, .inl (nF gt))), (mo, .inr (7, mFs thr a1 a2 a3 (nI lt) (nI lb) (nI lz) ci a4 a5 a6 nu bk se op fa a7 a8 a9 a10 a11 (nI rn) x_4 x_6 0 0 a12 a13 a14 a15 a16 a17 a18 a19 a20)), (a7, .inl (cI, 256, .inl (nF gS))), (a8, .inl (cI, 240, .inl (nF gr))), (a9, .inl (cI, 16, .inl (nF tk.1))), (a10, .inl (cI, 16, .inl (nF tk.2)))] H := hP
      have hD : va_D A [(a6, .inl (cI, 12, .inl (nF gn))), (a3, .inl (cI, 98816, .inl (nF gz))), (a19, .inl (cI, 16, .inl (nF gg))), (tx, .inl (cI, 98816, .inl (nF gt))), (mo, .inr (7, mFs thr a1 a2 a3 (nI lt) (nI lb) (nI lz) ci a4 a5 a6 nu bk se op fa a7 a8 a9 a10 a11 (nI rn) x_4 x_6 0 0 a12 a13 a14 a15 a16 a17 a18 a19 a20)), (a7, .inl (cI, 256, .inl (nF gS))), (a8, .inl (cI, 240, .inl (nF gr))), (a9, .inl (cI, 16, .inl (nF tk.1))), (a10, .inl (cI, 16, .inl (nF tk.2)))] := hD
      refine lv_iconst (v := 0) hx hb d_M_tagAes_64 (by decide) ?_
      refine lv_istore_n (lv' := [(3, .int 0), (0, .ref mo), (1, .ref tx), (2, .int (nI nn))]) hx hb d_M_tagAes_65 rfl hl (by decide) rfl (fun ls hl => ?_)
      have lp2 : ∀ (d2 i : Nat), i + d2 = (lz + 15) / 16 → ∀ (H : Heap) (locs : List Loc) (ls : Array Slot), va_P D vwCl [(a6, .inl (cI, 12, .inl (nF gn))), (a3, .inl (cI, 98816, .inl (nF gz))), (a19, .inl (cI, 16, .inl (nF gg))), (tx, .inl (cI, 98816, .inl (nF gt))), (mo, .inr (7, mFs thr a1 a2 a3 (nI lt) (nI lb) (nI lz) ci a4 a5 a6 nu bk se op fa a7 a8 a9 a10 a11 (nI rn) x_4 x_6 ((sRowx x_4 x_6 gz lz i (0, 0)).1) ((sRowx x_4 x_6 gz lz i (0, 0)).2) a12 a13 a14 a15 a16 a17 a18 a19 a20)), (a7, .inl (cI, 256, .inl (nF gS))), (a8, .inl (cI, 240, .inl (nF gr))), (a9, .inl (cI, 16, .inl (nF tk.1))), (a10, .inl (cI, 16, .inl (nF tk.2)))] H → va_D A [(a6, .inl (cI, 12, .inl (nF gn))), (a3, .inl (cI, 98816, .inl (nF gz))), (a19, .inl (cI, 16, .inl (nF gg))), (tx, .inl (cI, 98816, .inl (nF gt))), (mo, .inr (7, mFs thr a1 a2 a3 (nI lt) (nI lb) (nI lz) ci a4 a5 a6 nu bk se op fa a7 a8 a9 a10 a11 (nI rn) x_4 x_6 ((sRowx x_4 x_6 gz lz i (0, 0)).1) ((sRowx x_4 x_6 gz lz i (0, 0)).2) a12 a13 a14 a15 a16 a17 a18 a19 a20)), (a7, .inl (cI, 256, .inl (nF gS))), (a8, .inl (cI, 240, .inl (nF gr))), (a9, .inl (cI, 16, .inl (nF tk.1))), (a10, .inl (cI, 16, .inl (nF tk.2)))] → va_S A s.heap H locs → lv_has ls 4 [(3, .int (nI (16 * i))), (0, .ref mo), (1, .ref tx), (2, .int (nI nn))] → W p l e rm_M_tagAes s m args below meth c H locs 0 0 (MQ below (sbQv D (fun (_ : Unit) => True) (fun (_ : Unit) => [(mo, .inr (7, mFs thr a1 a2 a3 (nI lt) (nI lb) (nI lz) ci a4 a5 a6 nu bk se op fa a7 a8 a9 a10 a11 (nI rn) (m8 (agK gS gr rn gs gm).1 0 16) (m8 (agK gS gr rn gs gm).1 8 16) ((agR (m8 (agK gS gr rn gs gm).1 0 16) (m8 (agK gS gr rn gs gm).1 8 16) gz lz gt nn).1) ((agR (m8 (agK gS gr rn gs gm).1 0 16) (m8 (agK gS gr rn gs gm).1 8 16) gz lz gt nn).2) a12 a13 a14 a15 a16 a17 a18 a19 a20)), (a7, .inl (cI, 256, .inl (nF gS))), (a8, .inl (cI, 240, .inl (nF gr))), (a9, .inl (cI, 16, .inl (nF ((agT gS gr rn gn (agK gS gr rn gs gm)).1)))), (a10, .inl (cI, 16, .inl (nF ((agT gS gr rn gn (agK gS gr rn gs gm)).2)))), (a6, .inl (cI, 12, .inl (nF gn))), (a3, .inl (cI, 98816, .inl (nF gz))), (a19, .inl (cI, 16, .inl (nF (iter (tgA (agT gS gr rn gn (agK gS gr rn gs gm)).1 (agR (m8 (agK gS gr rn gs gm).1 0 16) (m8 (agK gS gr rn gs gm).1 8 16) gz lz gt nn).1 (agR (m8 (agK gS gr rn gs gm).1 0 16) (m8 (agK gS gr rn gs gm).1 8 16) gz lz gt nn).2) 16 gg)))), (tx, .inl (cI, 98816, .inl (nF gt)))]) A) args s 0 0 A) (F0 m 66 ls []) := by
        intro d2
        induction d2 with
        | zero =>
          intro i hi2 H locs ls hP hD hS hl
          obtain rfl : (lz + 15) / 16 = i := by omega
          refine lv_iload_n hx hb d_M_tagAes_66 rfl (lv_at hl 0 rfl) ?_
          refine lv_aload_n hx hb d_M_tagAes_67 rfl (lv_at hl 1 rfl) ?_
          refine va_get (D := D) (ci := 7) (v := .int (nI lz)) (C := R_M) (T := F_M) (N := 35) hx hb hts in_M hown hG.1 hP 4 rfl rfl 6 (by decide) (hts _ k_703) (fun _ h9 => h9) rfl d_M_tagAes_68 ?_
          refine lv_icmp_ge (tgt := 111) hx hb d_M_tagAes_71 (by decide) (fun c_7 => ?_) (fun c_7 => absurd (sb_geT (a := 16 * ((lz + 15) / 16)) (b := lz) rfl rfl (by omega) (by omega) (by omega)) c_7)
          obtain ⟨r1, hr1⟩ : ∃ x : Int64 × Int64, x = sRowx x_4 x_6 gz lz ((lz + 15) / 16) (0, 0) := ⟨_, rfl⟩
          rw [← hr1] at hP hD
          have hP : va_P D vwCl [(a6, .inl (cI, 12, .inl (nF gn))), (a3, .inl (cI, 98816, .inl (nF gz))), (a19, .inl (cI, 16, .inl (nF gg))), (tx, .inl (cI, 98816, .inl (nF gt))), (mo, .inr (7, mFs thr a1 a2 a3 (nI lt) (nI lb) (nI lz) ci a4 a5 a6 nu bk se op fa a7 a8 a9 a10 a11 (nI rn) x_4 x_6 r1.1 r1.2 a12 a13 a14 a15 a16 a17 a18 a19 a20)), (a7, .inl (cI, 256, .inl (nF gS))), (a8, .inl (cI, 240, .inl (nF gr))), (a9, .inl (cI, 16, .inl (nF tk.1))), (a10, .inl (cI, 16, .inl (nF tk.2)))] H := hP
          have hD : va_D A [(a6, .inl (cI, 12, .inl (nF gn))), (a3, .inl (cI, 98816, .inl (nF gz))), (a19, .inl (cI, 16, .inl (nF gg))), (tx, .inl (cI, 98816, .inl (nF gt))), (mo, .inr (7, mFs thr a1 a2 a3 (nI lt) (nI lb) (nI lz) ci a4 a5 a6 nu bk se op fa a7 a8 a9 a10 a11 (nI rn) x_4 x_6 r1.1 r1.2 a12 a13 a14 a15 a16 a17 a18 a19 a20)), (a7, .inl (cI, 256, .inl (nF gS))), (a8, .inl (cI, 240, .inl (nF gr))), (a9, .inl (cI, 16, .inl (nF tk.1))), (a10, .inl (cI, 16, .inl (nF tk.2)))] := hD
          refine lv_iconst (v := 0) hx hb d_M_tagAes_111 (by decide) ?_
          refine lv_istore_n (lv' := [(3, .int 0), (0, .ref mo), (1, .ref tx), (2, .int (nI nn))]) hx hb d_M_tagAes_112 rfl hl (by decide) rfl (fun ls hl => ?_)
          have lp3 : ∀ (d3 i : Nat), i + d3 = (nn + 15) / 16 → ∀ (H : Heap) (locs : List Loc) (ls : Array Slot), va_P D vwCl [(a6, .inl (cI, 12, .inl (nF gn))), (a3, .inl (cI, 98816, .inl (nF gz))), (a19, .inl (cI, 16, .inl (nF gg))), (tx, .inl (cI, 98816, .inl (nF gt))), (mo, .inr (7, mFs thr a1 a2 a3 (nI lt) (nI lb) (nI lz) ci a4 a5 a6 nu bk se op fa a7 a8 a9 a10 a11 (nI rn) x_4 x_6 ((sRowx x_4 x_6 gt nn i (r1.1, r1.2)).1) ((sRowx x_4 x_6 gt nn i (r1.1, r1.2)).2) a12 a13 a14 a15 a16 a17 a18 a19 a20)), (a7, .inl (cI, 256, .inl (nF gS))), (a8, .inl (cI, 240, .inl (nF gr))), (a9, .inl (cI, 16, .inl (nF tk.1))), (a10, .inl (cI, 16, .inl (nF tk.2)))] H → va_D A [(a6, .inl (cI, 12, .inl (nF gn))), (a3, .inl (cI, 98816, .inl (nF gz))), (a19, .inl (cI, 16, .inl (nF gg))), (tx, .inl (cI, 98816, .inl (nF gt))), (mo, .inr (7, mFs thr a1 a2 a3 (nI lt) (nI lb) (nI lz) ci a4 a5 a6 nu bk se op fa a7 a8 a9 a10 a11 (nI rn) x_4 x_6 ((sRowx x_4 x_6 gt nn i (r1.1, r1.2)).1) ((sRowx x_4 x_6 gt nn i (r1.1, r1.2)).2) a12 a13 a14 a15 a16 a17 a18 a19 a20)), (a7, .inl (cI, 256, .inl (nF gS))), (a8, .inl (cI, 240, .inl (nF gr))), (a9, .inl (cI, 16, .inl (nF tk.1))), (a10, .inl (cI, 16, .inl (nF tk.2)))] → va_S A s.heap H locs → lv_has ls 4 [(3, .int (nI (16 * i))), (0, .ref mo), (1, .ref tx), (2, .int (nI nn))] → W p l e rm_M_tagAes s m args below meth c H locs 0 0 (MQ below (sbQv D (fun (_ : Unit) => True) (fun (_ : Unit) => [(mo, .inr (7, mFs thr a1 a2 a3 (nI lt) (nI lb) (nI lz) ci a4 a5 a6 nu bk se op fa a7 a8 a9 a10 a11 (nI rn) (m8 (agK gS gr rn gs gm).1 0 16) (m8 (agK gS gr rn gs gm).1 8 16) ((agR (m8 (agK gS gr rn gs gm).1 0 16) (m8 (agK gS gr rn gs gm).1 8 16) gz lz gt nn).1) ((agR (m8 (agK gS gr rn gs gm).1 0 16) (m8 (agK gS gr rn gs gm).1 8 16) gz lz gt nn).2) a12 a13 a14 a15 a16 a17 a18 a19 a20)), (a7, .inl (cI, 256, .inl (nF gS))), (a8, .inl (cI, 240, .inl (nF gr))), (a9, .inl (cI, 16, .inl (nF ((agT gS gr rn gn (agK gS gr rn gs gm)).1)))), (a10, .inl (cI, 16, .inl (nF ((agT gS gr rn gn (agK gS gr rn gs gm)).2)))), (a6, .inl (cI, 12, .inl (nF gn))), (a3, .inl (cI, 98816, .inl (nF gz))), (a19, .inl (cI, 16, .inl (nF (iter (tgA (agT gS gr rn gn (agK gS gr rn gs gm)).1 (agR (m8 (agK gS gr rn gs gm).1 0 16) (m8 (agK gS gr rn gs gm).1 8 16) gz lz gt nn).1 (agR (m8 (agK gS gr rn gs gm).1 0 16) (m8 (agK gS gr rn gs gm).1 8 16) gz lz gt nn).2) 16 gg)))), (tx, .inl (cI, 98816, .inl (nF gt)))]) A) args s 0 0 A) (F0 m 113 ls []) := by
            intro d3
            induction d3 with
            | zero =>
              intro i hi3 H locs ls hP hD hS hl
              obtain rfl : (nn + 15) / 16 = i := by omega
              refine lv_iload_n hx hb d_M_tagAes_113 rfl (lv_at hl 0 rfl) ?_
              refine lv_iload_n hx hb d_M_tagAes_114 rfl (lv_at hl 3 rfl) ?_
              refine lv_icmp_ge (tgt := 143) hx hb d_M_tagAes_115 (by decide) (fun c_8 => ?_) (fun c_8 => absurd (sb_geT (a := 16 * ((nn + 15) / 16)) (b := nn) rfl rfl (by omega) (by omega) (by omega)) c_8)
              obtain ⟨r2, hr2⟩ : ∃ x : Int64 × Int64, x = sRowx x_4 x_6 gt nn ((nn + 15) / 16) (r1.1, r1.2) := ⟨_, rfl⟩
              rw [← hr2] at hP hD
              have hP : va_P D vwCl [(a6, .inl (cI, 12, .inl (nF gn))), (a3, .inl (cI, 98816, .inl (nF gz))), (a19, .inl (cI, 16, .inl (nF gg))), (tx, .inl (cI, 98816, .inl (nF gt))), (mo, .inr (7, mFs thr a1 a2 a3 (nI lt) (nI lb) (nI lz) ci a4 a5 a6 nu bk se op fa a7 a8 a9 a10 a11 (nI rn) x_4 x_6 r2.1 r2.2 a12 a13 a14 a15 a16 a17 a18 a19 a20)), (a7, .inl (cI, 256, .inl (nF gS))), (a8, .inl (cI, 240, .inl (nF gr))), (a9, .inl (cI, 16, .inl (nF tk.1))), (a10, .inl (cI, 16, .inl (nF tk.2)))] H := hP
              have hD : va_D A [(a6, .inl (cI, 12, .inl (nF gn))), (a3, .inl (cI, 98816, .inl (nF gz))), (a19, .inl (cI, 16, .inl (nF gg))), (tx, .inl (cI, 98816, .inl (nF gt))), (mo, .inr (7, mFs thr a1 a2 a3 (nI lt) (nI lb) (nI lz) ci a4 a5 a6 nu bk se op fa a7 a8 a9 a10 a11 (nI rn) x_4 x_6 r2.1 r2.2 a12 a13 a14 a15 a16 a17 a18 a19 a20)), (a7, .inl (cI, 256, .inl (nF gS))), (a8, .inl (cI, 240, .inl (nF gr))), (a9, .inl (cI, 16, .inl (nF tk.1))), (a10, .inl (cI, 16, .inl (nF tk.2)))] := hD
              refine lv_aload_n hx hb d_M_tagAes_143 rfl (lv_at hl 1 rfl) ?_
              refine lv_ldc2 (v := 8) hx hb hown (hts (.constantLong R_M 114 8) (by decide +kernel)) d_M_tagAes_144 ?_
              refine lv_aload_n hx hb d_M_tagAes_147 rfl (lv_at hl 1 rfl) ?_
              refine va_get (D := D) (ci := 7) (v := .int (nI lz)) (C := R_M) (T := F_M) (N := 35) hx hb hts in_M hown hG.1 hP 4 rfl rfl 6 (by decide) (hts _ k_703) (fun _ h9 => h9) rfl d_M_tagAes_148 ?_
              refine lv_i2l (v := (nI lz).toInt64) hx hb d_M_tagAes_151 rfl ?_
              refine lv_lmul hx hb d_M_tagAes_152 ?_
              refine lv_ldc2 (v := 8) hx hb hown (hts (.constantLong R_M 114 8) (by decide +kernel)) d_M_tagAes_153 ?_
              refine lv_iload_n hx hb d_M_tagAes_156 rfl (lv_at hl 3 rfl) ?_
              refine lv_i2l (v := (nI nn).toInt64) hx hb d_M_tagAes_157 rfl ?_
              refine lv_lmul hx hb d_M_tagAes_158 ?_
              refine sb_callv (wr := [(a6, .inl (cI, 12, .inl (nF gn))), (a3, .inl (cI, 98816, .inl (nF gz))), (a19, .inl (cI, 16, .inl (nF gg))), (tx, .inl (cI, 98816, .inl (nF gt))), (a7, .inl (cI, 256, .inl (nF gS))), (a8, .inl (cI, 240, .inl (nF gr))), (a9, .inl (cI, 16, .inl (nF tk.1))), (a10, .inl (cI, 16, .inl (nF tk.2)))]) (va_runV (As := [.long (8 * ((nI lz).toInt64)), .long (8 * ((nI nn).toInt64))]) (rest := []) ⟨hx, hb, hml, hown, hts⟩ (c_M_summed l D cI cL cB tS tF mo a1 a2 a3 a4 a5 a6 a7 a8 a9 a10 a11 a12 a13 a14 a15 a16 a17 a18 a19 a20 thr ci bk se op fa lt lb lz rn nu x_4 x_6 r2.1 r2.2 (8 * ((nI lz).toInt64)) (8 * ((nI nn).toInt64)) _ ) (cwV 2 hts (sb_gV k_902 k_904 k_20 k_30 k_905) rfl rfl rfl (by decide +kernel) ⟨Nat.le_of_ble_eq_true rfl, Nat.le_of_ble_eq_true rfl⟩) (sb_pV hG hP hD hS hA [4] (by decide) rfl (ci := 7) (q0 := 4) rfl rfl) rfl rfl hl.1 rfl (lv_room (Nat.le_of_ble_eq_true rfl)) d_M_tagAes_159 ⟨Nat.le_of_ble_eq_true rfl, Nat.le_of_ble_eq_true rfl⟩) hP hD hS hA [4] [0, 1, 2, 3, 5, 6, 7, 8] rfl rfl (by decide) (by decide) (fun u H locs hw_9 hP hD hS => ?_)
              have hP : va_P D vwCl [(a6, .inl (cI, 12, .inl (nF gn))), (a3, .inl (cI, 98816, .inl (nF gz))), (a19, .inl (cI, 16, .inl (nF gg))), (tx, .inl (cI, 98816, .inl (nF gt))), (a7, .inl (cI, 256, .inl (nF gS))), (a8, .inl (cI, 240, .inl (nF gr))), (a9, .inl (cI, 16, .inl (nF tk.1))), (a10, .inl (cI, 16, .inl (nF tk.2))), (mo, .inr (7, mFs thr a1 a2 a3 (nI lt) (nI lb) (nI lz) ci a4 a5 a6 nu bk se op fa a7 a8 a9 a10 a11 (nI rn) x_4 x_6 ((smx x_4 x_6 (r2.1, r2.2) (8 * ((nI lz).toInt64)) (8 * ((nI nn).toInt64))).1) ((smx x_4 x_6 (r2.1, r2.2) (8 * ((nI lz).toInt64)) (8 * ((nI nn).toInt64))).2) a12 a13 a14 a15 a16 a17 a18 a19 a20))] H := hP
              have hD : va_D A [(a6, .inl (cI, 12, .inl (nF gn))), (a3, .inl (cI, 98816, .inl (nF gz))), (a19, .inl (cI, 16, .inl (nF gg))), (tx, .inl (cI, 98816, .inl (nF gt))), (a7, .inl (cI, 256, .inl (nF gS))), (a8, .inl (cI, 240, .inl (nF gr))), (a9, .inl (cI, 16, .inl (nF tk.1))), (a10, .inl (cI, 16, .inl (nF tk.2))), (mo, .inr (7, mFs thr a1 a2 a3 (nI lt) (nI lb) (nI lz) ci a4 a5 a6 nu bk se op fa a7 a8 a9 a10 a11 (nI rn) x_4 x_6 ((smx x_4 x_6 (r2.1, r2.2) (8 * ((nI lz).toInt64)) (8 * ((nI nn).toInt64))).1) ((smx x_4 x_6 (r2.1, r2.2) (8 * ((nI lz).toInt64)) (8 * ((nI nn).toInt64))).2) a12 a13 a14 a15 a16 a17 a18 a19 a20))] := hD
              obtain ⟨r3, hr3⟩ : ∃ x : Int64 × Int64, x = smx x_4 x_6 (r2.1, r2.2) (8 * (nI lz).toInt64) (8 * (nI nn).toInt64) := ⟨_, rfl⟩
              rw [← hr3] at hP hD
              have hr3 : r3 = agR x_4 x_6 gz lz gt nn := by rw [hr3, hr2, hr1]; rfl
              have hP : va_P D vwCl [(a6, .inl (cI, 12, .inl (nF gn))), (a3, .inl (cI, 98816, .inl (nF gz))), (a19, .inl (cI, 16, .inl (nF gg))), (tx, .inl (cI, 98816, .inl (nF gt))), (a7, .inl (cI, 256, .inl (nF gS))), (a8, .inl (cI, 240, .inl (nF gr))), (a9, .inl (cI, 16, .inl (nF tk.1))), (a10, .inl (cI, 16, .inl (nF tk.2))), (mo, .inr (7, mFs thr a1 a2 a3 (nI lt) (nI lb) (nI lz) ci a4 a5 a6 nu bk se op fa a7 a8 a9 a10 a11 (nI rn) x_4 x_6 r3.1 r3.2 a12 a13 a14 a15 a16 a17 a18 a19 a20))] H := hP
              have hD : va_D A [(a6, .inl (cI, 12, .inl (nF gn))), (a3, .inl (cI, 98816, .inl (nF gz))), (a19, .inl (cI, 16, .inl (nF gg))), (tx, .inl (cI, 98816, .inl (nF gt))), (a7, .inl (cI, 256, .inl (nF gS))), (a8, .inl (cI, 240, .inl (nF gr))), (a9, .inl (cI, 16, .inl (nF tk.1))), (a10, .inl (cI, 16, .inl (nF tk.2))), (mo, .inr (7, mFs thr a1 a2 a3 (nI lt) (nI lb) (nI lz) ci a4 a5 a6 nu bk se op fa a7 a8 a9 a10 a11 (nI rn) x_4 x_6 r3.1 r3.2 a12 a13 a14 a15 a16 a17 a18 a19 a20))] := hD
              refine lv_aload_n hx hb d_M_tagAes_162 rfl (lv_at hl 1 rfl) ?_
              refine lv_iconst (v := 1) hx hb d_M_tagAes_163 (by decide) ?_
              refine sb_callv (wr := [(a3, .inl (cI, 98816, .inl (nF gz))), (a19, .inl (cI, 16, .inl (nF gg))), (tx, .inl (cI, 98816, .inl (nF gt)))]) (va_runV (As := [.int 1]) (rest := []) ⟨hx, hb, hml, hown, hts⟩ (c_M_counter l D cI cL cB tS tF mo a1 a2 a3 a4 a5 a6 a7 a8 a9 a10 a11 a12 a13 a14 a15 a16 a17 a18 a19 a20 thr ci bk se op fa lt lb lz rn nu x_4 x_6 r3.1 r3.2 gS gr tk.1 tk.2 gn 1 _ hgS hgr btk.1 btk.2 hgn hrn) (cwV 1 hts (sb_gV k_871 k_873 k_13 k_30 k_874) rfl rfl rfl (by decide +kernel) ⟨Nat.le_of_ble_eq_true rfl, Nat.le_of_ble_eq_true rfl⟩) (sb_pV hG hP hD hS hA [8, 4, 5, 6, 7, 0] (by decide) rfl (ci := 7) (q0 := 8) rfl rfl) rfl rfl hl.1 rfl (lv_room (Nat.le_of_ble_eq_true rfl)) d_M_tagAes_164 ⟨Nat.le_of_ble_eq_true rfl, Nat.le_of_ble_eq_true rfl⟩) hP hD hS hA [8, 4, 5, 6, 7, 0] [1, 2, 3] rfl rfl (by decide) (by decide) (fun u H locs hw_10 hP hD hS => ?_)
              have hP : va_P D vwCl [(a3, .inl (cI, 98816, .inl (nF gz))), (a19, .inl (cI, 16, .inl (nF gg))), (tx, .inl (cI, 98816, .inl (nF gt))), (mo, .inr (7, mFs thr a1 a2 a3 (nI lt) (nI lb) (nI lz) ci a4 a5 a6 nu bk se op fa a7 a8 a9 a10 a11 (nI rn) x_4 x_6 r3.1 r3.2 a12 a13 a14 a15 a16 a17 a18 a19 a20)), (a7, .inl (cI, 256, .inl (nF gS))), (a8, .inl (cI, 240, .inl (nF gr))), (a9, .inl (cI, 16, .inl (nF ((turnN gS gr rn (cntN gn 1 tk.1) tk.2 rn).1)))), (a10, .inl (cI, 16, .inl (nF ((turnN gS gr rn (cntN gn 1 tk.1) tk.2 rn).2)))), (a6, .inl (cI, 12, .inl (nF gn)))] H := hP
              have hD : va_D A [(a3, .inl (cI, 98816, .inl (nF gz))), (a19, .inl (cI, 16, .inl (nF gg))), (tx, .inl (cI, 98816, .inl (nF gt))), (mo, .inr (7, mFs thr a1 a2 a3 (nI lt) (nI lb) (nI lz) ci a4 a5 a6 nu bk se op fa a7 a8 a9 a10 a11 (nI rn) x_4 x_6 r3.1 r3.2 a12 a13 a14 a15 a16 a17 a18 a19 a20)), (a7, .inl (cI, 256, .inl (nF gS))), (a8, .inl (cI, 240, .inl (nF gr))), (a9, .inl (cI, 16, .inl (nF ((turnN gS gr rn (cntN gn 1 tk.1) tk.2 rn).1)))), (a10, .inl (cI, 16, .inl (nF ((turnN gS gr rn (cntN gn 1 tk.1) tk.2 rn).2)))), (a6, .inl (cI, 12, .inl (nF gn)))] := hD
              obtain ⟨t2, ht2⟩ : ∃ x : N2, x = turnN gS gr rn (cntN gn 1 tk.1) tk.2 rn := ⟨_, rfl⟩
              rw [← ht2] at hP hD
              have ht2 : t2 = agT gS gr rn gn tk := ht2
              have hP : va_P D vwCl [(a3, .inl (cI, 98816, .inl (nF gz))), (a19, .inl (cI, 16, .inl (nF gg))), (tx, .inl (cI, 98816, .inl (nF gt))), (mo, .inr (7, mFs thr a1 a2 a3 (nI lt) (nI lb) (nI lz) ci a4 a5 a6 nu bk se op fa a7 a8 a9 a10 a11 (nI rn) x_4 x_6 r3.1 r3.2 a12 a13 a14 a15 a16 a17 a18 a19 a20)), (a7, .inl (cI, 256, .inl (nF gS))), (a8, .inl (cI, 240, .inl (nF gr))), (a9, .inl (cI, 16, .inl (nF t2.1))), (a10, .inl (cI, 16, .inl (nF t2.2))), (a6, .inl (cI, 12, .inl (nF gn)))] H := hP
              have hD : va_D A [(a3, .inl (cI, 98816, .inl (nF gz))), (a19, .inl (cI, 16, .inl (nF gg))), (tx, .inl (cI, 98816, .inl (nF gt))), (mo, .inr (7, mFs thr a1 a2 a3 (nI lt) (nI lb) (nI lz) ci a4 a5 a6 nu bk se op fa a7 a8 a9 a10 a11 (nI rn) x_4 x_6 r3.1 r3.2 a12 a13 a14 a15 a16 a17 a18 a19 a20)), (a7, .inl (cI, 256, .inl (nF gS))), (a8, .inl (cI, 240, .inl (nF gr))), (a9, .inl (cI, 16, .inl (nF t2.1))), (a10, .inl (cI, 16, .inl (nF t2.2))), (a6, .inl (cI, 12, .inl (nF gn)))] := hD
              refine lv_iconst (v := 0) hx hb d_M_tagAes_167 (by decide) ?_
              refine lv_istore_n (lv' := [(3, .int 0), (0, .ref mo), (1, .ref tx), (2, .int (nI nn))]) hx hb d_M_tagAes_168 rfl hl (by decide) rfl (fun ls hl => ?_)
              have lp4 : ∀ (d4 i : Nat), i + d4 = 16 → ∀ (H : Heap) (locs : List Loc) (ls : Array Slot), va_P D vwCl [(a3, .inl (cI, 98816, .inl (nF gz))), (a19, .inl (cI, 16, .inl (nF (iter (tgA t2.1 r3.1 r3.2) i gg)))), (tx, .inl (cI, 98816, .inl (nF gt))), (mo, .inr (7, mFs thr a1 a2 a3 (nI lt) (nI lb) (nI lz) ci a4 a5 a6 nu bk se op fa a7 a8 a9 a10 a11 (nI rn) x_4 x_6 r3.1 r3.2 a12 a13 a14 a15 a16 a17 a18 a19 a20)), (a7, .inl (cI, 256, .inl (nF gS))), (a8, .inl (cI, 240, .inl (nF gr))), (a9, .inl (cI, 16, .inl (nF t2.1))), (a10, .inl (cI, 16, .inl (nF t2.2))), (a6, .inl (cI, 12, .inl (nF gn)))] H → va_D A [(a3, .inl (cI, 98816, .inl (nF gz))), (a19, .inl (cI, 16, .inl (nF (iter (tgA t2.1 r3.1 r3.2) i gg)))), (tx, .inl (cI, 98816, .inl (nF gt))), (mo, .inr (7, mFs thr a1 a2 a3 (nI lt) (nI lb) (nI lz) ci a4 a5 a6 nu bk se op fa a7 a8 a9 a10 a11 (nI rn) x_4 x_6 r3.1 r3.2 a12 a13 a14 a15 a16 a17 a18 a19 a20)), (a7, .inl (cI, 256, .inl (nF gS))), (a8, .inl (cI, 240, .inl (nF gr))), (a9, .inl (cI, 16, .inl (nF t2.1))), (a10, .inl (cI, 16, .inl (nF t2.2))), (a6, .inl (cI, 12, .inl (nF gn)))] → va_S A s.heap H locs → lv_has ls 4 [(3, .int (nI i)), (0, .ref mo), (1, .ref tx), (2, .int (nI nn))] → W p l e rm_M_tagAes s m args below meth c H locs 0 0 (MQ below (sbQv D (fun (_ : Unit) => True) (fun (_ : Unit) => [(mo, .inr (7, mFs thr a1 a2 a3 (nI lt) (nI lb) (nI lz) ci a4 a5 a6 nu bk se op fa a7 a8 a9 a10 a11 (nI rn) (m8 (agK gS gr rn gs gm).1 0 16) (m8 (agK gS gr rn gs gm).1 8 16) ((agR (m8 (agK gS gr rn gs gm).1 0 16) (m8 (agK gS gr rn gs gm).1 8 16) gz lz gt nn).1) ((agR (m8 (agK gS gr rn gs gm).1 0 16) (m8 (agK gS gr rn gs gm).1 8 16) gz lz gt nn).2) a12 a13 a14 a15 a16 a17 a18 a19 a20)), (a7, .inl (cI, 256, .inl (nF gS))), (a8, .inl (cI, 240, .inl (nF gr))), (a9, .inl (cI, 16, .inl (nF ((agT gS gr rn gn (agK gS gr rn gs gm)).1)))), (a10, .inl (cI, 16, .inl (nF ((agT gS gr rn gn (agK gS gr rn gs gm)).2)))), (a6, .inl (cI, 12, .inl (nF gn))), (a3, .inl (cI, 98816, .inl (nF gz))), (a19, .inl (cI, 16, .inl (nF (iter (tgA (agT gS gr rn gn (agK gS gr rn gs gm)).1 (agR (m8 (agK gS gr rn gs gm).1 0 16) (m8 (agK gS gr rn gs gm).1 8 16) gz lz gt nn).1 (agR (m8 (agK gS gr rn gs gm).1 0 16) (m8 (agK gS gr rn gs gm).1 8 16) gz lz gt nn).2) 16 gg)))), (tx, .inl (cI, 98816, .inl (nF gt)))]) A) args s 0 0 A) (F0 m 169 ls []) := by
                intro d4
                induction d4 with
                | zero =>
                  intro i hi4 H locs ls hP hD hS hl
                  obtain rfl : 16 = i := by omega
                  refine lv_iload_n hx hb d_M_tagAes_169 rfl (lv_at hl 0 rfl) ?_
                  refine lv_bipush (v := 16) hx hb d_M_tagAes_170 (by decide) ?_
                  refine lv_icmp_ge (tgt := 232) hx hb d_M_tagAes_172 (by decide) (fun c_11 => ?_) (fun c_11 => absurd (sb_geT (a := 16) (b := 16) rfl rfl (by omega) (by omega) (by omega)) c_11)
                  have hPz := hP
                  have hDz := hD
                  subst ht2
                  subst hr3
                  subst hr2
                  subst hr1
                  subst htk
                  have hP := hPz
                  have hD := hDz
                  subst ex_6
                  subst ex_4
                  have hP9 := hP.sub (ws' := [(mo, .inr (7, mFs thr a1 a2 a3 (nI lt) (nI lb) (nI lz) ci a4 a5 a6 nu bk se op fa a7 a8 a9 a10 a11 (nI rn) (m8 (agK gS gr rn gs gm).1 0 16) (m8 (agK gS gr rn gs gm).1 8 16) ((agR (m8 (agK gS gr rn gs gm).1 0 16) (m8 (agK gS gr rn gs gm).1 8 16) gz lz gt nn).1) ((agR (m8 (agK gS gr rn gs gm).1 0 16) (m8 (agK gS gr rn gs gm).1 8 16) gz lz gt nn).2) a12 a13 a14 a15 a16 a17 a18 a19 a20)), (a7, .inl (cI, 256, .inl (nF gS))), (a8, .inl (cI, 240, .inl (nF gr))), (a9, .inl (cI, 16, .inl (nF ((agT gS gr rn gn (agK gS gr rn gs gm)).1)))), (a10, .inl (cI, 16, .inl (nF ((agT gS gr rn gn (agK gS gr rn gs gm)).2)))), (a6, .inl (cI, 12, .inl (nF gn))), (a3, .inl (cI, 98816, .inl (nF gz))), (a19, .inl (cI, 16, .inl (nF (iter (tgA (agT gS gr rn gn (agK gS gr rn gs gm)).1 (agR (m8 (agK gS gr rn gs gm).1 0 16) (m8 (agK gS gr rn gs gm).1 8 16) gz lz gt nn).1 (agR (m8 (agK gS gr rn gs gm).1 0 16) (m8 (agK gS gr rn gs gm).1 8 16) gz lz gt nn).2) 16 gg)))), (tx, .inl (cI, 98816, .inl (nF gt)))]) [3, 4, 5, 6, 7, 8, 0, 1, 2] rfl
                  have hD9 := hD.sub (ws' := [(mo, .inr (7, mFs thr a1 a2 a3 (nI lt) (nI lb) (nI lz) ci a4 a5 a6 nu bk se op fa a7 a8 a9 a10 a11 (nI rn) (m8 (agK gS gr rn gs gm).1 0 16) (m8 (agK gS gr rn gs gm).1 8 16) ((agR (m8 (agK gS gr rn gs gm).1 0 16) (m8 (agK gS gr rn gs gm).1 8 16) gz lz gt nn).1) ((agR (m8 (agK gS gr rn gs gm).1 0 16) (m8 (agK gS gr rn gs gm).1 8 16) gz lz gt nn).2) a12 a13 a14 a15 a16 a17 a18 a19 a20)), (a7, .inl (cI, 256, .inl (nF gS))), (a8, .inl (cI, 240, .inl (nF gr))), (a9, .inl (cI, 16, .inl (nF ((agT gS gr rn gn (agK gS gr rn gs gm)).1)))), (a10, .inl (cI, 16, .inl (nF ((agT gS gr rn gn (agK gS gr rn gs gm)).2)))), (a6, .inl (cI, 12, .inl (nF gn))), (a3, .inl (cI, 98816, .inl (nF gz))), (a19, .inl (cI, 16, .inl (nF (iter (tgA (agT gS gr rn gn (agK gS gr rn gs gm)).1 (agR (m8 (agK gS gr rn gs gm).1 0 16) (m8 (agK gS gr rn gs gm).1 8 16) gz lz gt nn).1 (agR (m8 (agK gS gr rn gs gm).1 0 16) (m8 (agK gS gr rn gs gm).1 8 16) gz lz gt nn).2) 16 gg)))), (tx, .inl (cI, 98816, .inl (nF gt)))]) [3, 4, 5, 6, 7, 8, 0, 1, 2] (by decide) rfl
                  exact W.vret hx hb hr (fun t ht hW => ⟨⟨(), rfl, trivial, by rw [ht]; exact hP9, hD9⟩, hS.F ht⟩) hS.2.2 d_M_tagAes_232
                | succ d4 ih4 =>
                  intro i hi4 H locs ls hP hD hS hl
                  refine lv_iload_n hx hb d_M_tagAes_169 rfl (lv_at hl 0 rfl) ?_
                  refine lv_bipush (v := 16) hx hb d_M_tagAes_170 (by decide) ?_
                  refine lv_icmp_ge (tgt := 232) hx hb d_M_tagAes_172 (by decide) (fun c_12 => absurd c_12 (sb_geF (a := i) (b := 16) rfl rfl (by omega) (by omega) (by omega))) (fun c_12 => ?_)
                  refine lv_aload_n hx hb d_M_tagAes_175 rfl (lv_at hl 1 rfl) ?_
                  refine va_get (D := D) (ci := 7) (v := .ref a19) (C := R_M) (T := F_M) (N := 35) hx hb hts in_M hown hG.1 hP 3 rfl rfl 33 (by decide) (hts _ k_730) (fun _ h9 => h9) rfl d_M_tagAes_176 ?_
                  refine lv_iload_n hx hb d_M_tagAes_179 rfl (lv_at hl 0 rfl) ?_
                  refine lv_aload_n hx hb d_M_tagAes_180 rfl (lv_at hl 1 rfl) ?_
                  refine va_get (D := D) (ci := 7) (v := .ref a9) (C := R_M) (T := F_M) (N := 35) hx hb hts in_M hown hG.1 hP 3 rfl rfl 18 (by decide) (hts _ k_715) (fun _ h9 => h9) rfl d_M_tagAes_181 ?_
                  refine lv_iload_n hx hb d_M_tagAes_184 rfl (lv_at hl 0 rfl) ?_
                  refine sb_ild hx hb hG.1 hP 6 rfl i rfl (by omega) (by omega) d_M_tagAes_185 ?_
                  refine lv_iload_n hx hb d_M_tagAes_186 rfl (lv_at hl 0 rfl) ?_
                  refine lv_bipush (v := 8) hx hb d_M_tagAes_187 (by decide) ?_
                  refine lv_icmp_ge (tgt := 207) hx hb d_M_tagAes_189 (by decide) (fun c_13 => ?_) (fun c_13 => ?_)
                  · have c_13 := (sb_geI (a := i) (b := 8) rfl rfl (by omega) (by omega)).mp c_13
                    refine lv_aload_n hx hb d_M_tagAes_207 rfl (lv_at hl 1 rfl) ?_
                    refine va_get (D := D) (ci := 7) (v := .long r3.2) (C := R_M) (T := F_M) (N := 35) hx hb hts in_M hown hG.1 hP 3 rfl rfl 25 (by decide) (hts _ k_722) (fun _ h9 => h9) rfl d_M_tagAes_208 ?_
                    refine lv_bipush (v := 120) hx hb d_M_tagAes_211 (by decide) ?_
                    refine lv_bipush (v := 8) hx hb d_M_tagAes_213 (by decide) ?_
                    refine lv_iload_n hx hb d_M_tagAes_215 rfl (lv_at hl 0 rfl) ?_
                    refine lv_imul hx hb d_M_tagAes_216 ?_
                    refine sb_topn (8 * i) (sb_mul (a := 8) (b := i) rfl rfl) ?_
                    refine lv_isub hx hb d_M_tagAes_217 ?_
                    refine sb_topn (120 - (8 * i)) (sb_sub (a := 120) (b := 8 * i) (by omega) rfl rfl) ?_
                    refine lv_lushr (v := uL r3.2 (nI (120 - (8 * i)))) hx hb d_M_tagAes_218 rfl ?_
                    refine lv_ldc2 (v := 255) hx hb hown (hts (.constantLong R_M 120 255) (by decide +kernel)) d_M_tagAes_219 ?_
                    refine lv_land hx hb d_M_tagAes_222 ?_
                    refine lv_l2i (v := ((uL r3.2 (nI (120 - (8 * i)))) &&& 255).toInt32) hx hb d_M_tagAes_223 rfl ?_
                    refine sb_topn (byL r3.2 (120 - (8 * i))) (sb_byL (x := r3.2) (k := 120 - (8 * i)) rfl (by omega)) ?_
                    refine lv_ixor hx hb d_M_tagAes_224 ?_
                    refine sb_topn ((t2.1 i) ^^^ (byL r3.2 (120 - (8 * i)))) (sb_xor (a := t2.1 i) (b := byL r3.2 (120 - (8 * i))) rfl rfl) ?_
                    refine sb_topn ((t2.1 i) ^^^ (byL r3.2 (120 - (8 * i)))) rfl ?_
                    refine sb_ist hx hb hG.1 hP hD hS 1 rfl i rfl (by omega) (by omega) d_M_tagAes_225 (fun f_14 H locs ef_14 hP hD hS => ?_)
                    have hP : va_P D vwCl [(a3, .inl (cI, 98816, .inl (nF gz))), (a19, .inl (cI, 16, .inl f_14)), (tx, .inl (cI, 98816, .inl (nF gt))), (mo, .inr (7, mFs thr a1 a2 a3 (nI lt) (nI lb) (nI lz) ci a4 a5 a6 nu bk se op fa a7 a8 a9 a10 a11 (nI rn) x_4 x_6 r3.1 r3.2 a12 a13 a14 a15 a16 a17 a18 a19 a20)), (a7, .inl (cI, 256, .inl (nF gS))), (a8, .inl (cI, 240, .inl (nF gr))), (a9, .inl (cI, 16, .inl (nF t2.1))), (a10, .inl (cI, 16, .inl (nF t2.2))), (a6, .inl (cI, 12, .inl (nF gn)))] H := hP
                    have hD : va_D A [(a3, .inl (cI, 98816, .inl (nF gz))), (a19, .inl (cI, 16, .inl f_14)), (tx, .inl (cI, 98816, .inl (nF gt))), (mo, .inr (7, mFs thr a1 a2 a3 (nI lt) (nI lb) (nI lz) ci a4 a5 a6 nu bk se op fa a7 a8 a9 a10 a11 (nI rn) x_4 x_6 r3.1 r3.2 a12 a13 a14 a15 a16 a17 a18 a19 a20)), (a7, .inl (cI, 256, .inl (nF gS))), (a8, .inl (cI, 240, .inl (nF gr))), (a9, .inl (cI, 16, .inl (nF t2.1))), (a10, .inl (cI, 16, .inl (nF t2.2))), (a6, .inl (cI, 12, .inl (nF gn)))] := hD
                    obtain rfl : f_14 = nF (updN (iter (tgA t2.1 r3.1 r3.2) i gg) i ((t2.1 i) ^^^ (byL r3.2 (120 - (8 * i))))) := ef_14.trans (nF_set _ _ _)
                    have hP : va_P D vwCl [(a3, .inl (cI, 98816, .inl (nF gz))), (a19, .inl (cI, 16, .inl (nF (updN (iter (tgA t2.1 r3.1 r3.2) i gg) i ((t2.1 i) ^^^ (byL r3.2 (120 - (8 * i)))))))), (tx, .inl (cI, 98816, .inl (nF gt))), (mo, .inr (7, mFs thr a1 a2 a3 (nI lt) (nI lb) (nI lz) ci a4 a5 a6 nu bk se op fa a7 a8 a9 a10 a11 (nI rn) x_4 x_6 r3.1 r3.2 a12 a13 a14 a15 a16 a17 a18 a19 a20)), (a7, .inl (cI, 256, .inl (nF gS))), (a8, .inl (cI, 240, .inl (nF gr))), (a9, .inl (cI, 16, .inl (nF t2.1))), (a10, .inl (cI, 16, .inl (nF t2.2))), (a6, .inl (cI, 12, .inl (nF gn)))] H := hP
                    have hD : va_D A [(a3, .inl (cI, 98816, .inl (nF gz))), (a19, .inl (cI, 16, .inl (nF (updN (iter (tgA t2.1 r3.1 r3.2) i gg) i ((t2.1 i) ^^^ (byL r3.2 (120 - (8 * i)))))))), (tx, .inl (cI, 98816, .inl (nF gt))), (mo, .inr (7, mFs thr a1 a2 a3 (nI lt) (nI lb) (nI lz) ci a4 a5 a6 nu bk se op fa a7 a8 a9 a10 a11 (nI rn) x_4 x_6 r3.1 r3.2 a12 a13 a14 a15 a16 a17 a18 a19 a20)), (a7, .inl (cI, 256, .inl (nF gS))), (a8, .inl (cI, 240, .inl (nF gr))), (a9, .inl (cI, 16, .inl (nF t2.1))), (a10, .inl (cI, 16, .inl (nF t2.2))), (a6, .inl (cI, 12, .inl (nF gn)))] := hD
                    refine lv_iinc (v := nI (i + 1)) (lv' := [(3, .int (nI (i + 1))), (0, .ref mo), (1, .ref tx), (2, .int (nI nn))]) hx hb d_M_tagAes_226 hl (k := 0) rfl (sb_inc (a := i) (b := i + 1) (d := 1) rfl (by decide) (by omega)) (by decide) rfl (fun ls hl => ?_)
                    refine lv_goto (tgt := 169) hx hb d_M_tagAes_229 (by decide) ?_
                    rw [show nF (updN (iter (tgA t2.1 r3.1 r3.2) i gg) i ((t2.1 i) ^^^ (byL r3.2 (120 - (8 * i))))) = nF (iter (tgA t2.1 r3.1 r3.2) (i + 1) gg) from (congrArg nF (Eq.trans (by simp only [tgA, if_pos c_13]) (iter_s _ _ _).symm))] at hP hD
                    exact ih4 (i + 1) (by omega) _ _ ls (hP.sub [0, 1, 2, 3, 4, 5, 6, 7, 8] rfl) (hD.sub [0, 1, 2, 3, 4, 5, 6, 7, 8] (by decide) rfl) hS (lv_sub hl [0, 1, 2, 3] rfl)
                  · have c_13 := mt (sb_geI (a := i) (b := 8) rfl rfl (by omega) (by omega)).mpr c_13
                    refine lv_aload_n hx hb d_M_tagAes_192 rfl (lv_at hl 1 rfl) ?_
                    refine va_get (D := D) (ci := 7) (v := .long r3.1) (C := R_M) (T := F_M) (N := 35) hx hb hts in_M hown hG.1 hP 3 rfl rfl 24 (by decide) (hts _ k_721) (fun _ h9 => h9) rfl d_M_tagAes_193 ?_
                    refine lv_bipush (v := 56) hx hb d_M_tagAes_196 (by decide) ?_
                    refine lv_bipush (v := 8) hx hb d_M_tagAes_198 (by decide) ?_
                    refine lv_iload_n hx hb d_M_tagAes_200 rfl (lv_at hl 0 rfl) ?_
                    refine lv_imul hx hb d_M_tagAes_201 ?_
                    refine sb_topn (8 * i) (sb_mul (a := 8) (b := i) rfl rfl) ?_
                    refine lv_isub hx hb d_M_tagAes_202 ?_
                    refine sb_topn (56 - (8 * i)) (sb_sub (a := 56) (b := 8 * i) (by omega) rfl rfl) ?_
                    refine lv_lushr (v := uL r3.1 (nI (56 - (8 * i)))) hx hb d_M_tagAes_203 rfl ?_
                    refine lv_goto (tgt := 219) hx hb d_M_tagAes_204 (by decide) ?_
                    refine lv_ldc2 (v := 255) hx hb hown (hts (.constantLong R_M 120 255) (by decide +kernel)) d_M_tagAes_219 ?_
                    refine lv_land hx hb d_M_tagAes_222 ?_
                    refine lv_l2i (v := ((uL r3.1 (nI (56 - (8 * i)))) &&& 255).toInt32) hx hb d_M_tagAes_223 rfl ?_
                    refine sb_topn (byL r3.1 (56 - (8 * i))) (sb_byL (x := r3.1) (k := 56 - (8 * i)) rfl (by omega)) ?_
                    refine lv_ixor hx hb d_M_tagAes_224 ?_
                    refine sb_topn ((t2.1 i) ^^^ (byL r3.1 (56 - (8 * i)))) (sb_xor (a := t2.1 i) (b := byL r3.1 (56 - (8 * i))) rfl rfl) ?_
                    refine sb_topn ((t2.1 i) ^^^ (byL r3.1 (56 - (8 * i)))) rfl ?_
                    refine sb_ist hx hb hG.1 hP hD hS 1 rfl i rfl (by omega) (by omega) d_M_tagAes_225 (fun f_15 H locs ef_15 hP hD hS => ?_)
                    have hP : va_P D vwCl [(a3, .inl (cI, 98816, .inl (nF gz))), (a19, .inl (cI, 16, .inl f_15)), (tx, .inl (cI, 98816, .inl (nF gt))), (mo, .inr (7, mFs thr a1 a2 a3 (nI lt) (nI lb) (nI lz) ci a4 a5 a6 nu bk se op fa a7 a8 a9 a10 a11 (nI rn) x_4 x_6 r3.1 r3.2 a12 a13 a14 a15 a16 a17 a18 a19 a20)), (a7, .inl (cI, 256, .inl (nF gS))), (a8, .inl (cI, 240, .inl (nF gr))), (a9, .inl (cI, 16, .inl (nF t2.1))), (a10, .inl (cI, 16, .inl (nF t2.2))), (a6, .inl (cI, 12, .inl (nF gn)))] H := hP
                    have hD : va_D A [(a3, .inl (cI, 98816, .inl (nF gz))), (a19, .inl (cI, 16, .inl f_15)), (tx, .inl (cI, 98816, .inl (nF gt))), (mo, .inr (7, mFs thr a1 a2 a3 (nI lt) (nI lb) (nI lz) ci a4 a5 a6 nu bk se op fa a7 a8 a9 a10 a11 (nI rn) x_4 x_6 r3.1 r3.2 a12 a13 a14 a15 a16 a17 a18 a19 a20)), (a7, .inl (cI, 256, .inl (nF gS))), (a8, .inl (cI, 240, .inl (nF gr))), (a9, .inl (cI, 16, .inl (nF t2.1))), (a10, .inl (cI, 16, .inl (nF t2.2))), (a6, .inl (cI, 12, .inl (nF gn)))] := hD
                    obtain rfl : f_15 = nF (updN (iter (tgA t2.1 r3.1 r3.2) i gg) i ((t2.1 i) ^^^ (byL r3.1 (56 - (8 * i))))) := ef_15.trans (nF_set _ _ _)
                    have hP : va_P D vwCl [(a3, .inl (cI, 98816, .inl (nF gz))), (a19, .inl (cI, 16, .inl (nF (updN (iter (tgA t2.1 r3.1 r3.2) i gg) i ((t2.1 i) ^^^ (byL r3.1 (56 - (8 * i)))))))), (tx, .inl (cI, 98816, .inl (nF gt))), (mo, .inr (7, mFs thr a1 a2 a3 (nI lt) (nI lb) (nI lz) ci a4 a5 a6 nu bk se op fa a7 a8 a9 a10 a11 (nI rn) x_4 x_6 r3.1 r3.2 a12 a13 a14 a15 a16 a17 a18 a19 a20)), (a7, .inl (cI, 256, .inl (nF gS))), (a8, .inl (cI, 240, .inl (nF gr))), (a9, .inl (cI, 16, .inl (nF t2.1))), (a10, .inl (cI, 16, .inl (nF t2.2))), (a6, .inl (cI, 12, .inl (nF gn)))] H := hP
                    have hD : va_D A [(a3, .inl (cI, 98816, .inl (nF gz))), (a19, .inl (cI, 16, .inl (nF (updN (iter (tgA t2.1 r3.1 r3.2) i gg) i ((t2.1 i) ^^^ (byL r3.1 (56 - (8 * i)))))))), (tx, .inl (cI, 98816, .inl (nF gt))), (mo, .inr (7, mFs thr a1 a2 a3 (nI lt) (nI lb) (nI lz) ci a4 a5 a6 nu bk se op fa a7 a8 a9 a10 a11 (nI rn) x_4 x_6 r3.1 r3.2 a12 a13 a14 a15 a16 a17 a18 a19 a20)), (a7, .inl (cI, 256, .inl (nF gS))), (a8, .inl (cI, 240, .inl (nF gr))), (a9, .inl (cI, 16, .inl (nF t2.1))), (a10, .inl (cI, 16, .inl (nF t2.2))), (a6, .inl (cI, 12, .inl (nF gn)))] := hD
                    refine lv_iinc (v := nI (i + 1)) (lv' := [(3, .int (nI (i + 1))), (0, .ref mo), (1, .ref tx), (2, .int (nI nn))]) hx hb d_M_tagAes_226 hl (k := 0) rfl (sb_inc (a := i) (b := i + 1) (d := 1) rfl (by decide) (by omega)) (by decide) rfl (fun ls hl => ?_)
                    refine lv_goto (tgt := 169) hx hb d_M_tagAes_229 (by decide) ?_
                    rw [show nF (updN (iter (tgA t2.1 r3.1 r3.2) i gg) i ((t2.1 i) ^^^ (byL r3.1 (56 - (8 * i))))) = nF (iter (tgA t2.1 r3.1 r3.2) (i + 1) gg) from (congrArg nF (Eq.trans (by simp only [tgA, if_neg c_13]) (iter_s _ _ _).symm))] at hP hD
                    exact ih4 (i + 1) (by omega) _ _ ls (hP.sub [0, 1, 2, 3, 4, 5, 6, 7, 8] rfl) (hD.sub [0, 1, 2, 3, 4, 5, 6, 7, 8] (by decide) rfl) hS (lv_sub hl [0, 1, 2, 3] rfl)
              exact lp4 16 0 (by omega) _ _ ls (hP.sub [0, 1, 2, 3, 4, 5, 6, 7, 8] rfl) (hD.sub [0, 1, 2, 3, 4, 5, 6, 7, 8] (by decide) rfl) hS (lv_sub hl [0, 1, 2, 3] rfl)
            | succ d3 ih3 =>
              intro i hi3 H locs ls hP hD hS hl
              refine lv_iload_n hx hb d_M_tagAes_113 rfl (lv_at hl 0 rfl) ?_
              refine lv_iload_n hx hb d_M_tagAes_114 rfl (lv_at hl 3 rfl) ?_
              refine lv_icmp_ge (tgt := 143) hx hb d_M_tagAes_115 (by decide) (fun c_16 => absurd c_16 (sb_geF (a := 16 * i) (b := nn) rfl rfl (by omega) (by omega) (by omega))) (fun c_16 => ?_)
              refine lv_aload_n hx hb d_M_tagAes_118 rfl (lv_at hl 1 rfl) ?_
              refine lv_aload_n hx hb d_M_tagAes_119 rfl (lv_at hl 2 rfl) ?_
              refine lv_iload_n hx hb d_M_tagAes_120 rfl (lv_at hl 0 rfl) ?_
              refine lv_iload_n hx hb d_M_tagAes_121 rfl (lv_at hl 3 rfl) ?_
              refine vp_callSl (va_runS (As := [.ref tx, .int (nI (16 * i)), .int (nI nn)]) (rest := [.ref mo]) ⟨hx, hb, hml, hown, hts⟩ (c_M_eight l D cI cL cB tS tF tx 98816 gt (16 * i) nn (by omega) (by omega) (by omega)) (va_cwS 3 hts (sb_gS k_899 k_900 k_30 k_901) rfl rfl rfl (by decide +kernel) ⟨Nat.le_of_ble_eq_true rfl, Nat.le_of_ble_eq_true rfl⟩) (sb_rS hG hP hS [3] rfl) rfl rfl hl.1 rfl (lv_room (Nat.le_of_ble_eq_true rfl)) d_M_tagAes_122 ⟨Nat.le_of_ble_eq_true rfl, Nat.le_of_ble_eq_true rfl⟩).run (fun r_17 er_17 => ?_)
              subst er_17
              refine lv_aload_n hx hb d_M_tagAes_125 rfl (lv_at hl 2 rfl) ?_
              refine lv_iload_n hx hb d_M_tagAes_126 rfl (lv_at hl 0 rfl) ?_
              refine lv_bipush (v := 8) hx hb d_M_tagAes_127 (by decide) ?_
              refine lv_iadd hx hb d_M_tagAes_129 ?_
              refine sb_topn ((16 * i) + 8) (nI_add (16 * i) 8) ?_
              refine lv_iload_n hx hb d_M_tagAes_130 rfl (lv_at hl 3 rfl) ?_
              refine vp_callSl (va_runS (As := [.ref tx, .int (nI ((16 * i) + 8)), .int (nI nn)]) (rest := [.long (m8 gt (16 * i) nn), .ref mo]) ⟨hx, hb, hml, hown, hts⟩ (c_M_eight l D cI cL cB tS tF tx 98816 gt ((16 * i) + 8) nn (by omega) (by omega) (by omega)) (va_cwS 3 hts (sb_gS k_899 k_900 k_30 k_901) rfl rfl rfl (by decide +kernel) ⟨Nat.le_of_ble_eq_true rfl, Nat.le_of_ble_eq_true rfl⟩) (sb_rS hG hP hS [3] rfl) rfl rfl hl.1 rfl (lv_room (Nat.le_of_ble_eq_true rfl)) d_M_tagAes_131 ⟨Nat.le_of_ble_eq_true rfl, Nat.le_of_ble_eq_true rfl⟩).run (fun r_18 er_18 => ?_)
              subst er_18
              refine sb_callv (wr := [(a6, .inl (cI, 12, .inl (nF gn))), (a3, .inl (cI, 98816, .inl (nF gz))), (a19, .inl (cI, 16, .inl (nF gg))), (tx, .inl (cI, 98816, .inl (nF gt))), (a7, .inl (cI, 256, .inl (nF gS))), (a8, .inl (cI, 240, .inl (nF gr))), (a9, .inl (cI, 16, .inl (nF tk.1))), (a10, .inl (cI, 16, .inl (nF tk.2)))]) (va_runV (As := [.long (m8 gt (16 * i) nn), .long (m8 gt ((16 * i) + 8) nn)]) (rest := []) ⟨hx, hb, hml, hown, hts⟩ (c_M_summed l D cI cL cB tS tF mo a1 a2 a3 a4 a5 a6 a7 a8 a9 a10 a11 a12 a13 a14 a15 a16 a17 a18 a19 a20 thr ci bk se op fa lt lb lz rn nu x_4 x_6 ((sRowx x_4 x_6 gt nn i (r1.1, r1.2)).1) ((sRowx x_4 x_6 gt nn i (r1.1, r1.2)).2) (m8 gt (16 * i) nn) (m8 gt ((16 * i) + 8) nn) _ ) (cwV 2 hts (sb_gV k_902 k_904 k_20 k_30 k_905) rfl rfl rfl (by decide +kernel) ⟨Nat.le_of_ble_eq_true rfl, Nat.le_of_ble_eq_true rfl⟩) (sb_pV hG hP hD hS hA [4] (by decide) rfl (ci := 7) (q0 := 4) rfl rfl) rfl rfl hl.1 rfl (lv_room (Nat.le_of_ble_eq_true rfl)) d_M_tagAes_134 ⟨Nat.le_of_ble_eq_true rfl, Nat.le_of_ble_eq_true rfl⟩) hP hD hS hA [4] [0, 1, 2, 3, 5, 6, 7, 8] rfl rfl (by decide) (by decide) (fun u H locs hw_19 hP hD hS => ?_)
              have hP : va_P D vwCl [(a6, .inl (cI, 12, .inl (nF gn))), (a3, .inl (cI, 98816, .inl (nF gz))), (a19, .inl (cI, 16, .inl (nF gg))), (tx, .inl (cI, 98816, .inl (nF gt))), (a7, .inl (cI, 256, .inl (nF gS))), (a8, .inl (cI, 240, .inl (nF gr))), (a9, .inl (cI, 16, .inl (nF tk.1))), (a10, .inl (cI, 16, .inl (nF tk.2))), (mo, .inr (7, mFs thr a1 a2 a3 (nI lt) (nI lb) (nI lz) ci a4 a5 a6 nu bk se op fa a7 a8 a9 a10 a11 (nI rn) x_4 x_6 ((smx x_4 x_6 (((sRowx x_4 x_6 gt nn i (r1.1, r1.2)).1), ((sRowx x_4 x_6 gt nn i (r1.1, r1.2)).2)) (m8 gt (16 * i) nn) (m8 gt ((16 * i) + 8) nn)).1) ((smx x_4 x_6 (((sRowx x_4 x_6 gt nn i (r1.1, r1.2)).1), ((sRowx x_4 x_6 gt nn i (r1.1, r1.2)).2)) (m8 gt (16 * i) nn) (m8 gt ((16 * i) + 8) nn)).2) a12 a13 a14 a15 a16 a17 a18 a19 a20))] H := hP
              have hD : va_D A [(a6, .inl (cI, 12, .inl (nF gn))), (a3, .inl (cI, 98816, .inl (nF gz))), (a19, .inl (cI, 16, .inl (nF gg))), (tx, .inl (cI, 98816, .inl (nF gt))), (a7, .inl (cI, 256, .inl (nF gS))), (a8, .inl (cI, 240, .inl (nF gr))), (a9, .inl (cI, 16, .inl (nF tk.1))), (a10, .inl (cI, 16, .inl (nF tk.2))), (mo, .inr (7, mFs thr a1 a2 a3 (nI lt) (nI lb) (nI lz) ci a4 a5 a6 nu bk se op fa a7 a8 a9 a10 a11 (nI rn) x_4 x_6 ((smx x_4 x_6 (((sRowx x_4 x_6 gt nn i (r1.1, r1.2)).1), ((sRowx x_4 x_6 gt nn i (r1.1, r1.2)).2)) (m8 gt (16 * i) nn) (m8 gt ((16 * i) + 8) nn)).1) ((smx x_4 x_6 (((sRowx x_4 x_6 gt nn i (r1.1, r1.2)).1), ((sRowx x_4 x_6 gt nn i (r1.1, r1.2)).2)) (m8 gt (16 * i) nn) (m8 gt ((16 * i) + 8) nn)).2) a12 a13 a14 a15 a16 a17 a18 a19 a20))] := hD
              refine lv_iinc (v := nI ((16 * i) + 16)) (lv' := [(3, .int (nI ((16 * i) + 16))), (0, .ref mo), (1, .ref tx), (2, .int (nI nn))]) hx hb d_M_tagAes_137 hl (k := 0) rfl (sb_inc (a := 16 * i) (b := (16 * i) + 16) (d := 16) rfl (by decide) (by omega)) (by decide) rfl (fun ls hl => ?_)
              refine lv_goto (tgt := 113) hx hb d_M_tagAes_140 (by decide) ?_
              rw [show nI ((16 * i) + 16) = nI (16 * (i + 1)) from congrArg nI (by omega)] at hl
              rw [show (smx x_4 x_6 (((sRowx x_4 x_6 gt nn i (r1.1, r1.2)).1), ((sRowx x_4 x_6 gt nn i (r1.1, r1.2)).2)) (m8 gt (16 * i) nn) (m8 gt ((16 * i) + 8) nn)).1 = (sRowx x_4 x_6 gt nn (i + 1) (r1.1, r1.2)).1 from rfl] at hP hD
              rw [show (smx x_4 x_6 (((sRowx x_4 x_6 gt nn i (r1.1, r1.2)).1), ((sRowx x_4 x_6 gt nn i (r1.1, r1.2)).2)) (m8 gt (16 * i) nn) (m8 gt ((16 * i) + 8) nn)).2 = (sRowx x_4 x_6 gt nn (i + 1) (r1.1, r1.2)).2 from rfl] at hP hD
              exact ih3 (i + 1) (by omega) _ _ ls (hP.sub [0, 1, 2, 3, 8, 4, 5, 6, 7] rfl) (hD.sub [0, 1, 2, 3, 8, 4, 5, 6, 7] (by decide) rfl) hS (lv_sub hl [0, 1, 2, 3] rfl)
          exact lp3 ((nn + 15) / 16) 0 (by omega) _ _ ls (hP.sub [0, 1, 2, 3, 4, 5, 6, 7, 8] rfl) (hD.sub [0, 1, 2, 3, 4, 5, 6, 7, 8] (by decide) rfl) hS (lv_sub hl [0, 1, 2, 3] rfl)
        | succ d2 ih2 =>
          intro i hi2 H locs ls hP hD hS hl
          refine lv_iload_n hx hb d_M_tagAes_66 rfl (lv_at hl 0 rfl) ?_
          refine lv_aload_n hx hb d_M_tagAes_67 rfl (lv_at hl 1 rfl) ?_
          refine va_get (D := D) (ci := 7) (v := .int (nI lz)) (C := R_M) (T := F_M) (N := 35) hx hb hts in_M hown hG.1 hP 4 rfl rfl 6 (by decide) (hts _ k_703) (fun _ h9 => h9) rfl d_M_tagAes_68 ?_
          refine lv_icmp_ge (tgt := 111) hx hb d_M_tagAes_71 (by decide) (fun c_20 => absurd c_20 (sb_geF (a := 16 * i) (b := lz) rfl rfl (by omega) (by omega) (by omega))) (fun c_20 => ?_)
          refine lv_aload_n hx hb d_M_tagAes_74 rfl (lv_at hl 1 rfl) ?_
          refine lv_aload_n hx hb d_M_tagAes_75 rfl (lv_at hl 1 rfl) ?_
          refine va_get (D := D) (ci := 7) (v := .ref a3) (C := R_M) (T := F_M) (N := 35) hx hb hts in_M hown hG.1 hP 4 rfl rfl 3 (by decide) (hts _ k_700) (fun _ h9 => h9) rfl d_M_tagAes_76 ?_
          refine lv_iload_n hx hb d_M_tagAes_79 rfl (lv_at hl 0 rfl) ?_
          refine lv_aload_n hx hb d_M_tagAes_80 rfl (lv_at hl 1 rfl) ?_
          refine va_get (D := D) (ci := 7) (v := .int (nI lz)) (C := R_M) (T := F_M) (N := 35) hx hb hts in_M hown hG.1 hP 4 rfl rfl 6 (by decide) (hts _ k_703) (fun _ h9 => h9) rfl d_M_tagAes_81 ?_
          refine vp_callSl (va_runS (As := [.ref a3, .int (nI (16 * i)), .int (nI lz)]) (rest := [.ref mo]) ⟨hx, hb, hml, hown, hts⟩ (c_M_eight l D cI cL cB tS tF a3 98816 gz (16 * i) lz (by omega) (by omega) (by omega)) (va_cwS 3 hts (sb_gS k_899 k_900 k_30 k_901) rfl rfl rfl (by decide +kernel) ⟨Nat.le_of_ble_eq_true rfl, Nat.le_of_ble_eq_true rfl⟩) (sb_rS hG hP hS [1] rfl) rfl rfl hl.1 rfl (lv_room (Nat.le_of_ble_eq_true rfl)) d_M_tagAes_84 ⟨Nat.le_of_ble_eq_true rfl, Nat.le_of_ble_eq_true rfl⟩).run (fun r_21 er_21 => ?_)
          subst er_21
          refine lv_aload_n hx hb d_M_tagAes_87 rfl (lv_at hl 1 rfl) ?_
          refine va_get (D := D) (ci := 7) (v := .ref a3) (C := R_M) (T := F_M) (N := 35) hx hb hts in_M hown hG.1 hP 4 rfl rfl 3 (by decide) (hts _ k_700) (fun _ h9 => h9) rfl d_M_tagAes_88 ?_
          refine lv_iload_n hx hb d_M_tagAes_91 rfl (lv_at hl 0 rfl) ?_
          refine lv_bipush (v := 8) hx hb d_M_tagAes_92 (by decide) ?_
          refine lv_iadd hx hb d_M_tagAes_94 ?_
          refine sb_topn ((16 * i) + 8) (nI_add (16 * i) 8) ?_
          refine lv_aload_n hx hb d_M_tagAes_95 rfl (lv_at hl 1 rfl) ?_
          refine va_get (D := D) (ci := 7) (v := .int (nI lz)) (C := R_M) (T := F_M) (N := 35) hx hb hts in_M hown hG.1 hP 4 rfl rfl 6 (by decide) (hts _ k_703) (fun _ h9 => h9) rfl d_M_tagAes_96 ?_
          refine vp_callSl (va_runS (As := [.ref a3, .int (nI ((16 * i) + 8)), .int (nI lz)]) (rest := [.long (m8 gz (16 * i) lz), .ref mo]) ⟨hx, hb, hml, hown, hts⟩ (c_M_eight l D cI cL cB tS tF a3 98816 gz ((16 * i) + 8) lz (by omega) (by omega) (by omega)) (va_cwS 3 hts (sb_gS k_899 k_900 k_30 k_901) rfl rfl rfl (by decide +kernel) ⟨Nat.le_of_ble_eq_true rfl, Nat.le_of_ble_eq_true rfl⟩) (sb_rS hG hP hS [1] rfl) rfl rfl hl.1 rfl (lv_room (Nat.le_of_ble_eq_true rfl)) d_M_tagAes_99 ⟨Nat.le_of_ble_eq_true rfl, Nat.le_of_ble_eq_true rfl⟩).run (fun r_22 er_22 => ?_)
          subst er_22
          refine sb_callv (wr := [(a6, .inl (cI, 12, .inl (nF gn))), (a3, .inl (cI, 98816, .inl (nF gz))), (a19, .inl (cI, 16, .inl (nF gg))), (tx, .inl (cI, 98816, .inl (nF gt))), (a7, .inl (cI, 256, .inl (nF gS))), (a8, .inl (cI, 240, .inl (nF gr))), (a9, .inl (cI, 16, .inl (nF tk.1))), (a10, .inl (cI, 16, .inl (nF tk.2)))]) (va_runV (As := [.long (m8 gz (16 * i) lz), .long (m8 gz ((16 * i) + 8) lz)]) (rest := []) ⟨hx, hb, hml, hown, hts⟩ (c_M_summed l D cI cL cB tS tF mo a1 a2 a3 a4 a5 a6 a7 a8 a9 a10 a11 a12 a13 a14 a15 a16 a17 a18 a19 a20 thr ci bk se op fa lt lb lz rn nu x_4 x_6 ((sRowx x_4 x_6 gz lz i (0, 0)).1) ((sRowx x_4 x_6 gz lz i (0, 0)).2) (m8 gz (16 * i) lz) (m8 gz ((16 * i) + 8) lz) _ ) (cwV 2 hts (sb_gV k_902 k_904 k_20 k_30 k_905) rfl rfl rfl (by decide +kernel) ⟨Nat.le_of_ble_eq_true rfl, Nat.le_of_ble_eq_true rfl⟩) (sb_pV hG hP hD hS hA [4] (by decide) rfl (ci := 7) (q0 := 4) rfl rfl) rfl rfl hl.1 rfl (lv_room (Nat.le_of_ble_eq_true rfl)) d_M_tagAes_102 ⟨Nat.le_of_ble_eq_true rfl, Nat.le_of_ble_eq_true rfl⟩) hP hD hS hA [4] [0, 1, 2, 3, 5, 6, 7, 8] rfl rfl (by decide) (by decide) (fun u H locs hw_23 hP hD hS => ?_)
          have hP : va_P D vwCl [(a6, .inl (cI, 12, .inl (nF gn))), (a3, .inl (cI, 98816, .inl (nF gz))), (a19, .inl (cI, 16, .inl (nF gg))), (tx, .inl (cI, 98816, .inl (nF gt))), (a7, .inl (cI, 256, .inl (nF gS))), (a8, .inl (cI, 240, .inl (nF gr))), (a9, .inl (cI, 16, .inl (nF tk.1))), (a10, .inl (cI, 16, .inl (nF tk.2))), (mo, .inr (7, mFs thr a1 a2 a3 (nI lt) (nI lb) (nI lz) ci a4 a5 a6 nu bk se op fa a7 a8 a9 a10 a11 (nI rn) x_4 x_6 ((smx x_4 x_6 (((sRowx x_4 x_6 gz lz i (0, 0)).1), ((sRowx x_4 x_6 gz lz i (0, 0)).2)) (m8 gz (16 * i) lz) (m8 gz ((16 * i) + 8) lz)).1) ((smx x_4 x_6 (((sRowx x_4 x_6 gz lz i (0, 0)).1), ((sRowx x_4 x_6 gz lz i (0, 0)).2)) (m8 gz (16 * i) lz) (m8 gz ((16 * i) + 8) lz)).2) a12 a13 a14 a15 a16 a17 a18 a19 a20))] H := hP
          have hD : va_D A [(a6, .inl (cI, 12, .inl (nF gn))), (a3, .inl (cI, 98816, .inl (nF gz))), (a19, .inl (cI, 16, .inl (nF gg))), (tx, .inl (cI, 98816, .inl (nF gt))), (a7, .inl (cI, 256, .inl (nF gS))), (a8, .inl (cI, 240, .inl (nF gr))), (a9, .inl (cI, 16, .inl (nF tk.1))), (a10, .inl (cI, 16, .inl (nF tk.2))), (mo, .inr (7, mFs thr a1 a2 a3 (nI lt) (nI lb) (nI lz) ci a4 a5 a6 nu bk se op fa a7 a8 a9 a10 a11 (nI rn) x_4 x_6 ((smx x_4 x_6 (((sRowx x_4 x_6 gz lz i (0, 0)).1), ((sRowx x_4 x_6 gz lz i (0, 0)).2)) (m8 gz (16 * i) lz) (m8 gz ((16 * i) + 8) lz)).1) ((smx x_4 x_6 (((sRowx x_4 x_6 gz lz i (0, 0)).1), ((sRowx x_4 x_6 gz lz i (0, 0)).2)) (m8 gz (16 * i) lz) (m8 gz ((16 * i) + 8) lz)).2) a12 a13 a14 a15 a16 a17 a18 a19 a20))] := hD
          refine lv_iinc (v := nI ((16 * i) + 16)) (lv' := [(3, .int (nI ((16 * i) + 16))), (0, .ref mo), (1, .ref tx), (2, .int (nI nn))]) hx hb d_M_tagAes_105 hl (k := 0) rfl (sb_inc (a := 16 * i) (b := (16 * i) + 16) (d := 16) rfl (by decide) (by omega)) (by decide) rfl (fun ls hl => ?_)
          refine lv_goto (tgt := 66) hx hb d_M_tagAes_108 (by decide) ?_
          rw [show nI ((16 * i) + 16) = nI (16 * (i + 1)) from congrArg nI (by omega)] at hl
          rw [show (smx x_4 x_6 (((sRowx x_4 x_6 gz lz i (0, 0)).1), ((sRowx x_4 x_6 gz lz i (0, 0)).2)) (m8 gz (16 * i) lz) (m8 gz ((16 * i) + 8) lz)).1 = (sRowx x_4 x_6 gz lz (i + 1) (0, 0)).1 from rfl] at hP hD
          rw [show (smx x_4 x_6 (((sRowx x_4 x_6 gz lz i (0, 0)).1), ((sRowx x_4 x_6 gz lz i (0, 0)).2)) (m8 gz (16 * i) lz) (m8 gz ((16 * i) + 8) lz)).2 = (sRowx x_4 x_6 gz lz (i + 1) (0, 0)).2 from rfl] at hP hD
          exact ih2 (i + 1) (by omega) _ _ ls (hP.sub [0, 1, 2, 3, 8, 4, 5, 6, 7] rfl) (hD.sub [0, 1, 2, 3, 8, 4, 5, 6, 7] (by decide) rfl) hS (lv_sub hl [0, 1, 2, 3] rfl)
      exact lp2 ((lz + 15) / 16) 0 (by omega) _ _ ls (hP.sub [0, 1, 2, 3, 4, 5, 6, 7, 8] rfl) (hD.sub [0, 1, 2, 3, 4, 5, 6, 7, 8] (by decide) rfl) hS (lv_sub hl [0, 1, 2, 3] rfl)
    | succ d1 ih1 =>
      intro i hi1 H locs ls hP hD hS hl
      refine lv_iload_n hx hb d_M_tagAes_2 rfl (lv_at hl 0 rfl) ?_
      refine lv_bipush (v := 16) hx hb d_M_tagAes_3 (by decide) ?_
      refine lv_icmp_ge (tgt := 21) hx hb d_M_tagAes_5 (by decide) (fun c_24 => absurd c_24 (sb_geF (a := i) (b := 16) rfl rfl (by omega) (by omega) (by omega))) (fun c_24 => ?_)
      refine lv_aload_n hx hb d_M_tagAes_8 rfl (lv_at hl 1 rfl) ?_
      refine va_get (D := D) (ci := 7) (v := .ref a9) (C := R_M) (T := F_M) (N := 35) hx hb hts in_M hown hG.1 hP 0 rfl rfl 18 (by decide) (hts _ k_715) (fun _ h9 => h9) rfl d_M_tagAes_9 ?_
      refine lv_iload_n hx hb d_M_tagAes_12 rfl (lv_at hl 0 rfl) ?_
      refine lv_iconst (v := 0) hx hb d_M_tagAes_13 (by decide) ?_
      refine sb_ist hx hb hG.1 hP hD hS 3 rfl i rfl (by omega) (by omega) d_M_tagAes_14 (fun f_25 H locs ef_25 hP hD hS => ?_)
      have hP : va_P D vwCl [(mo, .inr (7, mFs thr a1 a2 a3 (nI lt) (nI lb) (nI lz) ci a4 a5 a6 nu bk se op fa a7 a8 a9 a10 a11 (nI rn) kh kl sh sl a12 a13 a14 a15 a16 a17 a18 a19 a20)), (a7, .inl (cI, 256, .inl (nF gS))), (a8, .inl (cI, 240, .inl (nF gr))), (a9, .inl (cI, 16, .inl f_25)), (a10, .inl (cI, 16, .inl (nF gm))), (a6, .inl (cI, 12, .inl (nF gn))), (a3, .inl (cI, 98816, .inl (nF gz))), (a19, .inl (cI, 16, .inl (nF gg))), (tx, .inl (cI, 98816, .inl (nF gt)))] H := hP
      have hD : va_D A [(mo, .inr (7, mFs thr a1 a2 a3 (nI lt) (nI lb) (nI lz) ci a4 a5 a6 nu bk se op fa a7 a8 a9 a10 a11 (nI rn) kh kl sh sl a12 a13 a14 a15 a16 a17 a18 a19 a20)), (a7, .inl (cI, 256, .inl (nF gS))), (a8, .inl (cI, 240, .inl (nF gr))), (a9, .inl (cI, 16, .inl f_25)), (a10, .inl (cI, 16, .inl (nF gm))), (a6, .inl (cI, 12, .inl (nF gn))), (a3, .inl (cI, 98816, .inl (nF gz))), (a19, .inl (cI, 16, .inl (nF gg))), (tx, .inl (cI, 98816, .inl (nF gt)))] := hD
      obtain rfl : f_25 = nF (updN (iter nZero i gs) i 0) := ef_25.trans (nF_set _ _ _)
      have hP : va_P D vwCl [(mo, .inr (7, mFs thr a1 a2 a3 (nI lt) (nI lb) (nI lz) ci a4 a5 a6 nu bk se op fa a7 a8 a9 a10 a11 (nI rn) kh kl sh sl a12 a13 a14 a15 a16 a17 a18 a19 a20)), (a7, .inl (cI, 256, .inl (nF gS))), (a8, .inl (cI, 240, .inl (nF gr))), (a9, .inl (cI, 16, .inl (nF (updN (iter nZero i gs) i 0)))), (a10, .inl (cI, 16, .inl (nF gm))), (a6, .inl (cI, 12, .inl (nF gn))), (a3, .inl (cI, 98816, .inl (nF gz))), (a19, .inl (cI, 16, .inl (nF gg))), (tx, .inl (cI, 98816, .inl (nF gt)))] H := hP
      have hD : va_D A [(mo, .inr (7, mFs thr a1 a2 a3 (nI lt) (nI lb) (nI lz) ci a4 a5 a6 nu bk se op fa a7 a8 a9 a10 a11 (nI rn) kh kl sh sl a12 a13 a14 a15 a16 a17 a18 a19 a20)), (a7, .inl (cI, 256, .inl (nF gS))), (a8, .inl (cI, 240, .inl (nF gr))), (a9, .inl (cI, 16, .inl (nF (updN (iter nZero i gs) i 0)))), (a10, .inl (cI, 16, .inl (nF gm))), (a6, .inl (cI, 12, .inl (nF gn))), (a3, .inl (cI, 98816, .inl (nF gz))), (a19, .inl (cI, 16, .inl (nF gg))), (tx, .inl (cI, 98816, .inl (nF gt)))] := hD
      refine lv_iinc (v := nI (i + 1)) (lv' := [(3, .int (nI (i + 1))), (0, .ref mo), (1, .ref tx), (2, .int (nI nn))]) hx hb d_M_tagAes_15 hl (k := 0) rfl (sb_inc (a := i) (b := i + 1) (d := 1) rfl (by decide) (by omega)) (by decide) rfl (fun ls hl => ?_)
      refine lv_goto (tgt := 2) hx hb d_M_tagAes_18 (by decide) ?_
      rw [show nF (updN (iter nZero i gs) i 0) = nF (iter nZero (i + 1) gs) from rfl] at hP hD
      exact ih1 (i + 1) (by omega) _ _ ls (hP.sub [0, 1, 2, 3, 4, 5, 6, 7, 8] rfl) (hD.sub [0, 1, 2, 3, 4, 5, 6, 7, 8] (by decide) rfl) hS (lv_sub hl [0, 1, 2, 3] rfl)
  exact lp1 16 0 (by omega) _ _ ls (hP.sub [0, 1, 2, 3, 4, 5, 6, 7, 8] rfl) (hD.sub [0, 1, 2, 3, 4, 5, 6, 7, 8] (by decide) rfl) hS (lv_sub hl [0, 1, 2, 3] rfl)

theorem d_M_poly_0 : decode b_M_poly 0 = .ok (.iconst 0, 1) := by decide +kernel
theorem d_M_poly_1 : decode b_M_poly 1 = .ok (.istore_n 1, 1) := by decide +kernel
theorem d_M_poly_2 : decode b_M_poly 2 = .ok (.iconst 0, 1) := by decide +kernel
theorem d_M_poly_3 : decode b_M_poly 3 = .ok (.istore_n 2, 1) := by decide +kernel
theorem d_M_poly_4 : decode b_M_poly 4 = .ok (.iload_n 2, 1) := by decide +kernel
theorem d_M_poly_5 : decode b_M_poly 5 = .ok (.bipush 17, 2) := by decide +kernel
theorem d_M_poly_7 : decode b_M_poly 7 = .ok (.if_icmp .ge 41, 3) := by decide +kernel
theorem d_M_poly_10 : decode b_M_poly 10 = .ok (.iload_n 1, 1) := by decide +kernel
theorem d_M_poly_11 : decode b_M_poly 11 = .ok (.aload_n 0, 1) := by decide +kernel
theorem d_M_poly_12 : decode b_M_poly 12 = .ok (.getfield 57, 3) := by decide +kernel
theorem d_M_poly_15 : decode b_M_poly 15 = .ok (.iload_n 2, 1) := by decide +kernel
theorem d_M_poly_16 : decode b_M_poly 16 = .ok (.iaload, 1) := by decide +kernel
theorem d_M_poly_17 : decode b_M_poly 17 = .ok (.aload_n 0, 1) := by decide +kernel
theorem d_M_poly_18 : decode b_M_poly 18 = .ok (.getfield 66, 3) := by decide +kernel
theorem d_M_poly_21 : decode b_M_poly 21 = .ok (.iload_n 2, 1) := by decide +kernel
theorem d_M_poly_22 : decode b_M_poly 22 = .ok (.iaload, 1) := by decide +kernel
theorem d_M_poly_23 : decode b_M_poly 23 = .ok (.iadd, 1) := by decide +kernel
theorem d_M_poly_24 : decode b_M_poly 24 = .ok (.iadd, 1) := by decide +kernel
theorem d_M_poly_25 : decode b_M_poly 25 = .ok (.istore_n 1, 1) := by decide +kernel
theorem d_M_poly_26 : decode b_M_poly 26 = .ok (.aload_n 0, 1) := by decide +kernel
theorem d_M_poly_27 : decode b_M_poly 27 = .ok (.getfield 57, 3) := by decide +kernel
theorem d_M_poly_30 : decode b_M_poly 30 = .ok (.iload_n 2, 1) := by decide +kernel
theorem d_M_poly_31 : decode b_M_poly 31 = .ok (.iload_n 1, 1) := by decide +kernel
theorem d_M_poly_32 : decode b_M_poly 32 = .ok (.sipush 255, 3) := by decide +kernel
theorem d_M_poly_35 : decode b_M_poly 35 = .ok (.iand, 1) := by decide +kernel
theorem d_M_poly_36 : decode b_M_poly 36 = .ok (.iastore, 1) := by decide +kernel
theorem d_M_poly_37 : decode b_M_poly 37 = .ok (.iload_n 1, 1) := by decide +kernel
theorem d_M_poly_38 : decode b_M_poly 38 = .ok (.bipush 8, 2) := by decide +kernel
theorem d_M_poly_40 : decode b_M_poly 40 = .ok (.ishr, 1) := by decide +kernel
theorem d_M_poly_41 : decode b_M_poly 41 = .ok (.istore_n 1, 1) := by decide +kernel
theorem d_M_poly_42 : decode b_M_poly 42 = .ok (.iinc 2 1, 3) := by decide +kernel
theorem d_M_poly_45 : decode b_M_poly 45 = .ok (.goto (-41), 3) := by decide +kernel
theorem d_M_poly_48 : decode b_M_poly 48 = .ok (.iconst 0, 1) := by decide +kernel
theorem d_M_poly_49 : decode b_M_poly 49 = .ok (.istore_n 2, 1) := by decide +kernel
theorem d_M_poly_50 : decode b_M_poly 50 = .ok (.iload_n 2, 1) := by decide +kernel
theorem d_M_poly_51 : decode b_M_poly 51 = .ok (.bipush 40, 2) := by decide +kernel
theorem d_M_poly_53 : decode b_M_poly 53 = .ok (.if_icmp .ge 16, 3) := by decide +kernel
theorem d_M_poly_56 : decode b_M_poly 56 = .ok (.aload_n 0, 1) := by decide +kernel
theorem d_M_poly_57 : decode b_M_poly 57 = .ok (.getfield 63, 3) := by decide +kernel
theorem d_M_poly_60 : decode b_M_poly 60 = .ok (.iload_n 2, 1) := by decide +kernel
theorem d_M_poly_61 : decode b_M_poly 61 = .ok (.iconst 0, 1) := by decide +kernel
theorem d_M_poly_62 : decode b_M_poly 62 = .ok (.iastore, 1) := by decide +kernel
theorem d_M_poly_63 : decode b_M_poly 63 = .ok (.iinc 2 1, 3) := by decide +kernel
theorem d_M_poly_66 : decode b_M_poly 66 = .ok (.goto (-16), 3) := by decide +kernel
theorem d_M_poly_69 : decode b_M_poly 69 = .ok (.iconst 0, 1) := by decide +kernel
theorem d_M_poly_70 : decode b_M_poly 70 = .ok (.istore_n 2, 1) := by decide +kernel
theorem d_M_poly_71 : decode b_M_poly 71 = .ok (.iload_n 2, 1) := by decide +kernel
theorem d_M_poly_72 : decode b_M_poly 72 = .ok (.bipush 17, 2) := by decide +kernel
theorem d_M_poly_74 : decode b_M_poly 74 = .ok (.if_icmp .ge 82, 3) := by decide +kernel
theorem d_M_poly_77 : decode b_M_poly 77 = .ok (.iconst 0, 1) := by decide +kernel
theorem d_M_poly_78 : decode b_M_poly 78 = .ok (.istore_n 1, 1) := by decide +kernel
theorem d_M_poly_79 : decode b_M_poly 79 = .ok (.iconst 0, 1) := by decide +kernel
theorem d_M_poly_80 : decode b_M_poly 80 = .ok (.istore_n 3, 1) := by decide +kernel
theorem d_M_poly_81 : decode b_M_poly 81 = .ok (.iload_n 3, 1) := by decide +kernel
theorem d_M_poly_82 : decode b_M_poly 82 = .ok (.bipush 17, 2) := by decide +kernel
theorem d_M_poly_84 : decode b_M_poly 84 = .ok (.if_icmp .lt 7, 3) := by decide +kernel
theorem d_M_poly_87 : decode b_M_poly 87 = .ok (.iload_n 1, 1) := by decide +kernel
theorem d_M_poly_88 : decode b_M_poly 88 = .ok (.ifCond .le 62, 3) := by decide +kernel
theorem d_M_poly_91 : decode b_M_poly 91 = .ok (.iload_n 1, 1) := by decide +kernel
theorem d_M_poly_92 : decode b_M_poly 92 = .ok (.aload_n 0, 1) := by decide +kernel
theorem d_M_poly_93 : decode b_M_poly 93 = .ok (.getfield 63, 3) := by decide +kernel
theorem d_M_poly_96 : decode b_M_poly 96 = .ok (.iload_n 2, 1) := by decide +kernel
theorem d_M_poly_97 : decode b_M_poly 97 = .ok (.iload_n 3, 1) := by decide +kernel
theorem d_M_poly_98 : decode b_M_poly 98 = .ok (.iadd, 1) := by decide +kernel
theorem d_M_poly_99 : decode b_M_poly 99 = .ok (.iaload, 1) := by decide +kernel
theorem d_M_poly_100 : decode b_M_poly 100 = .ok (.iload_n 3, 1) := by decide +kernel
theorem d_M_poly_101 : decode b_M_poly 101 = .ok (.bipush 17, 2) := by decide +kernel
theorem d_M_poly_103 : decode b_M_poly 103 = .ok (.if_icmp .ge 19, 3) := by decide +kernel
theorem d_M_poly_106 : decode b_M_poly 106 = .ok (.aload_n 0, 1) := by decide +kernel
theorem d_M_poly_107 : decode b_M_poly 107 = .ok (.getfield 57, 3) := by decide +kernel
theorem d_M_poly_110 : decode b_M_poly 110 = .ok (.iload_n 2, 1) := by decide +kernel
theorem d_M_poly_111 : decode b_M_poly 111 = .ok (.iaload, 1) := by decide +kernel
theorem d_M_poly_112 : decode b_M_poly 112 = .ok (.aload_n 0, 1) := by decide +kernel
theorem d_M_poly_113 : decode b_M_poly 113 = .ok (.getfield 60, 3) := by decide +kernel
theorem d_M_poly_116 : decode b_M_poly 116 = .ok (.iload_n 3, 1) := by decide +kernel
theorem d_M_poly_117 : decode b_M_poly 117 = .ok (.iaload, 1) := by decide +kernel
theorem d_M_poly_118 : decode b_M_poly 118 = .ok (.imul, 1) := by decide +kernel
theorem d_M_poly_119 : decode b_M_poly 119 = .ok (.goto 4, 3) := by decide +kernel
theorem d_M_poly_122 : decode b_M_poly 122 = .ok (.iconst 0, 1) := by decide +kernel
theorem d_M_poly_123 : decode b_M_poly 123 = .ok (.iadd, 1) := by decide +kernel
theorem d_M_poly_124 : decode b_M_poly 124 = .ok (.iadd, 1) := by decide +kernel
theorem d_M_poly_125 : decode b_M_poly 125 = .ok (.istore_n 1, 1) := by decide +kernel
theorem d_M_poly_126 : decode b_M_poly 126 = .ok (.aload_n 0, 1) := by decide +kernel
theorem d_M_poly_127 : decode b_M_poly 127 = .ok (.getfield 63, 3) := by decide +kernel
theorem d_M_poly_130 : decode b_M_poly 130 = .ok (.iload_n 2, 1) := by decide +kernel
theorem d_M_poly_131 : decode b_M_poly 131 = .ok (.iload_n 3, 1) := by decide +kernel
theorem d_M_poly_132 : decode b_M_poly 132 = .ok (.iadd, 1) := by decide +kernel
theorem d_M_poly_133 : decode b_M_poly 133 = .ok (.iload_n 1, 1) := by decide +kernel
theorem d_M_poly_134 : decode b_M_poly 134 = .ok (.sipush 255, 3) := by decide +kernel
theorem d_M_poly_137 : decode b_M_poly 137 = .ok (.iand, 1) := by decide +kernel
theorem d_M_poly_138 : decode b_M_poly 138 = .ok (.iastore, 1) := by decide +kernel
theorem d_M_poly_139 : decode b_M_poly 139 = .ok (.iload_n 1, 1) := by decide +kernel
theorem d_M_poly_140 : decode b_M_poly 140 = .ok (.bipush 8, 2) := by decide +kernel
theorem d_M_poly_142 : decode b_M_poly 142 = .ok (.ishr, 1) := by decide +kernel
theorem d_M_poly_143 : decode b_M_poly 143 = .ok (.istore_n 1, 1) := by decide +kernel
theorem d_M_poly_144 : decode b_M_poly 144 = .ok (.iinc 3 1, 3) := by decide +kernel
theorem d_M_poly_147 : decode b_M_poly 147 = .ok (.goto (-66), 3) := by decide +kernel
theorem d_M_poly_150 : decode b_M_poly 150 = .ok (.iinc 2 1, 3) := by decide +kernel
theorem d_M_poly_153 : decode b_M_poly 153 = .ok (.goto (-82), 3) := by decide +kernel
theorem d_M_poly_156 : decode b_M_poly 156 = .ok (.iconst 0, 1) := by decide +kernel
theorem d_M_poly_157 : decode b_M_poly 157 = .ok (.istore_n 2, 1) := by decide +kernel
theorem d_M_poly_158 : decode b_M_poly 158 = .ok (.iload_n 2, 1) := by decide +kernel
theorem d_M_poly_159 : decode b_M_poly 159 = .ok (.iconst 4, 1) := by decide +kernel
theorem d_M_poly_160 : decode b_M_poly 160 = .ok (.if_icmp .ge 137, 3) := by decide +kernel
theorem d_M_poly_163 : decode b_M_poly 163 = .ok (.iconst 0, 1) := by decide +kernel
theorem d_M_poly_164 : decode b_M_poly 164 = .ok (.istore_n 1, 1) := by decide +kernel
theorem d_M_poly_165 : decode b_M_poly 165 = .ok (.iconst 0, 1) := by decide +kernel
theorem d_M_poly_166 : decode b_M_poly 166 = .ok (.istore_n 3, 1) := by decide +kernel
theorem d_M_poly_167 : decode b_M_poly 167 = .ok (.iload_n 3, 1) := by decide +kernel
theorem d_M_poly_168 : decode b_M_poly 168 = .ok (.bipush 17, 2) := by decide +kernel
theorem d_M_poly_170 : decode b_M_poly 170 = .ok (.if_icmp .ge 85, 3) := by decide +kernel
theorem d_M_poly_173 : decode b_M_poly 173 = .ok (.iload_n 3, 1) := by decide +kernel
theorem d_M_poly_174 : decode b_M_poly 174 = .ok (.bipush 16, 2) := by decide +kernel
theorem d_M_poly_176 : decode b_M_poly 176 = .ok (.if_icmp .ne 15, 3) := by decide +kernel
theorem d_M_poly_179 : decode b_M_poly 179 = .ok (.aload_n 0, 1) := by decide +kernel
theorem d_M_poly_180 : decode b_M_poly 180 = .ok (.getfield 63, 3) := by decide +kernel
theorem d_M_poly_183 : decode b_M_poly 183 = .ok (.bipush 16, 2) := by decide +kernel
theorem d_M_poly_185 : decode b_M_poly 185 = .ok (.iaload, 1) := by decide +kernel
theorem d_M_poly_186 : decode b_M_poly 186 = .ok (.iconst 3, 1) := by decide +kernel
theorem d_M_poly_187 : decode b_M_poly 187 = .ok (.iand, 1) := by decide +kernel
theorem d_M_poly_188 : decode b_M_poly 188 = .ok (.goto 9, 3) := by decide +kernel
theorem d_M_poly_191 : decode b_M_poly 191 = .ok (.aload_n 0, 1) := by decide +kernel
theorem d_M_poly_192 : decode b_M_poly 192 = .ok (.getfield 63, 3) := by decide +kernel
theorem d_M_poly_195 : decode b_M_poly 195 = .ok (.iload_n 3, 1) := by decide +kernel
theorem d_M_poly_196 : decode b_M_poly 196 = .ok (.iaload, 1) := by decide +kernel
theorem d_M_poly_197 : decode b_M_poly 197 = .ok (.istore 4, 2) := by decide +kernel
theorem d_M_poly_199 : decode b_M_poly 199 = .ok (.iload_n 1, 1) := by decide +kernel
theorem d_M_poly_200 : decode b_M_poly 200 = .ok (.iload 4, 2) := by decide +kernel
theorem d_M_poly_202 : decode b_M_poly 202 = .ok (.iconst 5, 1) := by decide +kernel
theorem d_M_poly_203 : decode b_M_poly 203 = .ok (.aload_n 0, 1) := by decide +kernel
theorem d_M_poly_204 : decode b_M_poly 204 = .ok (.getfield 63, 3) := by decide +kernel
theorem d_M_poly_207 : decode b_M_poly 207 = .ok (.bipush 16, 2) := by decide +kernel
theorem d_M_poly_209 : decode b_M_poly 209 = .ok (.iload_n 3, 1) := by decide +kernel
theorem d_M_poly_210 : decode b_M_poly 210 = .ok (.iadd, 1) := by decide +kernel
theorem d_M_poly_211 : decode b_M_poly 211 = .ok (.iaload, 1) := by decide +kernel
theorem d_M_poly_212 : decode b_M_poly 212 = .ok (.iconst 2, 1) := by decide +kernel
theorem d_M_poly_213 : decode b_M_poly 213 = .ok (.ishr, 1) := by decide +kernel
theorem d_M_poly_214 : decode b_M_poly 214 = .ok (.aload_n 0, 1) := by decide +kernel
theorem d_M_poly_215 : decode b_M_poly 215 = .ok (.getfield 63, 3) := by decide +kernel
theorem d_M_poly_218 : decode b_M_poly 218 = .ok (.bipush 17, 2) := by decide +kernel
theorem d_M_poly_220 : decode b_M_poly 220 = .ok (.iload_n 3, 1) := by decide +kernel
theorem d_M_poly_221 : decode b_M_poly 221 = .ok (.iadd, 1) := by decide +kernel
theorem d_M_poly_222 : decode b_M_poly 222 = .ok (.iaload, 1) := by decide +kernel
theorem d_M_poly_223 : decode b_M_poly 223 = .ok (.iconst 3, 1) := by decide +kernel
theorem d_M_poly_224 : decode b_M_poly 224 = .ok (.iand, 1) := by decide +kernel
theorem d_M_poly_225 : decode b_M_poly 225 = .ok (.bipush 6, 2) := by decide +kernel
theorem d_M_poly_227 : decode b_M_poly 227 = .ok (.ishl, 1) := by decide +kernel
theorem d_M_poly_228 : decode b_M_poly 228 = .ok (.ior, 1) := by decide +kernel
theorem d_M_poly_229 : decode b_M_poly 229 = .ok (.imul, 1) := by decide +kernel
theorem d_M_poly_230 : decode b_M_poly 230 = .ok (.iadd, 1) := by decide +kernel
theorem d_M_poly_231 : decode b_M_poly 231 = .ok (.iadd, 1) := by decide +kernel
theorem d_M_poly_232 : decode b_M_poly 232 = .ok (.istore_n 1, 1) := by decide +kernel
theorem d_M_poly_233 : decode b_M_poly 233 = .ok (.aload_n 0, 1) := by decide +kernel
theorem d_M_poly_234 : decode b_M_poly 234 = .ok (.getfield 57, 3) := by decide +kernel
theorem d_M_poly_237 : decode b_M_poly 237 = .ok (.iload_n 3, 1) := by decide +kernel
theorem d_M_poly_238 : decode b_M_poly 238 = .ok (.iload_n 1, 1) := by decide +kernel
theorem d_M_poly_239 : decode b_M_poly 239 = .ok (.sipush 255, 3) := by decide +kernel
theorem d_M_poly_242 : decode b_M_poly 242 = .ok (.iand, 1) := by decide +kernel
theorem d_M_poly_243 : decode b_M_poly 243 = .ok (.iastore, 1) := by decide +kernel
theorem d_M_poly_244 : decode b_M_poly 244 = .ok (.iload_n 1, 1) := by decide +kernel
theorem d_M_poly_245 : decode b_M_poly 245 = .ok (.bipush 8, 2) := by decide +kernel
theorem d_M_poly_247 : decode b_M_poly 247 = .ok (.ishr, 1) := by decide +kernel
theorem d_M_poly_248 : decode b_M_poly 248 = .ok (.istore_n 1, 1) := by decide +kernel
theorem d_M_poly_249 : decode b_M_poly 249 = .ok (.iinc 3 1, 3) := by decide +kernel
theorem d_M_poly_252 : decode b_M_poly 252 = .ok (.goto (-85), 3) := by decide +kernel
theorem d_M_poly_255 : decode b_M_poly 255 = .ok (.iconst 0, 1) := by decide +kernel
theorem d_M_poly_256 : decode b_M_poly 256 = .ok (.istore_n 3, 1) := by decide +kernel
theorem d_M_poly_257 : decode b_M_poly 257 = .ok (.iload_n 3, 1) := by decide +kernel
theorem d_M_poly_258 : decode b_M_poly 258 = .ok (.bipush 40, 2) := by decide +kernel
theorem d_M_poly_260 : decode b_M_poly 260 = .ok (.if_icmp .ge 31, 3) := by decide +kernel
theorem d_M_poly_263 : decode b_M_poly 263 = .ok (.aload_n 0, 1) := by decide +kernel
theorem d_M_poly_264 : decode b_M_poly 264 = .ok (.getfield 63, 3) := by decide +kernel
theorem d_M_poly_267 : decode b_M_poly 267 = .ok (.iload_n 3, 1) := by decide +kernel
theorem d_M_poly_268 : decode b_M_poly 268 = .ok (.iload_n 3, 1) := by decide +kernel
theorem d_M_poly_269 : decode b_M_poly 269 = .ok (.bipush 17, 2) := by decide +kernel
theorem d_M_poly_271 : decode b_M_poly 271 = .ok (.if_icmp .ge 12, 3) := by decide +kernel
theorem d_M_poly_274 : decode b_M_poly 274 = .ok (.aload_n 0, 1) := by decide +kernel
theorem d_M_poly_275 : decode b_M_poly 275 = .ok (.getfield 57, 3) := by decide +kernel
theorem d_M_poly_278 : decode b_M_poly 278 = .ok (.iload_n 3, 1) := by decide +kernel
theorem d_M_poly_279 : decode b_M_poly 279 = .ok (.iaload, 1) := by decide +kernel
theorem d_M_poly_280 : decode b_M_poly 280 = .ok (.goto 4, 3) := by decide +kernel
theorem d_M_poly_283 : decode b_M_poly 283 = .ok (.iconst 0, 1) := by decide +kernel
theorem d_M_poly_284 : decode b_M_poly 284 = .ok (.iastore, 1) := by decide +kernel
theorem d_M_poly_285 : decode b_M_poly 285 = .ok (.iinc 3 1, 3) := by decide +kernel
theorem d_M_poly_288 : decode b_M_poly 288 = .ok (.goto (-31), 3) := by decide +kernel
theorem d_M_poly_291 : decode b_M_poly 291 = .ok (.iinc 2 1, 3) := by decide +kernel
theorem d_M_poly_294 : decode b_M_poly 294 = .ok (.goto (-136), 3) := by decide +kernel
theorem d_M_poly_297 : decode b_M_poly 297 = .ok (.aload_n 0, 1) := by decide +kernel
theorem d_M_poly_298 : decode b_M_poly 298 = .ok (.getfield 57, 3) := by decide +kernel
theorem d_M_poly_301 : decode b_M_poly 301 = .ok (.bipush 16, 2) := by decide +kernel
theorem d_M_poly_303 : decode b_M_poly 303 = .ok (.iaload, 1) := by decide +kernel
theorem d_M_poly_304 : decode b_M_poly 304 = .ok (.iconst 3, 1) := by decide +kernel
theorem d_M_poly_305 : decode b_M_poly 305 = .ok (.if_icmp .ne 19, 3) := by decide +kernel
theorem d_M_poly_308 : decode b_M_poly 308 = .ok (.aload_n 0, 1) := by decide +kernel
theorem d_M_poly_309 : decode b_M_poly 309 = .ok (.getfield 57, 3) := by decide +kernel
theorem d_M_poly_312 : decode b_M_poly 312 = .ok (.iconst 0, 1) := by decide +kernel
theorem d_M_poly_313 : decode b_M_poly 313 = .ok (.iaload, 1) := by decide +kernel
theorem d_M_poly_314 : decode b_M_poly 314 = .ok (.sipush 251, 3) := by decide +kernel
theorem d_M_poly_317 : decode b_M_poly 317 = .ok (.if_icmp .lt 7, 3) := by decide +kernel
theorem d_M_poly_320 : decode b_M_poly 320 = .ok (.iconst 1, 1) := by decide +kernel
theorem d_M_poly_321 : decode b_M_poly 321 = .ok (.goto 4, 3) := by decide +kernel
theorem d_M_poly_324 : decode b_M_poly 324 = .ok (.iconst 0, 1) := by decide +kernel
theorem d_M_poly_325 : decode b_M_poly 325 = .ok (.istore_n 2, 1) := by decide +kernel
theorem d_M_poly_326 : decode b_M_poly 326 = .ok (.iconst 1, 1) := by decide +kernel
theorem d_M_poly_327 : decode b_M_poly 327 = .ok (.istore_n 3, 1) := by decide +kernel
theorem d_M_poly_328 : decode b_M_poly 328 = .ok (.iload_n 3, 1) := by decide +kernel
theorem d_M_poly_329 : decode b_M_poly 329 = .ok (.bipush 16, 2) := by decide +kernel
theorem d_M_poly_331 : decode b_M_poly 331 = .ok (.if_icmp .ge 23, 3) := by decide +kernel
theorem d_M_poly_334 : decode b_M_poly 334 = .ok (.aload_n 0, 1) := by decide +kernel
theorem d_M_poly_335 : decode b_M_poly 335 = .ok (.getfield 57, 3) := by decide +kernel
theorem d_M_poly_338 : decode b_M_poly 338 = .ok (.iload_n 3, 1) := by decide +kernel
theorem d_M_poly_339 : decode b_M_poly 339 = .ok (.iaload, 1) := by decide +kernel
theorem d_M_poly_340 : decode b_M_poly 340 = .ok (.sipush 255, 3) := by decide +kernel
theorem d_M_poly_343 : decode b_M_poly 343 = .ok (.if_icmp .eq 5, 3) := by decide +kernel
theorem d_M_poly_346 : decode b_M_poly 346 = .ok (.iconst 0, 1) := by decide +kernel
theorem d_M_poly_347 : decode b_M_poly 347 = .ok (.istore_n 2, 1) := by decide +kernel
theorem d_M_poly_348 : decode b_M_poly 348 = .ok (.iinc 3 1, 3) := by decide +kernel
theorem d_M_poly_351 : decode b_M_poly 351 = .ok (.goto (-23), 3) := by decide +kernel
theorem d_M_poly_354 : decode b_M_poly 354 = .ok (.iload_n 2, 1) := by decide +kernel
theorem d_M_poly_355 : decode b_M_poly 355 = .ok (.ifCond .ne 4, 3) := by decide +kernel
theorem d_M_poly_358 : decode b_M_poly 358 = .ok (.return_, 1) := by decide +kernel
theorem d_M_poly_359 : decode b_M_poly 359 = .ok (.aload_n 0, 1) := by decide +kernel
theorem d_M_poly_360 : decode b_M_poly 360 = .ok (.getfield 57, 3) := by decide +kernel
theorem d_M_poly_363 : decode b_M_poly 363 = .ok (.iconst 0, 1) := by decide +kernel
theorem d_M_poly_364 : decode b_M_poly 364 = .ok (.dup2, 1) := by decide +kernel
theorem d_M_poly_365 : decode b_M_poly 365 = .ok (.iaload, 1) := by decide +kernel
theorem d_M_poly_366 : decode b_M_poly 366 = .ok (.sipush 251, 3) := by decide +kernel
theorem d_M_poly_369 : decode b_M_poly 369 = .ok (.isub, 1) := by decide +kernel
theorem d_M_poly_370 : decode b_M_poly 370 = .ok (.iastore, 1) := by decide +kernel
theorem d_M_poly_371 : decode b_M_poly 371 = .ok (.iconst 1, 1) := by decide +kernel
theorem d_M_poly_372 : decode b_M_poly 372 = .ok (.istore_n 3, 1) := by decide +kernel
theorem d_M_poly_373 : decode b_M_poly 373 = .ok (.iload_n 3, 1) := by decide +kernel
theorem d_M_poly_374 : decode b_M_poly 374 = .ok (.bipush 17, 2) := by decide +kernel
theorem d_M_poly_376 : decode b_M_poly 376 = .ok (.if_icmp .ge 16, 3) := by decide +kernel
theorem d_M_poly_379 : decode b_M_poly 379 = .ok (.aload_n 0, 1) := by decide +kernel
theorem d_M_poly_380 : decode b_M_poly 380 = .ok (.getfield 57, 3) := by decide +kernel
theorem d_M_poly_383 : decode b_M_poly 383 = .ok (.iload_n 3, 1) := by decide +kernel
theorem d_M_poly_384 : decode b_M_poly 384 = .ok (.iconst 0, 1) := by decide +kernel
theorem d_M_poly_385 : decode b_M_poly 385 = .ok (.iastore, 1) := by decide +kernel
theorem d_M_poly_386 : decode b_M_poly 386 = .ok (.iinc 3 1, 3) := by decide +kernel
theorem d_M_poly_389 : decode b_M_poly 389 = .ok (.goto (-16), 3) := by decide +kernel
theorem d_M_poly_392 : decode b_M_poly 392 = .ok (.return_, 1) := by decide +kernel

def rm_M_poly : Room := { frames := 0, cells := 0, slots := 0, locals := 0 }
set_option maxHeartbeats 4000000 in
set_option maxRecDepth 100000 in
theorem c_M_poly (l : Launch) (D : va_G) (cI cL cB : ClassId) (tS tF : Nat) (mo : Nat) (a1 : Nat) (a2 : Nat) (a3 : Nat) (a4 : Nat) (a5 : Nat) (a6 : Nat) (a7 : Nat) (a8 : Nat) (a9 : Nat) (a10 : Nat) (a11 : Nat) (a12 : Nat) (a13 : Nat) (a14 : Nat) (a15 : Nat) (a16 : Nat) (a17 : Nat) (a18 : Nat) (a19 : Nat) (a20 : Nat) (thr : Int32) (ci : Int32) (bk : Int32) (se : Int32) (op : Int32) (fa : Int32) (lt : Nat) (lb : Nat) (lz : Nat) (rn : Nat) (nu : Int64) (kh : Int64) (kl : Int64) (sh : Int64) (sl : Int64) (ga : Nat → Nat) (gb : Nat → Nat) (gd : Nat → Nat) (gc : Nat → Nat) (sz : Nat) (hga : By ga) (hgb : By gb) (hgd : By gd) (hgc : By gc) : Met l y_M_poly (sbw y_M_poly b_M_poly 5 none) rm_M_poly (sbPc D cI cL cB tS tF [.ref mo] sz [(mo, .inr (7, mFs thr a1 a2 a3 (nI lt) (nI lb) (nI lz) ci a4 a5 a6 nu bk se op fa a7 a8 a9 a10 a11 (nI rn) kh kl sh sl a12 a13 a14 a15 a16 a17 a18 a19 a20)), (a15, .inl (cI, 17, .inl (nF ga))), (a16, .inl (cI, 17, .inl (nF gb))), (a17, .inl (cI, 40, .inl (nF gd))), (a18, .inl (cI, 17, .inl (nF gc)))]) (sbQv D (fun (_ : Unit) => True) (fun (_ : Unit) => [(mo, .inr (7, mFs thr a1 a2 a3 (nI lt) (nI lb) (nI lz) ci a4 a5 a6 nu bk se op fa a7 a8 a9 a10 a11 (nI rn) kh kl sh sl a12 a13 a14 a15 a16 a17 a18 a19 a20)), (a15, .inl (cI, 17, .inl (nF (polyT ga gb gd gc)))), (a16, .inl (cI, 17, .inl (nF gb))), (a17, .inl (cI, 40, .inl (nF (polyD ga gb gd gc)))), (a18, .inl (cI, 17, .inl (nF gc)))]) (va_A [(mo, .inr (7, mFs thr a1 a2 a3 (nI lt) (nI lb) (nI lz) ci a4 a5 a6 nu bk se op fa a7 a8 a9 a10 a11 (nI rn) kh kl sh sl a12 a13 a14 a15 a16 a17 a18 a19 a20)), (a15, .inl (cI, 17, .inl (nF ga))), (a16, .inl (cI, 17, .inl (nF gb))), (a17, .inl (cI, 40, .inl (nF gd))), (a18, .inl (cI, 17, .inl (nF gc)))] sz)) 0 0 (va_A [(mo, .inr (7, mFs thr a1 a2 a3 (nI lt) (nI lb) (nI lz) ci a4 a5 a6 nu bk se op fa a7 a8 a9 a10 a11 (nI rn) kh kl sh sl a12 a13 a14 a15 a16 a17 a18 a19 a20)), (a15, .inl (cI, 17, .inl (nF ga))), (a16, .inl (cI, 17, .inl (nF gb))), (a17, .inl (cI, 40, .inl (nF gd))), (a18, .inl (cI, 17, .inl (nF gc)))] sz) := by
  refine sb_ofW (y := y_M_poly) (maxL := 5) (av := [.ref mo]) (Qc := fun A => (sbQv D (fun (_ : Unit) => True) (fun (_ : Unit) => [(mo, .inr (7, mFs thr a1 a2 a3 (nI lt) (nI lb) (nI lz) ci a4 a5 a6 nu bk se op fa a7 a8 a9 a10 a11 (nI rn) kh kl sh sl a12 a13 a14 a15 a16 a17 a18 a19 a20)), (a15, .inl (cI, 17, .inl (nF (polyT ga gb gd gc)))), (a16, .inl (cI, 17, .inl (nF gb))), (a17, .inl (cI, 40, .inl (nF (polyD ga gb gd gc)))), (a18, .inl (cI, 17, .inl (nF gc)))]) A)) (by decide) (Nat.le_of_ble_eq_true rfl) ?_
  intro p e s m args below meth c A ls hx hb hr hml hts hown hlocks hin hsz hP hG hD hA hS hl
  have hl : lv_has ls 5 [(0, .ref mo)] := hl
  refine lv_iconst (v := 0) hx hb d_M_poly_0 (by decide) ?_
  refine lv_istore_n (lv' := [(1, .int 0), (0, .ref mo)]) hx hb d_M_poly_1 rfl hl (by decide) rfl (fun ls hl => ?_)
  refine lv_iconst (v := 0) hx hb d_M_poly_2 (by decide) ?_
  refine lv_istore_n (lv' := [(2, .int 0), (1, .int 0), (0, .ref mo)]) hx hb d_M_poly_3 rfl hl (by decide) rfl (fun ls hl => ?_)
  have lp1 : ∀ (d1 i : Nat), i + d1 = 17 → ∀ (H : Heap) (locs : List Loc) (ls : Array Slot), va_P D vwCl [(mo, .inr (7, mFs thr a1 a2 a3 (nI lt) (nI lb) (nI lz) ci a4 a5 a6 nu bk se op fa a7 a8 a9 a10 a11 (nI rn) kh kl sh sl a12 a13 a14 a15 a16 a17 a18 a19 a20)), (a15, .inl (cI, 17, .inl (nF ((iter (aT gc) i (0, ga)).2)))), (a16, .inl (cI, 17, .inl (nF gb))), (a17, .inl (cI, 40, .inl (nF gd))), (a18, .inl (cI, 17, .inl (nF gc)))] H → va_D A [(mo, .inr (7, mFs thr a1 a2 a3 (nI lt) (nI lb) (nI lz) ci a4 a5 a6 nu bk se op fa a7 a8 a9 a10 a11 (nI rn) kh kl sh sl a12 a13 a14 a15 a16 a17 a18 a19 a20)), (a15, .inl (cI, 17, .inl (nF ((iter (aT gc) i (0, ga)).2)))), (a16, .inl (cI, 17, .inl (nF gb))), (a17, .inl (cI, 40, .inl (nF gd))), (a18, .inl (cI, 17, .inl (nF gc)))] → va_S A s.heap H locs → lv_has ls 5 [(1, .int (nI ((iter (aT gc) i (0, ga)).1))), (2, .int (nI i)), (0, .ref mo)] → W p l e rm_M_poly s m args below meth c H locs 0 0 (MQ below (sbQv D (fun (_ : Unit) => True) (fun (_ : Unit) => [(mo, .inr (7, mFs thr a1 a2 a3 (nI lt) (nI lb) (nI lz) ci a4 a5 a6 nu bk se op fa a7 a8 a9 a10 a11 (nI rn) kh kl sh sl a12 a13 a14 a15 a16 a17 a18 a19 a20)), (a15, .inl (cI, 17, .inl (nF (polyT ga gb gd gc)))), (a16, .inl (cI, 17, .inl (nF gb))), (a17, .inl (cI, 40, .inl (nF (polyD ga gb gd gc)))), (a18, .inl (cI, 17, .inl (nF gc)))]) A) args s 0 0 A) (F0 m 4 ls []) := by
    intro d1
    induction d1 with
    | zero =>
      intro i hi1 H locs ls hP hD hS hl
      obtain rfl : 17 = i := by omega
      have hB := aT_Bi hgc hga 17
      have hb1 := hB.1
      have hb2 := hB.2 17
      have hb3 := hgc 17
      refine lv_iload_n hx hb d_M_poly_4 rfl (lv_at hl 1 rfl) ?_
      refine lv_bipush (v := 17) hx hb d_M_poly_5 (by decide) ?_
      refine lv_icmp_ge (tgt := 48) hx hb d_M_poly_7 (by decide) (fun c_1 => ?_) (fun c_1 => absurd (sb_geT (a := 17) (b := 17) rfl rfl (by omega) (by omega) (by omega)) c_1)
      refine lv_iconst (v := 0) hx hb d_M_poly_48 (by decide) ?_
      refine lv_istore_n (lv' := [(2, .int 0), (1, .int (nI ((iter (aT gc) 17 (0, ga)).1))), (0, .ref mo)]) hx hb d_M_poly_49 rfl hl (by decide) rfl (fun ls hl => ?_)
      have lp2 : ∀ (d2 i : Nat), i + d2 = 40 → ∀ (H : Heap) (locs : List Loc) (ls : Array Slot), va_P D vwCl [(mo, .inr (7, mFs thr a1 a2 a3 (nI lt) (nI lb) (nI lz) ci a4 a5 a6 nu bk se op fa a7 a8 a9 a10 a11 (nI rn) kh kl sh sl a12 a13 a14 a15 a16 a17 a18 a19 a20)), (a15, .inl (cI, 17, .inl (nF ((iter (aT gc) 17 (0, ga)).2)))), (a16, .inl (cI, 17, .inl (nF gb))), (a17, .inl (cI, 40, .inl (nF (iter nZero i gd)))), (a18, .inl (cI, 17, .inl (nF gc)))] H → va_D A [(mo, .inr (7, mFs thr a1 a2 a3 (nI lt) (nI lb) (nI lz) ci a4 a5 a6 nu bk se op fa a7 a8 a9 a10 a11 (nI rn) kh kl sh sl a12 a13 a14 a15 a16 a17 a18 a19 a20)), (a15, .inl (cI, 17, .inl (nF ((iter (aT gc) 17 (0, ga)).2)))), (a16, .inl (cI, 17, .inl (nF gb))), (a17, .inl (cI, 40, .inl (nF (iter nZero i gd)))), (a18, .inl (cI, 17, .inl (nF gc)))] → va_S A s.heap H locs → lv_has ls 5 [(2, .int (nI i)), (0, .ref mo)] → W p l e rm_M_poly s m args below meth c H locs 0 0 (MQ below (sbQv D (fun (_ : Unit) => True) (fun (_ : Unit) => [(mo, .inr (7, mFs thr a1 a2 a3 (nI lt) (nI lb) (nI lz) ci a4 a5 a6 nu bk se op fa a7 a8 a9 a10 a11 (nI rn) kh kl sh sl a12 a13 a14 a15 a16 a17 a18 a19 a20)), (a15, .inl (cI, 17, .inl (nF (polyT ga gb gd gc)))), (a16, .inl (cI, 17, .inl (nF gb))), (a17, .inl (cI, 40, .inl (nF (polyD ga gb gd gc)))), (a18, .inl (cI, 17, .inl (nF gc)))]) A) args s 0 0 A) (F0 m 50 ls []) := by
        intro d2
        induction d2 with
        | zero =>
          intro i hi2 H locs ls hP hD hS hl
          obtain rfl : 40 = i := by omega
          refine lv_iload_n hx hb d_M_poly_50 rfl (lv_at hl 0 rfl) ?_
          refine lv_bipush (v := 40) hx hb d_M_poly_51 (by decide) ?_
          refine lv_icmp_ge (tgt := 69) hx hb d_M_poly_53 (by decide) (fun c_2 => ?_) (fun c_2 => absurd (sb_geT (a := 40) (b := 40) rfl rfl (by omega) (by omega) (by omega)) c_2)
          refine lv_iconst (v := 0) hx hb d_M_poly_69 (by decide) ?_
          refine lv_istore_n (lv' := [(2, .int 0), (0, .ref mo)]) hx hb d_M_poly_70 rfl hl (by decide) rfl (fun ls hl => ?_)
          have lp3 : ∀ (d3 i : Nat), i + d3 = 17 → ∀ (H : Heap) (locs : List Loc) (ls : Array Slot), va_P D vwCl [(mo, .inr (7, mFs thr a1 a2 a3 (nI lt) (nI lb) (nI lz) ci a4 a5 a6 nu bk se op fa a7 a8 a9 a10 a11 (nI rn) kh kl sh sl a12 a13 a14 a15 a16 a17 a18 a19 a20)), (a15, .inl (cI, 17, .inl (nF (pT1 ga gc)))), (a16, .inl (cI, 17, .inl (nF gb))), (a17, .inl (cI, 40, .inl (nF (pPs (pT1 ga gc) gb gd i)))), (a18, .inl (cI, 17, .inl (nF gc)))] H → va_D A [(mo, .inr (7, mFs thr a1 a2 a3 (nI lt) (nI lb) (nI lz) ci a4 a5 a6 nu bk se op fa a7 a8 a9 a10 a11 (nI rn) kh kl sh sl a12 a13 a14 a15 a16 a17 a18 a19 a20)), (a15, .inl (cI, 17, .inl (nF (pT1 ga gc)))), (a16, .inl (cI, 17, .inl (nF gb))), (a17, .inl (cI, 40, .inl (nF (pPs (pT1 ga gc) gb gd i)))), (a18, .inl (cI, 17, .inl (nF gc)))] → va_S A s.heap H locs → lv_has ls 5 [(2, .int (nI i)), (0, .ref mo)] → W p l e rm_M_poly s m args below meth c H locs 0 0 (MQ below (sbQv D (fun (_ : Unit) => True) (fun (_ : Unit) => [(mo, .inr (7, mFs thr a1 a2 a3 (nI lt) (nI lb) (nI lz) ci a4 a5 a6 nu bk se op fa a7 a8 a9 a10 a11 (nI rn) kh kl sh sl a12 a13 a14 a15 a16 a17 a18 a19 a20)), (a15, .inl (cI, 17, .inl (nF (polyT ga gb gd gc)))), (a16, .inl (cI, 17, .inl (nF gb))), (a17, .inl (cI, 40, .inl (nF (polyD ga gb gd gc)))), (a18, .inl (cI, 17, .inl (nF gc)))]) A) args s 0 0 A) (F0 m 71 ls []) := by
            intro d3
            induction d3 with
            | zero =>
              intro i hi3 H locs ls hP hD hS hl
              obtain rfl : 17 = i := by omega
              have hT := pT1_B hga hgc
              have hPZ := pPs_Z hT hgb hgd 17
              refine lv_iload_n hx hb d_M_poly_71 rfl (lv_at hl 0 rfl) ?_
              refine lv_bipush (v := 17) hx hb d_M_poly_72 (by decide) ?_
              refine lv_icmp_ge (tgt := 156) hx hb d_M_poly_74 (by decide) (fun c_3 => ?_) (fun c_3 => absurd (sb_geT (a := 17) (b := 17) rfl rfl (by omega) (by omega) (by omega)) c_3)
              refine lv_iconst (v := 0) hx hb d_M_poly_156 (by decide) ?_
              refine lv_istore_n (lv' := [(2, .int 0), (0, .ref mo)]) hx hb d_M_poly_157 rfl hl (by decide) rfl (fun ls hl => ?_)
              have lp4 : ∀ (d4 n : Nat), n + d4 = 4 → ∀ (H : Heap) (locs : List Loc) (ls : Array Slot), va_P D vwCl [(mo, .inr (7, mFs thr a1 a2 a3 (nI lt) (nI lb) (nI lz) ci a4 a5 a6 nu bk se op fa a7 a8 a9 a10 a11 (nI rn) kh kl sh sl a12 a13 a14 a15 a16 a17 a18 a19 a20)), (a15, .inl (cI, 17, .inl (nF ((pRed ga gb gd gc n).1)))), (a16, .inl (cI, 17, .inl (nF gb))), (a17, .inl (cI, 40, .inl (nF ((pRed ga gb gd gc n).2)))), (a18, .inl (cI, 17, .inl (nF gc)))] H → va_D A [(mo, .inr (7, mFs thr a1 a2 a3 (nI lt) (nI lb) (nI lz) ci a4 a5 a6 nu bk se op fa a7 a8 a9 a10 a11 (nI rn) kh kl sh sl a12 a13 a14 a15 a16 a17 a18 a19 a20)), (a15, .inl (cI, 17, .inl (nF ((pRed ga gb gd gc n).1)))), (a16, .inl (cI, 17, .inl (nF gb))), (a17, .inl (cI, 40, .inl (nF ((pRed ga gb gd gc n).2)))), (a18, .inl (cI, 17, .inl (nF gc)))] → va_S A s.heap H locs → lv_has ls 5 [(2, .int (nI n)), (0, .ref mo)] → W p l e rm_M_poly s m args below meth c H locs 0 0 (MQ below (sbQv D (fun (_ : Unit) => True) (fun (_ : Unit) => [(mo, .inr (7, mFs thr a1 a2 a3 (nI lt) (nI lb) (nI lz) ci a4 a5 a6 nu bk se op fa a7 a8 a9 a10 a11 (nI rn) kh kl sh sl a12 a13 a14 a15 a16 a17 a18 a19 a20)), (a15, .inl (cI, 17, .inl (nF (polyT ga gb gd gc)))), (a16, .inl (cI, 17, .inl (nF gb))), (a17, .inl (cI, 40, .inl (nF (polyD ga gb gd gc)))), (a18, .inl (cI, 17, .inl (nF gc)))]) A) args s 0 0 A) (F0 m 158 ls []) := by
                intro d4
                induction d4 with
                | zero =>
                  intro n hi4 H locs ls hP hD hS hl
                  obtain rfl : 4 = n := by omega
                  obtain ⟨hR1, hR2⟩ := pRed_B hga hgb hgd hgc 4
                  refine lv_iload_n hx hb d_M_poly_158 rfl (lv_at hl 0 rfl) ?_
                  refine lv_iconst (v := 4) hx hb d_M_poly_159 (by decide) ?_
                  refine lv_icmp_ge (tgt := 297) hx hb d_M_poly_160 (by decide) (fun c_4 => ?_) (fun c_4 => absurd (sb_geT (a := 4) (b := 4) rfl rfl (by omega) (by omega) (by omega)) c_4)
                  have hF := (pRed_B hga hgb hgd hgc 4).1
                  have hf0 := hF 0
                  have hf16 := hF 16
                  refine lv_aload_n hx hb d_M_poly_297 rfl (lv_at hl 1 rfl) ?_
                  refine va_get (D := D) (ci := 7) (v := .ref a15) (C := R_M) (T := F_M) (N := 35) hx hb hts in_M hown hG.1 hP 0 rfl rfl 29 (by decide) (hts _ k_726) (fun _ h9 => h9) rfl d_M_poly_298 ?_
                  refine lv_bipush (v := 16) hx hb d_M_poly_301 (by decide) ?_
                  refine sb_ild hx hb hG.1 hP 1 rfl 16 rfl (by omega) (by omega) d_M_poly_303 ?_
                  refine lv_iconst (v := 3) hx hb d_M_poly_304 (by decide) ?_
                  refine lv_icmp_ne (tgt := 324) hx hb d_M_poly_305 (by decide) (fun c_5 => ?_) (fun c_5 => ?_)
                  · have c_5 := mt (sb_eqI (a := ((pRed ga gb gd gc 4).1) 16) (b := 3) rfl rfl (by omega) (by omega)).mpr c_5
                    refine lv_iconst (v := 0) hx hb d_M_poly_324 (by decide) ?_
                    refine lv_istore_n (lv' := [(2, .int 0), (0, .ref mo)]) hx hb d_M_poly_325 rfl hl (by decide) rfl (fun ls hl => ?_)
                    refine lv_iconst (v := 1) hx hb d_M_poly_326 (by decide) ?_
                    refine lv_istore_n (lv' := [(3, .int 1), (2, .int 0), (0, .ref mo)]) hx hb d_M_poly_327 rfl hl (by decide) rfl (fun ls hl => ?_)
                    have lp5 : ∀ (d5 i : Nat), i + d5 = 15 → ∀ (H : Heap) (locs : List Loc) (ls : Array Slot), va_P D vwCl [(mo, .inr (7, mFs thr a1 a2 a3 (nI lt) (nI lb) (nI lz) ci a4 a5 a6 nu bk se op fa a7 a8 a9 a10 a11 (nI rn) kh kl sh sl a12 a13 a14 a15 a16 a17 a18 a19 a20)), (a15, .inl (cI, 17, .inl (nF ((pRed ga gb gd gc 4).1)))), (a16, .inl (cI, 17, .inl (nF gb))), (a17, .inl (cI, 40, .inl (nF ((pRed ga gb gd gc 4).2)))), (a18, .inl (cI, 17, .inl (nF gc)))] H → va_D A [(mo, .inr (7, mFs thr a1 a2 a3 (nI lt) (nI lb) (nI lz) ci a4 a5 a6 nu bk se op fa a7 a8 a9 a10 a11 (nI rn) kh kl sh sl a12 a13 a14 a15 a16 a17 a18 a19 a20)), (a15, .inl (cI, 17, .inl (nF ((pRed ga gb gd gc 4).1)))), (a16, .inl (cI, 17, .inl (nF gb))), (a17, .inl (cI, 40, .inl (nF ((pRed ga gb gd gc 4).2)))), (a18, .inl (cI, 17, .inl (nF gc)))] → va_S A s.heap H locs → lv_has ls 5 [(2, .int (nI (iter (abS (pRed ga gb gd gc 4).1) i 0))), (3, .int (nI (1 + i))), (0, .ref mo)] → W p l e rm_M_poly s m args below meth c H locs 0 0 (MQ below (sbQv D (fun (_ : Unit) => True) (fun (_ : Unit) => [(mo, .inr (7, mFs thr a1 a2 a3 (nI lt) (nI lb) (nI lz) ci a4 a5 a6 nu bk se op fa a7 a8 a9 a10 a11 (nI rn) kh kl sh sl a12 a13 a14 a15 a16 a17 a18 a19 a20)), (a15, .inl (cI, 17, .inl (nF (polyT ga gb gd gc)))), (a16, .inl (cI, 17, .inl (nF gb))), (a17, .inl (cI, 40, .inl (nF (polyD ga gb gd gc)))), (a18, .inl (cI, 17, .inl (nF gc)))]) A) args s 0 0 A) (F0 m 328 ls []) := by
                      intro d5
                      induction d5 with
                      | zero =>
                        intro i hi5 H locs ls hP hD hS hl
                        obtain rfl : 15 = i := by omega
                        have hfi := hF (1 + 15)
                        have hab := abS_1 (pRed ga gb gd gc 4).1 15
                        have hab0 := abS_0 (pRed ga gb gd gc 4).1 15
                        refine lv_iload_n hx hb d_M_poly_328 rfl (lv_at hl 1 rfl) ?_
                        refine lv_bipush (v := 16) hx hb d_M_poly_329 (by decide) ?_
                        refine lv_icmp_ge (tgt := 354) hx hb d_M_poly_331 (by decide) (fun c_6 => ?_) (fun c_6 => absurd (sb_geT (a := 1 + 15) (b := 16) rfl rfl (by omega) (by omega) (by omega)) c_6)
                        refine lv_iload_n hx hb d_M_poly_354 rfl (lv_at hl 0 rfl) ?_
                        refine lv_if_ne (tgt := 359) hx hb d_M_poly_355 (by decide) (fun c_7 => absurd (by rw [abS_0]; decide) c_7) (fun c_7 => ?_)
                        have t_8 : nF ((pRed ga gb gd gc 4).1) = nF (polyT ga gb gd gc) := (congrArg nF (by unfold polyT pFin; simp only [if_neg c_5]))
                        have hP9 := hP.sub (ws' := [(mo, .inr (7, mFs thr a1 a2 a3 (nI lt) (nI lb) (nI lz) ci a4 a5 a6 nu bk se op fa a7 a8 a9 a10 a11 (nI rn) kh kl sh sl a12 a13 a14 a15 a16 a17 a18 a19 a20)), (a15, .inl (cI, 17, .inl (nF ((pRed ga gb gd gc 4).1)))), (a16, .inl (cI, 17, .inl (nF gb))), (a17, .inl (cI, 40, .inl (nF ((pRed ga gb gd gc 4).2)))), (a18, .inl (cI, 17, .inl (nF gc)))]) [0, 1, 2, 3, 4] rfl
                        have hD9 := hD.sub (ws' := [(mo, .inr (7, mFs thr a1 a2 a3 (nI lt) (nI lb) (nI lz) ci a4 a5 a6 nu bk se op fa a7 a8 a9 a10 a11 (nI rn) kh kl sh sl a12 a13 a14 a15 a16 a17 a18 a19 a20)), (a15, .inl (cI, 17, .inl (nF ((pRed ga gb gd gc 4).1)))), (a16, .inl (cI, 17, .inl (nF gb))), (a17, .inl (cI, 40, .inl (nF ((pRed ga gb gd gc 4).2)))), (a18, .inl (cI, 17, .inl (nF gc)))]) [0, 1, 2, 3, 4] (by decide) rfl
                        rw [t_8] at hP9 hD9
                        exact W.vret hx hb hr (fun t ht hW => ⟨⟨(), rfl, trivial, by rw [ht]; exact hP9, hD9⟩, hS.F ht⟩) hS.2.2 d_M_poly_358
                      | succ d5 ih5 =>
                        intro i hi5 H locs ls hP hD hS hl
                        have hfi := hF (1 + i)
                        have hab := abS_1 (pRed ga gb gd gc 4).1 i
                        have hab0 := abS_0 (pRed ga gb gd gc 4).1 i
                        refine lv_iload_n hx hb d_M_poly_328 rfl (lv_at hl 1 rfl) ?_
                        refine lv_bipush (v := 16) hx hb d_M_poly_329 (by decide) ?_
                        refine lv_icmp_ge (tgt := 354) hx hb d_M_poly_331 (by decide) (fun c_9 => absurd c_9 (sb_geF (a := 1 + i) (b := 16) rfl rfl (by omega) (by omega) (by omega))) (fun c_9 => ?_)
                        refine lv_aload_n hx hb d_M_poly_334 rfl (lv_at hl 2 rfl) ?_
                        refine va_get (D := D) (ci := 7) (v := .ref a15) (C := R_M) (T := F_M) (N := 35) hx hb hts in_M hown hG.1 hP 0 rfl rfl 29 (by decide) (hts _ k_726) (fun _ h9 => h9) rfl d_M_poly_335 ?_
                        refine lv_iload_n hx hb d_M_poly_338 rfl (lv_at hl 1 rfl) ?_
                        refine sb_ild hx hb hG.1 hP 1 rfl (1 + i) rfl (by omega) (by omega) d_M_poly_339 ?_
                        refine lv_sipush (v := 255) hx hb d_M_poly_340 (by decide) ?_
                        refine lv_icmp_eq (tgt := 348) hx hb d_M_poly_343 (by decide) (fun c_10 => ?_) (fun c_10 => ?_)
                        · have c_10 := (sb_eqI (a := ((pRed ga gb gd gc 4).1) (1 + i)) (b := 255) rfl rfl (by omega) (by omega)).mp c_10
                          refine lv_iinc (v := nI ((1 + i) + 1)) (lv' := [(3, .int (nI ((1 + i) + 1))), (2, .int (nI (iter (abS (pRed ga gb gd gc 4).1) i 0))), (0, .ref mo)]) hx hb d_M_poly_348 hl (k := 1) rfl (sb_inc (a := 1 + i) (b := (1 + i) + 1) (d := 1) rfl (by decide) (by omega)) (by decide) rfl (fun ls hl => ?_)
                          refine lv_goto (tgt := 328) hx hb d_M_poly_351 (by decide) ?_
                          have hE : iter (abS (pRed ga gb gd gc 4).1) (i + 1) 0 = iter (abS (pRed ga gb gd gc 4).1) i 0 := (Eq.trans (iter_s _ _ _) (by simp only [abS, if_pos c_10]))
                          have ih' := ih5 (i + 1) (by omega)
                          rw [hE] at ih'
                          exact ih' _ _ ls (hP.sub [0, 1, 2, 3, 4] rfl) (hD.sub [0, 1, 2, 3, 4] (by decide) rfl) hS (lv_sub hl [1, 0, 2] rfl)
                        · have c_10 := mt (sb_eqI (a := ((pRed ga gb gd gc 4).1) (1 + i)) (b := 255) rfl rfl (by omega) (by omega)).mpr c_10
                          refine lv_iconst (v := 0) hx hb d_M_poly_346 (by decide) ?_
                          refine lv_istore_n (lv' := [(2, .int 0), (3, .int (nI (1 + i))), (0, .ref mo)]) hx hb d_M_poly_347 rfl hl (by decide) rfl (fun ls hl => ?_)
                          refine lv_iinc (v := nI ((1 + i) + 1)) (lv' := [(3, .int (nI ((1 + i) + 1))), (2, .int 0), (0, .ref mo)]) hx hb d_M_poly_348 hl (k := 1) rfl (sb_inc (a := 1 + i) (b := (1 + i) + 1) (d := 1) rfl (by decide) (by omega)) (by decide) rfl (fun ls hl => ?_)
                          refine lv_goto (tgt := 328) hx hb d_M_poly_351 (by decide) ?_
                          have hE : iter (abS (pRed ga gb gd gc 4).1) (i + 1) 0 = 0 := (Eq.trans (iter_s _ _ _) (by simp only [abS, if_neg c_10]))
                          have ih' := ih5 (i + 1) (by omega)
                          rw [hE] at ih'
                          exact ih' _ _ ls (hP.sub [0, 1, 2, 3, 4] rfl) (hD.sub [0, 1, 2, 3, 4] (by decide) rfl) hS (lv_sub hl [1, 0, 2] rfl)
                    exact lp5 15 0 (by omega) _ _ ls (hP.sub [0, 1, 2, 3, 4] rfl) (hD.sub [0, 1, 2, 3, 4] (by decide) rfl) hS (lv_sub hl [1, 0, 2] rfl)
                  · have c_5 := (sb_eqI (a := ((pRed ga gb gd gc 4).1) 16) (b := 3) rfl rfl (by omega) (by omega)).mp c_5
                    refine lv_aload_n hx hb d_M_poly_308 rfl (lv_at hl 1 rfl) ?_
                    refine va_get (D := D) (ci := 7) (v := .ref a15) (C := R_M) (T := F_M) (N := 35) hx hb hts in_M hown hG.1 hP 0 rfl rfl 29 (by decide) (hts _ k_726) (fun _ h9 => h9) rfl d_M_poly_309 ?_
                    refine lv_iconst (v := 0) hx hb d_M_poly_312 (by decide) ?_
                    refine sb_ild hx hb hG.1 hP 1 rfl 0 rfl (by omega) (by omega) d_M_poly_313 ?_
                    refine lv_sipush (v := 251) hx hb d_M_poly_314 (by decide) ?_
                    refine lv_icmp_lt (tgt := 324) hx hb d_M_poly_317 (by decide) (fun c_11 => ?_) (fun c_11 => ?_)
                    · have c_11 := (sb_ltI (a := ((pRed ga gb gd gc 4).1) 0) (b := 251) rfl rfl (by omega) (by omega)).mp c_11
                      refine lv_iconst (v := 0) hx hb d_M_poly_324 (by decide) ?_
                      refine lv_istore_n (lv' := [(2, .int 0), (0, .ref mo)]) hx hb d_M_poly_325 rfl hl (by decide) rfl (fun ls hl => ?_)
                      refine lv_iconst (v := 1) hx hb d_M_poly_326 (by decide) ?_
                      refine lv_istore_n (lv' := [(3, .int 1), (2, .int 0), (0, .ref mo)]) hx hb d_M_poly_327 rfl hl (by decide) rfl (fun ls hl => ?_)
                      have lp6 : ∀ (d6 i : Nat), i + d6 = 15 → ∀ (H : Heap) (locs : List Loc) (ls : Array Slot), va_P D vwCl [(mo, .inr (7, mFs thr a1 a2 a3 (nI lt) (nI lb) (nI lz) ci a4 a5 a6 nu bk se op fa a7 a8 a9 a10 a11 (nI rn) kh kl sh sl a12 a13 a14 a15 a16 a17 a18 a19 a20)), (a15, .inl (cI, 17, .inl (nF ((pRed ga gb gd gc 4).1)))), (a16, .inl (cI, 17, .inl (nF gb))), (a17, .inl (cI, 40, .inl (nF ((pRed ga gb gd gc 4).2)))), (a18, .inl (cI, 17, .inl (nF gc)))] H → va_D A [(mo, .inr (7, mFs thr a1 a2 a3 (nI lt) (nI lb) (nI lz) ci a4 a5 a6 nu bk se op fa a7 a8 a9 a10 a11 (nI rn) kh kl sh sl a12 a13 a14 a15 a16 a17 a18 a19 a20)), (a15, .inl (cI, 17, .inl (nF ((pRed ga gb gd gc 4).1)))), (a16, .inl (cI, 17, .inl (nF gb))), (a17, .inl (cI, 40, .inl (nF ((pRed ga gb gd gc 4).2)))), (a18, .inl (cI, 17, .inl (nF gc)))] → va_S A s.heap H locs → lv_has ls 5 [(2, .int (nI (iter (abS (pRed ga gb gd gc 4).1) i 0))), (3, .int (nI (1 + i))), (0, .ref mo)] → W p l e rm_M_poly s m args below meth c H locs 0 0 (MQ below (sbQv D (fun (_ : Unit) => True) (fun (_ : Unit) => [(mo, .inr (7, mFs thr a1 a2 a3 (nI lt) (nI lb) (nI lz) ci a4 a5 a6 nu bk se op fa a7 a8 a9 a10 a11 (nI rn) kh kl sh sl a12 a13 a14 a15 a16 a17 a18 a19 a20)), (a15, .inl (cI, 17, .inl (nF (polyT ga gb gd gc)))), (a16, .inl (cI, 17, .inl (nF gb))), (a17, .inl (cI, 40, .inl (nF (polyD ga gb gd gc)))), (a18, .inl (cI, 17, .inl (nF gc)))]) A) args s 0 0 A) (F0 m 328 ls []) := by
                        intro d6
                        induction d6 with
                        | zero =>
                          intro i hi6 H locs ls hP hD hS hl
                          obtain rfl : 15 = i := by omega
                          have hfi := hF (1 + 15)
                          have hab := abS_1 (pRed ga gb gd gc 4).1 15
                          have hab0 := abS_0 (pRed ga gb gd gc 4).1 15
                          refine lv_iload_n hx hb d_M_poly_328 rfl (lv_at hl 1 rfl) ?_
                          refine lv_bipush (v := 16) hx hb d_M_poly_329 (by decide) ?_
                          refine lv_icmp_ge (tgt := 354) hx hb d_M_poly_331 (by decide) (fun c_12 => ?_) (fun c_12 => absurd (sb_geT (a := 1 + 15) (b := 16) rfl rfl (by omega) (by omega) (by omega)) c_12)
                          refine lv_iload_n hx hb d_M_poly_354 rfl (lv_at hl 0 rfl) ?_
                          refine lv_if_ne (tgt := 359) hx hb d_M_poly_355 (by decide) (fun c_13 => absurd (by rw [abS_0]; decide) c_13) (fun c_13 => ?_)
                          have t_14 : nF ((pRed ga gb gd gc 4).1) = nF (polyT ga gb gd gc) := (congrArg nF (by unfold polyT pFin; simp only [if_pos c_5, if_pos c_11]))
                          have hP9 := hP.sub (ws' := [(mo, .inr (7, mFs thr a1 a2 a3 (nI lt) (nI lb) (nI lz) ci a4 a5 a6 nu bk se op fa a7 a8 a9 a10 a11 (nI rn) kh kl sh sl a12 a13 a14 a15 a16 a17 a18 a19 a20)), (a15, .inl (cI, 17, .inl (nF ((pRed ga gb gd gc 4).1)))), (a16, .inl (cI, 17, .inl (nF gb))), (a17, .inl (cI, 40, .inl (nF ((pRed ga gb gd gc 4).2)))), (a18, .inl (cI, 17, .inl (nF gc)))]) [0, 1, 2, 3, 4] rfl
                          have hD9 := hD.sub (ws' := [(mo, .inr (7, mFs thr a1 a2 a3 (nI lt) (nI lb) (nI lz) ci a4 a5 a6 nu bk se op fa a7 a8 a9 a10 a11 (nI rn) kh kl sh sl a12 a13 a14 a15 a16 a17 a18 a19 a20)), (a15, .inl (cI, 17, .inl (nF ((pRed ga gb gd gc 4).1)))), (a16, .inl (cI, 17, .inl (nF gb))), (a17, .inl (cI, 40, .inl (nF ((pRed ga gb gd gc 4).2)))), (a18, .inl (cI, 17, .inl (nF gc)))]) [0, 1, 2, 3, 4] (by decide) rfl
                          rw [t_14] at hP9 hD9
                          exact W.vret hx hb hr (fun t ht hW => ⟨⟨(), rfl, trivial, by rw [ht]; exact hP9, hD9⟩, hS.F ht⟩) hS.2.2 d_M_poly_358
                        | succ d6 ih6 =>
                          intro i hi6 H locs ls hP hD hS hl
                          have hfi := hF (1 + i)
                          have hab := abS_1 (pRed ga gb gd gc 4).1 i
                          have hab0 := abS_0 (pRed ga gb gd gc 4).1 i
                          refine lv_iload_n hx hb d_M_poly_328 rfl (lv_at hl 1 rfl) ?_
                          refine lv_bipush (v := 16) hx hb d_M_poly_329 (by decide) ?_
                          refine lv_icmp_ge (tgt := 354) hx hb d_M_poly_331 (by decide) (fun c_15 => absurd c_15 (sb_geF (a := 1 + i) (b := 16) rfl rfl (by omega) (by omega) (by omega))) (fun c_15 => ?_)
                          refine lv_aload_n hx hb d_M_poly_334 rfl (lv_at hl 2 rfl) ?_
                          refine va_get (D := D) (ci := 7) (v := .ref a15) (C := R_M) (T := F_M) (N := 35) hx hb hts in_M hown hG.1 hP 0 rfl rfl 29 (by decide) (hts _ k_726) (fun _ h9 => h9) rfl d_M_poly_335 ?_
                          refine lv_iload_n hx hb d_M_poly_338 rfl (lv_at hl 1 rfl) ?_
                          refine sb_ild hx hb hG.1 hP 1 rfl (1 + i) rfl (by omega) (by omega) d_M_poly_339 ?_
                          refine lv_sipush (v := 255) hx hb d_M_poly_340 (by decide) ?_
                          refine lv_icmp_eq (tgt := 348) hx hb d_M_poly_343 (by decide) (fun c_16 => ?_) (fun c_16 => ?_)
                          · have c_16 := (sb_eqI (a := ((pRed ga gb gd gc 4).1) (1 + i)) (b := 255) rfl rfl (by omega) (by omega)).mp c_16
                            refine lv_iinc (v := nI ((1 + i) + 1)) (lv' := [(3, .int (nI ((1 + i) + 1))), (2, .int (nI (iter (abS (pRed ga gb gd gc 4).1) i 0))), (0, .ref mo)]) hx hb d_M_poly_348 hl (k := 1) rfl (sb_inc (a := 1 + i) (b := (1 + i) + 1) (d := 1) rfl (by decide) (by omega)) (by decide) rfl (fun ls hl => ?_)
                            refine lv_goto (tgt := 328) hx hb d_M_poly_351 (by decide) ?_
                            have hE : iter (abS (pRed ga gb gd gc 4).1) (i + 1) 0 = iter (abS (pRed ga gb gd gc 4).1) i 0 := (Eq.trans (iter_s _ _ _) (by simp only [abS, if_pos c_16]))
                            have ih' := ih6 (i + 1) (by omega)
                            rw [hE] at ih'
                            exact ih' _ _ ls (hP.sub [0, 1, 2, 3, 4] rfl) (hD.sub [0, 1, 2, 3, 4] (by decide) rfl) hS (lv_sub hl [1, 0, 2] rfl)
                          · have c_16 := mt (sb_eqI (a := ((pRed ga gb gd gc 4).1) (1 + i)) (b := 255) rfl rfl (by omega) (by omega)).mpr c_16
                            refine lv_iconst (v := 0) hx hb d_M_poly_346 (by decide) ?_
                            refine lv_istore_n (lv' := [(2, .int 0), (3, .int (nI (1 + i))), (0, .ref mo)]) hx hb d_M_poly_347 rfl hl (by decide) rfl (fun ls hl => ?_)
                            refine lv_iinc (v := nI ((1 + i) + 1)) (lv' := [(3, .int (nI ((1 + i) + 1))), (2, .int 0), (0, .ref mo)]) hx hb d_M_poly_348 hl (k := 1) rfl (sb_inc (a := 1 + i) (b := (1 + i) + 1) (d := 1) rfl (by decide) (by omega)) (by decide) rfl (fun ls hl => ?_)
                            refine lv_goto (tgt := 328) hx hb d_M_poly_351 (by decide) ?_
                            have hE : iter (abS (pRed ga gb gd gc 4).1) (i + 1) 0 = 0 := (Eq.trans (iter_s _ _ _) (by simp only [abS, if_neg c_16]))
                            have ih' := ih6 (i + 1) (by omega)
                            rw [hE] at ih'
                            exact ih' _ _ ls (hP.sub [0, 1, 2, 3, 4] rfl) (hD.sub [0, 1, 2, 3, 4] (by decide) rfl) hS (lv_sub hl [1, 0, 2] rfl)
                      exact lp6 15 0 (by omega) _ _ ls (hP.sub [0, 1, 2, 3, 4] rfl) (hD.sub [0, 1, 2, 3, 4] (by decide) rfl) hS (lv_sub hl [1, 0, 2] rfl)
                    · have c_11 := mt (sb_ltI (a := ((pRed ga gb gd gc 4).1) 0) (b := 251) rfl rfl (by omega) (by omega)).mpr c_11
                      refine lv_iconst (v := 1) hx hb d_M_poly_320 (by decide) ?_
                      refine lv_goto (tgt := 325) hx hb d_M_poly_321 (by decide) ?_
                      refine lv_istore_n (lv' := [(2, .int 1), (0, .ref mo)]) hx hb d_M_poly_325 rfl hl (by decide) rfl (fun ls hl => ?_)
                      refine lv_iconst (v := 1) hx hb d_M_poly_326 (by decide) ?_
                      refine lv_istore_n (lv' := [(3, .int 1), (2, .int 1), (0, .ref mo)]) hx hb d_M_poly_327 rfl hl (by decide) rfl (fun ls hl => ?_)
                      have lp7 : ∀ (d7 i : Nat), i + d7 = 15 → ∀ (H : Heap) (locs : List Loc) (ls : Array Slot), va_P D vwCl [(mo, .inr (7, mFs thr a1 a2 a3 (nI lt) (nI lb) (nI lz) ci a4 a5 a6 nu bk se op fa a7 a8 a9 a10 a11 (nI rn) kh kl sh sl a12 a13 a14 a15 a16 a17 a18 a19 a20)), (a15, .inl (cI, 17, .inl (nF ((pRed ga gb gd gc 4).1)))), (a16, .inl (cI, 17, .inl (nF gb))), (a17, .inl (cI, 40, .inl (nF ((pRed ga gb gd gc 4).2)))), (a18, .inl (cI, 17, .inl (nF gc)))] H → va_D A [(mo, .inr (7, mFs thr a1 a2 a3 (nI lt) (nI lb) (nI lz) ci a4 a5 a6 nu bk se op fa a7 a8 a9 a10 a11 (nI rn) kh kl sh sl a12 a13 a14 a15 a16 a17 a18 a19 a20)), (a15, .inl (cI, 17, .inl (nF ((pRed ga gb gd gc 4).1)))), (a16, .inl (cI, 17, .inl (nF gb))), (a17, .inl (cI, 40, .inl (nF ((pRed ga gb gd gc 4).2)))), (a18, .inl (cI, 17, .inl (nF gc)))] → va_S A s.heap H locs → lv_has ls 5 [(2, .int (nI (iter (abS (pRed ga gb gd gc 4).1) i 1))), (3, .int (nI (1 + i))), (0, .ref mo)] → W p l e rm_M_poly s m args below meth c H locs 0 0 (MQ below (sbQv D (fun (_ : Unit) => True) (fun (_ : Unit) => [(mo, .inr (7, mFs thr a1 a2 a3 (nI lt) (nI lb) (nI lz) ci a4 a5 a6 nu bk se op fa a7 a8 a9 a10 a11 (nI rn) kh kl sh sl a12 a13 a14 a15 a16 a17 a18 a19 a20)), (a15, .inl (cI, 17, .inl (nF (polyT ga gb gd gc)))), (a16, .inl (cI, 17, .inl (nF gb))), (a17, .inl (cI, 40, .inl (nF (polyD ga gb gd gc)))), (a18, .inl (cI, 17, .inl (nF gc)))]) A) args s 0 0 A) (F0 m 328 ls []) := by
                        intro d7
                        induction d7 with
                        | zero =>
                          intro i hi7 H locs ls hP hD hS hl
                          obtain rfl : 15 = i := by omega
                          have hfi := hF (1 + 15)
                          have hab := abS_1 (pRed ga gb gd gc 4).1 15
                          have hab0 := abS_0 (pRed ga gb gd gc 4).1 15
                          refine lv_iload_n hx hb d_M_poly_328 rfl (lv_at hl 1 rfl) ?_
                          refine lv_bipush (v := 16) hx hb d_M_poly_329 (by decide) ?_
                          refine lv_icmp_ge (tgt := 354) hx hb d_M_poly_331 (by decide) (fun c_17 => ?_) (fun c_17 => absurd (sb_geT (a := 1 + 15) (b := 16) rfl rfl (by omega) (by omega) (by omega)) c_17)
                          refine lv_iload_n hx hb d_M_poly_354 rfl (lv_at hl 0 rfl) ?_
                          refine lv_if_ne (tgt := 359) hx hb d_M_poly_355 (by decide) (fun c_18 => ?_) (fun c_18 => ?_)
                          · have c_18 := mt (sb_eqI (a := iter (abS (pRed ga gb gd gc 4).1) 15 1) (b := 0) rfl rfl (by omega) (by omega)).mpr c_18
                            refine lv_aload_n hx hb d_M_poly_359 rfl (lv_at hl 2 rfl) ?_
                            refine va_get (D := D) (ci := 7) (v := .ref a15) (C := R_M) (T := F_M) (N := 35) hx hb hts in_M hown hG.1 hP 0 rfl rfl 29 (by decide) (hts _ k_726) (fun _ h9 => h9) rfl d_M_poly_360 ?_
                            refine lv_iconst (v := 0) hx hb d_M_poly_363 (by decide) ?_
                            refine lv_dup2_11 hx hb d_M_poly_364 rfl rfl ?_
                            refine sb_ild hx hb hG.1 hP 1 rfl 0 rfl (by omega) (by omega) d_M_poly_365 ?_
                            refine lv_sipush (v := 251) hx hb d_M_poly_366 (by decide) ?_
                            refine lv_isub hx hb d_M_poly_369 ?_
                            refine sb_topn ((((pRed ga gb gd gc 4).1) 0) - 251) (sb_sub (a := ((pRed ga gb gd gc 4).1) 0) (b := 251) (by omega) rfl rfl) ?_
                            refine sb_topn ((((pRed ga gb gd gc 4).1) 0) - 251) rfl ?_
                            refine sb_ist hx hb hG.1 hP hD hS 1 rfl 0 rfl (by omega) (by omega) d_M_poly_370 (fun f_19 H locs ef_19 hP hD hS => ?_)
                            have hP : va_P D vwCl [(mo, .inr (7, mFs thr a1 a2 a3 (nI lt) (nI lb) (nI lz) ci a4 a5 a6 nu bk se op fa a7 a8 a9 a10 a11 (nI rn) kh kl sh sl a12 a13 a14 a15 a16 a17 a18 a19 a20)), (a15, .inl (cI, 17, .inl f_19)), (a16, .inl (cI, 17, .inl (nF gb))), (a17, .inl (cI, 40, .inl (nF ((pRed ga gb gd gc 4).2)))), (a18, .inl (cI, 17, .inl (nF gc)))] H := hP
                            have hD : va_D A [(mo, .inr (7, mFs thr a1 a2 a3 (nI lt) (nI lb) (nI lz) ci a4 a5 a6 nu bk se op fa a7 a8 a9 a10 a11 (nI rn) kh kl sh sl a12 a13 a14 a15 a16 a17 a18 a19 a20)), (a15, .inl (cI, 17, .inl f_19)), (a16, .inl (cI, 17, .inl (nF gb))), (a17, .inl (cI, 40, .inl (nF ((pRed ga gb gd gc 4).2)))), (a18, .inl (cI, 17, .inl (nF gc)))] := hD
                            obtain rfl : f_19 = nF (updN ((pRed ga gb gd gc 4).1) 0 ((((pRed ga gb gd gc 4).1) 0) - 251)) := ef_19.trans (nF_set _ _ _)
                            have hP : va_P D vwCl [(mo, .inr (7, mFs thr a1 a2 a3 (nI lt) (nI lb) (nI lz) ci a4 a5 a6 nu bk se op fa a7 a8 a9 a10 a11 (nI rn) kh kl sh sl a12 a13 a14 a15 a16 a17 a18 a19 a20)), (a15, .inl (cI, 17, .inl (nF (updN ((pRed ga gb gd gc 4).1) 0 ((((pRed ga gb gd gc 4).1) 0) - 251))))), (a16, .inl (cI, 17, .inl (nF gb))), (a17, .inl (cI, 40, .inl (nF ((pRed ga gb gd gc 4).2)))), (a18, .inl (cI, 17, .inl (nF gc)))] H := hP
                            have hD : va_D A [(mo, .inr (7, mFs thr a1 a2 a3 (nI lt) (nI lb) (nI lz) ci a4 a5 a6 nu bk se op fa a7 a8 a9 a10 a11 (nI rn) kh kl sh sl a12 a13 a14 a15 a16 a17 a18 a19 a20)), (a15, .inl (cI, 17, .inl (nF (updN ((pRed ga gb gd gc 4).1) 0 ((((pRed ga gb gd gc 4).1) 0) - 251))))), (a16, .inl (cI, 17, .inl (nF gb))), (a17, .inl (cI, 40, .inl (nF ((pRed ga gb gd gc 4).2)))), (a18, .inl (cI, 17, .inl (nF gc)))] := hD
                            refine lv_iconst (v := 1) hx hb d_M_poly_371 (by decide) ?_
                            refine lv_istore_n (lv' := [(3, .int 1), (2, .int (nI (iter (abS (pRed ga gb gd gc 4).1) 15 1))), (0, .ref mo)]) hx hb d_M_poly_372 rfl hl (by decide) rfl (fun ls hl => ?_)
                            have lp8 : ∀ (d8 i : Nat), i + d8 = 16 → ∀ (H : Heap) (locs : List Loc) (ls : Array Slot), va_P D vwCl [(mo, .inr (7, mFs thr a1 a2 a3 (nI lt) (nI lb) (nI lz) ci a4 a5 a6 nu bk se op fa a7 a8 a9 a10 a11 (nI rn) kh kl sh sl a12 a13 a14 a15 a16 a17 a18 a19 a20)), (a15, .inl (cI, 17, .inl (nF (iter nZ1 i (updN ((pRed ga gb gd gc 4).1) 0 ((((pRed ga gb gd gc 4).1) 0) - 251)))))), (a16, .inl (cI, 17, .inl (nF gb))), (a17, .inl (cI, 40, .inl (nF ((pRed ga gb gd gc 4).2)))), (a18, .inl (cI, 17, .inl (nF gc)))] H → va_D A [(mo, .inr (7, mFs thr a1 a2 a3 (nI lt) (nI lb) (nI lz) ci a4 a5 a6 nu bk se op fa a7 a8 a9 a10 a11 (nI rn) kh kl sh sl a12 a13 a14 a15 a16 a17 a18 a19 a20)), (a15, .inl (cI, 17, .inl (nF (iter nZ1 i (updN ((pRed ga gb gd gc 4).1) 0 ((((pRed ga gb gd gc 4).1) 0) - 251)))))), (a16, .inl (cI, 17, .inl (nF gb))), (a17, .inl (cI, 40, .inl (nF ((pRed ga gb gd gc 4).2)))), (a18, .inl (cI, 17, .inl (nF gc)))] → va_S A s.heap H locs → lv_has ls 5 [(3, .int (nI (1 + i))), (0, .ref mo)] → W p l e rm_M_poly s m args below meth c H locs 0 0 (MQ below (sbQv D (fun (_ : Unit) => True) (fun (_ : Unit) => [(mo, .inr (7, mFs thr a1 a2 a3 (nI lt) (nI lb) (nI lz) ci a4 a5 a6 nu bk se op fa a7 a8 a9 a10 a11 (nI rn) kh kl sh sl a12 a13 a14 a15 a16 a17 a18 a19 a20)), (a15, .inl (cI, 17, .inl (nF (polyT ga gb gd gc)))), (a16, .inl (cI, 17, .inl (nF gb))), (a17, .inl (cI, 40, .inl (nF (polyD ga gb gd gc)))), (a18, .inl (cI, 17, .inl (nF gc)))]) A) args s 0 0 A) (F0 m 373 ls []) := by
                              intro d8
                              induction d8 with
                              | zero =>
                                intro i hi8 H locs ls hP hD hS hl
                                obtain rfl : 16 = i := by omega
                                refine lv_iload_n hx hb d_M_poly_373 rfl (lv_at hl 0 rfl) ?_
                                refine lv_bipush (v := 17) hx hb d_M_poly_374 (by decide) ?_
                                refine lv_icmp_ge (tgt := 392) hx hb d_M_poly_376 (by decide) (fun c_20 => ?_) (fun c_20 => absurd (sb_geT (a := 1 + 16) (b := 17) rfl rfl (by omega) (by omega) (by omega)) c_20)
                                have t_21 : nF (iter nZ1 16 (updN ((pRed ga gb gd gc 4).1) 0 ((((pRed ga gb gd gc 4).1) 0) - 251))) = nF (polyT ga gb gd gc) := (congrArg nF (by unfold polyT pFin; simp only [if_pos c_5, if_neg c_11, if_neg c_18]; rfl))
                                have hP9 := hP.sub (ws' := [(mo, .inr (7, mFs thr a1 a2 a3 (nI lt) (nI lb) (nI lz) ci a4 a5 a6 nu bk se op fa a7 a8 a9 a10 a11 (nI rn) kh kl sh sl a12 a13 a14 a15 a16 a17 a18 a19 a20)), (a15, .inl (cI, 17, .inl (nF (iter nZ1 16 (updN ((pRed ga gb gd gc 4).1) 0 ((((pRed ga gb gd gc 4).1) 0) - 251)))))), (a16, .inl (cI, 17, .inl (nF gb))), (a17, .inl (cI, 40, .inl (nF ((pRed ga gb gd gc 4).2)))), (a18, .inl (cI, 17, .inl (nF gc)))]) [0, 1, 2, 3, 4] rfl
                                have hD9 := hD.sub (ws' := [(mo, .inr (7, mFs thr a1 a2 a3 (nI lt) (nI lb) (nI lz) ci a4 a5 a6 nu bk se op fa a7 a8 a9 a10 a11 (nI rn) kh kl sh sl a12 a13 a14 a15 a16 a17 a18 a19 a20)), (a15, .inl (cI, 17, .inl (nF (iter nZ1 16 (updN ((pRed ga gb gd gc 4).1) 0 ((((pRed ga gb gd gc 4).1) 0) - 251)))))), (a16, .inl (cI, 17, .inl (nF gb))), (a17, .inl (cI, 40, .inl (nF ((pRed ga gb gd gc 4).2)))), (a18, .inl (cI, 17, .inl (nF gc)))]) [0, 1, 2, 3, 4] (by decide) rfl
                                rw [t_21] at hP9 hD9
                                exact W.vret hx hb hr (fun t ht hW => ⟨⟨(), rfl, trivial, by rw [ht]; exact hP9, hD9⟩, hS.F ht⟩) hS.2.2 d_M_poly_392
                              | succ d8 ih8 =>
                                intro i hi8 H locs ls hP hD hS hl
                                refine lv_iload_n hx hb d_M_poly_373 rfl (lv_at hl 0 rfl) ?_
                                refine lv_bipush (v := 17) hx hb d_M_poly_374 (by decide) ?_
                                refine lv_icmp_ge (tgt := 392) hx hb d_M_poly_376 (by decide) (fun c_22 => absurd c_22 (sb_geF (a := 1 + i) (b := 17) rfl rfl (by omega) (by omega) (by omega))) (fun c_22 => ?_)
                                refine lv_aload_n hx hb d_M_poly_379 rfl (lv_at hl 1 rfl) ?_
                                refine va_get (D := D) (ci := 7) (v := .ref a15) (C := R_M) (T := F_M) (N := 35) hx hb hts in_M hown hG.1 hP 0 rfl rfl 29 (by decide) (hts _ k_726) (fun _ h9 => h9) rfl d_M_poly_380 ?_
                                refine lv_iload_n hx hb d_M_poly_383 rfl (lv_at hl 0 rfl) ?_
                                refine lv_iconst (v := 0) hx hb d_M_poly_384 (by decide) ?_
                                refine sb_ist hx hb hG.1 hP hD hS 1 rfl (1 + i) rfl (by omega) (by omega) d_M_poly_385 (fun f_23 H locs ef_23 hP hD hS => ?_)
                                have hP : va_P D vwCl [(mo, .inr (7, mFs thr a1 a2 a3 (nI lt) (nI lb) (nI lz) ci a4 a5 a6 nu bk se op fa a7 a8 a9 a10 a11 (nI rn) kh kl sh sl a12 a13 a14 a15 a16 a17 a18 a19 a20)), (a15, .inl (cI, 17, .inl f_23)), (a16, .inl (cI, 17, .inl (nF gb))), (a17, .inl (cI, 40, .inl (nF ((pRed ga gb gd gc 4).2)))), (a18, .inl (cI, 17, .inl (nF gc)))] H := hP
                                have hD : va_D A [(mo, .inr (7, mFs thr a1 a2 a3 (nI lt) (nI lb) (nI lz) ci a4 a5 a6 nu bk se op fa a7 a8 a9 a10 a11 (nI rn) kh kl sh sl a12 a13 a14 a15 a16 a17 a18 a19 a20)), (a15, .inl (cI, 17, .inl f_23)), (a16, .inl (cI, 17, .inl (nF gb))), (a17, .inl (cI, 40, .inl (nF ((pRed ga gb gd gc 4).2)))), (a18, .inl (cI, 17, .inl (nF gc)))] := hD
                                obtain rfl : f_23 = nF (updN (iter nZ1 i (updN ((pRed ga gb gd gc 4).1) 0 ((((pRed ga gb gd gc 4).1) 0) - 251))) (1 + i) 0) := ef_23.trans (nF_set _ _ _)
                                have hP : va_P D vwCl [(mo, .inr (7, mFs thr a1 a2 a3 (nI lt) (nI lb) (nI lz) ci a4 a5 a6 nu bk se op fa a7 a8 a9 a10 a11 (nI rn) kh kl sh sl a12 a13 a14 a15 a16 a17 a18 a19 a20)), (a15, .inl (cI, 17, .inl (nF (updN (iter nZ1 i (updN ((pRed ga gb gd gc 4).1) 0 ((((pRed ga gb gd gc 4).1) 0) - 251))) (1 + i) 0)))), (a16, .inl (cI, 17, .inl (nF gb))), (a17, .inl (cI, 40, .inl (nF ((pRed ga gb gd gc 4).2)))), (a18, .inl (cI, 17, .inl (nF gc)))] H := hP
                                have hD : va_D A [(mo, .inr (7, mFs thr a1 a2 a3 (nI lt) (nI lb) (nI lz) ci a4 a5 a6 nu bk se op fa a7 a8 a9 a10 a11 (nI rn) kh kl sh sl a12 a13 a14 a15 a16 a17 a18 a19 a20)), (a15, .inl (cI, 17, .inl (nF (updN (iter nZ1 i (updN ((pRed ga gb gd gc 4).1) 0 ((((pRed ga gb gd gc 4).1) 0) - 251))) (1 + i) 0)))), (a16, .inl (cI, 17, .inl (nF gb))), (a17, .inl (cI, 40, .inl (nF ((pRed ga gb gd gc 4).2)))), (a18, .inl (cI, 17, .inl (nF gc)))] := hD
                                refine lv_iinc (v := nI ((1 + i) + 1)) (lv' := [(3, .int (nI ((1 + i) + 1))), (0, .ref mo)]) hx hb d_M_poly_386 hl (k := 0) rfl (sb_inc (a := 1 + i) (b := (1 + i) + 1) (d := 1) rfl (by decide) (by omega)) (by decide) rfl (fun ls hl => ?_)
                                refine lv_goto (tgt := 373) hx hb d_M_poly_389 (by decide) ?_
                                rw [show nF (updN (iter nZ1 i (updN ((pRed ga gb gd gc 4).1) 0 ((((pRed ga gb gd gc 4).1) 0) - 251))) (1 + i) 0) = nF (iter nZ1 (i + 1) (updN ((pRed ga gb gd gc 4).1) 0 ((((pRed ga gb gd gc 4).1) 0) - 251))) from rfl] at hP hD
                                exact ih8 (i + 1) (by omega) _ _ ls (hP.sub [0, 1, 2, 3, 4] rfl) (hD.sub [0, 1, 2, 3, 4] (by decide) rfl) hS (lv_sub hl [0, 1] rfl)
                            exact lp8 16 0 (by omega) _ _ ls (hP.sub [0, 1, 2, 3, 4] rfl) (hD.sub [0, 1, 2, 3, 4] (by decide) rfl) hS (lv_sub hl [0, 2] rfl)
                          · have c_18 := (sb_eqI (a := iter (abS (pRed ga gb gd gc 4).1) 15 1) (b := 0) rfl rfl (by omega) (by omega)).mp c_18
                            have t_24 : nF ((pRed ga gb gd gc 4).1) = nF (polyT ga gb gd gc) := (congrArg nF (by unfold polyT pFin; simp only [if_pos c_5, if_neg c_11, if_pos c_18]))
                            have hP9 := hP.sub (ws' := [(mo, .inr (7, mFs thr a1 a2 a3 (nI lt) (nI lb) (nI lz) ci a4 a5 a6 nu bk se op fa a7 a8 a9 a10 a11 (nI rn) kh kl sh sl a12 a13 a14 a15 a16 a17 a18 a19 a20)), (a15, .inl (cI, 17, .inl (nF ((pRed ga gb gd gc 4).1)))), (a16, .inl (cI, 17, .inl (nF gb))), (a17, .inl (cI, 40, .inl (nF ((pRed ga gb gd gc 4).2)))), (a18, .inl (cI, 17, .inl (nF gc)))]) [0, 1, 2, 3, 4] rfl
                            have hD9 := hD.sub (ws' := [(mo, .inr (7, mFs thr a1 a2 a3 (nI lt) (nI lb) (nI lz) ci a4 a5 a6 nu bk se op fa a7 a8 a9 a10 a11 (nI rn) kh kl sh sl a12 a13 a14 a15 a16 a17 a18 a19 a20)), (a15, .inl (cI, 17, .inl (nF ((pRed ga gb gd gc 4).1)))), (a16, .inl (cI, 17, .inl (nF gb))), (a17, .inl (cI, 40, .inl (nF ((pRed ga gb gd gc 4).2)))), (a18, .inl (cI, 17, .inl (nF gc)))]) [0, 1, 2, 3, 4] (by decide) rfl
                            rw [t_24] at hP9 hD9
                            exact W.vret hx hb hr (fun t ht hW => ⟨⟨(), rfl, trivial, by rw [ht]; exact hP9, hD9⟩, hS.F ht⟩) hS.2.2 d_M_poly_358
                        | succ d7 ih7 =>
                          intro i hi7 H locs ls hP hD hS hl
                          have hfi := hF (1 + i)
                          have hab := abS_1 (pRed ga gb gd gc 4).1 i
                          have hab0 := abS_0 (pRed ga gb gd gc 4).1 i
                          refine lv_iload_n hx hb d_M_poly_328 rfl (lv_at hl 1 rfl) ?_
                          refine lv_bipush (v := 16) hx hb d_M_poly_329 (by decide) ?_
                          refine lv_icmp_ge (tgt := 354) hx hb d_M_poly_331 (by decide) (fun c_25 => absurd c_25 (sb_geF (a := 1 + i) (b := 16) rfl rfl (by omega) (by omega) (by omega))) (fun c_25 => ?_)
                          refine lv_aload_n hx hb d_M_poly_334 rfl (lv_at hl 2 rfl) ?_
                          refine va_get (D := D) (ci := 7) (v := .ref a15) (C := R_M) (T := F_M) (N := 35) hx hb hts in_M hown hG.1 hP 0 rfl rfl 29 (by decide) (hts _ k_726) (fun _ h9 => h9) rfl d_M_poly_335 ?_
                          refine lv_iload_n hx hb d_M_poly_338 rfl (lv_at hl 1 rfl) ?_
                          refine sb_ild hx hb hG.1 hP 1 rfl (1 + i) rfl (by omega) (by omega) d_M_poly_339 ?_
                          refine lv_sipush (v := 255) hx hb d_M_poly_340 (by decide) ?_
                          refine lv_icmp_eq (tgt := 348) hx hb d_M_poly_343 (by decide) (fun c_26 => ?_) (fun c_26 => ?_)
                          · have c_26 := (sb_eqI (a := ((pRed ga gb gd gc 4).1) (1 + i)) (b := 255) rfl rfl (by omega) (by omega)).mp c_26
                            refine lv_iinc (v := nI ((1 + i) + 1)) (lv' := [(3, .int (nI ((1 + i) + 1))), (2, .int (nI (iter (abS (pRed ga gb gd gc 4).1) i 1))), (0, .ref mo)]) hx hb d_M_poly_348 hl (k := 1) rfl (sb_inc (a := 1 + i) (b := (1 + i) + 1) (d := 1) rfl (by decide) (by omega)) (by decide) rfl (fun ls hl => ?_)
                            refine lv_goto (tgt := 328) hx hb d_M_poly_351 (by decide) ?_
                            have hE : iter (abS (pRed ga gb gd gc 4).1) (i + 1) 1 = iter (abS (pRed ga gb gd gc 4).1) i 1 := (Eq.trans (iter_s _ _ _) (by simp only [abS, if_pos c_26]))
                            have ih' := ih7 (i + 1) (by omega)
                            rw [hE] at ih'
                            exact ih' _ _ ls (hP.sub [0, 1, 2, 3, 4] rfl) (hD.sub [0, 1, 2, 3, 4] (by decide) rfl) hS (lv_sub hl [1, 0, 2] rfl)
                          · have c_26 := mt (sb_eqI (a := ((pRed ga gb gd gc 4).1) (1 + i)) (b := 255) rfl rfl (by omega) (by omega)).mpr c_26
                            refine lv_iconst (v := 0) hx hb d_M_poly_346 (by decide) ?_
                            refine lv_istore_n (lv' := [(2, .int 0), (3, .int (nI (1 + i))), (0, .ref mo)]) hx hb d_M_poly_347 rfl hl (by decide) rfl (fun ls hl => ?_)
                            refine lv_iinc (v := nI ((1 + i) + 1)) (lv' := [(3, .int (nI ((1 + i) + 1))), (2, .int 0), (0, .ref mo)]) hx hb d_M_poly_348 hl (k := 1) rfl (sb_inc (a := 1 + i) (b := (1 + i) + 1) (d := 1) rfl (by decide) (by omega)) (by decide) rfl (fun ls hl => ?_)
                            refine lv_goto (tgt := 328) hx hb d_M_poly_351 (by decide) ?_
                            have hE : iter (abS (pRed ga gb gd gc 4).1) (i + 1) 1 = 0 := (Eq.trans (iter_s _ _ _) (by simp only [abS, if_neg c_26]))
                            have ih' := ih7 (i + 1) (by omega)
                            rw [hE] at ih'
                            exact ih' _ _ ls (hP.sub [0, 1, 2, 3, 4] rfl) (hD.sub [0, 1, 2, 3, 4] (by decide) rfl) hS (lv_sub hl [1, 0, 2] rfl)
                      exact lp7 15 0 (by omega) _ _ ls (hP.sub [0, 1, 2, 3, 4] rfl) (hD.sub [0, 1, 2, 3, 4] (by decide) rfl) hS (lv_sub hl [1, 0, 2] rfl)
                | succ d4 ih4 =>
                  intro n hi4 H locs ls hP hD hS hl
                  obtain ⟨hR1, hR2⟩ := pRed_B hga hgb hgd hgc n
                  refine lv_iload_n hx hb d_M_poly_158 rfl (lv_at hl 0 rfl) ?_
                  refine lv_iconst (v := 4) hx hb d_M_poly_159 (by decide) ?_
                  refine lv_icmp_ge (tgt := 297) hx hb d_M_poly_160 (by decide) (fun c_27 => absurd c_27 (sb_geF (a := n) (b := 4) rfl rfl (by omega) (by omega) (by omega))) (fun c_27 => ?_)
                  refine lv_iconst (v := 0) hx hb d_M_poly_163 (by decide) ?_
                  refine lv_istore_n (lv' := [(1, .int 0), (2, .int (nI n)), (0, .ref mo)]) hx hb d_M_poly_164 rfl hl (by decide) rfl (fun ls hl => ?_)
                  refine lv_iconst (v := 0) hx hb d_M_poly_165 (by decide) ?_
                  refine lv_istore_n (lv' := [(3, .int 0), (1, .int 0), (2, .int (nI n)), (0, .ref mo)]) hx hb d_M_poly_166 rfl hl (by decide) rfl (fun ls hl => ?_)
                  have lp9 : ∀ (d9 k : Nat), k + d9 = 17 → ∀ (H : Heap) (locs : List Loc) (ls : Array Slot), va_P D vwCl [(mo, .inr (7, mFs thr a1 a2 a3 (nI lt) (nI lb) (nI lz) ci a4 a5 a6 nu bk se op fa a7 a8 a9 a10 a11 (nI rn) kh kl sh sl a12 a13 a14 a15 a16 a17 a18 a19 a20)), (a15, .inl (cI, 17, .inl (nF ((rI (pRed ga gb gd gc n).2 (pRed ga gb gd gc n).1 k).2)))), (a16, .inl (cI, 17, .inl (nF gb))), (a17, .inl (cI, 40, .inl (nF ((pRed ga gb gd gc n).2)))), (a18, .inl (cI, 17, .inl (nF gc)))] H → va_D A [(mo, .inr (7, mFs thr a1 a2 a3 (nI lt) (nI lb) (nI lz) ci a4 a5 a6 nu bk se op fa a7 a8 a9 a10 a11 (nI rn) kh kl sh sl a12 a13 a14 a15 a16 a17 a18 a19 a20)), (a15, .inl (cI, 17, .inl (nF ((rI (pRed ga gb gd gc n).2 (pRed ga gb gd gc n).1 k).2)))), (a16, .inl (cI, 17, .inl (nF gb))), (a17, .inl (cI, 40, .inl (nF ((pRed ga gb gd gc n).2)))), (a18, .inl (cI, 17, .inl (nF gc)))] → va_S A s.heap H locs → lv_has ls 5 [(1, .int (nI ((rI (pRed ga gb gd gc n).2 (pRed ga gb gd gc n).1 k).1))), (3, .int (nI k)), (2, .int (nI n)), (0, .ref mo)] → W p l e rm_M_poly s m args below meth c H locs 0 0 (MQ below (sbQv D (fun (_ : Unit) => True) (fun (_ : Unit) => [(mo, .inr (7, mFs thr a1 a2 a3 (nI lt) (nI lb) (nI lz) ci a4 a5 a6 nu bk se op fa a7 a8 a9 a10 a11 (nI rn) kh kl sh sl a12 a13 a14 a15 a16 a17 a18 a19 a20)), (a15, .inl (cI, 17, .inl (nF (polyT ga gb gd gc)))), (a16, .inl (cI, 17, .inl (nF gb))), (a17, .inl (cI, 40, .inl (nF (polyD ga gb gd gc)))), (a18, .inl (cI, 17, .inl (nF gc)))]) A) args s 0 0 A) (F0 m 167 ls []) := by
                    intro d9
                    induction d9 with
                    | zero =>
                      intro k hi9 H locs ls hP hD hS hl
                      obtain rfl : 17 = k := by omega
                      have hB := rI_B hR2 hR1 17
                      have hb1 := hB.1
                      have hb2 := hR2 17
                      have hb3 := hR2 (16 + 17)
                      have hb4 := hR2 (17 + 17)
                      have hb5 := hR2 16
                      refine lv_iload_n hx hb d_M_poly_167 rfl (lv_at hl 1 rfl) ?_
                      refine lv_bipush (v := 17) hx hb d_M_poly_168 (by decide) ?_
                      refine lv_icmp_ge (tgt := 255) hx hb d_M_poly_170 (by decide) (fun c_28 => ?_) (fun c_28 => absurd (sb_geT (a := 17) (b := 17) rfl rfl (by omega) (by omega) (by omega)) c_28)
                      refine lv_iconst (v := 0) hx hb d_M_poly_255 (by decide) ?_
                      refine lv_istore_n (lv' := [(3, .int 0), (1, .int (nI ((rI (pRed ga gb gd gc n).2 (pRed ga gb gd gc n).1 17).1))), (2, .int (nI n)), (0, .ref mo)]) hx hb d_M_poly_256 rfl hl (by decide) rfl (fun ls hl => ?_)
                      have lp10 : ∀ (d10 i : Nat), i + d10 = 40 → ∀ (H : Heap) (locs : List Loc) (ls : Array Slot), va_P D vwCl [(mo, .inr (7, mFs thr a1 a2 a3 (nI lt) (nI lb) (nI lz) ci a4 a5 a6 nu bk se op fa a7 a8 a9 a10 a11 (nI rn) kh kl sh sl a12 a13 a14 a15 a16 a17 a18 a19 a20)), (a15, .inl (cI, 17, .inl (nF ((rI (pRed ga gb gd gc n).2 (pRed ga gb gd gc n).1 17).2)))), (a16, .inl (cI, 17, .inl (nF gb))), (a17, .inl (cI, 40, .inl (nF (iter (rC ((rI (pRed ga gb gd gc n).2 (pRed ga gb gd gc n).1 17).2)) i ((pRed ga gb gd gc n).2))))), (a18, .inl (cI, 17, .inl (nF gc)))] H → va_D A [(mo, .inr (7, mFs thr a1 a2 a3 (nI lt) (nI lb) (nI lz) ci a4 a5 a6 nu bk se op fa a7 a8 a9 a10 a11 (nI rn) kh kl sh sl a12 a13 a14 a15 a16 a17 a18 a19 a20)), (a15, .inl (cI, 17, .inl (nF ((rI (pRed ga gb gd gc n).2 (pRed ga gb gd gc n).1 17).2)))), (a16, .inl (cI, 17, .inl (nF gb))), (a17, .inl (cI, 40, .inl (nF (iter (rC ((rI (pRed ga gb gd gc n).2 (pRed ga gb gd gc n).1 17).2)) i ((pRed ga gb gd gc n).2))))), (a18, .inl (cI, 17, .inl (nF gc)))] → va_S A s.heap H locs → lv_has ls 5 [(3, .int (nI i)), (2, .int (nI n)), (0, .ref mo)] → W p l e rm_M_poly s m args below meth c H locs 0 0 (MQ below (sbQv D (fun (_ : Unit) => True) (fun (_ : Unit) => [(mo, .inr (7, mFs thr a1 a2 a3 (nI lt) (nI lb) (nI lz) ci a4 a5 a6 nu bk se op fa a7 a8 a9 a10 a11 (nI rn) kh kl sh sl a12 a13 a14 a15 a16 a17 a18 a19 a20)), (a15, .inl (cI, 17, .inl (nF (polyT ga gb gd gc)))), (a16, .inl (cI, 17, .inl (nF gb))), (a17, .inl (cI, 40, .inl (nF (polyD ga gb gd gc)))), (a18, .inl (cI, 17, .inl (nF gc)))]) A) args s 0 0 A) (F0 m 257 ls []) := by
                        intro d10
                        induction d10 with
                        | zero =>
                          intro i hi10 H locs ls hP hD hS hl
                          obtain rfl : 40 = i := by omega
                          refine lv_iload_n hx hb d_M_poly_257 rfl (lv_at hl 0 rfl) ?_
                          refine lv_bipush (v := 40) hx hb d_M_poly_258 (by decide) ?_
                          refine lv_icmp_ge (tgt := 291) hx hb d_M_poly_260 (by decide) (fun c_29 => ?_) (fun c_29 => absurd (sb_geT (a := 40) (b := 40) rfl rfl (by omega) (by omega) (by omega)) c_29)
                          refine lv_iinc (v := nI (n + 1)) (lv' := [(2, .int (nI (n + 1))), (3, .int (nI 40)), (0, .ref mo)]) hx hb d_M_poly_291 hl (k := 1) rfl (sb_inc (a := n) (b := n + 1) (d := 1) rfl (by decide) (by omega)) (by decide) rfl (fun ls hl => ?_)
                          refine lv_goto (tgt := 158) hx hb d_M_poly_294 (by decide) ?_
                          have hE : (pRed ga gb gd gc (n + 1)) = ((rI (pRed ga gb gd gc n).2 (pRed ga gb gd gc n).1 17).2, iter (rC ((rI (pRed ga gb gd gc n).2 (pRed ga gb gd gc n).1 17).2)) 40 ((pRed ga gb gd gc n).2)) := rfl
                          have ih' := ih4 (n + 1) (by omega)
                          rw [hE] at ih'
                          exact ih' _ _ ls (hP.sub [0, 1, 2, 3, 4] rfl) (hD.sub [0, 1, 2, 3, 4] (by decide) rfl) hS (lv_sub hl [0, 2] rfl)
                        | succ d10 ih10 =>
                          intro i hi10 H locs ls hP hD hS hl
                          refine lv_iload_n hx hb d_M_poly_257 rfl (lv_at hl 0 rfl) ?_
                          refine lv_bipush (v := 40) hx hb d_M_poly_258 (by decide) ?_
                          refine lv_icmp_ge (tgt := 291) hx hb d_M_poly_260 (by decide) (fun c_30 => absurd c_30 (sb_geF (a := i) (b := 40) rfl rfl (by omega) (by omega) (by omega))) (fun c_30 => ?_)
                          refine lv_aload_n hx hb d_M_poly_263 rfl (lv_at hl 2 rfl) ?_
                          refine va_get (D := D) (ci := 7) (v := .ref a17) (C := R_M) (T := F_M) (N := 35) hx hb hts in_M hown hG.1 hP 0 rfl rfl 31 (by decide) (hts _ k_728) (fun _ h9 => h9) rfl d_M_poly_264 ?_
                          refine lv_iload_n hx hb d_M_poly_267 rfl (lv_at hl 0 rfl) ?_
                          refine lv_iload_n hx hb d_M_poly_268 rfl (lv_at hl 0 rfl) ?_
                          refine lv_bipush (v := 17) hx hb d_M_poly_269 (by decide) ?_
                          refine lv_icmp_ge (tgt := 283) hx hb d_M_poly_271 (by decide) (fun c_31 => ?_) (fun c_31 => ?_)
                          · have c_31 := (sb_geI (a := i) (b := 17) rfl rfl (by omega) (by omega)).mp c_31
                            refine lv_iconst (v := 0) hx hb d_M_poly_283 (by decide) ?_
                            refine sb_ist hx hb hG.1 hP hD hS 3 rfl i rfl (by omega) (by omega) d_M_poly_284 (fun f_32 H locs ef_32 hP hD hS => ?_)
                            have hP : va_P D vwCl [(mo, .inr (7, mFs thr a1 a2 a3 (nI lt) (nI lb) (nI lz) ci a4 a5 a6 nu bk se op fa a7 a8 a9 a10 a11 (nI rn) kh kl sh sl a12 a13 a14 a15 a16 a17 a18 a19 a20)), (a15, .inl (cI, 17, .inl (nF ((rI (pRed ga gb gd gc n).2 (pRed ga gb gd gc n).1 17).2)))), (a16, .inl (cI, 17, .inl (nF gb))), (a17, .inl (cI, 40, .inl f_32)), (a18, .inl (cI, 17, .inl (nF gc)))] H := hP
                            have hD : va_D A [(mo, .inr (7, mFs thr a1 a2 a3 (nI lt) (nI lb) (nI lz) ci a4 a5 a6 nu bk se op fa a7 a8 a9 a10 a11 (nI rn) kh kl sh sl a12 a13 a14 a15 a16 a17 a18 a19 a20)), (a15, .inl (cI, 17, .inl (nF ((rI (pRed ga gb gd gc n).2 (pRed ga gb gd gc n).1 17).2)))), (a16, .inl (cI, 17, .inl (nF gb))), (a17, .inl (cI, 40, .inl f_32)), (a18, .inl (cI, 17, .inl (nF gc)))] := hD
                            obtain rfl : f_32 = nF (updN (iter (rC ((rI (pRed ga gb gd gc n).2 (pRed ga gb gd gc n).1 17).2)) i ((pRed ga gb gd gc n).2)) i 0) := ef_32.trans (nF_set _ _ _)
                            have hP : va_P D vwCl [(mo, .inr (7, mFs thr a1 a2 a3 (nI lt) (nI lb) (nI lz) ci a4 a5 a6 nu bk se op fa a7 a8 a9 a10 a11 (nI rn) kh kl sh sl a12 a13 a14 a15 a16 a17 a18 a19 a20)), (a15, .inl (cI, 17, .inl (nF ((rI (pRed ga gb gd gc n).2 (pRed ga gb gd gc n).1 17).2)))), (a16, .inl (cI, 17, .inl (nF gb))), (a17, .inl (cI, 40, .inl (nF (updN (iter (rC ((rI (pRed ga gb gd gc n).2 (pRed ga gb gd gc n).1 17).2)) i ((pRed ga gb gd gc n).2)) i 0)))), (a18, .inl (cI, 17, .inl (nF gc)))] H := hP
                            have hD : va_D A [(mo, .inr (7, mFs thr a1 a2 a3 (nI lt) (nI lb) (nI lz) ci a4 a5 a6 nu bk se op fa a7 a8 a9 a10 a11 (nI rn) kh kl sh sl a12 a13 a14 a15 a16 a17 a18 a19 a20)), (a15, .inl (cI, 17, .inl (nF ((rI (pRed ga gb gd gc n).2 (pRed ga gb gd gc n).1 17).2)))), (a16, .inl (cI, 17, .inl (nF gb))), (a17, .inl (cI, 40, .inl (nF (updN (iter (rC ((rI (pRed ga gb gd gc n).2 (pRed ga gb gd gc n).1 17).2)) i ((pRed ga gb gd gc n).2)) i 0)))), (a18, .inl (cI, 17, .inl (nF gc)))] := hD
                            refine lv_iinc (v := nI (i + 1)) (lv' := [(3, .int (nI (i + 1))), (2, .int (nI n)), (0, .ref mo)]) hx hb d_M_poly_285 hl (k := 0) rfl (sb_inc (a := i) (b := i + 1) (d := 1) rfl (by decide) (by omega)) (by decide) rfl (fun ls hl => ?_)
                            refine lv_goto (tgt := 257) hx hb d_M_poly_288 (by decide) ?_
                            rw [show nF (updN (iter (rC ((rI (pRed ga gb gd gc n).2 (pRed ga gb gd gc n).1 17).2)) i ((pRed ga gb gd gc n).2)) i 0) = nF (iter (rC ((rI (pRed ga gb gd gc n).2 (pRed ga gb gd gc n).1 17).2)) (i + 1) ((pRed ga gb gd gc n).2)) from (congrArg nF (Eq.trans (by simp only [rC, if_pos c_31]) (iter_s _ _ _).symm))] at hP hD
                            exact ih10 (i + 1) (by omega) _ _ ls (hP.sub [0, 1, 2, 3, 4] rfl) (hD.sub [0, 1, 2, 3, 4] (by decide) rfl) hS (lv_sub hl [0, 1, 2] rfl)
                          · have c_31 := mt (sb_geI (a := i) (b := 17) rfl rfl (by omega) (by omega)).mpr c_31
                            refine lv_aload_n hx hb d_M_poly_274 rfl (lv_at hl 2 rfl) ?_
                            refine va_get (D := D) (ci := 7) (v := .ref a15) (C := R_M) (T := F_M) (N := 35) hx hb hts in_M hown hG.1 hP 0 rfl rfl 29 (by decide) (hts _ k_726) (fun _ h9 => h9) rfl d_M_poly_275 ?_
                            refine lv_iload_n hx hb d_M_poly_278 rfl (lv_at hl 0 rfl) ?_
                            refine sb_ild hx hb hG.1 hP 1 rfl i rfl (by omega) (by omega) d_M_poly_279 ?_
                            refine lv_goto (tgt := 284) hx hb d_M_poly_280 (by decide) ?_
                            refine sb_topn (((rI (pRed ga gb gd gc n).2 (pRed ga gb gd gc n).1 17).2) i) rfl ?_
                            refine sb_ist hx hb hG.1 hP hD hS 3 rfl i rfl (by omega) (by omega) d_M_poly_284 (fun f_33 H locs ef_33 hP hD hS => ?_)
                            have hP : va_P D vwCl [(mo, .inr (7, mFs thr a1 a2 a3 (nI lt) (nI lb) (nI lz) ci a4 a5 a6 nu bk se op fa a7 a8 a9 a10 a11 (nI rn) kh kl sh sl a12 a13 a14 a15 a16 a17 a18 a19 a20)), (a15, .inl (cI, 17, .inl (nF ((rI (pRed ga gb gd gc n).2 (pRed ga gb gd gc n).1 17).2)))), (a16, .inl (cI, 17, .inl (nF gb))), (a17, .inl (cI, 40, .inl f_33)), (a18, .inl (cI, 17, .inl (nF gc)))] H := hP
                            have hD : va_D A [(mo, .inr (7, mFs thr a1 a2 a3 (nI lt) (nI lb) (nI lz) ci a4 a5 a6 nu bk se op fa a7 a8 a9 a10 a11 (nI rn) kh kl sh sl a12 a13 a14 a15 a16 a17 a18 a19 a20)), (a15, .inl (cI, 17, .inl (nF ((rI (pRed ga gb gd gc n).2 (pRed ga gb gd gc n).1 17).2)))), (a16, .inl (cI, 17, .inl (nF gb))), (a17, .inl (cI, 40, .inl f_33)), (a18, .inl (cI, 17, .inl (nF gc)))] := hD
                            obtain rfl : f_33 = nF (updN (iter (rC ((rI (pRed ga gb gd gc n).2 (pRed ga gb gd gc n).1 17).2)) i ((pRed ga gb gd gc n).2)) i (((rI (pRed ga gb gd gc n).2 (pRed ga gb gd gc n).1 17).2) i)) := ef_33.trans (nF_set _ _ _)
                            have hP : va_P D vwCl [(mo, .inr (7, mFs thr a1 a2 a3 (nI lt) (nI lb) (nI lz) ci a4 a5 a6 nu bk se op fa a7 a8 a9 a10 a11 (nI rn) kh kl sh sl a12 a13 a14 a15 a16 a17 a18 a19 a20)), (a15, .inl (cI, 17, .inl (nF ((rI (pRed ga gb gd gc n).2 (pRed ga gb gd gc n).1 17).2)))), (a16, .inl (cI, 17, .inl (nF gb))), (a17, .inl (cI, 40, .inl (nF (updN (iter (rC ((rI (pRed ga gb gd gc n).2 (pRed ga gb gd gc n).1 17).2)) i ((pRed ga gb gd gc n).2)) i (((rI (pRed ga gb gd gc n).2 (pRed ga gb gd gc n).1 17).2) i))))), (a18, .inl (cI, 17, .inl (nF gc)))] H := hP
                            have hD : va_D A [(mo, .inr (7, mFs thr a1 a2 a3 (nI lt) (nI lb) (nI lz) ci a4 a5 a6 nu bk se op fa a7 a8 a9 a10 a11 (nI rn) kh kl sh sl a12 a13 a14 a15 a16 a17 a18 a19 a20)), (a15, .inl (cI, 17, .inl (nF ((rI (pRed ga gb gd gc n).2 (pRed ga gb gd gc n).1 17).2)))), (a16, .inl (cI, 17, .inl (nF gb))), (a17, .inl (cI, 40, .inl (nF (updN (iter (rC ((rI (pRed ga gb gd gc n).2 (pRed ga gb gd gc n).1 17).2)) i ((pRed ga gb gd gc n).2)) i (((rI (pRed ga gb gd gc n).2 (pRed ga gb gd gc n).1 17).2) i))))), (a18, .inl (cI, 17, .inl (nF gc)))] := hD
                            refine lv_iinc (v := nI (i + 1)) (lv' := [(3, .int (nI (i + 1))), (2, .int (nI n)), (0, .ref mo)]) hx hb d_M_poly_285 hl (k := 0) rfl (sb_inc (a := i) (b := i + 1) (d := 1) rfl (by decide) (by omega)) (by decide) rfl (fun ls hl => ?_)
                            refine lv_goto (tgt := 257) hx hb d_M_poly_288 (by decide) ?_
                            rw [show nF (updN (iter (rC ((rI (pRed ga gb gd gc n).2 (pRed ga gb gd gc n).1 17).2)) i ((pRed ga gb gd gc n).2)) i (((rI (pRed ga gb gd gc n).2 (pRed ga gb gd gc n).1 17).2) i)) = nF (iter (rC ((rI (pRed ga gb gd gc n).2 (pRed ga gb gd gc n).1 17).2)) (i + 1) ((pRed ga gb gd gc n).2)) from (congrArg nF (Eq.trans (by simp only [rC, if_neg c_31]) (iter_s _ _ _).symm))] at hP hD
                            exact ih10 (i + 1) (by omega) _ _ ls (hP.sub [0, 1, 2, 3, 4] rfl) (hD.sub [0, 1, 2, 3, 4] (by decide) rfl) hS (lv_sub hl [0, 1, 2] rfl)
                      exact lp10 40 0 (by omega) _ _ ls (hP.sub [0, 1, 2, 3, 4] rfl) (hD.sub [0, 1, 2, 3, 4] (by decide) rfl) hS (lv_sub hl [0, 2, 3] rfl)
                    | succ d9 ih9 =>
                      intro k hi9 H locs ls hP hD hS hl
                      have hB := rI_B hR2 hR1 k
                      have hb1 := hB.1
                      have hb2 := hR2 k
                      have hb3 := hR2 (16 + k)
                      have hb4 := hR2 (17 + k)
                      have hb5 := hR2 16
                      refine lv_iload_n hx hb d_M_poly_167 rfl (lv_at hl 1 rfl) ?_
                      refine lv_bipush (v := 17) hx hb d_M_poly_168 (by decide) ?_
                      refine lv_icmp_ge (tgt := 255) hx hb d_M_poly_170 (by decide) (fun c_34 => absurd c_34 (sb_geF (a := k) (b := 17) rfl rfl (by omega) (by omega) (by omega))) (fun c_34 => ?_)
                      refine lv_iload_n hx hb d_M_poly_173 rfl (lv_at hl 1 rfl) ?_
                      refine lv_bipush (v := 16) hx hb d_M_poly_174 (by decide) ?_
                      refine lv_icmp_ne (tgt := 191) hx hb d_M_poly_176 (by decide) (fun c_35 => ?_) (fun c_35 => ?_)
                      · have c_35 := mt (sb_eqI (a := k) (b := 16) rfl rfl (by omega) (by omega)).mpr c_35
                        refine lv_aload_n hx hb d_M_poly_191 rfl (lv_at hl 3 rfl) ?_
                        refine va_get (D := D) (ci := 7) (v := .ref a17) (C := R_M) (T := F_M) (N := 35) hx hb hts in_M hown hG.1 hP 0 rfl rfl 31 (by decide) (hts _ k_728) (fun _ h9 => h9) rfl d_M_poly_192 ?_
                        refine lv_iload_n hx hb d_M_poly_195 rfl (lv_at hl 1 rfl) ?_
                        refine sb_ild hx hb hG.1 hP 3 rfl k rfl (by omega) (by omega) d_M_poly_196 ?_
                        refine sb_topn (((pRed ga gb gd gc n).2) k) rfl ?_
                        refine lv_istore (lv' := [(4, .int (nI (((pRed ga gb gd gc n).2) k))), (1, .int (nI ((rI (pRed ga gb gd gc n).2 (pRed ga gb gd gc n).1 k).1))), (3, .int (nI k)), (2, .int (nI n)), (0, .ref mo)]) hx hb d_M_poly_197 hl (by decide) rfl (fun ls hl => ?_)
                        refine lv_iload_n hx hb d_M_poly_199 rfl (lv_at hl 1 rfl) ?_
                        refine lv_iload hx hb d_M_poly_200 (lv_at hl 0 rfl) ?_
                        refine lv_iconst (v := 5) hx hb d_M_poly_202 (by decide) ?_
                        refine lv_aload_n hx hb d_M_poly_203 rfl (lv_at hl 4 rfl) ?_
                        refine va_get (D := D) (ci := 7) (v := .ref a17) (C := R_M) (T := F_M) (N := 35) hx hb hts in_M hown hG.1 hP 0 rfl rfl 31 (by decide) (hts _ k_728) (fun _ h9 => h9) rfl d_M_poly_204 ?_
                        refine lv_bipush (v := 16) hx hb d_M_poly_207 (by decide) ?_
                        refine lv_iload_n hx hb d_M_poly_209 rfl (lv_at hl 2 rfl) ?_
                        refine lv_iadd hx hb d_M_poly_210 ?_
                        refine sb_topn (16 + k) (nI_add 16 k) ?_
                        refine sb_ild hx hb hG.1 hP 3 rfl (16 + k) rfl (by omega) (by omega) d_M_poly_211 ?_
                        refine lv_iconst (v := 2) hx hb d_M_poly_212 (by decide) ?_
                        refine lv_ishr hx hb d_M_poly_213 ?_
                        refine sb_topn ((((pRed ga gb gd gc n).2) (16 + k)) / 4) (sb_shr (a := ((pRed ga gb gd gc n).2) (16 + k)) 2 rfl (by omega) (by decide)) ?_
                        refine lv_aload_n hx hb d_M_poly_214 rfl (lv_at hl 4 rfl) ?_
                        refine va_get (D := D) (ci := 7) (v := .ref a17) (C := R_M) (T := F_M) (N := 35) hx hb hts in_M hown hG.1 hP 0 rfl rfl 31 (by decide) (hts _ k_728) (fun _ h9 => h9) rfl d_M_poly_215 ?_
                        refine lv_bipush (v := 17) hx hb d_M_poly_218 (by decide) ?_
                        refine lv_iload_n hx hb d_M_poly_220 rfl (lv_at hl 2 rfl) ?_
                        refine lv_iadd hx hb d_M_poly_221 ?_
                        refine sb_topn (17 + k) (nI_add 17 k) ?_
                        refine sb_ild hx hb hG.1 hP 3 rfl (17 + k) rfl (by omega) (by omega) d_M_poly_222 ?_
                        refine lv_iconst (v := 3) hx hb d_M_poly_223 (by decide) ?_
                        refine lv_iand hx hb d_M_poly_224 ?_
                        refine sb_topn ((((pRed ga gb gd gc n).2) (17 + k)) % 4) (sb_and (a := ((pRed ga gb gd gc n).2) (17 + k)) 2 rfl (by omega) (by decide)) ?_
                        refine lv_bipush (v := 6) hx hb d_M_poly_225 (by decide) ?_
                        refine lv_ishl hx hb d_M_poly_227 ?_
                        refine sb_topn (((((pRed ga gb gd gc n).2) (17 + k)) % 4) * 64) (sb_shl (a := (((pRed ga gb gd gc n).2) (17 + k)) % 4) 6 rfl (by omega) (by decide)) ?_
                        refine lv_ior hx hb d_M_poly_228 ?_
                        refine sb_topn (((((pRed ga gb gd gc n).2) (16 + k)) / 4) + (((((pRed ga gb gd gc n).2) (17 + k)) % 4) * 64)) (sb_or6 (a := (((pRed ga gb gd gc n).2) (16 + k)) / 4) (b := ((((pRed ga gb gd gc n).2) (17 + k)) % 4)) rfl rfl (by omega)) ?_
                        refine lv_imul hx hb d_M_poly_229 ?_
                        refine sb_topn (5 * (((((pRed ga gb gd gc n).2) (16 + k)) / 4) + (((((pRed ga gb gd gc n).2) (17 + k)) % 4) * 64))) (sb_mul (a := 5) (b := ((((pRed ga gb gd gc n).2) (16 + k)) / 4) + (((((pRed ga gb gd gc n).2) (17 + k)) % 4) * 64)) rfl rfl) ?_
                        refine lv_iadd hx hb d_M_poly_230 ?_
                        refine sb_topn ((((pRed ga gb gd gc n).2) k) + (5 * (((((pRed ga gb gd gc n).2) (16 + k)) / 4) + (((((pRed ga gb gd gc n).2) (17 + k)) % 4) * 64)))) (nI_add (((pRed ga gb gd gc n).2) k) (5 * (((((pRed ga gb gd gc n).2) (16 + k)) / 4) + (((((pRed ga gb gd gc n).2) (17 + k)) % 4) * 64)))) ?_
                        refine lv_iadd hx hb d_M_poly_231 ?_
                        refine sb_topn (((rI (pRed ga gb gd gc n).2 (pRed ga gb gd gc n).1 k).1) + ((((pRed ga gb gd gc n).2) k) + (5 * (((((pRed ga gb gd gc n).2) (16 + k)) / 4) + (((((pRed ga gb gd gc n).2) (17 + k)) % 4) * 64))))) (nI_add ((rI (pRed ga gb gd gc n).2 (pRed ga gb gd gc n).1 k).1) ((((pRed ga gb gd gc n).2) k) + (5 * (((((pRed ga gb gd gc n).2) (16 + k)) / 4) + (((((pRed ga gb gd gc n).2) (17 + k)) % 4) * 64))))) ?_
                        refine sb_topn (((rI (pRed ga gb gd gc n).2 (pRed ga gb gd gc n).1 k).1) + ((((pRed ga gb gd gc n).2) k) + (5 * (((((pRed ga gb gd gc n).2) (16 + k)) / 4) + (((((pRed ga gb gd gc n).2) (17 + k)) % 4) * 64))))) rfl ?_
                        refine lv_istore_n (lv' := [(1, .int (nI (((rI (pRed ga gb gd gc n).2 (pRed ga gb gd gc n).1 k).1) + ((((pRed ga gb gd gc n).2) k) + (5 * (((((pRed ga gb gd gc n).2) (16 + k)) / 4) + (((((pRed ga gb gd gc n).2) (17 + k)) % 4) * 64))))))), (4, .int (nI (((pRed ga gb gd gc n).2) k))), (3, .int (nI k)), (2, .int (nI n)), (0, .ref mo)]) hx hb d_M_poly_232 rfl hl (by decide) rfl (fun ls hl => ?_)
                        refine lv_aload_n hx hb d_M_poly_233 rfl (lv_at hl 4 rfl) ?_
                        refine va_get (D := D) (ci := 7) (v := .ref a15) (C := R_M) (T := F_M) (N := 35) hx hb hts in_M hown hG.1 hP 0 rfl rfl 29 (by decide) (hts _ k_726) (fun _ h9 => h9) rfl d_M_poly_234 ?_
                        refine lv_iload_n hx hb d_M_poly_237 rfl (lv_at hl 2 rfl) ?_
                        refine lv_iload_n hx hb d_M_poly_238 rfl (lv_at hl 0 rfl) ?_
                        refine lv_sipush (v := 255) hx hb d_M_poly_239 (by decide) ?_
                        refine lv_iand hx hb d_M_poly_242 ?_
                        refine sb_topn ((((rI (pRed ga gb gd gc n).2 (pRed ga gb gd gc n).1 k).1) + ((((pRed ga gb gd gc n).2) k) + (5 * (((((pRed ga gb gd gc n).2) (16 + k)) / 4) + (((((pRed ga gb gd gc n).2) (17 + k)) % 4) * 64))))) % 256) (sb_and (a := ((rI (pRed ga gb gd gc n).2 (pRed ga gb gd gc n).1 k).1) + ((((pRed ga gb gd gc n).2) k) + (5 * (((((pRed ga gb gd gc n).2) (16 + k)) / 4) + (((((pRed ga gb gd gc n).2) (17 + k)) % 4) * 64))))) 8 rfl (by omega) (by decide)) ?_
                        refine sb_topn ((((rI (pRed ga gb gd gc n).2 (pRed ga gb gd gc n).1 k).1) + ((((pRed ga gb gd gc n).2) k) + (5 * (((((pRed ga gb gd gc n).2) (16 + k)) / 4) + (((((pRed ga gb gd gc n).2) (17 + k)) % 4) * 64))))) % 256) rfl ?_
                        refine sb_ist hx hb hG.1 hP hD hS 1 rfl k rfl (by omega) (by omega) d_M_poly_243 (fun f_36 H locs ef_36 hP hD hS => ?_)
                        have hP : va_P D vwCl [(mo, .inr (7, mFs thr a1 a2 a3 (nI lt) (nI lb) (nI lz) ci a4 a5 a6 nu bk se op fa a7 a8 a9 a10 a11 (nI rn) kh kl sh sl a12 a13 a14 a15 a16 a17 a18 a19 a20)), (a15, .inl (cI, 17, .inl f_36)), (a16, .inl (cI, 17, .inl (nF gb))), (a17, .inl (cI, 40, .inl (nF ((pRed ga gb gd gc n).2)))), (a18, .inl (cI, 17, .inl (nF gc)))] H := hP
                        have hD : va_D A [(mo, .inr (7, mFs thr a1 a2 a3 (nI lt) (nI lb) (nI lz) ci a4 a5 a6 nu bk se op fa a7 a8 a9 a10 a11 (nI rn) kh kl sh sl a12 a13 a14 a15 a16 a17 a18 a19 a20)), (a15, .inl (cI, 17, .inl f_36)), (a16, .inl (cI, 17, .inl (nF gb))), (a17, .inl (cI, 40, .inl (nF ((pRed ga gb gd gc n).2)))), (a18, .inl (cI, 17, .inl (nF gc)))] := hD
                        obtain rfl : f_36 = nF (updN ((rI (pRed ga gb gd gc n).2 (pRed ga gb gd gc n).1 k).2) k ((((rI (pRed ga gb gd gc n).2 (pRed ga gb gd gc n).1 k).1) + ((((pRed ga gb gd gc n).2) k) + (5 * (((((pRed ga gb gd gc n).2) (16 + k)) / 4) + (((((pRed ga gb gd gc n).2) (17 + k)) % 4) * 64))))) % 256)) := ef_36.trans (nF_set _ _ _)
                        have hP : va_P D vwCl [(mo, .inr (7, mFs thr a1 a2 a3 (nI lt) (nI lb) (nI lz) ci a4 a5 a6 nu bk se op fa a7 a8 a9 a10 a11 (nI rn) kh kl sh sl a12 a13 a14 a15 a16 a17 a18 a19 a20)), (a15, .inl (cI, 17, .inl (nF (updN ((rI (pRed ga gb gd gc n).2 (pRed ga gb gd gc n).1 k).2) k ((((rI (pRed ga gb gd gc n).2 (pRed ga gb gd gc n).1 k).1) + ((((pRed ga gb gd gc n).2) k) + (5 * (((((pRed ga gb gd gc n).2) (16 + k)) / 4) + (((((pRed ga gb gd gc n).2) (17 + k)) % 4) * 64))))) % 256))))), (a16, .inl (cI, 17, .inl (nF gb))), (a17, .inl (cI, 40, .inl (nF ((pRed ga gb gd gc n).2)))), (a18, .inl (cI, 17, .inl (nF gc)))] H := hP
                        have hD : va_D A [(mo, .inr (7, mFs thr a1 a2 a3 (nI lt) (nI lb) (nI lz) ci a4 a5 a6 nu bk se op fa a7 a8 a9 a10 a11 (nI rn) kh kl sh sl a12 a13 a14 a15 a16 a17 a18 a19 a20)), (a15, .inl (cI, 17, .inl (nF (updN ((rI (pRed ga gb gd gc n).2 (pRed ga gb gd gc n).1 k).2) k ((((rI (pRed ga gb gd gc n).2 (pRed ga gb gd gc n).1 k).1) + ((((pRed ga gb gd gc n).2) k) + (5 * (((((pRed ga gb gd gc n).2) (16 + k)) / 4) + (((((pRed ga gb gd gc n).2) (17 + k)) % 4) * 64))))) % 256))))), (a16, .inl (cI, 17, .inl (nF gb))), (a17, .inl (cI, 40, .inl (nF ((pRed ga gb gd gc n).2)))), (a18, .inl (cI, 17, .inl (nF gc)))] := hD
                        refine lv_iload_n hx hb d_M_poly_244 rfl (lv_at hl 0 rfl) ?_
                        refine lv_bipush (v := 8) hx hb d_M_poly_245 (by decide) ?_
                        refine lv_ishr hx hb d_M_poly_247 ?_
                        refine sb_topn ((((rI (pRed ga gb gd gc n).2 (pRed ga gb gd gc n).1 k).1) + ((((pRed ga gb gd gc n).2) k) + (5 * (((((pRed ga gb gd gc n).2) (16 + k)) / 4) + (((((pRed ga gb gd gc n).2) (17 + k)) % 4) * 64))))) / 256) (sb_shr (a := ((rI (pRed ga gb gd gc n).2 (pRed ga gb gd gc n).1 k).1) + ((((pRed ga gb gd gc n).2) k) + (5 * (((((pRed ga gb gd gc n).2) (16 + k)) / 4) + (((((pRed ga gb gd gc n).2) (17 + k)) % 4) * 64))))) 8 rfl (by omega) (by decide)) ?_
                        refine sb_topn ((((rI (pRed ga gb gd gc n).2 (pRed ga gb gd gc n).1 k).1) + ((((pRed ga gb gd gc n).2) k) + (5 * (((((pRed ga gb gd gc n).2) (16 + k)) / 4) + (((((pRed ga gb gd gc n).2) (17 + k)) % 4) * 64))))) / 256) rfl ?_
                        refine lv_istore_n (lv' := [(1, .int (nI ((((rI (pRed ga gb gd gc n).2 (pRed ga gb gd gc n).1 k).1) + ((((pRed ga gb gd gc n).2) k) + (5 * (((((pRed ga gb gd gc n).2) (16 + k)) / 4) + (((((pRed ga gb gd gc n).2) (17 + k)) % 4) * 64))))) / 256))), (4, .int (nI (((pRed ga gb gd gc n).2) k))), (3, .int (nI k)), (2, .int (nI n)), (0, .ref mo)]) hx hb d_M_poly_248 rfl hl (by decide) rfl (fun ls hl => ?_)
                        refine lv_iinc (v := nI (k + 1)) (lv' := [(3, .int (nI (k + 1))), (1, .int (nI ((((rI (pRed ga gb gd gc n).2 (pRed ga gb gd gc n).1 k).1) + ((((pRed ga gb gd gc n).2) k) + (5 * (((((pRed ga gb gd gc n).2) (16 + k)) / 4) + (((((pRed ga gb gd gc n).2) (17 + k)) % 4) * 64))))) / 256))), (4, .int (nI (((pRed ga gb gd gc n).2) k))), (2, .int (nI n)), (0, .ref mo)]) hx hb d_M_poly_249 hl (k := 2) rfl (sb_inc (a := k) (b := k + 1) (d := 1) rfl (by decide) (by omega)) (by decide) rfl (fun ls hl => ?_)
                        refine lv_goto (tgt := 167) hx hb d_M_poly_252 (by decide) ?_
                        have hE : (rI (pRed ga gb gd gc n).2 (pRed ga gb gd gc n).1 (k + 1)) = ((((rI (pRed ga gb gd gc n).2 (pRed ga gb gd gc n).1 k).1) + ((((pRed ga gb gd gc n).2) k) + (5 * (((((pRed ga gb gd gc n).2) (16 + k)) / 4) + (((((pRed ga gb gd gc n).2) (17 + k)) % 4) * 64))))) / 256, updN ((rI (pRed ga gb gd gc n).2 (pRed ga gb gd gc n).1 k).2) k ((((rI (pRed ga gb gd gc n).2 (pRed ga gb gd gc n).1 k).1) + ((((pRed ga gb gd gc n).2) k) + (5 * (((((pRed ga gb gd gc n).2) (16 + k)) / 4) + (((((pRed ga gb gd gc n).2) (17 + k)) % 4) * 64))))) % 256)) := (by show rS _ k (rI (pRed ga gb gd gc n).2 (pRed ga gb gd gc n).1 k) = _; simp only [rS, if_neg c_35])
                        have ih' := ih9 (k + 1) (by omega)
                        rw [hE] at ih'
                        exact ih' _ _ ls (hP.sub [0, 1, 2, 3, 4] rfl) (hD.sub [0, 1, 2, 3, 4] (by decide) rfl) hS (lv_sub hl [1, 0, 3, 4] rfl)
                      · have c_35 := (sb_eqI (a := k) (b := 16) rfl rfl (by omega) (by omega)).mp c_35
                        refine lv_aload_n hx hb d_M_poly_179 rfl (lv_at hl 3 rfl) ?_
                        refine va_get (D := D) (ci := 7) (v := .ref a17) (C := R_M) (T := F_M) (N := 35) hx hb hts in_M hown hG.1 hP 0 rfl rfl 31 (by decide) (hts _ k_728) (fun _ h9 => h9) rfl d_M_poly_180 ?_
                        refine lv_bipush (v := 16) hx hb d_M_poly_183 (by decide) ?_
                        refine sb_ild hx hb hG.1 hP 3 rfl 16 rfl (by omega) (by omega) d_M_poly_185 ?_
                        refine lv_iconst (v := 3) hx hb d_M_poly_186 (by decide) ?_
                        refine lv_iand hx hb d_M_poly_187 ?_
                        refine sb_topn ((((pRed ga gb gd gc n).2) 16) % 4) (sb_and (a := ((pRed ga gb gd gc n).2) 16) 2 rfl (by omega) (by decide)) ?_
                        refine lv_goto (tgt := 197) hx hb d_M_poly_188 (by decide) ?_
                        refine sb_topn ((((pRed ga gb gd gc n).2) 16) % 4) rfl ?_
                        refine lv_istore (lv' := [(4, .int (nI ((((pRed ga gb gd gc n).2) 16) % 4))), (1, .int (nI ((rI (pRed ga gb gd gc n).2 (pRed ga gb gd gc n).1 k).1))), (3, .int (nI k)), (2, .int (nI n)), (0, .ref mo)]) hx hb d_M_poly_197 hl (by decide) rfl (fun ls hl => ?_)
                        refine lv_iload_n hx hb d_M_poly_199 rfl (lv_at hl 1 rfl) ?_
                        refine lv_iload hx hb d_M_poly_200 (lv_at hl 0 rfl) ?_
                        refine lv_iconst (v := 5) hx hb d_M_poly_202 (by decide) ?_
                        refine lv_aload_n hx hb d_M_poly_203 rfl (lv_at hl 4 rfl) ?_
                        refine va_get (D := D) (ci := 7) (v := .ref a17) (C := R_M) (T := F_M) (N := 35) hx hb hts in_M hown hG.1 hP 0 rfl rfl 31 (by decide) (hts _ k_728) (fun _ h9 => h9) rfl d_M_poly_204 ?_
                        refine lv_bipush (v := 16) hx hb d_M_poly_207 (by decide) ?_
                        refine lv_iload_n hx hb d_M_poly_209 rfl (lv_at hl 2 rfl) ?_
                        refine lv_iadd hx hb d_M_poly_210 ?_
                        refine sb_topn (16 + k) (nI_add 16 k) ?_
                        refine sb_ild hx hb hG.1 hP 3 rfl (16 + k) rfl (by omega) (by omega) d_M_poly_211 ?_
                        refine lv_iconst (v := 2) hx hb d_M_poly_212 (by decide) ?_
                        refine lv_ishr hx hb d_M_poly_213 ?_
                        refine sb_topn ((((pRed ga gb gd gc n).2) (16 + k)) / 4) (sb_shr (a := ((pRed ga gb gd gc n).2) (16 + k)) 2 rfl (by omega) (by decide)) ?_
                        refine lv_aload_n hx hb d_M_poly_214 rfl (lv_at hl 4 rfl) ?_
                        refine va_get (D := D) (ci := 7) (v := .ref a17) (C := R_M) (T := F_M) (N := 35) hx hb hts in_M hown hG.1 hP 0 rfl rfl 31 (by decide) (hts _ k_728) (fun _ h9 => h9) rfl d_M_poly_215 ?_
                        refine lv_bipush (v := 17) hx hb d_M_poly_218 (by decide) ?_
                        refine lv_iload_n hx hb d_M_poly_220 rfl (lv_at hl 2 rfl) ?_
                        refine lv_iadd hx hb d_M_poly_221 ?_
                        refine sb_topn (17 + k) (nI_add 17 k) ?_
                        refine sb_ild hx hb hG.1 hP 3 rfl (17 + k) rfl (by omega) (by omega) d_M_poly_222 ?_
                        refine lv_iconst (v := 3) hx hb d_M_poly_223 (by decide) ?_
                        refine lv_iand hx hb d_M_poly_224 ?_
                        refine sb_topn ((((pRed ga gb gd gc n).2) (17 + k)) % 4) (sb_and (a := ((pRed ga gb gd gc n).2) (17 + k)) 2 rfl (by omega) (by decide)) ?_
                        refine lv_bipush (v := 6) hx hb d_M_poly_225 (by decide) ?_
                        refine lv_ishl hx hb d_M_poly_227 ?_
                        refine sb_topn (((((pRed ga gb gd gc n).2) (17 + k)) % 4) * 64) (sb_shl (a := (((pRed ga gb gd gc n).2) (17 + k)) % 4) 6 rfl (by omega) (by decide)) ?_
                        refine lv_ior hx hb d_M_poly_228 ?_
                        refine sb_topn (((((pRed ga gb gd gc n).2) (16 + k)) / 4) + (((((pRed ga gb gd gc n).2) (17 + k)) % 4) * 64)) (sb_or6 (a := (((pRed ga gb gd gc n).2) (16 + k)) / 4) (b := ((((pRed ga gb gd gc n).2) (17 + k)) % 4)) rfl rfl (by omega)) ?_
                        refine lv_imul hx hb d_M_poly_229 ?_
                        refine sb_topn (5 * (((((pRed ga gb gd gc n).2) (16 + k)) / 4) + (((((pRed ga gb gd gc n).2) (17 + k)) % 4) * 64))) (sb_mul (a := 5) (b := ((((pRed ga gb gd gc n).2) (16 + k)) / 4) + (((((pRed ga gb gd gc n).2) (17 + k)) % 4) * 64)) rfl rfl) ?_
                        refine lv_iadd hx hb d_M_poly_230 ?_
                        refine sb_topn (((((pRed ga gb gd gc n).2) 16) % 4) + (5 * (((((pRed ga gb gd gc n).2) (16 + k)) / 4) + (((((pRed ga gb gd gc n).2) (17 + k)) % 4) * 64)))) (nI_add ((((pRed ga gb gd gc n).2) 16) % 4) (5 * (((((pRed ga gb gd gc n).2) (16 + k)) / 4) + (((((pRed ga gb gd gc n).2) (17 + k)) % 4) * 64)))) ?_
                        refine lv_iadd hx hb d_M_poly_231 ?_
                        refine sb_topn (((rI (pRed ga gb gd gc n).2 (pRed ga gb gd gc n).1 k).1) + (((((pRed ga gb gd gc n).2) 16) % 4) + (5 * (((((pRed ga gb gd gc n).2) (16 + k)) / 4) + (((((pRed ga gb gd gc n).2) (17 + k)) % 4) * 64))))) (nI_add ((rI (pRed ga gb gd gc n).2 (pRed ga gb gd gc n).1 k).1) (((((pRed ga gb gd gc n).2) 16) % 4) + (5 * (((((pRed ga gb gd gc n).2) (16 + k)) / 4) + (((((pRed ga gb gd gc n).2) (17 + k)) % 4) * 64))))) ?_
                        refine sb_topn (((rI (pRed ga gb gd gc n).2 (pRed ga gb gd gc n).1 k).1) + (((((pRed ga gb gd gc n).2) 16) % 4) + (5 * (((((pRed ga gb gd gc n).2) (16 + k)) / 4) + (((((pRed ga gb gd gc n).2) (17 + k)) % 4) * 64))))) rfl ?_
                        refine lv_istore_n (lv' := [(1, .int (nI (((rI (pRed ga gb gd gc n).2 (pRed ga gb gd gc n).1 k).1) + (((((pRed ga gb gd gc n).2) 16) % 4) + (5 * (((((pRed ga gb gd gc n).2) (16 + k)) / 4) + (((((pRed ga gb gd gc n).2) (17 + k)) % 4) * 64))))))), (4, .int (nI ((((pRed ga gb gd gc n).2) 16) % 4))), (3, .int (nI k)), (2, .int (nI n)), (0, .ref mo)]) hx hb d_M_poly_232 rfl hl (by decide) rfl (fun ls hl => ?_)
                        refine lv_aload_n hx hb d_M_poly_233 rfl (lv_at hl 4 rfl) ?_
                        refine va_get (D := D) (ci := 7) (v := .ref a15) (C := R_M) (T := F_M) (N := 35) hx hb hts in_M hown hG.1 hP 0 rfl rfl 29 (by decide) (hts _ k_726) (fun _ h9 => h9) rfl d_M_poly_234 ?_
                        refine lv_iload_n hx hb d_M_poly_237 rfl (lv_at hl 2 rfl) ?_
                        refine lv_iload_n hx hb d_M_poly_238 rfl (lv_at hl 0 rfl) ?_
                        refine lv_sipush (v := 255) hx hb d_M_poly_239 (by decide) ?_
                        refine lv_iand hx hb d_M_poly_242 ?_
                        refine sb_topn ((((rI (pRed ga gb gd gc n).2 (pRed ga gb gd gc n).1 k).1) + (((((pRed ga gb gd gc n).2) 16) % 4) + (5 * (((((pRed ga gb gd gc n).2) (16 + k)) / 4) + (((((pRed ga gb gd gc n).2) (17 + k)) % 4) * 64))))) % 256) (sb_and (a := ((rI (pRed ga gb gd gc n).2 (pRed ga gb gd gc n).1 k).1) + (((((pRed ga gb gd gc n).2) 16) % 4) + (5 * (((((pRed ga gb gd gc n).2) (16 + k)) / 4) + (((((pRed ga gb gd gc n).2) (17 + k)) % 4) * 64))))) 8 rfl (by omega) (by decide)) ?_
                        refine sb_topn ((((rI (pRed ga gb gd gc n).2 (pRed ga gb gd gc n).1 k).1) + (((((pRed ga gb gd gc n).2) 16) % 4) + (5 * (((((pRed ga gb gd gc n).2) (16 + k)) / 4) + (((((pRed ga gb gd gc n).2) (17 + k)) % 4) * 64))))) % 256) rfl ?_
                        refine sb_ist hx hb hG.1 hP hD hS 1 rfl k rfl (by omega) (by omega) d_M_poly_243 (fun f_37 H locs ef_37 hP hD hS => ?_)
                        have hP : va_P D vwCl [(mo, .inr (7, mFs thr a1 a2 a3 (nI lt) (nI lb) (nI lz) ci a4 a5 a6 nu bk se op fa a7 a8 a9 a10 a11 (nI rn) kh kl sh sl a12 a13 a14 a15 a16 a17 a18 a19 a20)), (a15, .inl (cI, 17, .inl f_37)), (a16, .inl (cI, 17, .inl (nF gb))), (a17, .inl (cI, 40, .inl (nF ((pRed ga gb gd gc n).2)))), (a18, .inl (cI, 17, .inl (nF gc)))] H := hP
                        have hD : va_D A [(mo, .inr (7, mFs thr a1 a2 a3 (nI lt) (nI lb) (nI lz) ci a4 a5 a6 nu bk se op fa a7 a8 a9 a10 a11 (nI rn) kh kl sh sl a12 a13 a14 a15 a16 a17 a18 a19 a20)), (a15, .inl (cI, 17, .inl f_37)), (a16, .inl (cI, 17, .inl (nF gb))), (a17, .inl (cI, 40, .inl (nF ((pRed ga gb gd gc n).2)))), (a18, .inl (cI, 17, .inl (nF gc)))] := hD
                        obtain rfl : f_37 = nF (updN ((rI (pRed ga gb gd gc n).2 (pRed ga gb gd gc n).1 k).2) k ((((rI (pRed ga gb gd gc n).2 (pRed ga gb gd gc n).1 k).1) + (((((pRed ga gb gd gc n).2) 16) % 4) + (5 * (((((pRed ga gb gd gc n).2) (16 + k)) / 4) + (((((pRed ga gb gd gc n).2) (17 + k)) % 4) * 64))))) % 256)) := ef_37.trans (nF_set _ _ _)
                        have hP : va_P D vwCl [(mo, .inr (7, mFs thr a1 a2 a3 (nI lt) (nI lb) (nI lz) ci a4 a5 a6 nu bk se op fa a7 a8 a9 a10 a11 (nI rn) kh kl sh sl a12 a13 a14 a15 a16 a17 a18 a19 a20)), (a15, .inl (cI, 17, .inl (nF (updN ((rI (pRed ga gb gd gc n).2 (pRed ga gb gd gc n).1 k).2) k ((((rI (pRed ga gb gd gc n).2 (pRed ga gb gd gc n).1 k).1) + (((((pRed ga gb gd gc n).2) 16) % 4) + (5 * (((((pRed ga gb gd gc n).2) (16 + k)) / 4) + (((((pRed ga gb gd gc n).2) (17 + k)) % 4) * 64))))) % 256))))), (a16, .inl (cI, 17, .inl (nF gb))), (a17, .inl (cI, 40, .inl (nF ((pRed ga gb gd gc n).2)))), (a18, .inl (cI, 17, .inl (nF gc)))] H := hP
                        have hD : va_D A [(mo, .inr (7, mFs thr a1 a2 a3 (nI lt) (nI lb) (nI lz) ci a4 a5 a6 nu bk se op fa a7 a8 a9 a10 a11 (nI rn) kh kl sh sl a12 a13 a14 a15 a16 a17 a18 a19 a20)), (a15, .inl (cI, 17, .inl (nF (updN ((rI (pRed ga gb gd gc n).2 (pRed ga gb gd gc n).1 k).2) k ((((rI (pRed ga gb gd gc n).2 (pRed ga gb gd gc n).1 k).1) + (((((pRed ga gb gd gc n).2) 16) % 4) + (5 * (((((pRed ga gb gd gc n).2) (16 + k)) / 4) + (((((pRed ga gb gd gc n).2) (17 + k)) % 4) * 64))))) % 256))))), (a16, .inl (cI, 17, .inl (nF gb))), (a17, .inl (cI, 40, .inl (nF ((pRed ga gb gd gc n).2)))), (a18, .inl (cI, 17, .inl (nF gc)))] := hD
                        refine lv_iload_n hx hb d_M_poly_244 rfl (lv_at hl 0 rfl) ?_
                        refine lv_bipush (v := 8) hx hb d_M_poly_245 (by decide) ?_
                        refine lv_ishr hx hb d_M_poly_247 ?_
                        refine sb_topn ((((rI (pRed ga gb gd gc n).2 (pRed ga gb gd gc n).1 k).1) + (((((pRed ga gb gd gc n).2) 16) % 4) + (5 * (((((pRed ga gb gd gc n).2) (16 + k)) / 4) + (((((pRed ga gb gd gc n).2) (17 + k)) % 4) * 64))))) / 256) (sb_shr (a := ((rI (pRed ga gb gd gc n).2 (pRed ga gb gd gc n).1 k).1) + (((((pRed ga gb gd gc n).2) 16) % 4) + (5 * (((((pRed ga gb gd gc n).2) (16 + k)) / 4) + (((((pRed ga gb gd gc n).2) (17 + k)) % 4) * 64))))) 8 rfl (by omega) (by decide)) ?_
                        refine sb_topn ((((rI (pRed ga gb gd gc n).2 (pRed ga gb gd gc n).1 k).1) + (((((pRed ga gb gd gc n).2) 16) % 4) + (5 * (((((pRed ga gb gd gc n).2) (16 + k)) / 4) + (((((pRed ga gb gd gc n).2) (17 + k)) % 4) * 64))))) / 256) rfl ?_
                        refine lv_istore_n (lv' := [(1, .int (nI ((((rI (pRed ga gb gd gc n).2 (pRed ga gb gd gc n).1 k).1) + (((((pRed ga gb gd gc n).2) 16) % 4) + (5 * (((((pRed ga gb gd gc n).2) (16 + k)) / 4) + (((((pRed ga gb gd gc n).2) (17 + k)) % 4) * 64))))) / 256))), (4, .int (nI ((((pRed ga gb gd gc n).2) 16) % 4))), (3, .int (nI k)), (2, .int (nI n)), (0, .ref mo)]) hx hb d_M_poly_248 rfl hl (by decide) rfl (fun ls hl => ?_)
                        refine lv_iinc (v := nI (k + 1)) (lv' := [(3, .int (nI (k + 1))), (1, .int (nI ((((rI (pRed ga gb gd gc n).2 (pRed ga gb gd gc n).1 k).1) + (((((pRed ga gb gd gc n).2) 16) % 4) + (5 * (((((pRed ga gb gd gc n).2) (16 + k)) / 4) + (((((pRed ga gb gd gc n).2) (17 + k)) % 4) * 64))))) / 256))), (4, .int (nI ((((pRed ga gb gd gc n).2) 16) % 4))), (2, .int (nI n)), (0, .ref mo)]) hx hb d_M_poly_249 hl (k := 2) rfl (sb_inc (a := k) (b := k + 1) (d := 1) rfl (by decide) (by omega)) (by decide) rfl (fun ls hl => ?_)
                        refine lv_goto (tgt := 167) hx hb d_M_poly_252 (by decide) ?_
                        have hE : (rI (pRed ga gb gd gc n).2 (pRed ga gb gd gc n).1 (k + 1)) = ((((rI (pRed ga gb gd gc n).2 (pRed ga gb gd gc n).1 k).1) + (((((pRed ga gb gd gc n).2) 16) % 4) + (5 * (((((pRed ga gb gd gc n).2) (16 + k)) / 4) + (((((pRed ga gb gd gc n).2) (17 + k)) % 4) * 64))))) / 256, updN ((rI (pRed ga gb gd gc n).2 (pRed ga gb gd gc n).1 k).2) k ((((rI (pRed ga gb gd gc n).2 (pRed ga gb gd gc n).1 k).1) + (((((pRed ga gb gd gc n).2) 16) % 4) + (5 * (((((pRed ga gb gd gc n).2) (16 + k)) / 4) + (((((pRed ga gb gd gc n).2) (17 + k)) % 4) * 64))))) % 256)) := (by show rS _ k (rI (pRed ga gb gd gc n).2 (pRed ga gb gd gc n).1 k) = _; simp only [rS, if_pos c_35])
                        have ih' := ih9 (k + 1) (by omega)
                        rw [hE] at ih'
                        exact ih' _ _ ls (hP.sub [0, 1, 2, 3, 4] rfl) (hD.sub [0, 1, 2, 3, 4] (by decide) rfl) hS (lv_sub hl [1, 0, 3, 4] rfl)
                  exact lp9 17 0 (by omega) _ _ ls (hP.sub [0, 1, 2, 3, 4] rfl) (hD.sub [0, 1, 2, 3, 4] (by decide) rfl) hS (lv_sub hl [1, 0, 2, 3] rfl)
              exact lp4 4 0 (by omega) _ _ ls (hP.sub [0, 1, 2, 3, 4] rfl) (hD.sub [0, 1, 2, 3, 4] (by decide) rfl) hS (lv_sub hl [0, 1] rfl)
            | succ d3 ih3 =>
              intro i hi3 H locs ls hP hD hS hl
              have hT := pT1_B hga hgc
              have hPZ := pPs_Z hT hgb hgd i
              refine lv_iload_n hx hb d_M_poly_71 rfl (lv_at hl 0 rfl) ?_
              refine lv_bipush (v := 17) hx hb d_M_poly_72 (by decide) ?_
              refine lv_icmp_ge (tgt := 156) hx hb d_M_poly_74 (by decide) (fun c_38 => absurd c_38 (sb_geF (a := i) (b := 17) rfl rfl (by omega) (by omega) (by omega))) (fun c_38 => ?_)
              refine lv_iconst (v := 0) hx hb d_M_poly_77 (by decide) ?_
              refine lv_istore_n (lv' := [(1, .int 0), (2, .int (nI i)), (0, .ref mo)]) hx hb d_M_poly_78 rfl hl (by decide) rfl (fun ls hl => ?_)
              refine lv_iconst (v := 0) hx hb d_M_poly_79 (by decide) ?_
              refine lv_istore_n (lv' := [(3, .int 0), (1, .int 0), (2, .int (nI i)), (0, .ref mo)]) hx hb d_M_poly_80 rfl hl (by decide) rfl (fun ls hl => ?_)
              have lp11 : ∀ (d11 k : Nat), k + d11 = 17 → ∀ (H : Heap) (locs : List Loc) (ls : Array Slot), va_P D vwCl [(mo, .inr (7, mFs thr a1 a2 a3 (nI lt) (nI lb) (nI lz) ci a4 a5 a6 nu bk se op fa a7 a8 a9 a10 a11 (nI rn) kh kl sh sl a12 a13 a14 a15 a16 a17 a18 a19 a20)), (a15, .inl (cI, 17, .inl (nF (pT1 ga gc)))), (a16, .inl (cI, 17, .inl (nF gb))), (a17, .inl (cI, 40, .inl (nF ((pI (pT1 ga gc) gb (pPs (pT1 ga gc) gb gd i) i k).2)))), (a18, .inl (cI, 17, .inl (nF gc)))] H → va_D A [(mo, .inr (7, mFs thr a1 a2 a3 (nI lt) (nI lb) (nI lz) ci a4 a5 a6 nu bk se op fa a7 a8 a9 a10 a11 (nI rn) kh kl sh sl a12 a13 a14 a15 a16 a17 a18 a19 a20)), (a15, .inl (cI, 17, .inl (nF (pT1 ga gc)))), (a16, .inl (cI, 17, .inl (nF gb))), (a17, .inl (cI, 40, .inl (nF ((pI (pT1 ga gc) gb (pPs (pT1 ga gc) gb gd i) i k).2)))), (a18, .inl (cI, 17, .inl (nF gc)))] → va_S A s.heap H locs → lv_has ls 5 [(1, .int (nI ((pI (pT1 ga gc) gb (pPs (pT1 ga gc) gb gd i) i k).1))), (3, .int (nI k)), (2, .int (nI i)), (0, .ref mo)] → W p l e rm_M_poly s m args below meth c H locs 0 0 (MQ below (sbQv D (fun (_ : Unit) => True) (fun (_ : Unit) => [(mo, .inr (7, mFs thr a1 a2 a3 (nI lt) (nI lb) (nI lz) ci a4 a5 a6 nu bk se op fa a7 a8 a9 a10 a11 (nI rn) kh kl sh sl a12 a13 a14 a15 a16 a17 a18 a19 a20)), (a15, .inl (cI, 17, .inl (nF (polyT ga gb gd gc)))), (a16, .inl (cI, 17, .inl (nF gb))), (a17, .inl (cI, 40, .inl (nF (polyD ga gb gd gc)))), (a18, .inl (cI, 17, .inl (nF gc)))]) A) args s 0 0 A) (F0 m 81 ls []) := by
                intro d11
                induction d11 with
                | zero =>
                  intro k hi11 H locs ls hP hD hS hl
                  obtain rfl : 17 = k := by omega
                  have hB := pI_B hT hgb hPZ.1 i 17
                  have hb1 := hB.1
                  have hb2 := hB.2 (i + 17)
                  have hb3 := mul_b (hT i) (hgb 17)
                  have hz0 : (pI (pT1 ga gc) gb (pPs (pT1 ga gc) gb gd i) i 17).2 (i + 17) = 0 := by rw [pI_hi i 17 (by omega)]; exact hPZ.2 (i + 17) (by omega) (by omega)
                  refine lv_iload_n hx hb d_M_poly_81 rfl (lv_at hl 1 rfl) ?_
                  refine lv_bipush (v := 17) hx hb d_M_poly_82 (by decide) ?_
                  refine lv_icmp_lt (tgt := 91) hx hb d_M_poly_84 (by decide) (fun c_39 => absurd c_39 (sb_ltF (a := 17) (b := 17) rfl rfl (by omega) (by omega) (by omega))) (fun c_39 => ?_)
                  refine lv_iload_n hx hb d_M_poly_87 rfl (lv_at hl 0 rfl) ?_
                  refine lv_if_le (tgt := 150) hx hb d_M_poly_88 (by decide) (fun c_40 => ?_) (fun c_40 => ?_)
                  · have c_40 := (sb_leI (a := (pI (pT1 ga gc) gb (pPs (pT1 ga gc) gb gd i) i 17).1) (b := 0) rfl rfl (by omega) (by omega)).mp c_40
                    refine lv_iinc (v := nI (i + 1)) (lv' := [(2, .int (nI (i + 1))), (1, .int (nI ((pI (pT1 ga gc) gb (pPs (pT1 ga gc) gb gd i) i 17).1))), (3, .int (nI 17)), (0, .ref mo)]) hx hb d_M_poly_150 hl (k := 2) rfl (sb_inc (a := i) (b := i + 1) (d := 1) rfl (by decide) (by omega)) (by decide) rfl (fun ls hl => ?_)
                    refine lv_goto (tgt := 71) hx hb d_M_poly_153 (by decide) ?_
                    rw [show nF ((pI (pT1 ga gc) gb (pPs (pT1 ga gc) gb gd i) i 17).2) = nF (pPs (pT1 ga gc) gb gd (i + 1)) from (congrArg nF (pPass_T c_40).symm)] at hP hD
                    exact ih3 (i + 1) (by omega) _ _ ls (hP.sub [0, 1, 2, 3, 4] rfl) (hD.sub [0, 1, 2, 3, 4] (by decide) rfl) hS (lv_sub hl [0, 3] rfl)
                  · have c_40 := mt (sb_leI (a := (pI (pT1 ga gc) gb (pPs (pT1 ga gc) gb gd i) i 17).1) (b := 0) rfl rfl (by omega) (by omega)).mpr c_40
                    refine lv_iload_n hx hb d_M_poly_91 rfl (lv_at hl 0 rfl) ?_
                    refine lv_aload_n hx hb d_M_poly_92 rfl (lv_at hl 3 rfl) ?_
                    refine va_get (D := D) (ci := 7) (v := .ref a17) (C := R_M) (T := F_M) (N := 35) hx hb hts in_M hown hG.1 hP 0 rfl rfl 31 (by decide) (hts _ k_728) (fun _ h9 => h9) rfl d_M_poly_93 ?_
                    refine lv_iload_n hx hb d_M_poly_96 rfl (lv_at hl 2 rfl) ?_
                    refine lv_iload_n hx hb d_M_poly_97 rfl (lv_at hl 1 rfl) ?_
                    refine lv_iadd hx hb d_M_poly_98 ?_
                    refine sb_topn (i + 17) (nI_add i 17) ?_
                    refine sb_ild hx hb hG.1 hP 3 rfl (i + 17) rfl (by omega) (by omega) d_M_poly_99 ?_
                    refine lv_iload_n hx hb d_M_poly_100 rfl (lv_at hl 1 rfl) ?_
                    refine lv_bipush (v := 17) hx hb d_M_poly_101 (by decide) ?_
                    refine lv_icmp_ge (tgt := 122) hx hb d_M_poly_103 (by decide) (fun c_41 => ?_) (fun c_41 => absurd (sb_geT (a := 17) (b := 17) rfl rfl (by omega) (by omega) (by omega)) c_41)
                    refine lv_iconst (v := 0) hx hb d_M_poly_122 (by decide) ?_
                    refine lv_iadd hx hb d_M_poly_123 ?_
                    refine sb_topn ((((pI (pT1 ga gc) gb (pPs (pT1 ga gc) gb gd i) i 17).2) (i + 17)) + 0) (nI_add (((pI (pT1 ga gc) gb (pPs (pT1 ga gc) gb gd i) i 17).2) (i + 17)) 0) ?_
                    refine lv_iadd hx hb d_M_poly_124 ?_
                    refine sb_topn (((pI (pT1 ga gc) gb (pPs (pT1 ga gc) gb gd i) i 17).1) + ((((pI (pT1 ga gc) gb (pPs (pT1 ga gc) gb gd i) i 17).2) (i + 17)) + 0)) (nI_add ((pI (pT1 ga gc) gb (pPs (pT1 ga gc) gb gd i) i 17).1) ((((pI (pT1 ga gc) gb (pPs (pT1 ga gc) gb gd i) i 17).2) (i + 17)) + 0)) ?_
                    refine sb_topn (((pI (pT1 ga gc) gb (pPs (pT1 ga gc) gb gd i) i 17).1) + ((((pI (pT1 ga gc) gb (pPs (pT1 ga gc) gb gd i) i 17).2) (i + 17)) + 0)) rfl ?_
                    refine lv_istore_n (lv' := [(1, .int (nI (((pI (pT1 ga gc) gb (pPs (pT1 ga gc) gb gd i) i 17).1) + ((((pI (pT1 ga gc) gb (pPs (pT1 ga gc) gb gd i) i 17).2) (i + 17)) + 0)))), (3, .int (nI 17)), (2, .int (nI i)), (0, .ref mo)]) hx hb d_M_poly_125 rfl hl (by decide) rfl (fun ls hl => ?_)
                    refine lv_aload_n hx hb d_M_poly_126 rfl (lv_at hl 3 rfl) ?_
                    refine va_get (D := D) (ci := 7) (v := .ref a17) (C := R_M) (T := F_M) (N := 35) hx hb hts in_M hown hG.1 hP 0 rfl rfl 31 (by decide) (hts _ k_728) (fun _ h9 => h9) rfl d_M_poly_127 ?_
                    refine lv_iload_n hx hb d_M_poly_130 rfl (lv_at hl 2 rfl) ?_
                    refine lv_iload_n hx hb d_M_poly_131 rfl (lv_at hl 1 rfl) ?_
                    refine lv_iadd hx hb d_M_poly_132 ?_
                    refine sb_topn (i + 17) (nI_add i 17) ?_
                    refine lv_iload_n hx hb d_M_poly_133 rfl (lv_at hl 0 rfl) ?_
                    refine lv_sipush (v := 255) hx hb d_M_poly_134 (by decide) ?_
                    refine lv_iand hx hb d_M_poly_137 ?_
                    refine sb_topn ((((pI (pT1 ga gc) gb (pPs (pT1 ga gc) gb gd i) i 17).1) + ((((pI (pT1 ga gc) gb (pPs (pT1 ga gc) gb gd i) i 17).2) (i + 17)) + 0)) % 256) (sb_and (a := ((pI (pT1 ga gc) gb (pPs (pT1 ga gc) gb gd i) i 17).1) + ((((pI (pT1 ga gc) gb (pPs (pT1 ga gc) gb gd i) i 17).2) (i + 17)) + 0)) 8 rfl (by omega) (by decide)) ?_
                    refine sb_topn ((((pI (pT1 ga gc) gb (pPs (pT1 ga gc) gb gd i) i 17).1) + ((((pI (pT1 ga gc) gb (pPs (pT1 ga gc) gb gd i) i 17).2) (i + 17)) + 0)) % 256) rfl ?_
                    refine sb_ist hx hb hG.1 hP hD hS 3 rfl (i + 17) rfl (by omega) (by omega) d_M_poly_138 (fun f_42 H locs ef_42 hP hD hS => ?_)
                    have hP : va_P D vwCl [(mo, .inr (7, mFs thr a1 a2 a3 (nI lt) (nI lb) (nI lz) ci a4 a5 a6 nu bk se op fa a7 a8 a9 a10 a11 (nI rn) kh kl sh sl a12 a13 a14 a15 a16 a17 a18 a19 a20)), (a15, .inl (cI, 17, .inl (nF (pT1 ga gc)))), (a16, .inl (cI, 17, .inl (nF gb))), (a17, .inl (cI, 40, .inl f_42)), (a18, .inl (cI, 17, .inl (nF gc)))] H := hP
                    have hD : va_D A [(mo, .inr (7, mFs thr a1 a2 a3 (nI lt) (nI lb) (nI lz) ci a4 a5 a6 nu bk se op fa a7 a8 a9 a10 a11 (nI rn) kh kl sh sl a12 a13 a14 a15 a16 a17 a18 a19 a20)), (a15, .inl (cI, 17, .inl (nF (pT1 ga gc)))), (a16, .inl (cI, 17, .inl (nF gb))), (a17, .inl (cI, 40, .inl f_42)), (a18, .inl (cI, 17, .inl (nF gc)))] := hD
                    obtain rfl : f_42 = nF (updN ((pI (pT1 ga gc) gb (pPs (pT1 ga gc) gb gd i) i 17).2) (i + 17) ((((pI (pT1 ga gc) gb (pPs (pT1 ga gc) gb gd i) i 17).1) + ((((pI (pT1 ga gc) gb (pPs (pT1 ga gc) gb gd i) i 17).2) (i + 17)) + 0)) % 256)) := ef_42.trans (nF_set _ _ _)
                    have hP : va_P D vwCl [(mo, .inr (7, mFs thr a1 a2 a3 (nI lt) (nI lb) (nI lz) ci a4 a5 a6 nu bk se op fa a7 a8 a9 a10 a11 (nI rn) kh kl sh sl a12 a13 a14 a15 a16 a17 a18 a19 a20)), (a15, .inl (cI, 17, .inl (nF (pT1 ga gc)))), (a16, .inl (cI, 17, .inl (nF gb))), (a17, .inl (cI, 40, .inl (nF (updN ((pI (pT1 ga gc) gb (pPs (pT1 ga gc) gb gd i) i 17).2) (i + 17) ((((pI (pT1 ga gc) gb (pPs (pT1 ga gc) gb gd i) i 17).1) + ((((pI (pT1 ga gc) gb (pPs (pT1 ga gc) gb gd i) i 17).2) (i + 17)) + 0)) % 256))))), (a18, .inl (cI, 17, .inl (nF gc)))] H := hP
                    have hD : va_D A [(mo, .inr (7, mFs thr a1 a2 a3 (nI lt) (nI lb) (nI lz) ci a4 a5 a6 nu bk se op fa a7 a8 a9 a10 a11 (nI rn) kh kl sh sl a12 a13 a14 a15 a16 a17 a18 a19 a20)), (a15, .inl (cI, 17, .inl (nF (pT1 ga gc)))), (a16, .inl (cI, 17, .inl (nF gb))), (a17, .inl (cI, 40, .inl (nF (updN ((pI (pT1 ga gc) gb (pPs (pT1 ga gc) gb gd i) i 17).2) (i + 17) ((((pI (pT1 ga gc) gb (pPs (pT1 ga gc) gb gd i) i 17).1) + ((((pI (pT1 ga gc) gb (pPs (pT1 ga gc) gb gd i) i 17).2) (i + 17)) + 0)) % 256))))), (a18, .inl (cI, 17, .inl (nF gc)))] := hD
                    refine lv_iload_n hx hb d_M_poly_139 rfl (lv_at hl 0 rfl) ?_
                    refine lv_bipush (v := 8) hx hb d_M_poly_140 (by decide) ?_
                    refine lv_ishr hx hb d_M_poly_142 ?_
                    refine sb_topn ((((pI (pT1 ga gc) gb (pPs (pT1 ga gc) gb gd i) i 17).1) + ((((pI (pT1 ga gc) gb (pPs (pT1 ga gc) gb gd i) i 17).2) (i + 17)) + 0)) / 256) (sb_shr (a := ((pI (pT1 ga gc) gb (pPs (pT1 ga gc) gb gd i) i 17).1) + ((((pI (pT1 ga gc) gb (pPs (pT1 ga gc) gb gd i) i 17).2) (i + 17)) + 0)) 8 rfl (by omega) (by decide)) ?_
                    refine sb_topn ((((pI (pT1 ga gc) gb (pPs (pT1 ga gc) gb gd i) i 17).1) + ((((pI (pT1 ga gc) gb (pPs (pT1 ga gc) gb gd i) i 17).2) (i + 17)) + 0)) / 256) rfl ?_
                    refine lv_istore_n (lv' := [(1, .int (nI ((((pI (pT1 ga gc) gb (pPs (pT1 ga gc) gb gd i) i 17).1) + ((((pI (pT1 ga gc) gb (pPs (pT1 ga gc) gb gd i) i 17).2) (i + 17)) + 0)) / 256))), (3, .int (nI 17)), (2, .int (nI i)), (0, .ref mo)]) hx hb d_M_poly_143 rfl hl (by decide) rfl (fun ls hl => ?_)
                    refine lv_iinc (v := nI 18) (lv' := [(3, .int (nI 18)), (1, .int (nI ((((pI (pT1 ga gc) gb (pPs (pT1 ga gc) gb gd i) i 17).1) + ((((pI (pT1 ga gc) gb (pPs (pT1 ga gc) gb gd i) i 17).2) (i + 17)) + 0)) / 256))), (2, .int (nI i)), (0, .ref mo)]) hx hb d_M_poly_144 hl (k := 1) rfl (sb_inc (a := 17) (b := 18) (d := 1) rfl (by decide) (by omega)) (by decide) rfl (fun ls hl => ?_)
                    refine lv_goto (tgt := 81) hx hb d_M_poly_147 (by decide) ?_
                    refine lv_iload_n hx hb d_M_poly_81 rfl (lv_at hl 0 rfl) ?_
                    refine lv_bipush (v := 17) hx hb d_M_poly_82 (by decide) ?_
                    refine lv_icmp_lt (tgt := 91) hx hb d_M_poly_84 (by decide) (fun c_43 => absurd c_43 (sb_ltF (a := 18) (b := 17) rfl rfl (by omega) (by omega) (by omega))) (fun c_43 => ?_)
                    refine lv_iload_n hx hb d_M_poly_87 rfl (lv_at hl 1 rfl) ?_
                    refine lv_if_le (tgt := 150) hx hb d_M_poly_88 (by decide) (fun c_44 => ?_) (fun c_44 => absurd (sb_leT (a := (((pI (pT1 ga gc) gb (pPs (pT1 ga gc) gb gd i) i 17).1) + ((((pI (pT1 ga gc) gb (pPs (pT1 ga gc) gb gd i) i 17).2) (i + 17)) + 0)) / 256) (b := 0) rfl rfl (by omega) (by omega) (by omega)) c_44)
                    refine lv_iinc (v := nI (i + 1)) (lv' := [(2, .int (nI (i + 1))), (3, .int (nI 18)), (1, .int (nI ((((pI (pT1 ga gc) gb (pPs (pT1 ga gc) gb gd i) i 17).1) + ((((pI (pT1 ga gc) gb (pPs (pT1 ga gc) gb gd i) i 17).2) (i + 17)) + 0)) / 256))), (0, .ref mo)]) hx hb d_M_poly_150 hl (k := 2) rfl (sb_inc (a := i) (b := i + 1) (d := 1) rfl (by decide) (by omega)) (by decide) rfl (fun ls hl => ?_)
                    refine lv_goto (tgt := 71) hx hb d_M_poly_153 (by decide) ?_
                    rw [show nF (updN ((pI (pT1 ga gc) gb (pPs (pT1 ga gc) gb gd i) i 17).2) (i + 17) ((((pI (pT1 ga gc) gb (pPs (pT1 ga gc) gb gd i) i 17).1) + ((((pI (pT1 ga gc) gb (pPs (pT1 ga gc) gb gd i) i 17).2) (i + 17)) + 0)) % 256)) = nF (pPs (pT1 ga gc) gb gd (i + 1)) from (congrArg nF (pPass_F c_40).symm)] at hP hD
                    exact ih3 (i + 1) (by omega) _ _ ls (hP.sub [0, 1, 2, 3, 4] rfl) (hD.sub [0, 1, 2, 3, 4] (by decide) rfl) hS (lv_sub hl [0, 3] rfl)
                | succ d11 ih11 =>
                  intro k hi11 H locs ls hP hD hS hl
                  have hB := pI_B hT hgb hPZ.1 i k
                  have hb1 := hB.1
                  have hb2 := hB.2 (i + k)
                  have hb3 := mul_b (hT i) (hgb k)
                  refine lv_iload_n hx hb d_M_poly_81 rfl (lv_at hl 1 rfl) ?_
                  refine lv_bipush (v := 17) hx hb d_M_poly_82 (by decide) ?_
                  refine lv_icmp_lt (tgt := 91) hx hb d_M_poly_84 (by decide) (fun c_45 => ?_) (fun c_45 => absurd (sb_ltT (a := k) (b := 17) rfl rfl (by omega) (by omega) (by omega)) c_45)
                  refine lv_iload_n hx hb d_M_poly_91 rfl (lv_at hl 0 rfl) ?_
                  refine lv_aload_n hx hb d_M_poly_92 rfl (lv_at hl 3 rfl) ?_
                  refine va_get (D := D) (ci := 7) (v := .ref a17) (C := R_M) (T := F_M) (N := 35) hx hb hts in_M hown hG.1 hP 0 rfl rfl 31 (by decide) (hts _ k_728) (fun _ h9 => h9) rfl d_M_poly_93 ?_
                  refine lv_iload_n hx hb d_M_poly_96 rfl (lv_at hl 2 rfl) ?_
                  refine lv_iload_n hx hb d_M_poly_97 rfl (lv_at hl 1 rfl) ?_
                  refine lv_iadd hx hb d_M_poly_98 ?_
                  refine sb_topn (i + k) (nI_add i k) ?_
                  refine sb_ild hx hb hG.1 hP 3 rfl (i + k) rfl (by omega) (by omega) d_M_poly_99 ?_
                  refine lv_iload_n hx hb d_M_poly_100 rfl (lv_at hl 1 rfl) ?_
                  refine lv_bipush (v := 17) hx hb d_M_poly_101 (by decide) ?_
                  refine lv_icmp_ge (tgt := 122) hx hb d_M_poly_103 (by decide) (fun c_46 => absurd c_46 (sb_geF (a := k) (b := 17) rfl rfl (by omega) (by omega) (by omega))) (fun c_46 => ?_)
                  refine lv_aload_n hx hb d_M_poly_106 rfl (lv_at hl 3 rfl) ?_
                  refine va_get (D := D) (ci := 7) (v := .ref a15) (C := R_M) (T := F_M) (N := 35) hx hb hts in_M hown hG.1 hP 0 rfl rfl 29 (by decide) (hts _ k_726) (fun _ h9 => h9) rfl d_M_poly_107 ?_
                  refine lv_iload_n hx hb d_M_poly_110 rfl (lv_at hl 2 rfl) ?_
                  refine sb_ild hx hb hG.1 hP 1 rfl i rfl (by omega) (by omega) d_M_poly_111 ?_
                  refine lv_aload_n hx hb d_M_poly_112 rfl (lv_at hl 3 rfl) ?_
                  refine va_get (D := D) (ci := 7) (v := .ref a16) (C := R_M) (T := F_M) (N := 35) hx hb hts in_M hown hG.1 hP 0 rfl rfl 30 (by decide) (hts _ k_727) (fun _ h9 => h9) rfl d_M_poly_113 ?_
                  refine lv_iload_n hx hb d_M_poly_116 rfl (lv_at hl 1 rfl) ?_
                  refine sb_ild hx hb hG.1 hP 2 rfl k rfl (by omega) (by omega) d_M_poly_117 ?_
                  refine lv_imul hx hb d_M_poly_118 ?_
                  refine sb_topn (((pT1 ga gc) i) * (gb k)) (sb_mul (a := (pT1 ga gc) i) (b := gb k) rfl rfl) ?_
                  refine lv_goto (tgt := 123) hx hb d_M_poly_119 (by decide) ?_
                  refine lv_iadd hx hb d_M_poly_123 ?_
                  refine sb_topn ((((pI (pT1 ga gc) gb (pPs (pT1 ga gc) gb gd i) i k).2) (i + k)) + (((pT1 ga gc) i) * (gb k))) (nI_add (((pI (pT1 ga gc) gb (pPs (pT1 ga gc) gb gd i) i k).2) (i + k)) (((pT1 ga gc) i) * (gb k))) ?_
                  refine lv_iadd hx hb d_M_poly_124 ?_
                  refine sb_topn (((pI (pT1 ga gc) gb (pPs (pT1 ga gc) gb gd i) i k).1) + ((((pI (pT1 ga gc) gb (pPs (pT1 ga gc) gb gd i) i k).2) (i + k)) + (((pT1 ga gc) i) * (gb k)))) (nI_add ((pI (pT1 ga gc) gb (pPs (pT1 ga gc) gb gd i) i k).1) ((((pI (pT1 ga gc) gb (pPs (pT1 ga gc) gb gd i) i k).2) (i + k)) + (((pT1 ga gc) i) * (gb k)))) ?_
                  refine sb_topn (((pI (pT1 ga gc) gb (pPs (pT1 ga gc) gb gd i) i k).1) + ((((pI (pT1 ga gc) gb (pPs (pT1 ga gc) gb gd i) i k).2) (i + k)) + (((pT1 ga gc) i) * (gb k)))) rfl ?_
                  refine lv_istore_n (lv' := [(1, .int (nI (((pI (pT1 ga gc) gb (pPs (pT1 ga gc) gb gd i) i k).1) + ((((pI (pT1 ga gc) gb (pPs (pT1 ga gc) gb gd i) i k).2) (i + k)) + (((pT1 ga gc) i) * (gb k)))))), (3, .int (nI k)), (2, .int (nI i)), (0, .ref mo)]) hx hb d_M_poly_125 rfl hl (by decide) rfl (fun ls hl => ?_)
                  refine lv_aload_n hx hb d_M_poly_126 rfl (lv_at hl 3 rfl) ?_
                  refine va_get (D := D) (ci := 7) (v := .ref a17) (C := R_M) (T := F_M) (N := 35) hx hb hts in_M hown hG.1 hP 0 rfl rfl 31 (by decide) (hts _ k_728) (fun _ h9 => h9) rfl d_M_poly_127 ?_
                  refine lv_iload_n hx hb d_M_poly_130 rfl (lv_at hl 2 rfl) ?_
                  refine lv_iload_n hx hb d_M_poly_131 rfl (lv_at hl 1 rfl) ?_
                  refine lv_iadd hx hb d_M_poly_132 ?_
                  refine sb_topn (i + k) (nI_add i k) ?_
                  refine lv_iload_n hx hb d_M_poly_133 rfl (lv_at hl 0 rfl) ?_
                  refine lv_sipush (v := 255) hx hb d_M_poly_134 (by decide) ?_
                  refine lv_iand hx hb d_M_poly_137 ?_
                  refine sb_topn ((((pI (pT1 ga gc) gb (pPs (pT1 ga gc) gb gd i) i k).1) + ((((pI (pT1 ga gc) gb (pPs (pT1 ga gc) gb gd i) i k).2) (i + k)) + (((pT1 ga gc) i) * (gb k)))) % 256) (sb_and (a := ((pI (pT1 ga gc) gb (pPs (pT1 ga gc) gb gd i) i k).1) + ((((pI (pT1 ga gc) gb (pPs (pT1 ga gc) gb gd i) i k).2) (i + k)) + (((pT1 ga gc) i) * (gb k)))) 8 rfl (by omega) (by decide)) ?_
                  refine sb_topn ((((pI (pT1 ga gc) gb (pPs (pT1 ga gc) gb gd i) i k).1) + ((((pI (pT1 ga gc) gb (pPs (pT1 ga gc) gb gd i) i k).2) (i + k)) + (((pT1 ga gc) i) * (gb k)))) % 256) rfl ?_
                  refine sb_ist hx hb hG.1 hP hD hS 3 rfl (i + k) rfl (by omega) (by omega) d_M_poly_138 (fun f_47 H locs ef_47 hP hD hS => ?_)
                  have hP : va_P D vwCl [(mo, .inr (7, mFs thr a1 a2 a3 (nI lt) (nI lb) (nI lz) ci a4 a5 a6 nu bk se op fa a7 a8 a9 a10 a11 (nI rn) kh kl sh sl a12 a13 a14 a15 a16 a17 a18 a19 a20)), (a15, .inl (cI, 17, .inl (nF (pT1 ga gc)))), (a16, .inl (cI, 17, .inl (nF gb))), (a17, .inl (cI, 40, .inl f_47)), (a18, .inl (cI, 17, .inl (nF gc)))] H := hP
                  have hD : va_D A [(mo, .inr (7, mFs thr a1 a2 a3 (nI lt) (nI lb) (nI lz) ci a4 a5 a6 nu bk se op fa a7 a8 a9 a10 a11 (nI rn) kh kl sh sl a12 a13 a14 a15 a16 a17 a18 a19 a20)), (a15, .inl (cI, 17, .inl (nF (pT1 ga gc)))), (a16, .inl (cI, 17, .inl (nF gb))), (a17, .inl (cI, 40, .inl f_47)), (a18, .inl (cI, 17, .inl (nF gc)))] := hD
                  obtain rfl : f_47 = nF (updN ((pI (pT1 ga gc) gb (pPs (pT1 ga gc) gb gd i) i k).2) (i + k) ((((pI (pT1 ga gc) gb (pPs (pT1 ga gc) gb gd i) i k).1) + ((((pI (pT1 ga gc) gb (pPs (pT1 ga gc) gb gd i) i k).2) (i + k)) + (((pT1 ga gc) i) * (gb k)))) % 256)) := ef_47.trans (nF_set _ _ _)
                  have hP : va_P D vwCl [(mo, .inr (7, mFs thr a1 a2 a3 (nI lt) (nI lb) (nI lz) ci a4 a5 a6 nu bk se op fa a7 a8 a9 a10 a11 (nI rn) kh kl sh sl a12 a13 a14 a15 a16 a17 a18 a19 a20)), (a15, .inl (cI, 17, .inl (nF (pT1 ga gc)))), (a16, .inl (cI, 17, .inl (nF gb))), (a17, .inl (cI, 40, .inl (nF (updN ((pI (pT1 ga gc) gb (pPs (pT1 ga gc) gb gd i) i k).2) (i + k) ((((pI (pT1 ga gc) gb (pPs (pT1 ga gc) gb gd i) i k).1) + ((((pI (pT1 ga gc) gb (pPs (pT1 ga gc) gb gd i) i k).2) (i + k)) + (((pT1 ga gc) i) * (gb k)))) % 256))))), (a18, .inl (cI, 17, .inl (nF gc)))] H := hP
                  have hD : va_D A [(mo, .inr (7, mFs thr a1 a2 a3 (nI lt) (nI lb) (nI lz) ci a4 a5 a6 nu bk se op fa a7 a8 a9 a10 a11 (nI rn) kh kl sh sl a12 a13 a14 a15 a16 a17 a18 a19 a20)), (a15, .inl (cI, 17, .inl (nF (pT1 ga gc)))), (a16, .inl (cI, 17, .inl (nF gb))), (a17, .inl (cI, 40, .inl (nF (updN ((pI (pT1 ga gc) gb (pPs (pT1 ga gc) gb gd i) i k).2) (i + k) ((((pI (pT1 ga gc) gb (pPs (pT1 ga gc) gb gd i) i k).1) + ((((pI (pT1 ga gc) gb (pPs (pT1 ga gc) gb gd i) i k).2) (i + k)) + (((pT1 ga gc) i) * (gb k)))) % 256))))), (a18, .inl (cI, 17, .inl (nF gc)))] := hD
                  refine lv_iload_n hx hb d_M_poly_139 rfl (lv_at hl 0 rfl) ?_
                  refine lv_bipush (v := 8) hx hb d_M_poly_140 (by decide) ?_
                  refine lv_ishr hx hb d_M_poly_142 ?_
                  refine sb_topn ((((pI (pT1 ga gc) gb (pPs (pT1 ga gc) gb gd i) i k).1) + ((((pI (pT1 ga gc) gb (pPs (pT1 ga gc) gb gd i) i k).2) (i + k)) + (((pT1 ga gc) i) * (gb k)))) / 256) (sb_shr (a := ((pI (pT1 ga gc) gb (pPs (pT1 ga gc) gb gd i) i k).1) + ((((pI (pT1 ga gc) gb (pPs (pT1 ga gc) gb gd i) i k).2) (i + k)) + (((pT1 ga gc) i) * (gb k)))) 8 rfl (by omega) (by decide)) ?_
                  refine sb_topn ((((pI (pT1 ga gc) gb (pPs (pT1 ga gc) gb gd i) i k).1) + ((((pI (pT1 ga gc) gb (pPs (pT1 ga gc) gb gd i) i k).2) (i + k)) + (((pT1 ga gc) i) * (gb k)))) / 256) rfl ?_
                  refine lv_istore_n (lv' := [(1, .int (nI ((((pI (pT1 ga gc) gb (pPs (pT1 ga gc) gb gd i) i k).1) + ((((pI (pT1 ga gc) gb (pPs (pT1 ga gc) gb gd i) i k).2) (i + k)) + (((pT1 ga gc) i) * (gb k)))) / 256))), (3, .int (nI k)), (2, .int (nI i)), (0, .ref mo)]) hx hb d_M_poly_143 rfl hl (by decide) rfl (fun ls hl => ?_)
                  refine lv_iinc (v := nI (k + 1)) (lv' := [(3, .int (nI (k + 1))), (1, .int (nI ((((pI (pT1 ga gc) gb (pPs (pT1 ga gc) gb gd i) i k).1) + ((((pI (pT1 ga gc) gb (pPs (pT1 ga gc) gb gd i) i k).2) (i + k)) + (((pT1 ga gc) i) * (gb k)))) / 256))), (2, .int (nI i)), (0, .ref mo)]) hx hb d_M_poly_144 hl (k := 1) rfl (sb_inc (a := k) (b := k + 1) (d := 1) rfl (by decide) (by omega)) (by decide) rfl (fun ls hl => ?_)
                  refine lv_goto (tgt := 81) hx hb d_M_poly_147 (by decide) ?_
                  have hE : (pI (pT1 ga gc) gb (pPs (pT1 ga gc) gb gd i) i (k + 1)) = ((((pI (pT1 ga gc) gb (pPs (pT1 ga gc) gb gd i) i k).1) + ((((pI (pT1 ga gc) gb (pPs (pT1 ga gc) gb gd i) i k).2) (i + k)) + (((pT1 ga gc) i) * (gb k)))) / 256, updN ((pI (pT1 ga gc) gb (pPs (pT1 ga gc) gb gd i) i k).2) (i + k) ((((pI (pT1 ga gc) gb (pPs (pT1 ga gc) gb gd i) i k).1) + ((((pI (pT1 ga gc) gb (pPs (pT1 ga gc) gb gd i) i k).2) (i + k)) + (((pT1 ga gc) i) * (gb k)))) % 256)) := rfl
                  have ih' := ih11 (k + 1) (by omega)
                  rw [hE] at ih'
                  exact ih' _ _ ls (hP.sub [0, 1, 2, 3, 4] rfl) (hD.sub [0, 1, 2, 3, 4] (by decide) rfl) hS (lv_sub hl [1, 0, 2, 3] rfl)
              exact lp11 17 0 (by omega) _ _ ls (hP.sub [0, 1, 2, 3, 4] rfl) (hD.sub [0, 1, 2, 3, 4] (by decide) rfl) hS (lv_sub hl [1, 0, 2, 3] rfl)
          exact lp3 17 0 (by omega) _ _ ls (hP.sub [0, 1, 2, 3, 4] rfl) (hD.sub [0, 1, 2, 3, 4] (by decide) rfl) hS (lv_sub hl [0, 1] rfl)
        | succ d2 ih2 =>
          intro i hi2 H locs ls hP hD hS hl
          refine lv_iload_n hx hb d_M_poly_50 rfl (lv_at hl 0 rfl) ?_
          refine lv_bipush (v := 40) hx hb d_M_poly_51 (by decide) ?_
          refine lv_icmp_ge (tgt := 69) hx hb d_M_poly_53 (by decide) (fun c_48 => absurd c_48 (sb_geF (a := i) (b := 40) rfl rfl (by omega) (by omega) (by omega))) (fun c_48 => ?_)
          refine lv_aload_n hx hb d_M_poly_56 rfl (lv_at hl 1 rfl) ?_
          refine va_get (D := D) (ci := 7) (v := .ref a17) (C := R_M) (T := F_M) (N := 35) hx hb hts in_M hown hG.1 hP 0 rfl rfl 31 (by decide) (hts _ k_728) (fun _ h9 => h9) rfl d_M_poly_57 ?_
          refine lv_iload_n hx hb d_M_poly_60 rfl (lv_at hl 0 rfl) ?_
          refine lv_iconst (v := 0) hx hb d_M_poly_61 (by decide) ?_
          refine sb_ist hx hb hG.1 hP hD hS 3 rfl i rfl (by omega) (by omega) d_M_poly_62 (fun f_49 H locs ef_49 hP hD hS => ?_)
          have hP : va_P D vwCl [(mo, .inr (7, mFs thr a1 a2 a3 (nI lt) (nI lb) (nI lz) ci a4 a5 a6 nu bk se op fa a7 a8 a9 a10 a11 (nI rn) kh kl sh sl a12 a13 a14 a15 a16 a17 a18 a19 a20)), (a15, .inl (cI, 17, .inl (nF ((iter (aT gc) 17 (0, ga)).2)))), (a16, .inl (cI, 17, .inl (nF gb))), (a17, .inl (cI, 40, .inl f_49)), (a18, .inl (cI, 17, .inl (nF gc)))] H := hP
          have hD : va_D A [(mo, .inr (7, mFs thr a1 a2 a3 (nI lt) (nI lb) (nI lz) ci a4 a5 a6 nu bk se op fa a7 a8 a9 a10 a11 (nI rn) kh kl sh sl a12 a13 a14 a15 a16 a17 a18 a19 a20)), (a15, .inl (cI, 17, .inl (nF ((iter (aT gc) 17 (0, ga)).2)))), (a16, .inl (cI, 17, .inl (nF gb))), (a17, .inl (cI, 40, .inl f_49)), (a18, .inl (cI, 17, .inl (nF gc)))] := hD
          obtain rfl : f_49 = nF (updN (iter nZero i gd) i 0) := ef_49.trans (nF_set _ _ _)
          have hP : va_P D vwCl [(mo, .inr (7, mFs thr a1 a2 a3 (nI lt) (nI lb) (nI lz) ci a4 a5 a6 nu bk se op fa a7 a8 a9 a10 a11 (nI rn) kh kl sh sl a12 a13 a14 a15 a16 a17 a18 a19 a20)), (a15, .inl (cI, 17, .inl (nF ((iter (aT gc) 17 (0, ga)).2)))), (a16, .inl (cI, 17, .inl (nF gb))), (a17, .inl (cI, 40, .inl (nF (updN (iter nZero i gd) i 0)))), (a18, .inl (cI, 17, .inl (nF gc)))] H := hP
          have hD : va_D A [(mo, .inr (7, mFs thr a1 a2 a3 (nI lt) (nI lb) (nI lz) ci a4 a5 a6 nu bk se op fa a7 a8 a9 a10 a11 (nI rn) kh kl sh sl a12 a13 a14 a15 a16 a17 a18 a19 a20)), (a15, .inl (cI, 17, .inl (nF ((iter (aT gc) 17 (0, ga)).2)))), (a16, .inl (cI, 17, .inl (nF gb))), (a17, .inl (cI, 40, .inl (nF (updN (iter nZero i gd) i 0)))), (a18, .inl (cI, 17, .inl (nF gc)))] := hD
          refine lv_iinc (v := nI (i + 1)) (lv' := [(2, .int (nI (i + 1))), (0, .ref mo)]) hx hb d_M_poly_63 hl (k := 0) rfl (sb_inc (a := i) (b := i + 1) (d := 1) rfl (by decide) (by omega)) (by decide) rfl (fun ls hl => ?_)
          refine lv_goto (tgt := 50) hx hb d_M_poly_66 (by decide) ?_
          rw [show nF (updN (iter nZero i gd) i 0) = nF (iter nZero (i + 1) gd) from rfl] at hP hD
          exact ih2 (i + 1) (by omega) _ _ ls (hP.sub [0, 1, 2, 3, 4] rfl) (hD.sub [0, 1, 2, 3, 4] (by decide) rfl) hS (lv_sub hl [0, 1] rfl)
      exact lp2 40 0 (by omega) _ _ ls (hP.sub [0, 1, 2, 3, 4] rfl) (hD.sub [0, 1, 2, 3, 4] (by decide) rfl) hS (lv_sub hl [0, 2] rfl)
    | succ d1 ih1 =>
      intro i hi1 H locs ls hP hD hS hl
      have hB := aT_Bi hgc hga i
      have hb1 := hB.1
      have hb2 := hB.2 i
      have hb3 := hgc i
      refine lv_iload_n hx hb d_M_poly_4 rfl (lv_at hl 1 rfl) ?_
      refine lv_bipush (v := 17) hx hb d_M_poly_5 (by decide) ?_
      refine lv_icmp_ge (tgt := 48) hx hb d_M_poly_7 (by decide) (fun c_50 => absurd c_50 (sb_geF (a := i) (b := 17) rfl rfl (by omega) (by omega) (by omega))) (fun c_50 => ?_)
      refine lv_iload_n hx hb d_M_poly_10 rfl (lv_at hl 0 rfl) ?_
      refine lv_aload_n hx hb d_M_poly_11 rfl (lv_at hl 2 rfl) ?_
      refine va_get (D := D) (ci := 7) (v := .ref a15) (C := R_M) (T := F_M) (N := 35) hx hb hts in_M hown hG.1 hP 0 rfl rfl 29 (by decide) (hts _ k_726) (fun _ h9 => h9) rfl d_M_poly_12 ?_
      refine lv_iload_n hx hb d_M_poly_15 rfl (lv_at hl 1 rfl) ?_
      refine sb_ild hx hb hG.1 hP 1 rfl i rfl (by omega) (by omega) d_M_poly_16 ?_
      refine lv_aload_n hx hb d_M_poly_17 rfl (lv_at hl 2 rfl) ?_
      refine va_get (D := D) (ci := 7) (v := .ref a18) (C := R_M) (T := F_M) (N := 35) hx hb hts in_M hown hG.1 hP 0 rfl rfl 32 (by decide) (hts _ k_729) (fun _ h9 => h9) rfl d_M_poly_18 ?_
      refine lv_iload_n hx hb d_M_poly_21 rfl (lv_at hl 1 rfl) ?_
      refine sb_ild hx hb hG.1 hP 4 rfl i rfl (by omega) (by omega) d_M_poly_22 ?_
      refine lv_iadd hx hb d_M_poly_23 ?_
      refine sb_topn ((((iter (aT gc) i (0, ga)).2) i) + (gc i)) (nI_add (((iter (aT gc) i (0, ga)).2) i) (gc i)) ?_
      refine lv_iadd hx hb d_M_poly_24 ?_
      refine sb_topn (((iter (aT gc) i (0, ga)).1) + ((((iter (aT gc) i (0, ga)).2) i) + (gc i))) (nI_add ((iter (aT gc) i (0, ga)).1) ((((iter (aT gc) i (0, ga)).2) i) + (gc i))) ?_
      refine sb_topn (((iter (aT gc) i (0, ga)).1) + ((((iter (aT gc) i (0, ga)).2) i) + (gc i))) rfl ?_
      refine lv_istore_n (lv' := [(1, .int (nI (((iter (aT gc) i (0, ga)).1) + ((((iter (aT gc) i (0, ga)).2) i) + (gc i))))), (2, .int (nI i)), (0, .ref mo)]) hx hb d_M_poly_25 rfl hl (by decide) rfl (fun ls hl => ?_)
      refine lv_aload_n hx hb d_M_poly_26 rfl (lv_at hl 2 rfl) ?_
      refine va_get (D := D) (ci := 7) (v := .ref a15) (C := R_M) (T := F_M) (N := 35) hx hb hts in_M hown hG.1 hP 0 rfl rfl 29 (by decide) (hts _ k_726) (fun _ h9 => h9) rfl d_M_poly_27 ?_
      refine lv_iload_n hx hb d_M_poly_30 rfl (lv_at hl 1 rfl) ?_
      refine lv_iload_n hx hb d_M_poly_31 rfl (lv_at hl 0 rfl) ?_
      refine lv_sipush (v := 255) hx hb d_M_poly_32 (by decide) ?_
      refine lv_iand hx hb d_M_poly_35 ?_
      refine sb_topn ((((iter (aT gc) i (0, ga)).1) + ((((iter (aT gc) i (0, ga)).2) i) + (gc i))) % 256) (sb_and (a := ((iter (aT gc) i (0, ga)).1) + ((((iter (aT gc) i (0, ga)).2) i) + (gc i))) 8 rfl (by omega) (by decide)) ?_
      refine sb_topn ((((iter (aT gc) i (0, ga)).1) + ((((iter (aT gc) i (0, ga)).2) i) + (gc i))) % 256) rfl ?_
      refine sb_ist hx hb hG.1 hP hD hS 1 rfl i rfl (by omega) (by omega) d_M_poly_36 (fun f_51 H locs ef_51 hP hD hS => ?_)
      have hP : va_P D vwCl [(mo, .inr (7, mFs thr a1 a2 a3 (nI lt) (nI lb) (nI lz) ci a4 a5 a6 nu bk se op fa a7 a8 a9 a10 a11 (nI rn) kh kl sh sl a12 a13 a14 a15 a16 a17 a18 a19 a20)), (a15, .inl (cI, 17, .inl f_51)), (a16, .inl (cI, 17, .inl (nF gb))), (a17, .inl (cI, 40, .inl (nF gd))), (a18, .inl (cI, 17, .inl (nF gc)))] H := hP
      have hD : va_D A [(mo, .inr (7, mFs thr a1 a2 a3 (nI lt) (nI lb) (nI lz) ci a4 a5 a6 nu bk se op fa a7 a8 a9 a10 a11 (nI rn) kh kl sh sl a12 a13 a14 a15 a16 a17 a18 a19 a20)), (a15, .inl (cI, 17, .inl f_51)), (a16, .inl (cI, 17, .inl (nF gb))), (a17, .inl (cI, 40, .inl (nF gd))), (a18, .inl (cI, 17, .inl (nF gc)))] := hD
      obtain rfl : f_51 = nF (updN ((iter (aT gc) i (0, ga)).2) i ((((iter (aT gc) i (0, ga)).1) + ((((iter (aT gc) i (0, ga)).2) i) + (gc i))) % 256)) := ef_51.trans (nF_set _ _ _)
      have hP : va_P D vwCl [(mo, .inr (7, mFs thr a1 a2 a3 (nI lt) (nI lb) (nI lz) ci a4 a5 a6 nu bk se op fa a7 a8 a9 a10 a11 (nI rn) kh kl sh sl a12 a13 a14 a15 a16 a17 a18 a19 a20)), (a15, .inl (cI, 17, .inl (nF (updN ((iter (aT gc) i (0, ga)).2) i ((((iter (aT gc) i (0, ga)).1) + ((((iter (aT gc) i (0, ga)).2) i) + (gc i))) % 256))))), (a16, .inl (cI, 17, .inl (nF gb))), (a17, .inl (cI, 40, .inl (nF gd))), (a18, .inl (cI, 17, .inl (nF gc)))] H := hP
      have hD : va_D A [(mo, .inr (7, mFs thr a1 a2 a3 (nI lt) (nI lb) (nI lz) ci a4 a5 a6 nu bk se op fa a7 a8 a9 a10 a11 (nI rn) kh kl sh sl a12 a13 a14 a15 a16 a17 a18 a19 a20)), (a15, .inl (cI, 17, .inl (nF (updN ((iter (aT gc) i (0, ga)).2) i ((((iter (aT gc) i (0, ga)).1) + ((((iter (aT gc) i (0, ga)).2) i) + (gc i))) % 256))))), (a16, .inl (cI, 17, .inl (nF gb))), (a17, .inl (cI, 40, .inl (nF gd))), (a18, .inl (cI, 17, .inl (nF gc)))] := hD
      refine lv_iload_n hx hb d_M_poly_37 rfl (lv_at hl 0 rfl) ?_
      refine lv_bipush (v := 8) hx hb d_M_poly_38 (by decide) ?_
      refine lv_ishr hx hb d_M_poly_40 ?_
      refine sb_topn ((((iter (aT gc) i (0, ga)).1) + ((((iter (aT gc) i (0, ga)).2) i) + (gc i))) / 256) (sb_shr (a := ((iter (aT gc) i (0, ga)).1) + ((((iter (aT gc) i (0, ga)).2) i) + (gc i))) 8 rfl (by omega) (by decide)) ?_
      refine sb_topn ((((iter (aT gc) i (0, ga)).1) + ((((iter (aT gc) i (0, ga)).2) i) + (gc i))) / 256) rfl ?_
      refine lv_istore_n (lv' := [(1, .int (nI ((((iter (aT gc) i (0, ga)).1) + ((((iter (aT gc) i (0, ga)).2) i) + (gc i))) / 256))), (2, .int (nI i)), (0, .ref mo)]) hx hb d_M_poly_41 rfl hl (by decide) rfl (fun ls hl => ?_)
      refine lv_iinc (v := nI (i + 1)) (lv' := [(2, .int (nI (i + 1))), (1, .int (nI ((((iter (aT gc) i (0, ga)).1) + ((((iter (aT gc) i (0, ga)).2) i) + (gc i))) / 256))), (0, .ref mo)]) hx hb d_M_poly_42 hl (k := 1) rfl (sb_inc (a := i) (b := i + 1) (d := 1) rfl (by decide) (by omega)) (by decide) rfl (fun ls hl => ?_)
      refine lv_goto (tgt := 4) hx hb d_M_poly_45 (by decide) ?_
      have hE : (iter (aT gc) (i + 1) (0, ga)) = ((((iter (aT gc) i (0, ga)).1) + ((((iter (aT gc) i (0, ga)).2) i) + (gc i))) / 256, updN ((iter (aT gc) i (0, ga)).2) i ((((iter (aT gc) i (0, ga)).1) + ((((iter (aT gc) i (0, ga)).2) i) + (gc i))) % 256)) := rfl
      have ih' := ih1 (i + 1) (by omega)
      rw [hE] at ih'
      exact ih' _ _ ls (hP.sub [0, 1, 2, 3, 4] rfl) (hD.sub [0, 1, 2, 3, 4] (by decide) rfl) hS (lv_sub hl [1, 0, 2] rfl)
  exact lp1 17 0 (by omega) _ _ ls (hP.sub [0, 1, 2, 3, 4] rfl) (hD.sub [0, 1, 2, 3, 4] (by decide) rfl) hS (lv_sub hl [1, 0, 2] rfl)
