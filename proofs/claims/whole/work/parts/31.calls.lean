theorem sb_nem1 {n : Nat} (h : n < 2 ^ 31) : ¬ nI n = (-1 : Int32) := fun e => absurd (e ▸ sb_m1lt h) (by decide)

theorem d_M_feed_0 : decode b_M_feed 0 = .ok (.aload_n 0, 1) := by decide +kernel
theorem d_M_feed_1 : decode b_M_feed 1 = .ok (.iconst 0, 1) := by decide +kernel
theorem d_M_feed_2 : decode b_M_feed 2 = .ok (.putfield 79, 3) := by decide +kernel
theorem d_M_feed_5 : decode b_M_feed 5 = .ok (.aload_n 0, 1) := by decide +kernel
theorem d_M_feed_6 : decode b_M_feed 6 = .ok (.getfield 162, 3) := by decide +kernel
theorem d_M_feed_9 : decode b_M_feed 9 = .ok (.ldc 165, 2) := by decide +kernel
theorem d_M_feed_11 : decode b_M_feed 11 = .ok (.if_icmp .le 9, 3) := by decide +kernel
theorem d_M_feed_14 : decode b_M_feed 14 = .ok (.aload_n 0, 1) := by decide +kernel
theorem d_M_feed_15 : decode b_M_feed 15 = .ok (.iconst 1, 1) := by decide +kernel
theorem d_M_feed_16 : decode b_M_feed 16 = .ok (.invokevirtual 166, 3) := by decide +kernel
theorem d_M_feed_19 : decode b_M_feed 19 = .ok (.ireturn, 1) := by decide +kernel
theorem d_M_feed_20 : decode b_M_feed 20 = .ok (.iconst 0, 1) := by decide +kernel
theorem d_M_feed_21 : decode b_M_feed 21 = .ok (.istore 6, 2) := by decide +kernel
theorem d_M_feed_23 : decode b_M_feed 23 = .ok (.iload 6, 2) := by decide +kernel
theorem d_M_feed_25 : decode b_M_feed 25 = .ok (.bipush 20, 2) := by decide +kernel
theorem d_M_feed_27 : decode b_M_feed 27 = .ok (.if_icmp .ge 85, 3) := by decide +kernel
theorem d_M_feed_30 : decode b_M_feed 30 = .ok (.iload 6, 2) := by decide +kernel
theorem d_M_feed_32 : decode b_M_feed 32 = .ok (.iconst 4, 1) := by decide +kernel
theorem d_M_feed_33 : decode b_M_feed 33 = .ok (.if_icmp .ge 7, 3) := by decide +kernel
theorem d_M_feed_36 : decode b_M_feed 36 = .ok (.iload_n 1, 1) := by decide +kernel
theorem d_M_feed_37 : decode b_M_feed 37 = .ok (.goto 39, 3) := by decide +kernel
theorem d_M_feed_40 : decode b_M_feed 40 = .ok (.iload 6, 2) := by decide +kernel
theorem d_M_feed_42 : decode b_M_feed 42 = .ok (.bipush 8, 2) := by decide +kernel
theorem d_M_feed_44 : decode b_M_feed 44 = .ok (.if_icmp .ge 7, 3) := by decide +kernel
theorem d_M_feed_47 : decode b_M_feed 47 = .ok (.iload_n 2, 1) := by decide +kernel
theorem d_M_feed_48 : decode b_M_feed 48 = .ok (.goto 28, 3) := by decide +kernel
theorem d_M_feed_51 : decode b_M_feed 51 = .ok (.iload 6, 2) := by decide +kernel
theorem d_M_feed_53 : decode b_M_feed 53 = .ok (.bipush 12, 2) := by decide +kernel
theorem d_M_feed_55 : decode b_M_feed 55 = .ok (.if_icmp .ge 7, 3) := by decide +kernel
theorem d_M_feed_58 : decode b_M_feed 58 = .ok (.iload_n 3, 1) := by decide +kernel
theorem d_M_feed_59 : decode b_M_feed 59 = .ok (.goto 17, 3) := by decide +kernel
theorem d_M_feed_62 : decode b_M_feed 62 = .ok (.iload 6, 2) := by decide +kernel
theorem d_M_feed_64 : decode b_M_feed 64 = .ok (.bipush 16, 2) := by decide +kernel
theorem d_M_feed_66 : decode b_M_feed 66 = .ok (.if_icmp .ge 8, 3) := by decide +kernel
theorem d_M_feed_69 : decode b_M_feed 69 = .ok (.iload 4, 2) := by decide +kernel
theorem d_M_feed_71 : decode b_M_feed 71 = .ok (.goto 5, 3) := by decide +kernel
theorem d_M_feed_74 : decode b_M_feed 74 = .ok (.iload 5, 2) := by decide +kernel
theorem d_M_feed_76 : decode b_M_feed 76 = .ok (.istore 7, 2) := by decide +kernel
theorem d_M_feed_78 : decode b_M_feed 78 = .ok (.aload_n 0, 1) := by decide +kernel
theorem d_M_feed_79 : decode b_M_feed 79 = .ok (.getfield 8, 3) := by decide +kernel
theorem d_M_feed_82 : decode b_M_feed 82 = .ok (.aload_n 0, 1) := by decide +kernel
theorem d_M_feed_83 : decode b_M_feed 83 = .ok (.getfield 162, 3) := by decide +kernel
theorem d_M_feed_86 : decode b_M_feed 86 = .ok (.iload 6, 2) := by decide +kernel
theorem d_M_feed_88 : decode b_M_feed 88 = .ok (.iadd, 1) := by decide +kernel
theorem d_M_feed_89 : decode b_M_feed 89 = .ok (.iload 7, 2) := by decide +kernel
theorem d_M_feed_91 : decode b_M_feed 91 = .ok (.bipush 8, 2) := by decide +kernel
theorem d_M_feed_93 : decode b_M_feed 93 = .ok (.iconst 3, 1) := by decide +kernel
theorem d_M_feed_94 : decode b_M_feed 94 = .ok (.iload 6, 2) := by decide +kernel
theorem d_M_feed_96 : decode b_M_feed 96 = .ok (.iconst 4, 1) := by decide +kernel
theorem d_M_feed_97 : decode b_M_feed 97 = .ok (.irem, 1) := by decide +kernel
theorem d_M_feed_98 : decode b_M_feed 98 = .ok (.isub, 1) := by decide +kernel
theorem d_M_feed_99 : decode b_M_feed 99 = .ok (.imul, 1) := by decide +kernel
theorem d_M_feed_100 : decode b_M_feed 100 = .ok (.iushr, 1) := by decide +kernel
theorem d_M_feed_101 : decode b_M_feed 101 = .ok (.sipush 255, 3) := by decide +kernel
theorem d_M_feed_104 : decode b_M_feed 104 = .ok (.iand, 1) := by decide +kernel
theorem d_M_feed_105 : decode b_M_feed 105 = .ok (.iastore, 1) := by decide +kernel
theorem d_M_feed_106 : decode b_M_feed 106 = .ok (.iinc 6 1, 3) := by decide +kernel
theorem d_M_feed_109 : decode b_M_feed 109 = .ok (.goto (-86), 3) := by decide +kernel
theorem d_M_feed_112 : decode b_M_feed 112 = .ok (.aload_n 0, 1) := by decide +kernel
theorem d_M_feed_113 : decode b_M_feed 113 = .ok (.dup, 1) := by decide +kernel
theorem d_M_feed_114 : decode b_M_feed 114 = .ok (.getfield 162, 3) := by decide +kernel
theorem d_M_feed_117 : decode b_M_feed 117 = .ok (.bipush 20, 2) := by decide +kernel
theorem d_M_feed_119 : decode b_M_feed 119 = .ok (.iadd, 1) := by decide +kernel
theorem d_M_feed_120 : decode b_M_feed 120 = .ok (.putfield 162, 3) := by decide +kernel
theorem d_M_feed_123 : decode b_M_feed 123 = .ok (.aload_n 0, 1) := by decide +kernel
theorem d_M_feed_124 : decode b_M_feed 124 = .ok (.getfield 162, 3) := by decide +kernel
theorem d_M_feed_127 : decode b_M_feed 127 = .ok (.ireturn, 1) := by decide +kernel

def rm_M_feed : Room := { frames := 0, cells := 0, slots := 0, locals := 0 }
set_option maxHeartbeats 4000000 in
set_option maxRecDepth 100000 in
theorem c_M_feed (l : Launch) (D : va_G) (cI cL cB : ClassId) (tS tF : Nat) (mo : Nat) (a1 : Nat) (a2 : Nat) (a3 : Nat) (a4 : Nat) (a5 : Nat) (a6 : Nat) (a7 : Nat) (a8 : Nat) (a9 : Nat) (a10 : Nat) (a11 : Nat) (a12 : Nat) (a13 : Nat) (a14 : Nat) (a15 : Nat) (a16 : Nat) (a17 : Nat) (a18 : Nat) (a19 : Nat) (a20 : Nat) (thr : Int32) (ci : Int32) (bk : Int32) (se : Int32) (op : Int32) (fa : Int32) (lt : Nat) (lb : Nat) (lz : Nat) (rn : Nat) (nu : Int64) (kh : Int64) (kl : Int64) (sh : Int64) (sl : Int64) (gt : Nat → Nat) (v0 : Int32) (v1 : Int32) (v2 : Int32) (v3 : Int32) (v4 : Int32) (sz : Nat) (hlt : lt ≤ 20000) : Met l y_M_feed (sbw y_M_feed b_M_feed 8 (some .int)) rm_M_feed (sbPc D cI cL cB tS tF [.ref mo, .int v0, .int v1, .int v2, .int v3, .int v4] sz [(mo, .inr (7, mFs thr a1 a2 a3 (nI lt) (nI lb) (nI lz) ci a4 a5 a6 nu bk se op fa a7 a8 a9 a10 a11 (nI rn) kh kl sh sl a12 a13 a14 a15 a16 a17 a18 a19 a20)), (a1, .inl (cI, 98816, .inl (nF gt)))]) (sbQi D (fun (r : Int32) (_ : Unit) => r = nI (lt + 20)) (fun (_ : Unit) => [(mo, .inr (7, mFs 0 a1 a2 a3 (nI (lt + 20)) (nI lb) (nI lz) ci a4 a5 a6 nu bk se op fa a7 a8 a9 a10 a11 (nI rn) kh kl sh sl a12 a13 a14 a15 a16 a17 a18 a19 a20)), (a1, .inl (cI, 98816, .inl (nF (iter (fdS v0 v1 v2 v3 v4 lt) 20 gt))))]) (va_A [(mo, .inr (7, mFs thr a1 a2 a3 (nI lt) (nI lb) (nI lz) ci a4 a5 a6 nu bk se op fa a7 a8 a9 a10 a11 (nI rn) kh kl sh sl a12 a13 a14 a15 a16 a17 a18 a19 a20)), (a1, .inl (cI, 98816, .inl (nF gt)))] sz)) 0 0 (va_A [(mo, .inr (7, mFs thr a1 a2 a3 (nI lt) (nI lb) (nI lz) ci a4 a5 a6 nu bk se op fa a7 a8 a9 a10 a11 (nI rn) kh kl sh sl a12 a13 a14 a15 a16 a17 a18 a19 a20)), (a1, .inl (cI, 98816, .inl (nF gt)))] sz) := by
  refine sb_ofW (y := y_M_feed) (maxL := 8) (av := [.ref mo, .int v0, .int v1, .int v2, .int v3, .int v4]) (Qc := fun A => (sbQi D (fun (r : Int32) (_ : Unit) => r = nI (lt + 20)) (fun (_ : Unit) => [(mo, .inr (7, mFs 0 a1 a2 a3 (nI (lt + 20)) (nI lb) (nI lz) ci a4 a5 a6 nu bk se op fa a7 a8 a9 a10 a11 (nI rn) kh kl sh sl a12 a13 a14 a15 a16 a17 a18 a19 a20)), (a1, .inl (cI, 98816, .inl (nF (iter (fdS v0 v1 v2 v3 v4 lt) 20 gt))))]) A)) (by decide) (Nat.le_of_ble_eq_true rfl) ?_
  intro p e s m args below meth c A ls hx hb hr hml hts hown hlocks hin hsz hP hG hD hA hS hl
  have hl : lv_has ls 8 [(0, .ref mo), (1, .int v0), (2, .int v1), (3, .int v2), (4, .int v3), (5, .int v4)] := hl
  refine lv_aload_n hx hb d_M_feed_0 rfl (lv_at hl 0 rfl) ?_
  refine lv_iconst (v := 0) hx hb d_M_feed_1 (by decide) ?_
  refine va_put (D := D) (ci := 7) (v := .int 0) (ty := .int) (C := R_M) (T := F_M) (N := 35) hx hb hts in_M tq_M tq_M_ok nq_M hown hG.1 hP hD hS 0 rfl rfl 0 (by decide) (hts _ k_697) (fun _ h9 => h9) rfl (by decide +kernel) rfl rfl (Nat.le_of_ble_eq_true rfl) d_M_feed_2 (fun H locs hP hD hS => ?_)
  have hP : va_P D vwCl [(mo, .inr (7, mFs 0 a1 a2 a3 (nI lt) (nI lb) (nI lz) ci a4 a5 a6 nu bk se op fa a7 a8 a9 a10 a11 (nI rn) kh kl sh sl a12 a13 a14 a15 a16 a17 a18 a19 a20)), (a1, .inl (cI, 98816, .inl (nF gt)))] H := hP
  have hD : va_D A [(mo, .inr (7, mFs 0 a1 a2 a3 (nI lt) (nI lb) (nI lz) ci a4 a5 a6 nu bk se op fa a7 a8 a9 a10 a11 (nI rn) kh kl sh sl a12 a13 a14 a15 a16 a17 a18 a19 a20)), (a1, .inl (cI, 98816, .inl (nF gt)))] := hD
  refine lv_aload_n hx hb d_M_feed_5 rfl (lv_at hl 0 rfl) ?_
  refine va_get (D := D) (ci := 7) (v := .int (nI lt)) (C := R_M) (T := F_M) (N := 35) hx hb hts in_M hown hG.1 hP 0 rfl rfl 4 (by decide) (hts _ k_701) (fun _ h9 => h9) rfl d_M_feed_6 ?_
  refine lv_ldc (v := 65516) hx hb hown (hts (.constant R_M 165 65516) (by decide +kernel)) d_M_feed_9 ?_
  refine lv_icmp_le (tgt := 20) hx hb d_M_feed_11 (by decide) (fun c_1 => ?_) (fun c_1 => absurd (sb_leT (a := lt) (b := 65516) rfl rfl (by omega) (by omega) (by omega)) c_1)
  refine lv_iconst (v := 0) hx hb d_M_feed_20 (by decide) ?_
  refine lv_istore (lv' := [(6, .int 0), (0, .ref mo), (1, .int v0), (2, .int v1), (3, .int v2), (4, .int v3), (5, .int v4)]) hx hb d_M_feed_21 hl (by decide) rfl (fun ls hl => ?_)
  have lp1 : ∀ (d1 i : Nat), i + d1 = 20 → ∀ (H : Heap) (locs : List Loc) (ls : Array Slot), va_P D vwCl [(mo, .inr (7, mFs 0 a1 a2 a3 (nI lt) (nI lb) (nI lz) ci a4 a5 a6 nu bk se op fa a7 a8 a9 a10 a11 (nI rn) kh kl sh sl a12 a13 a14 a15 a16 a17 a18 a19 a20)), (a1, .inl (cI, 98816, .inl (nF (iter (fdS v0 v1 v2 v3 v4 lt) i gt))))] H → va_D A [(mo, .inr (7, mFs 0 a1 a2 a3 (nI lt) (nI lb) (nI lz) ci a4 a5 a6 nu bk se op fa a7 a8 a9 a10 a11 (nI rn) kh kl sh sl a12 a13 a14 a15 a16 a17 a18 a19 a20)), (a1, .inl (cI, 98816, .inl (nF (iter (fdS v0 v1 v2 v3 v4 lt) i gt))))] → va_S A s.heap H locs → lv_has ls 8 [(6, .int (nI i)), (0, .ref mo), (1, .int v0), (2, .int v1), (3, .int v2), (4, .int v3), (5, .int v4)] → W p l e rm_M_feed s m args below meth c H locs 0 0 (MQ below (sbQi D (fun (r : Int32) (_ : Unit) => r = nI (lt + 20)) (fun (_ : Unit) => [(mo, .inr (7, mFs 0 a1 a2 a3 (nI (lt + 20)) (nI lb) (nI lz) ci a4 a5 a6 nu bk se op fa a7 a8 a9 a10 a11 (nI rn) kh kl sh sl a12 a13 a14 a15 a16 a17 a18 a19 a20)), (a1, .inl (cI, 98816, .inl (nF (iter (fdS v0 v1 v2 v3 v4 lt) 20 gt))))]) A) args s 0 0 A) (F0 m 23 ls []) := by
    intro d1
    induction d1 with
    | zero =>
      intro i hi1 H locs ls hP hD hS hl
      obtain rfl : 20 = i := by omega
      refine lv_iload hx hb d_M_feed_23 (lv_at hl 0 rfl) ?_
      refine lv_bipush (v := 20) hx hb d_M_feed_25 (by decide) ?_
      refine lv_icmp_ge (tgt := 112) hx hb d_M_feed_27 (by decide) (fun c_2 => ?_) (fun c_2 => absurd (sb_geT (a := 20) (b := 20) rfl rfl (by omega) (by omega) (by omega)) c_2)
      refine lv_aload_n hx hb d_M_feed_112 rfl (lv_at hl 1 rfl) ?_
      refine lv_dup hx hb d_M_feed_113 rfl ?_
      refine va_get (D := D) (ci := 7) (v := .int (nI lt)) (C := R_M) (T := F_M) (N := 35) hx hb hts in_M hown hG.1 hP 0 rfl rfl 4 (by decide) (hts _ k_701) (fun _ h9 => h9) rfl d_M_feed_114 ?_
      refine lv_bipush (v := 20) hx hb d_M_feed_117 (by decide) ?_
      refine lv_iadd hx hb d_M_feed_119 ?_
      refine sb_topn (lt + 20) (nI_add lt 20) ?_
      refine sb_topn (lt + 20) rfl ?_
      refine va_put (D := D) (ci := 7) (v := .int (nI (lt + 20))) (ty := .int) (C := R_M) (T := F_M) (N := 35) hx hb hts in_M tq_M tq_M_ok nq_M hown hG.1 hP hD hS 0 rfl rfl 4 (by decide) (hts _ k_701) (fun _ h9 => h9) rfl (by decide +kernel) rfl rfl (Nat.le_of_ble_eq_true rfl) d_M_feed_120 (fun H locs hP hD hS => ?_)
      have hP : va_P D vwCl [(mo, .inr (7, mFs 0 a1 a2 a3 (nI (lt + 20)) (nI lb) (nI lz) ci a4 a5 a6 nu bk se op fa a7 a8 a9 a10 a11 (nI rn) kh kl sh sl a12 a13 a14 a15 a16 a17 a18 a19 a20)), (a1, .inl (cI, 98816, .inl (nF (iter (fdS v0 v1 v2 v3 v4 lt) 20 gt))))] H := hP
      have hD : va_D A [(mo, .inr (7, mFs 0 a1 a2 a3 (nI (lt + 20)) (nI lb) (nI lz) ci a4 a5 a6 nu bk se op fa a7 a8 a9 a10 a11 (nI rn) kh kl sh sl a12 a13 a14 a15 a16 a17 a18 a19 a20)), (a1, .inl (cI, 98816, .inl (nF (iter (fdS v0 v1 v2 v3 v4 lt) 20 gt))))] := hD
      refine lv_aload_n hx hb d_M_feed_123 rfl (lv_at hl 1 rfl) ?_
      refine va_get (D := D) (ci := 7) (v := .int (nI (lt + 20))) (C := R_M) (T := F_M) (N := 35) hx hb hts in_M hown hG.1 hP 0 rfl rfl 4 (by decide) (hts _ k_701) (fun _ h9 => h9) rfl d_M_feed_124 ?_
      have hP9 := hP.sub (ws' := [(mo, .inr (7, mFs 0 a1 a2 a3 (nI (lt + 20)) (nI lb) (nI lz) ci a4 a5 a6 nu bk se op fa a7 a8 a9 a10 a11 (nI rn) kh kl sh sl a12 a13 a14 a15 a16 a17 a18 a19 a20)), (a1, .inl (cI, 98816, .inl (nF (iter (fdS v0 v1 v2 v3 v4 lt) 20 gt))))]) [0, 1] rfl
      have hD9 := hD.sub (ws' := [(mo, .inr (7, mFs 0 a1 a2 a3 (nI (lt + 20)) (nI lb) (nI lz) ci a4 a5 a6 nu bk se op fa a7 a8 a9 a10 a11 (nI rn) kh kl sh sl a12 a13 a14 a15 a16 a17 a18 a19 a20)), (a1, .inl (cI, 98816, .inl (nF (iter (fdS v0 v1 v2 v3 v4 lt) 20 gt))))]) [0, 1] (by decide) rfl
      exact W.iret (v := nI (lt + 20)) hx hb hr (fun t ht hW => ⟨⟨_, (), rfl, rfl, by rw [ht]; exact hP9, hD9⟩, hS.F ht⟩) hS.2.2 d_M_feed_127
    | succ d1 ih1 =>
      intro i hi1 H locs ls hP hD hS hl
      refine lv_iload hx hb d_M_feed_23 (lv_at hl 0 rfl) ?_
      refine lv_bipush (v := 20) hx hb d_M_feed_25 (by decide) ?_
      refine lv_icmp_ge (tgt := 112) hx hb d_M_feed_27 (by decide) (fun c_3 => absurd c_3 (sb_geF (a := i) (b := 20) rfl rfl (by omega) (by omega) (by omega))) (fun c_3 => ?_)
      refine lv_iload hx hb d_M_feed_30 (lv_at hl 0 rfl) ?_
      refine lv_iconst (v := 4) hx hb d_M_feed_32 (by decide) ?_
      refine lv_icmp_ge (tgt := 40) hx hb d_M_feed_33 (by decide) (fun c_4 => ?_) (fun c_4 => ?_)
      · have c_4 := (sb_geI (a := i) (b := 4) rfl rfl (by omega) (by omega)).mp c_4
        refine lv_iload hx hb d_M_feed_40 (lv_at hl 0 rfl) ?_
        refine lv_bipush (v := 8) hx hb d_M_feed_42 (by decide) ?_
        refine lv_icmp_ge (tgt := 51) hx hb d_M_feed_44 (by decide) (fun c_5 => ?_) (fun c_5 => ?_)
        · have c_5 := (sb_geI (a := i) (b := 8) rfl rfl (by omega) (by omega)).mp c_5
          refine lv_iload hx hb d_M_feed_51 (lv_at hl 0 rfl) ?_
          refine lv_bipush (v := 12) hx hb d_M_feed_53 (by decide) ?_
          refine lv_icmp_ge (tgt := 62) hx hb d_M_feed_55 (by decide) (fun c_6 => ?_) (fun c_6 => ?_)
          · have c_6 := (sb_geI (a := i) (b := 12) rfl rfl (by omega) (by omega)).mp c_6
            refine lv_iload hx hb d_M_feed_62 (lv_at hl 0 rfl) ?_
            refine lv_bipush (v := 16) hx hb d_M_feed_64 (by decide) ?_
            refine lv_icmp_ge (tgt := 74) hx hb d_M_feed_66 (by decide) (fun c_7 => ?_) (fun c_7 => ?_)
            · have c_7 := (sb_geI (a := i) (b := 16) rfl rfl (by omega) (by omega)).mp c_7
              refine lv_iload hx hb d_M_feed_74 (lv_at hl 6 rfl) ?_
              refine lv_istore (lv' := [(7, .int v4), (6, .int (nI i)), (0, .ref mo), (1, .int v0), (2, .int v1), (3, .int v2), (4, .int v3), (5, .int v4)]) hx hb d_M_feed_76 hl (by decide) rfl (fun ls hl => ?_)
              refine lv_aload_n hx hb d_M_feed_78 rfl (lv_at hl 2 rfl) ?_
              refine va_get (D := D) (ci := 7) (v := .ref a1) (C := R_M) (T := F_M) (N := 35) hx hb hts in_M hown hG.1 hP 0 rfl rfl 1 (by decide) (hts _ k_698) (fun _ h9 => h9) rfl d_M_feed_79 ?_
              refine lv_aload_n hx hb d_M_feed_82 rfl (lv_at hl 2 rfl) ?_
              refine va_get (D := D) (ci := 7) (v := .int (nI lt)) (C := R_M) (T := F_M) (N := 35) hx hb hts in_M hown hG.1 hP 0 rfl rfl 4 (by decide) (hts _ k_701) (fun _ h9 => h9) rfl d_M_feed_83 ?_
              refine lv_iload hx hb d_M_feed_86 (lv_at hl 1 rfl) ?_
              refine lv_iadd hx hb d_M_feed_88 ?_
              refine sb_topn (lt + i) (nI_add lt i) ?_
              refine lv_iload hx hb d_M_feed_89 (lv_at hl 0 rfl) ?_
              refine lv_bipush (v := 8) hx hb d_M_feed_91 (by decide) ?_
              refine lv_iconst (v := 3) hx hb d_M_feed_93 (by decide) ?_
              refine lv_iload hx hb d_M_feed_94 (lv_at hl 1 rfl) ?_
              refine lv_iconst (v := 4) hx hb d_M_feed_96 (by decide) ?_
              refine lv_irem hx hb d_M_feed_97 (by decide) ?_
              refine sb_topn (i % 4) (sb_rem (a := i) (b := 4) (by omega) (by omega) (by omega) rfl rfl) ?_
              refine lv_isub hx hb d_M_feed_98 ?_
              refine sb_topn (3 - (i % 4)) (sb_sub (a := 3) (b := i % 4) (by omega) rfl rfl) ?_
              refine lv_imul hx hb d_M_feed_99 ?_
              refine sb_topn (8 * (3 - (i % 4))) (sb_mul (a := 8) (b := 3 - (i % 4)) rfl rfl) ?_
              refine lv_iushr (v := uS v4 (nI (8 * (3 - (i % 4))))) hx hb d_M_feed_100 rfl ?_
              refine lv_sipush (v := 255) hx hb d_M_feed_101 (by decide) ?_
              refine lv_iand hx hb d_M_feed_104 ?_
              refine sb_topn (byI v4 (8 * (3 - (i % 4)))) (sb_by (x := v4) (k := 8 * (3 - (i % 4))) rfl (by omega)) ?_
              refine sb_topn (byI v4 (8 * (3 - (i % 4)))) rfl ?_
              refine sb_ist hx hb hG.1 hP hD hS 1 rfl (lt + i) rfl (by omega) (by omega) d_M_feed_105 (fun f_8 H locs ef_8 hP hD hS => ?_)
              have hP : va_P D vwCl [(mo, .inr (7, mFs 0 a1 a2 a3 (nI lt) (nI lb) (nI lz) ci a4 a5 a6 nu bk se op fa a7 a8 a9 a10 a11 (nI rn) kh kl sh sl a12 a13 a14 a15 a16 a17 a18 a19 a20)), (a1, .inl (cI, 98816, .inl f_8))] H := hP
              have hD : va_D A [(mo, .inr (7, mFs 0 a1 a2 a3 (nI lt) (nI lb) (nI lz) ci a4 a5 a6 nu bk se op fa a7 a8 a9 a10 a11 (nI rn) kh kl sh sl a12 a13 a14 a15 a16 a17 a18 a19 a20)), (a1, .inl (cI, 98816, .inl f_8))] := hD
              obtain rfl : f_8 = nF (updN (iter (fdS v0 v1 v2 v3 v4 lt) i gt) (lt + i) (byI v4 (8 * (3 - (i % 4))))) := ef_8.trans (nF_set _ _ _)
              have hP : va_P D vwCl [(mo, .inr (7, mFs 0 a1 a2 a3 (nI lt) (nI lb) (nI lz) ci a4 a5 a6 nu bk se op fa a7 a8 a9 a10 a11 (nI rn) kh kl sh sl a12 a13 a14 a15 a16 a17 a18 a19 a20)), (a1, .inl (cI, 98816, .inl (nF (updN (iter (fdS v0 v1 v2 v3 v4 lt) i gt) (lt + i) (byI v4 (8 * (3 - (i % 4))))))))] H := hP
              have hD : va_D A [(mo, .inr (7, mFs 0 a1 a2 a3 (nI lt) (nI lb) (nI lz) ci a4 a5 a6 nu bk se op fa a7 a8 a9 a10 a11 (nI rn) kh kl sh sl a12 a13 a14 a15 a16 a17 a18 a19 a20)), (a1, .inl (cI, 98816, .inl (nF (updN (iter (fdS v0 v1 v2 v3 v4 lt) i gt) (lt + i) (byI v4 (8 * (3 - (i % 4))))))))] := hD
              refine lv_iinc (v := nI (i + 1)) (lv' := [(6, .int (nI (i + 1))), (7, .int v4), (0, .ref mo), (1, .int v0), (2, .int v1), (3, .int v2), (4, .int v3), (5, .int v4)]) hx hb d_M_feed_106 hl (k := 1) rfl (sb_inc (a := i) (b := i + 1) (d := 1) rfl (by decide) (by omega)) (by decide) rfl (fun ls hl => ?_)
              refine lv_goto (tgt := 23) hx hb d_M_feed_109 (by decide) ?_
              rw [show nF (updN (iter (fdS v0 v1 v2 v3 v4 lt) i gt) (lt + i) (byI v4 (8 * (3 - (i % 4))))) = nF (iter (fdS v0 v1 v2 v3 v4 lt) (i + 1) gt) from (congrArg nF (Eq.trans (by simp only [fdS, if_pos c_4, if_pos c_5, if_pos c_6, if_pos c_7]) (iter_s _ _ _).symm))] at hP hD
              exact ih1 (i + 1) (by omega) _ _ ls (hP.sub [0, 1] rfl) (hD.sub [0, 1] (by decide) rfl) hS (lv_sub hl [0, 2, 3, 4, 5, 6, 7] rfl)
            · have c_7 := mt (sb_geI (a := i) (b := 16) rfl rfl (by omega) (by omega)).mpr c_7
              refine lv_iload hx hb d_M_feed_69 (lv_at hl 5 rfl) ?_
              refine lv_goto (tgt := 76) hx hb d_M_feed_71 (by decide) ?_
              refine lv_istore (lv' := [(7, .int v3), (6, .int (nI i)), (0, .ref mo), (1, .int v0), (2, .int v1), (3, .int v2), (4, .int v3), (5, .int v4)]) hx hb d_M_feed_76 hl (by decide) rfl (fun ls hl => ?_)
              refine lv_aload_n hx hb d_M_feed_78 rfl (lv_at hl 2 rfl) ?_
              refine va_get (D := D) (ci := 7) (v := .ref a1) (C := R_M) (T := F_M) (N := 35) hx hb hts in_M hown hG.1 hP 0 rfl rfl 1 (by decide) (hts _ k_698) (fun _ h9 => h9) rfl d_M_feed_79 ?_
              refine lv_aload_n hx hb d_M_feed_82 rfl (lv_at hl 2 rfl) ?_
              refine va_get (D := D) (ci := 7) (v := .int (nI lt)) (C := R_M) (T := F_M) (N := 35) hx hb hts in_M hown hG.1 hP 0 rfl rfl 4 (by decide) (hts _ k_701) (fun _ h9 => h9) rfl d_M_feed_83 ?_
              refine lv_iload hx hb d_M_feed_86 (lv_at hl 1 rfl) ?_
              refine lv_iadd hx hb d_M_feed_88 ?_
              refine sb_topn (lt + i) (nI_add lt i) ?_
              refine lv_iload hx hb d_M_feed_89 (lv_at hl 0 rfl) ?_
              refine lv_bipush (v := 8) hx hb d_M_feed_91 (by decide) ?_
              refine lv_iconst (v := 3) hx hb d_M_feed_93 (by decide) ?_
              refine lv_iload hx hb d_M_feed_94 (lv_at hl 1 rfl) ?_
              refine lv_iconst (v := 4) hx hb d_M_feed_96 (by decide) ?_
              refine lv_irem hx hb d_M_feed_97 (by decide) ?_
              refine sb_topn (i % 4) (sb_rem (a := i) (b := 4) (by omega) (by omega) (by omega) rfl rfl) ?_
              refine lv_isub hx hb d_M_feed_98 ?_
              refine sb_topn (3 - (i % 4)) (sb_sub (a := 3) (b := i % 4) (by omega) rfl rfl) ?_
              refine lv_imul hx hb d_M_feed_99 ?_
              refine sb_topn (8 * (3 - (i % 4))) (sb_mul (a := 8) (b := 3 - (i % 4)) rfl rfl) ?_
              refine lv_iushr (v := uS v3 (nI (8 * (3 - (i % 4))))) hx hb d_M_feed_100 rfl ?_
              refine lv_sipush (v := 255) hx hb d_M_feed_101 (by decide) ?_
              refine lv_iand hx hb d_M_feed_104 ?_
              refine sb_topn (byI v3 (8 * (3 - (i % 4)))) (sb_by (x := v3) (k := 8 * (3 - (i % 4))) rfl (by omega)) ?_
              refine sb_topn (byI v3 (8 * (3 - (i % 4)))) rfl ?_
              refine sb_ist hx hb hG.1 hP hD hS 1 rfl (lt + i) rfl (by omega) (by omega) d_M_feed_105 (fun f_9 H locs ef_9 hP hD hS => ?_)
              have hP : va_P D vwCl [(mo, .inr (7, mFs 0 a1 a2 a3 (nI lt) (nI lb) (nI lz) ci a4 a5 a6 nu bk se op fa a7 a8 a9 a10 a11 (nI rn) kh kl sh sl a12 a13 a14 a15 a16 a17 a18 a19 a20)), (a1, .inl (cI, 98816, .inl f_9))] H := hP
              have hD : va_D A [(mo, .inr (7, mFs 0 a1 a2 a3 (nI lt) (nI lb) (nI lz) ci a4 a5 a6 nu bk se op fa a7 a8 a9 a10 a11 (nI rn) kh kl sh sl a12 a13 a14 a15 a16 a17 a18 a19 a20)), (a1, .inl (cI, 98816, .inl f_9))] := hD
              obtain rfl : f_9 = nF (updN (iter (fdS v0 v1 v2 v3 v4 lt) i gt) (lt + i) (byI v3 (8 * (3 - (i % 4))))) := ef_9.trans (nF_set _ _ _)
              have hP : va_P D vwCl [(mo, .inr (7, mFs 0 a1 a2 a3 (nI lt) (nI lb) (nI lz) ci a4 a5 a6 nu bk se op fa a7 a8 a9 a10 a11 (nI rn) kh kl sh sl a12 a13 a14 a15 a16 a17 a18 a19 a20)), (a1, .inl (cI, 98816, .inl (nF (updN (iter (fdS v0 v1 v2 v3 v4 lt) i gt) (lt + i) (byI v3 (8 * (3 - (i % 4))))))))] H := hP
              have hD : va_D A [(mo, .inr (7, mFs 0 a1 a2 a3 (nI lt) (nI lb) (nI lz) ci a4 a5 a6 nu bk se op fa a7 a8 a9 a10 a11 (nI rn) kh kl sh sl a12 a13 a14 a15 a16 a17 a18 a19 a20)), (a1, .inl (cI, 98816, .inl (nF (updN (iter (fdS v0 v1 v2 v3 v4 lt) i gt) (lt + i) (byI v3 (8 * (3 - (i % 4))))))))] := hD
              refine lv_iinc (v := nI (i + 1)) (lv' := [(6, .int (nI (i + 1))), (7, .int v3), (0, .ref mo), (1, .int v0), (2, .int v1), (3, .int v2), (4, .int v3), (5, .int v4)]) hx hb d_M_feed_106 hl (k := 1) rfl (sb_inc (a := i) (b := i + 1) (d := 1) rfl (by decide) (by omega)) (by decide) rfl (fun ls hl => ?_)
              refine lv_goto (tgt := 23) hx hb d_M_feed_109 (by decide) ?_
              rw [show nF (updN (iter (fdS v0 v1 v2 v3 v4 lt) i gt) (lt + i) (byI v3 (8 * (3 - (i % 4))))) = nF (iter (fdS v0 v1 v2 v3 v4 lt) (i + 1) gt) from (congrArg nF (Eq.trans (by simp only [fdS, if_pos c_4, if_pos c_5, if_pos c_6, if_neg c_7]) (iter_s _ _ _).symm))] at hP hD
              exact ih1 (i + 1) (by omega) _ _ ls (hP.sub [0, 1] rfl) (hD.sub [0, 1] (by decide) rfl) hS (lv_sub hl [0, 2, 3, 4, 5, 6, 7] rfl)
          · have c_6 := mt (sb_geI (a := i) (b := 12) rfl rfl (by omega) (by omega)).mpr c_6
            refine lv_iload_n hx hb d_M_feed_58 rfl (lv_at hl 4 rfl) ?_
            refine lv_goto (tgt := 76) hx hb d_M_feed_59 (by decide) ?_
            refine lv_istore (lv' := [(7, .int v2), (6, .int (nI i)), (0, .ref mo), (1, .int v0), (2, .int v1), (3, .int v2), (4, .int v3), (5, .int v4)]) hx hb d_M_feed_76 hl (by decide) rfl (fun ls hl => ?_)
            refine lv_aload_n hx hb d_M_feed_78 rfl (lv_at hl 2 rfl) ?_
            refine va_get (D := D) (ci := 7) (v := .ref a1) (C := R_M) (T := F_M) (N := 35) hx hb hts in_M hown hG.1 hP 0 rfl rfl 1 (by decide) (hts _ k_698) (fun _ h9 => h9) rfl d_M_feed_79 ?_
            refine lv_aload_n hx hb d_M_feed_82 rfl (lv_at hl 2 rfl) ?_
            refine va_get (D := D) (ci := 7) (v := .int (nI lt)) (C := R_M) (T := F_M) (N := 35) hx hb hts in_M hown hG.1 hP 0 rfl rfl 4 (by decide) (hts _ k_701) (fun _ h9 => h9) rfl d_M_feed_83 ?_
            refine lv_iload hx hb d_M_feed_86 (lv_at hl 1 rfl) ?_
            refine lv_iadd hx hb d_M_feed_88 ?_
            refine sb_topn (lt + i) (nI_add lt i) ?_
            refine lv_iload hx hb d_M_feed_89 (lv_at hl 0 rfl) ?_
            refine lv_bipush (v := 8) hx hb d_M_feed_91 (by decide) ?_
            refine lv_iconst (v := 3) hx hb d_M_feed_93 (by decide) ?_
            refine lv_iload hx hb d_M_feed_94 (lv_at hl 1 rfl) ?_
            refine lv_iconst (v := 4) hx hb d_M_feed_96 (by decide) ?_
            refine lv_irem hx hb d_M_feed_97 (by decide) ?_
            refine sb_topn (i % 4) (sb_rem (a := i) (b := 4) (by omega) (by omega) (by omega) rfl rfl) ?_
            refine lv_isub hx hb d_M_feed_98 ?_
            refine sb_topn (3 - (i % 4)) (sb_sub (a := 3) (b := i % 4) (by omega) rfl rfl) ?_
            refine lv_imul hx hb d_M_feed_99 ?_
            refine sb_topn (8 * (3 - (i % 4))) (sb_mul (a := 8) (b := 3 - (i % 4)) rfl rfl) ?_
            refine lv_iushr (v := uS v2 (nI (8 * (3 - (i % 4))))) hx hb d_M_feed_100 rfl ?_
            refine lv_sipush (v := 255) hx hb d_M_feed_101 (by decide) ?_
            refine lv_iand hx hb d_M_feed_104 ?_
            refine sb_topn (byI v2 (8 * (3 - (i % 4)))) (sb_by (x := v2) (k := 8 * (3 - (i % 4))) rfl (by omega)) ?_
            refine sb_topn (byI v2 (8 * (3 - (i % 4)))) rfl ?_
            refine sb_ist hx hb hG.1 hP hD hS 1 rfl (lt + i) rfl (by omega) (by omega) d_M_feed_105 (fun f_10 H locs ef_10 hP hD hS => ?_)
            have hP : va_P D vwCl [(mo, .inr (7, mFs 0 a1 a2 a3 (nI lt) (nI lb) (nI lz) ci a4 a5 a6 nu bk se op fa a7 a8 a9 a10 a11 (nI rn) kh kl sh sl a12 a13 a14 a15 a16 a17 a18 a19 a20)), (a1, .inl (cI, 98816, .inl f_10))] H := hP
            have hD : va_D A [(mo, .inr (7, mFs 0 a1 a2 a3 (nI lt) (nI lb) (nI lz) ci a4 a5 a6 nu bk se op fa a7 a8 a9 a10 a11 (nI rn) kh kl sh sl a12 a13 a14 a15 a16 a17 a18 a19 a20)), (a1, .inl (cI, 98816, .inl f_10))] := hD
            obtain rfl : f_10 = nF (updN (iter (fdS v0 v1 v2 v3 v4 lt) i gt) (lt + i) (byI v2 (8 * (3 - (i % 4))))) := ef_10.trans (nF_set _ _ _)
            have hP : va_P D vwCl [(mo, .inr (7, mFs 0 a1 a2 a3 (nI lt) (nI lb) (nI lz) ci a4 a5 a6 nu bk se op fa a7 a8 a9 a10 a11 (nI rn) kh kl sh sl a12 a13 a14 a15 a16 a17 a18 a19 a20)), (a1, .inl (cI, 98816, .inl (nF (updN (iter (fdS v0 v1 v2 v3 v4 lt) i gt) (lt + i) (byI v2 (8 * (3 - (i % 4))))))))] H := hP
            have hD : va_D A [(mo, .inr (7, mFs 0 a1 a2 a3 (nI lt) (nI lb) (nI lz) ci a4 a5 a6 nu bk se op fa a7 a8 a9 a10 a11 (nI rn) kh kl sh sl a12 a13 a14 a15 a16 a17 a18 a19 a20)), (a1, .inl (cI, 98816, .inl (nF (updN (iter (fdS v0 v1 v2 v3 v4 lt) i gt) (lt + i) (byI v2 (8 * (3 - (i % 4))))))))] := hD
            refine lv_iinc (v := nI (i + 1)) (lv' := [(6, .int (nI (i + 1))), (7, .int v2), (0, .ref mo), (1, .int v0), (2, .int v1), (3, .int v2), (4, .int v3), (5, .int v4)]) hx hb d_M_feed_106 hl (k := 1) rfl (sb_inc (a := i) (b := i + 1) (d := 1) rfl (by decide) (by omega)) (by decide) rfl (fun ls hl => ?_)
            refine lv_goto (tgt := 23) hx hb d_M_feed_109 (by decide) ?_
            rw [show nF (updN (iter (fdS v0 v1 v2 v3 v4 lt) i gt) (lt + i) (byI v2 (8 * (3 - (i % 4))))) = nF (iter (fdS v0 v1 v2 v3 v4 lt) (i + 1) gt) from (congrArg nF (Eq.trans (by simp only [fdS, if_pos c_4, if_pos c_5, if_neg c_6]) (iter_s _ _ _).symm))] at hP hD
            exact ih1 (i + 1) (by omega) _ _ ls (hP.sub [0, 1] rfl) (hD.sub [0, 1] (by decide) rfl) hS (lv_sub hl [0, 2, 3, 4, 5, 6, 7] rfl)
        · have c_5 := mt (sb_geI (a := i) (b := 8) rfl rfl (by omega) (by omega)).mpr c_5
          refine lv_iload_n hx hb d_M_feed_47 rfl (lv_at hl 3 rfl) ?_
          refine lv_goto (tgt := 76) hx hb d_M_feed_48 (by decide) ?_
          refine lv_istore (lv' := [(7, .int v1), (6, .int (nI i)), (0, .ref mo), (1, .int v0), (2, .int v1), (3, .int v2), (4, .int v3), (5, .int v4)]) hx hb d_M_feed_76 hl (by decide) rfl (fun ls hl => ?_)
          refine lv_aload_n hx hb d_M_feed_78 rfl (lv_at hl 2 rfl) ?_
          refine va_get (D := D) (ci := 7) (v := .ref a1) (C := R_M) (T := F_M) (N := 35) hx hb hts in_M hown hG.1 hP 0 rfl rfl 1 (by decide) (hts _ k_698) (fun _ h9 => h9) rfl d_M_feed_79 ?_
          refine lv_aload_n hx hb d_M_feed_82 rfl (lv_at hl 2 rfl) ?_
          refine va_get (D := D) (ci := 7) (v := .int (nI lt)) (C := R_M) (T := F_M) (N := 35) hx hb hts in_M hown hG.1 hP 0 rfl rfl 4 (by decide) (hts _ k_701) (fun _ h9 => h9) rfl d_M_feed_83 ?_
          refine lv_iload hx hb d_M_feed_86 (lv_at hl 1 rfl) ?_
          refine lv_iadd hx hb d_M_feed_88 ?_
          refine sb_topn (lt + i) (nI_add lt i) ?_
          refine lv_iload hx hb d_M_feed_89 (lv_at hl 0 rfl) ?_
          refine lv_bipush (v := 8) hx hb d_M_feed_91 (by decide) ?_
          refine lv_iconst (v := 3) hx hb d_M_feed_93 (by decide) ?_
          refine lv_iload hx hb d_M_feed_94 (lv_at hl 1 rfl) ?_
          refine lv_iconst (v := 4) hx hb d_M_feed_96 (by decide) ?_
          refine lv_irem hx hb d_M_feed_97 (by decide) ?_
          refine sb_topn (i % 4) (sb_rem (a := i) (b := 4) (by omega) (by omega) (by omega) rfl rfl) ?_
          refine lv_isub hx hb d_M_feed_98 ?_
          refine sb_topn (3 - (i % 4)) (sb_sub (a := 3) (b := i % 4) (by omega) rfl rfl) ?_
          refine lv_imul hx hb d_M_feed_99 ?_
          refine sb_topn (8 * (3 - (i % 4))) (sb_mul (a := 8) (b := 3 - (i % 4)) rfl rfl) ?_
          refine lv_iushr (v := uS v1 (nI (8 * (3 - (i % 4))))) hx hb d_M_feed_100 rfl ?_
          refine lv_sipush (v := 255) hx hb d_M_feed_101 (by decide) ?_
          refine lv_iand hx hb d_M_feed_104 ?_
          refine sb_topn (byI v1 (8 * (3 - (i % 4)))) (sb_by (x := v1) (k := 8 * (3 - (i % 4))) rfl (by omega)) ?_
          refine sb_topn (byI v1 (8 * (3 - (i % 4)))) rfl ?_
          refine sb_ist hx hb hG.1 hP hD hS 1 rfl (lt + i) rfl (by omega) (by omega) d_M_feed_105 (fun f_11 H locs ef_11 hP hD hS => ?_)
          have hP : va_P D vwCl [(mo, .inr (7, mFs 0 a1 a2 a3 (nI lt) (nI lb) (nI lz) ci a4 a5 a6 nu bk se op fa a7 a8 a9 a10 a11 (nI rn) kh kl sh sl a12 a13 a14 a15 a16 a17 a18 a19 a20)), (a1, .inl (cI, 98816, .inl f_11))] H := hP
          have hD : va_D A [(mo, .inr (7, mFs 0 a1 a2 a3 (nI lt) (nI lb) (nI lz) ci a4 a5 a6 nu bk se op fa a7 a8 a9 a10 a11 (nI rn) kh kl sh sl a12 a13 a14 a15 a16 a17 a18 a19 a20)), (a1, .inl (cI, 98816, .inl f_11))] := hD
          obtain rfl : f_11 = nF (updN (iter (fdS v0 v1 v2 v3 v4 lt) i gt) (lt + i) (byI v1 (8 * (3 - (i % 4))))) := ef_11.trans (nF_set _ _ _)
          have hP : va_P D vwCl [(mo, .inr (7, mFs 0 a1 a2 a3 (nI lt) (nI lb) (nI lz) ci a4 a5 a6 nu bk se op fa a7 a8 a9 a10 a11 (nI rn) kh kl sh sl a12 a13 a14 a15 a16 a17 a18 a19 a20)), (a1, .inl (cI, 98816, .inl (nF (updN (iter (fdS v0 v1 v2 v3 v4 lt) i gt) (lt + i) (byI v1 (8 * (3 - (i % 4))))))))] H := hP
          have hD : va_D A [(mo, .inr (7, mFs 0 a1 a2 a3 (nI lt) (nI lb) (nI lz) ci a4 a5 a6 nu bk se op fa a7 a8 a9 a10 a11 (nI rn) kh kl sh sl a12 a13 a14 a15 a16 a17 a18 a19 a20)), (a1, .inl (cI, 98816, .inl (nF (updN (iter (fdS v0 v1 v2 v3 v4 lt) i gt) (lt + i) (byI v1 (8 * (3 - (i % 4))))))))] := hD
          refine lv_iinc (v := nI (i + 1)) (lv' := [(6, .int (nI (i + 1))), (7, .int v1), (0, .ref mo), (1, .int v0), (2, .int v1), (3, .int v2), (4, .int v3), (5, .int v4)]) hx hb d_M_feed_106 hl (k := 1) rfl (sb_inc (a := i) (b := i + 1) (d := 1) rfl (by decide) (by omega)) (by decide) rfl (fun ls hl => ?_)
          refine lv_goto (tgt := 23) hx hb d_M_feed_109 (by decide) ?_
          rw [show nF (updN (iter (fdS v0 v1 v2 v3 v4 lt) i gt) (lt + i) (byI v1 (8 * (3 - (i % 4))))) = nF (iter (fdS v0 v1 v2 v3 v4 lt) (i + 1) gt) from (congrArg nF (Eq.trans (by simp only [fdS, if_pos c_4, if_neg c_5]) (iter_s _ _ _).symm))] at hP hD
          exact ih1 (i + 1) (by omega) _ _ ls (hP.sub [0, 1] rfl) (hD.sub [0, 1] (by decide) rfl) hS (lv_sub hl [0, 2, 3, 4, 5, 6, 7] rfl)
      · have c_4 := mt (sb_geI (a := i) (b := 4) rfl rfl (by omega) (by omega)).mpr c_4
        refine lv_iload_n hx hb d_M_feed_36 rfl (lv_at hl 2 rfl) ?_
        refine lv_goto (tgt := 76) hx hb d_M_feed_37 (by decide) ?_
        refine lv_istore (lv' := [(7, .int v0), (6, .int (nI i)), (0, .ref mo), (1, .int v0), (2, .int v1), (3, .int v2), (4, .int v3), (5, .int v4)]) hx hb d_M_feed_76 hl (by decide) rfl (fun ls hl => ?_)
        refine lv_aload_n hx hb d_M_feed_78 rfl (lv_at hl 2 rfl) ?_
        refine va_get (D := D) (ci := 7) (v := .ref a1) (C := R_M) (T := F_M) (N := 35) hx hb hts in_M hown hG.1 hP 0 rfl rfl 1 (by decide) (hts _ k_698) (fun _ h9 => h9) rfl d_M_feed_79 ?_
        refine lv_aload_n hx hb d_M_feed_82 rfl (lv_at hl 2 rfl) ?_
        refine va_get (D := D) (ci := 7) (v := .int (nI lt)) (C := R_M) (T := F_M) (N := 35) hx hb hts in_M hown hG.1 hP 0 rfl rfl 4 (by decide) (hts _ k_701) (fun _ h9 => h9) rfl d_M_feed_83 ?_
        refine lv_iload hx hb d_M_feed_86 (lv_at hl 1 rfl) ?_
        refine lv_iadd hx hb d_M_feed_88 ?_
        refine sb_topn (lt + i) (nI_add lt i) ?_
        refine lv_iload hx hb d_M_feed_89 (lv_at hl 0 rfl) ?_
        refine lv_bipush (v := 8) hx hb d_M_feed_91 (by decide) ?_
        refine lv_iconst (v := 3) hx hb d_M_feed_93 (by decide) ?_
        refine lv_iload hx hb d_M_feed_94 (lv_at hl 1 rfl) ?_
        refine lv_iconst (v := 4) hx hb d_M_feed_96 (by decide) ?_
        refine lv_irem hx hb d_M_feed_97 (by decide) ?_
        refine sb_topn (i % 4) (sb_rem (a := i) (b := 4) (by omega) (by omega) (by omega) rfl rfl) ?_
        refine lv_isub hx hb d_M_feed_98 ?_
        refine sb_topn (3 - (i % 4)) (sb_sub (a := 3) (b := i % 4) (by omega) rfl rfl) ?_
        refine lv_imul hx hb d_M_feed_99 ?_
        refine sb_topn (8 * (3 - (i % 4))) (sb_mul (a := 8) (b := 3 - (i % 4)) rfl rfl) ?_
        refine lv_iushr (v := uS v0 (nI (8 * (3 - (i % 4))))) hx hb d_M_feed_100 rfl ?_
        refine lv_sipush (v := 255) hx hb d_M_feed_101 (by decide) ?_
        refine lv_iand hx hb d_M_feed_104 ?_
        refine sb_topn (byI v0 (8 * (3 - (i % 4)))) (sb_by (x := v0) (k := 8 * (3 - (i % 4))) rfl (by omega)) ?_
        refine sb_topn (byI v0 (8 * (3 - (i % 4)))) rfl ?_
        refine sb_ist hx hb hG.1 hP hD hS 1 rfl (lt + i) rfl (by omega) (by omega) d_M_feed_105 (fun f_12 H locs ef_12 hP hD hS => ?_)
        have hP : va_P D vwCl [(mo, .inr (7, mFs 0 a1 a2 a3 (nI lt) (nI lb) (nI lz) ci a4 a5 a6 nu bk se op fa a7 a8 a9 a10 a11 (nI rn) kh kl sh sl a12 a13 a14 a15 a16 a17 a18 a19 a20)), (a1, .inl (cI, 98816, .inl f_12))] H := hP
        have hD : va_D A [(mo, .inr (7, mFs 0 a1 a2 a3 (nI lt) (nI lb) (nI lz) ci a4 a5 a6 nu bk se op fa a7 a8 a9 a10 a11 (nI rn) kh kl sh sl a12 a13 a14 a15 a16 a17 a18 a19 a20)), (a1, .inl (cI, 98816, .inl f_12))] := hD
        obtain rfl : f_12 = nF (updN (iter (fdS v0 v1 v2 v3 v4 lt) i gt) (lt + i) (byI v0 (8 * (3 - (i % 4))))) := ef_12.trans (nF_set _ _ _)
        have hP : va_P D vwCl [(mo, .inr (7, mFs 0 a1 a2 a3 (nI lt) (nI lb) (nI lz) ci a4 a5 a6 nu bk se op fa a7 a8 a9 a10 a11 (nI rn) kh kl sh sl a12 a13 a14 a15 a16 a17 a18 a19 a20)), (a1, .inl (cI, 98816, .inl (nF (updN (iter (fdS v0 v1 v2 v3 v4 lt) i gt) (lt + i) (byI v0 (8 * (3 - (i % 4))))))))] H := hP
        have hD : va_D A [(mo, .inr (7, mFs 0 a1 a2 a3 (nI lt) (nI lb) (nI lz) ci a4 a5 a6 nu bk se op fa a7 a8 a9 a10 a11 (nI rn) kh kl sh sl a12 a13 a14 a15 a16 a17 a18 a19 a20)), (a1, .inl (cI, 98816, .inl (nF (updN (iter (fdS v0 v1 v2 v3 v4 lt) i gt) (lt + i) (byI v0 (8 * (3 - (i % 4))))))))] := hD
        refine lv_iinc (v := nI (i + 1)) (lv' := [(6, .int (nI (i + 1))), (7, .int v0), (0, .ref mo), (1, .int v0), (2, .int v1), (3, .int v2), (4, .int v3), (5, .int v4)]) hx hb d_M_feed_106 hl (k := 1) rfl (sb_inc (a := i) (b := i + 1) (d := 1) rfl (by decide) (by omega)) (by decide) rfl (fun ls hl => ?_)
        refine lv_goto (tgt := 23) hx hb d_M_feed_109 (by decide) ?_
        rw [show nF (updN (iter (fdS v0 v1 v2 v3 v4 lt) i gt) (lt + i) (byI v0 (8 * (3 - (i % 4))))) = nF (iter (fdS v0 v1 v2 v3 v4 lt) (i + 1) gt) from (congrArg nF (Eq.trans (by simp only [fdS, if_neg c_4]) (iter_s _ _ _).symm))] at hP hD
        exact ih1 (i + 1) (by omega) _ _ ls (hP.sub [0, 1] rfl) (hD.sub [0, 1] (by decide) rfl) hS (lv_sub hl [0, 2, 3, 4, 5, 6, 7] rfl)
  exact lp1 20 0 (by omega) _ _ ls (hP.sub [0, 1] rfl) (hD.sub [0, 1] (by decide) rfl) hS (lv_sub hl [0, 1, 2, 3, 4, 5, 6] rfl)

theorem d_M_end_0 : decode b_M_end 0 = .ok (.aload_n 0, 1) := by decide +kernel
theorem d_M_end_1 : decode b_M_end 1 = .ok (.iconst 0, 1) := by decide +kernel
theorem d_M_end_2 : decode b_M_end 2 = .ok (.putfield 79, 3) := by decide +kernel
theorem d_M_end_5 : decode b_M_end 5 = .ok (.iload_n 1, 1) := by decide +kernel
theorem d_M_end_6 : decode b_M_end 6 = .ok (.ifCond .lt 11, 3) := by decide +kernel
theorem d_M_end_9 : decode b_M_end 9 = .ok (.iload_n 1, 1) := by decide +kernel
theorem d_M_end_10 : decode b_M_end 10 = .ok (.aload_n 0, 1) := by decide +kernel
theorem d_M_end_11 : decode b_M_end 11 = .ok (.getfield 162, 3) := by decide +kernel
theorem d_M_end_14 : decode b_M_end 14 = .ok (.if_icmp .le 9, 3) := by decide +kernel
theorem d_M_end_17 : decode b_M_end 17 = .ok (.aload_n 0, 1) := by decide +kernel
theorem d_M_end_18 : decode b_M_end 18 = .ok (.iconst 1, 1) := by decide +kernel
theorem d_M_end_19 : decode b_M_end 19 = .ok (.invokevirtual 166, 3) := by decide +kernel
theorem d_M_end_22 : decode b_M_end 22 = .ok (.ireturn, 1) := by decide +kernel
theorem d_M_end_23 : decode b_M_end 23 = .ok (.aload_n 0, 1) := by decide +kernel
theorem d_M_end_24 : decode b_M_end 24 = .ok (.iload_n 1, 1) := by decide +kernel
theorem d_M_end_25 : decode b_M_end 25 = .ok (.putfield 162, 3) := by decide +kernel
theorem d_M_end_28 : decode b_M_end 28 = .ok (.iload_n 1, 1) := by decide +kernel
theorem d_M_end_29 : decode b_M_end 29 = .ok (.ireturn, 1) := by decide +kernel

def rm_M_endY : Room := { frames := 0, cells := 0, slots := 0, locals := 0 }
set_option maxHeartbeats 4000000 in
set_option maxRecDepth 100000 in
theorem c_M_endY (l : Launch) (D : va_G) (cI cL cB : ClassId) (tS tF : Nat) (mo : Nat) (a1 : Nat) (a2 : Nat) (a3 : Nat) (a4 : Nat) (a5 : Nat) (a6 : Nat) (a7 : Nat) (a8 : Nat) (a9 : Nat) (a10 : Nat) (a11 : Nat) (a12 : Nat) (a13 : Nat) (a14 : Nat) (a15 : Nat) (a16 : Nat) (a17 : Nat) (a18 : Nat) (a19 : Nat) (a20 : Nat) (thr : Int32) (ci : Int32) (bk : Int32) (se : Int32) (op : Int32) (fa : Int32) (lt : Nat) (lb : Nat) (lz : Nat) (rn : Nat) (nu : Int64) (kh : Int64) (kl : Int64) (sh : Int64) (sl : Int64) (n0 : Nat) (sz : Nat) (hn : n0 ≤ lt) (hlt : lt ≤ 20000) : Met l y_M_end (sbw y_M_end b_M_end 2 (some .int)) rm_M_endY (sbPc D cI cL cB tS tF [.ref mo, .int (nI n0)] sz [(mo, .inr (7, mFs thr a1 a2 a3 (nI lt) (nI lb) (nI lz) ci a4 a5 a6 nu bk se op fa a7 a8 a9 a10 a11 (nI rn) kh kl sh sl a12 a13 a14 a15 a16 a17 a18 a19 a20))]) (sbQi D (fun (r : Int32) (_ : Unit) => r = nI n0) (fun (_ : Unit) => [(mo, .inr (7, mFs 0 a1 a2 a3 (nI n0) (nI lb) (nI lz) ci a4 a5 a6 nu bk se op fa a7 a8 a9 a10 a11 (nI rn) kh kl sh sl a12 a13 a14 a15 a16 a17 a18 a19 a20))]) (va_A [(mo, .inr (7, mFs thr a1 a2 a3 (nI lt) (nI lb) (nI lz) ci a4 a5 a6 nu bk se op fa a7 a8 a9 a10 a11 (nI rn) kh kl sh sl a12 a13 a14 a15 a16 a17 a18 a19 a20))] sz)) 0 0 (va_A [(mo, .inr (7, mFs thr a1 a2 a3 (nI lt) (nI lb) (nI lz) ci a4 a5 a6 nu bk se op fa a7 a8 a9 a10 a11 (nI rn) kh kl sh sl a12 a13 a14 a15 a16 a17 a18 a19 a20))] sz) := by
  refine sb_ofW (y := y_M_end) (maxL := 2) (av := [.ref mo, .int (nI n0)]) (Qc := fun A => (sbQi D (fun (r : Int32) (_ : Unit) => r = nI n0) (fun (_ : Unit) => [(mo, .inr (7, mFs 0 a1 a2 a3 (nI n0) (nI lb) (nI lz) ci a4 a5 a6 nu bk se op fa a7 a8 a9 a10 a11 (nI rn) kh kl sh sl a12 a13 a14 a15 a16 a17 a18 a19 a20))]) A)) (by decide) (Nat.le_of_ble_eq_true rfl) ?_
  intro p e s m args below meth c A ls hx hb hr hml hts hown hlocks hin hsz hP hG hD hA hS hl
  have hl : lv_has ls 2 [(0, .ref mo), (1, .int (nI n0))] := hl
  refine lv_aload_n hx hb d_M_end_0 rfl (lv_at hl 0 rfl) ?_
  refine lv_iconst (v := 0) hx hb d_M_end_1 (by decide) ?_
  refine va_put (D := D) (ci := 7) (v := .int 0) (ty := .int) (C := R_M) (T := F_M) (N := 35) hx hb hts in_M tq_M tq_M_ok nq_M hown hG.1 hP hD hS 0 rfl rfl 0 (by decide) (hts _ k_697) (fun _ h9 => h9) rfl (by decide +kernel) rfl rfl (Nat.le_of_ble_eq_true rfl) d_M_end_2 (fun H locs hP hD hS => ?_)
  have hP : va_P D vwCl [(mo, .inr (7, mFs 0 a1 a2 a3 (nI lt) (nI lb) (nI lz) ci a4 a5 a6 nu bk se op fa a7 a8 a9 a10 a11 (nI rn) kh kl sh sl a12 a13 a14 a15 a16 a17 a18 a19 a20))] H := hP
  have hD : va_D A [(mo, .inr (7, mFs 0 a1 a2 a3 (nI lt) (nI lb) (nI lz) ci a4 a5 a6 nu bk se op fa a7 a8 a9 a10 a11 (nI rn) kh kl sh sl a12 a13 a14 a15 a16 a17 a18 a19 a20))] := hD
  refine lv_iload_n hx hb d_M_end_5 rfl (lv_at hl 1 rfl) ?_
  refine lv_if_lt (tgt := 17) hx hb d_M_end_6 (by decide) (fun c_1 => absurd c_1 (sb_ltF (a := n0) (b := 0) rfl rfl (by omega) (by omega) (by omega))) (fun c_1 => ?_)
  refine lv_iload_n hx hb d_M_end_9 rfl (lv_at hl 1 rfl) ?_
  refine lv_aload_n hx hb d_M_end_10 rfl (lv_at hl 0 rfl) ?_
  refine va_get (D := D) (ci := 7) (v := .int (nI lt)) (C := R_M) (T := F_M) (N := 35) hx hb hts in_M hown hG.1 hP 0 rfl rfl 4 (by decide) (hts _ k_701) (fun _ h9 => h9) rfl d_M_end_11 ?_
  refine lv_icmp_le (tgt := 23) hx hb d_M_end_14 (by decide) (fun c_2 => ?_) (fun c_2 => absurd (sb_leT (a := n0) (b := lt) rfl rfl (by omega) (by omega) (by omega)) c_2)
  refine lv_aload_n hx hb d_M_end_23 rfl (lv_at hl 0 rfl) ?_
  refine lv_iload_n hx hb d_M_end_24 rfl (lv_at hl 1 rfl) ?_
  refine va_put (D := D) (ci := 7) (v := .int (nI n0)) (ty := .int) (C := R_M) (T := F_M) (N := 35) hx hb hts in_M tq_M tq_M_ok nq_M hown hG.1 hP hD hS 0 rfl rfl 4 (by decide) (hts _ k_701) (fun _ h9 => h9) rfl (by decide +kernel) rfl rfl (Nat.le_of_ble_eq_true rfl) d_M_end_25 (fun H locs hP hD hS => ?_)
  have hP : va_P D vwCl [(mo, .inr (7, mFs 0 a1 a2 a3 (nI n0) (nI lb) (nI lz) ci a4 a5 a6 nu bk se op fa a7 a8 a9 a10 a11 (nI rn) kh kl sh sl a12 a13 a14 a15 a16 a17 a18 a19 a20))] H := hP
  have hD : va_D A [(mo, .inr (7, mFs 0 a1 a2 a3 (nI n0) (nI lb) (nI lz) ci a4 a5 a6 nu bk se op fa a7 a8 a9 a10 a11 (nI rn) kh kl sh sl a12 a13 a14 a15 a16 a17 a18 a19 a20))] := hD
  refine lv_iload_n hx hb d_M_end_28 rfl (lv_at hl 1 rfl) ?_
  have hP9 := hP.sub (ws' := [(mo, .inr (7, mFs 0 a1 a2 a3 (nI n0) (nI lb) (nI lz) ci a4 a5 a6 nu bk se op fa a7 a8 a9 a10 a11 (nI rn) kh kl sh sl a12 a13 a14 a15 a16 a17 a18 a19 a20))]) [0] rfl
  have hD9 := hD.sub (ws' := [(mo, .inr (7, mFs 0 a1 a2 a3 (nI n0) (nI lb) (nI lz) ci a4 a5 a6 nu bk se op fa a7 a8 a9 a10 a11 (nI rn) kh kl sh sl a12 a13 a14 a15 a16 a17 a18 a19 a20))]) [0] (by decide) rfl
  exact W.iret (v := nI n0) hx hb hr (fun t ht hW => ⟨⟨_, (), rfl, rfl, by rw [ht]; exact hP9, hD9⟩, hS.F ht⟩) hS.2.2 d_M_end_29

def rm_M_endN : Room := { frames := 1, cells := 0, slots := 0, locals := 21 }
set_option maxHeartbeats 4000000 in
set_option maxRecDepth 100000 in
theorem c_M_endN (l : Launch) (D : va_G) (cI cL cB : ClassId) (tS tF : Nat) (mo : Nat) (a1 : Nat) (a2 : Nat) (a3 : Nat) (a4 : Nat) (a5 : Nat) (a6 : Nat) (a7 : Nat) (a8 : Nat) (a9 : Nat) (a10 : Nat) (a11 : Nat) (a12 : Nat) (a13 : Nat) (a14 : Nat) (a15 : Nat) (a16 : Nat) (a17 : Nat) (a18 : Nat) (a19 : Nat) (a20 : Nat) (thr : Int32) (ci : Int32) (bk : Int32) (se : Int32) (op : Int32) (fa : Int32) (lt : Nat) (lb : Nat) (lz : Nat) (rn : Nat) (nu : Int64) (kh : Int64) (kl : Int64) (sh : Int64) (sl : Int64) (v : Int32) (sz : Nat) (hv : v < 0 ∨ ¬ v ≤ nI lt) : Met l y_M_end (sbw y_M_end b_M_end 2 (some .int)) rm_M_endN (sbPc D cI cL cB tS tF [.ref mo, .int v] sz [(mo, .inr (7, mFs thr a1 a2 a3 (nI lt) (nI lb) (nI lz) ci a4 a5 a6 nu bk se op fa a7 a8 a9 a10 a11 (nI rn) kh kl sh sl a12 a13 a14 a15 a16 a17 a18 a19 a20))]) (sbQi D (fun (r : Int32) (_ : Unit) => r = 0) (fun (_ : Unit) => [(mo, .inr (7, mFs 1 a1 a2 a3 (nI lt) (nI lb) (nI lz) ci a4 a5 a6 nu bk se op fa a7 a8 a9 a10 a11 (nI rn) kh kl sh sl a12 a13 a14 a15 a16 a17 a18 a19 a20))]) (va_A [(mo, .inr (7, mFs thr a1 a2 a3 (nI lt) (nI lb) (nI lz) ci a4 a5 a6 nu bk se op fa a7 a8 a9 a10 a11 (nI rn) kh kl sh sl a12 a13 a14 a15 a16 a17 a18 a19 a20))] sz)) 0 0 (va_A [(mo, .inr (7, mFs thr a1 a2 a3 (nI lt) (nI lb) (nI lz) ci a4 a5 a6 nu bk se op fa a7 a8 a9 a10 a11 (nI rn) kh kl sh sl a12 a13 a14 a15 a16 a17 a18 a19 a20))] sz) := by
  refine sb_ofW (y := y_M_end) (maxL := 2) (av := [.ref mo, .int v]) (Qc := fun A => (sbQi D (fun (r : Int32) (_ : Unit) => r = 0) (fun (_ : Unit) => [(mo, .inr (7, mFs 1 a1 a2 a3 (nI lt) (nI lb) (nI lz) ci a4 a5 a6 nu bk se op fa a7 a8 a9 a10 a11 (nI rn) kh kl sh sl a12 a13 a14 a15 a16 a17 a18 a19 a20))]) A)) (by decide) (Nat.le_of_ble_eq_true rfl) ?_
  intro p e s m args below meth c A ls hx hb hr hml hts hown hlocks hin hsz hP hG hD hA hS hl
  have hl : lv_has ls 2 [(0, .ref mo), (1, .int v)] := hl
  refine lv_aload_n hx hb d_M_end_0 rfl (lv_at hl 0 rfl) ?_
  refine lv_iconst (v := 0) hx hb d_M_end_1 (by decide) ?_
  refine va_put (D := D) (ci := 7) (v := .int 0) (ty := .int) (C := R_M) (T := F_M) (N := 35) hx hb hts in_M tq_M tq_M_ok nq_M hown hG.1 hP hD hS 0 rfl rfl 0 (by decide) (hts _ k_697) (fun _ h9 => h9) rfl (by decide +kernel) rfl rfl (Nat.le_of_ble_eq_true rfl) d_M_end_2 (fun H locs hP hD hS => ?_)
  have hP : va_P D vwCl [(mo, .inr (7, mFs 0 a1 a2 a3 (nI lt) (nI lb) (nI lz) ci a4 a5 a6 nu bk se op fa a7 a8 a9 a10 a11 (nI rn) kh kl sh sl a12 a13 a14 a15 a16 a17 a18 a19 a20))] H := hP
  have hD : va_D A [(mo, .inr (7, mFs 0 a1 a2 a3 (nI lt) (nI lb) (nI lz) ci a4 a5 a6 nu bk se op fa a7 a8 a9 a10 a11 (nI rn) kh kl sh sl a12 a13 a14 a15 a16 a17 a18 a19 a20))] := hD
  refine lv_iload_n hx hb d_M_end_5 rfl (lv_at hl 1 rfl) ?_
  refine lv_if_lt (tgt := 17) hx hb d_M_end_6 (by decide) (fun c_1 => ?_) (fun c_1 => ?_)
  · refine lv_aload_n hx hb d_M_end_17 rfl (lv_at hl 0 rfl) ?_
    refine lv_iconst (v := 1) hx hb d_M_end_18 (by decide) ?_
    refine sb_calli (wr := []) (va_runV (As := [.int 1]) (rest := []) ⟨hx, hb, hml, hown, hts⟩ (c_M_fail l D cI cL cB tS tF mo a1 a2 a3 a4 a5 a6 a7 a8 a9 a10 a11 a12 a13 a14 a15 a16 a17 a18 a19 a20 0 ci bk se op fa lt lb lz rn nu kh kl sh sl 1 _ ) (cwV 1 hts (sb_gV k_812 k_814 k_7 k_30 k_815) rfl rfl rfl (by decide +kernel) ⟨Nat.le_of_ble_eq_true rfl, Nat.le_of_ble_eq_true rfl⟩) (sb_pV hG hP hD hS hA [0] (by decide) rfl (ci := 7) (q0 := 0) rfl rfl) rfl rfl hl.1 rfl (lv_room (Nat.le_of_ble_eq_true rfl)) d_M_end_19 ⟨Nat.le_of_ble_eq_true rfl, Nat.le_of_ble_eq_true rfl⟩) hP hD hS hA [0] [] rfl rfl (by decide) (by decide) (fun r_3 u H locs hw_2 hP hD hS => ?_)
    have hP : va_P D vwCl [(mo, .inr (7, mFs 1 a1 a2 a3 (nI lt) (nI lb) (nI lz) ci a4 a5 a6 nu bk se op fa a7 a8 a9 a10 a11 (nI rn) kh kl sh sl a12 a13 a14 a15 a16 a17 a18 a19 a20))] H := hP
    have hD : va_D A [(mo, .inr (7, mFs 1 a1 a2 a3 (nI lt) (nI lb) (nI lz) ci a4 a5 a6 nu bk se op fa a7 a8 a9 a10 a11 (nI rn) kh kl sh sl a12 a13 a14 a15 a16 a17 a18 a19 a20))] := hD
    subst hw_2
    have hP9 := hP.sub (ws' := [(mo, .inr (7, mFs 1 a1 a2 a3 (nI lt) (nI lb) (nI lz) ci a4 a5 a6 nu bk se op fa a7 a8 a9 a10 a11 (nI rn) kh kl sh sl a12 a13 a14 a15 a16 a17 a18 a19 a20))]) [0] rfl
    have hD9 := hD.sub (ws' := [(mo, .inr (7, mFs 1 a1 a2 a3 (nI lt) (nI lb) (nI lz) ci a4 a5 a6 nu bk se op fa a7 a8 a9 a10 a11 (nI rn) kh kl sh sl a12 a13 a14 a15 a16 a17 a18 a19 a20))]) [0] (by decide) rfl
    exact W.iret (v := 0) hx hb hr (fun t ht hW => ⟨⟨_, (), rfl, rfl, by rw [ht]; exact hP9, hD9⟩, hS.F ht⟩) hS.2.2 d_M_end_22
  · refine lv_iload_n hx hb d_M_end_9 rfl (lv_at hl 1 rfl) ?_
    refine lv_aload_n hx hb d_M_end_10 rfl (lv_at hl 0 rfl) ?_
    refine va_get (D := D) (ci := 7) (v := .int (nI lt)) (C := R_M) (T := F_M) (N := 35) hx hb hts in_M hown hG.1 hP 0 rfl rfl 4 (by decide) (hts _ k_701) (fun _ h9 => h9) rfl d_M_end_11 ?_
    refine lv_icmp_le (tgt := 23) hx hb d_M_end_14 (by decide) (fun c_4 => absurd c_4 (hv.resolve_left c_1)) (fun c_4 => ?_)
    refine lv_aload_n hx hb d_M_end_17 rfl (lv_at hl 0 rfl) ?_
    refine lv_iconst (v := 1) hx hb d_M_end_18 (by decide) ?_
    refine sb_calli (wr := []) (va_runV (As := [.int 1]) (rest := []) ⟨hx, hb, hml, hown, hts⟩ (c_M_fail l D cI cL cB tS tF mo a1 a2 a3 a4 a5 a6 a7 a8 a9 a10 a11 a12 a13 a14 a15 a16 a17 a18 a19 a20 0 ci bk se op fa lt lb lz rn nu kh kl sh sl 1 _ ) (cwV 1 hts (sb_gV k_812 k_814 k_7 k_30 k_815) rfl rfl rfl (by decide +kernel) ⟨Nat.le_of_ble_eq_true rfl, Nat.le_of_ble_eq_true rfl⟩) (sb_pV hG hP hD hS hA [0] (by decide) rfl (ci := 7) (q0 := 0) rfl rfl) rfl rfl hl.1 rfl (lv_room (Nat.le_of_ble_eq_true rfl)) d_M_end_19 ⟨Nat.le_of_ble_eq_true rfl, Nat.le_of_ble_eq_true rfl⟩) hP hD hS hA [0] [] rfl rfl (by decide) (by decide) (fun r_6 u H locs hw_5 hP hD hS => ?_)
    have hP : va_P D vwCl [(mo, .inr (7, mFs 1 a1 a2 a3 (nI lt) (nI lb) (nI lz) ci a4 a5 a6 nu bk se op fa a7 a8 a9 a10 a11 (nI rn) kh kl sh sl a12 a13 a14 a15 a16 a17 a18 a19 a20))] H := hP
    have hD : va_D A [(mo, .inr (7, mFs 1 a1 a2 a3 (nI lt) (nI lb) (nI lz) ci a4 a5 a6 nu bk se op fa a7 a8 a9 a10 a11 (nI rn) kh kl sh sl a12 a13 a14 a15 a16 a17 a18 a19 a20))] := hD
    subst hw_5
    have hP9 := hP.sub (ws' := [(mo, .inr (7, mFs 1 a1 a2 a3 (nI lt) (nI lb) (nI lz) ci a4 a5 a6 nu bk se op fa a7 a8 a9 a10 a11 (nI rn) kh kl sh sl a12 a13 a14 a15 a16 a17 a18 a19 a20))]) [0] rfl
    have hD9 := hD.sub (ws' := [(mo, .inr (7, mFs 1 a1 a2 a3 (nI lt) (nI lb) (nI lz) ci a4 a5 a6 nu bk se op fa a7 a8 a9 a10 a11 (nI rn) kh kl sh sl a12 a13 a14 a15 a16 a17 a18 a19 a20))]) [0] (by decide) rfl
    exact W.iret (v := 0) hx hb hr (fun t ht hW => ⟨⟨_, (), rfl, rfl, by rw [ht]; exact hP9, hD9⟩, hS.F ht⟩) hS.2.2 d_M_end_22

theorem d_M_use_0 : decode b_M_use 0 = .ok (.aload_n 0, 1) := by decide +kernel
theorem d_M_use_1 : decode b_M_use 1 = .ok (.iload_n 1, 1) := by decide +kernel
theorem d_M_use_2 : decode b_M_use 2 = .ok (.ifCond .lt 8, 3) := by decide +kernel
theorem d_M_use_5 : decode b_M_use 5 = .ok (.iload_n 1, 1) := by decide +kernel
theorem d_M_use_6 : decode b_M_use 6 = .ok (.iconst 2, 1) := by decide +kernel
theorem d_M_use_7 : decode b_M_use 7 = .ok (.if_icmp .le 7, 3) := by decide +kernel
theorem d_M_use_10 : decode b_M_use 10 = .ok (.iconst 1, 1) := by decide +kernel
theorem d_M_use_11 : decode b_M_use 11 = .ok (.goto 26, 3) := by decide +kernel
theorem d_M_use_14 : decode b_M_use 14 = .ok (.aload_n 0, 1) := by decide +kernel
theorem d_M_use_15 : decode b_M_use 15 = .ok (.getfield 162, 3) := by decide +kernel
theorem d_M_use_18 : decode b_M_use 18 = .ok (.iload_n 1, 1) := by decide +kernel
theorem d_M_use_19 : decode b_M_use 19 = .ok (.ifCond .ne 8, 3) := by decide +kernel
theorem d_M_use_22 : decode b_M_use 22 = .ok (.bipush 16, 2) := by decide +kernel
theorem d_M_use_24 : decode b_M_use 24 = .ok (.goto 5, 3) := by decide +kernel
theorem d_M_use_27 : decode b_M_use 27 = .ok (.bipush 32, 2) := by decide +kernel
theorem d_M_use_29 : decode b_M_use 29 = .ok (.if_icmp .eq 7, 3) := by decide +kernel
theorem d_M_use_32 : decode b_M_use 32 = .ok (.iconst 2, 1) := by decide +kernel
theorem d_M_use_33 : decode b_M_use 33 = .ok (.goto 4, 3) := by decide +kernel
theorem d_M_use_36 : decode b_M_use 36 = .ok (.iconst 0, 1) := by decide +kernel
theorem d_M_use_37 : decode b_M_use 37 = .ok (.putfield 79, 3) := by decide +kernel
theorem d_M_use_40 : decode b_M_use 40 = .ok (.aload_n 0, 1) := by decide +kernel
theorem d_M_use_41 : decode b_M_use 41 = .ok (.getfield 79, 3) := by decide +kernel
theorem d_M_use_44 : decode b_M_use 44 = .ok (.ifCond .le 4, 3) := by decide +kernel
theorem d_M_use_47 : decode b_M_use 47 = .ok (.return_, 1) := by decide +kernel
theorem d_M_use_48 : decode b_M_use 48 = .ok (.aload_n 0, 1) := by decide +kernel
theorem d_M_use_49 : decode b_M_use 49 = .ok (.iload_n 1, 1) := by decide +kernel
theorem d_M_use_50 : decode b_M_use 50 = .ok (.putfield 20, 3) := by decide +kernel
theorem d_M_use_53 : decode b_M_use 53 = .ok (.iconst 0, 1) := by decide +kernel
theorem d_M_use_54 : decode b_M_use 54 = .ok (.istore_n 2, 1) := by decide +kernel
theorem d_M_use_55 : decode b_M_use 55 = .ok (.iload_n 2, 1) := by decide +kernel
theorem d_M_use_56 : decode b_M_use 56 = .ok (.aload_n 0, 1) := by decide +kernel
theorem d_M_use_57 : decode b_M_use 57 = .ok (.getfield 162, 3) := by decide +kernel
theorem d_M_use_60 : decode b_M_use 60 = .ok (.if_icmp .ge 21, 3) := by decide +kernel
theorem d_M_use_63 : decode b_M_use 63 = .ok (.aload_n 0, 1) := by decide +kernel
theorem d_M_use_64 : decode b_M_use 64 = .ok (.getfield 24, 3) := by decide +kernel
theorem d_M_use_67 : decode b_M_use 67 = .ok (.iload_n 2, 1) := by decide +kernel
theorem d_M_use_68 : decode b_M_use 68 = .ok (.aload_n 0, 1) := by decide +kernel
theorem d_M_use_69 : decode b_M_use 69 = .ok (.getfield 8, 3) := by decide +kernel
theorem d_M_use_72 : decode b_M_use 72 = .ok (.iload_n 2, 1) := by decide +kernel
theorem d_M_use_73 : decode b_M_use 73 = .ok (.iaload, 1) := by decide +kernel
theorem d_M_use_74 : decode b_M_use 74 = .ok (.iastore, 1) := by decide +kernel
theorem d_M_use_75 : decode b_M_use 75 = .ok (.iinc 2 1, 3) := by decide +kernel
theorem d_M_use_78 : decode b_M_use 78 = .ok (.goto (-23), 3) := by decide +kernel
theorem d_M_use_81 : decode b_M_use 81 = .ok (.iload_n 1, 1) := by decide +kernel
theorem d_M_use_82 : decode b_M_use 82 = .ok (.iconst 2, 1) := by decide +kernel
theorem d_M_use_83 : decode b_M_use 83 = .ok (.if_icmp .ge 23, 3) := by decide +kernel
theorem d_M_use_86 : decode b_M_use 86 = .ok (.aload_n 0, 1) := by decide +kernel
theorem d_M_use_87 : decode b_M_use 87 = .ok (.aload_n 0, 1) := by decide +kernel
theorem d_M_use_88 : decode b_M_use 88 = .ok (.getfield 162, 3) := by decide +kernel
theorem d_M_use_91 : decode b_M_use 91 = .ok (.iconst 4, 1) := by decide +kernel
theorem d_M_use_92 : decode b_M_use 92 = .ok (.idiv, 1) := by decide +kernel
theorem d_M_use_93 : decode b_M_use 93 = .ok (.invokevirtual 170, 3) := by decide +kernel
theorem d_M_use_96 : decode b_M_use 96 = .ok (.aload_n 0, 1) := by decide +kernel
theorem d_M_use_97 : decode b_M_use 97 = .ok (.dup, 1) := by decide +kernel
theorem d_M_use_98 : decode b_M_use 98 = .ok (.getfield 159, 3) := by decide +kernel
theorem d_M_use_101 : decode b_M_use 101 = .ok (.iconst 1, 1) := by decide +kernel
theorem d_M_use_102 : decode b_M_use 102 = .ok (.iadd, 1) := by decide +kernel
theorem d_M_use_103 : decode b_M_use 103 = .ok (.putfield 159, 3) := by decide +kernel
theorem d_M_use_106 : decode b_M_use 106 = .ok (.aload_n 0, 1) := by decide +kernel
theorem d_M_use_107 : decode b_M_use 107 = .ok (.iconst 0, 1) := by decide +kernel
theorem d_M_use_108 : decode b_M_use 108 = .ok (.putfield 162, 3) := by decide +kernel
theorem d_M_use_111 : decode b_M_use 111 = .ok (.aload_n 0, 1) := by decide +kernel
theorem d_M_use_112 : decode b_M_use 112 = .ok (.lconst 0, 1) := by decide +kernel
theorem d_M_use_113 : decode b_M_use 113 = .ok (.putfield 147, 3) := by decide +kernel
theorem d_M_use_116 : decode b_M_use 116 = .ok (.return_, 1) := by decide +kernel

def rm_M_useX : Room := { frames := 0, cells := 0, slots := 0, locals := 0 }
set_option maxHeartbeats 4000000 in
set_option maxRecDepth 100000 in
theorem c_M_useX (l : Launch) (D : va_G) (cI cL cB : ClassId) (tS tF : Nat) (mo : Nat) (a1 : Nat) (a2 : Nat) (a3 : Nat) (a4 : Nat) (a5 : Nat) (a6 : Nat) (a7 : Nat) (a8 : Nat) (a9 : Nat) (a10 : Nat) (a11 : Nat) (a12 : Nat) (a13 : Nat) (a14 : Nat) (a15 : Nat) (a16 : Nat) (a17 : Nat) (a18 : Nat) (a19 : Nat) (a20 : Nat) (thr : Int32) (ci : Int32) (bk : Int32) (se : Int32) (op : Int32) (fa : Int32) (lt : Nat) (lb : Nat) (lz : Nat) (rn : Nat) (nu : Int64) (kh : Int64) (kl : Int64) (sh : Int64) (sl : Int64) (v : Int32) (sz : Nat) (hv : v < 0 ∨ ¬ v ≤ 2) : Met l y_M_use (sbw y_M_use b_M_use 3 none) rm_M_useX (sbPc D cI cL cB tS tF [.ref mo, .int v] sz [(mo, .inr (7, mFs thr a1 a2 a3 (nI lt) (nI lb) (nI lz) ci a4 a5 a6 nu bk se op fa a7 a8 a9 a10 a11 (nI rn) kh kl sh sl a12 a13 a14 a15 a16 a17 a18 a19 a20))]) (sbQv D (fun (_ : Unit) => True) (fun (_ : Unit) => [(mo, .inr (7, mFs 1 a1 a2 a3 (nI lt) (nI lb) (nI lz) ci a4 a5 a6 nu bk se op fa a7 a8 a9 a10 a11 (nI rn) kh kl sh sl a12 a13 a14 a15 a16 a17 a18 a19 a20))]) (va_A [(mo, .inr (7, mFs thr a1 a2 a3 (nI lt) (nI lb) (nI lz) ci a4 a5 a6 nu bk se op fa a7 a8 a9 a10 a11 (nI rn) kh kl sh sl a12 a13 a14 a15 a16 a17 a18 a19 a20))] sz)) 0 0 (va_A [(mo, .inr (7, mFs thr a1 a2 a3 (nI lt) (nI lb) (nI lz) ci a4 a5 a6 nu bk se op fa a7 a8 a9 a10 a11 (nI rn) kh kl sh sl a12 a13 a14 a15 a16 a17 a18 a19 a20))] sz) := by
  refine sb_ofW (y := y_M_use) (maxL := 3) (av := [.ref mo, .int v]) (Qc := fun A => (sbQv D (fun (_ : Unit) => True) (fun (_ : Unit) => [(mo, .inr (7, mFs 1 a1 a2 a3 (nI lt) (nI lb) (nI lz) ci a4 a5 a6 nu bk se op fa a7 a8 a9 a10 a11 (nI rn) kh kl sh sl a12 a13 a14 a15 a16 a17 a18 a19 a20))]) A)) (by decide) (Nat.le_of_ble_eq_true rfl) ?_
  intro p e s m args below meth c A ls hx hb hr hml hts hown hlocks hin hsz hP hG hD hA hS hl
  have hl : lv_has ls 3 [(0, .ref mo), (1, .int v)] := hl
  refine lv_aload_n hx hb d_M_use_0 rfl (lv_at hl 0 rfl) ?_
  refine lv_iload_n hx hb d_M_use_1 rfl (lv_at hl 1 rfl) ?_
  refine lv_if_lt (tgt := 10) hx hb d_M_use_2 (by decide) (fun c_1 => ?_) (fun c_1 => ?_)
  · refine lv_iconst (v := 1) hx hb d_M_use_10 (by decide) ?_
    refine lv_goto (tgt := 37) hx hb d_M_use_11 (by decide) ?_
    refine va_put (D := D) (ci := 7) (v := .int 1) (ty := .int) (C := R_M) (T := F_M) (N := 35) hx hb hts in_M tq_M tq_M_ok nq_M hown hG.1 hP hD hS 0 rfl rfl 0 (by decide) (hts _ k_697) (fun _ h9 => h9) rfl (by decide +kernel) rfl rfl (Nat.le_of_ble_eq_true rfl) d_M_use_37 (fun H locs hP hD hS => ?_)
    have hP : va_P D vwCl [(mo, .inr (7, mFs 1 a1 a2 a3 (nI lt) (nI lb) (nI lz) ci a4 a5 a6 nu bk se op fa a7 a8 a9 a10 a11 (nI rn) kh kl sh sl a12 a13 a14 a15 a16 a17 a18 a19 a20))] H := hP
    have hD : va_D A [(mo, .inr (7, mFs 1 a1 a2 a3 (nI lt) (nI lb) (nI lz) ci a4 a5 a6 nu bk se op fa a7 a8 a9 a10 a11 (nI rn) kh kl sh sl a12 a13 a14 a15 a16 a17 a18 a19 a20))] := hD
    refine lv_aload_n hx hb d_M_use_40 rfl (lv_at hl 0 rfl) ?_
    refine va_get (D := D) (ci := 7) (v := .int 1) (C := R_M) (T := F_M) (N := 35) hx hb hts in_M hown hG.1 hP 0 rfl rfl 0 (by decide) (hts _ k_697) (fun _ h9 => h9) rfl d_M_use_41 ?_
    refine lv_if_le (tgt := 48) hx hb d_M_use_44 (by decide) (fun c_2 => absurd c_2 (sb_leF (a := 1) (b := 0) rfl rfl (by omega) (by omega) (by omega))) (fun c_2 => ?_)
    have hP9 := hP.sub (ws' := [(mo, .inr (7, mFs 1 a1 a2 a3 (nI lt) (nI lb) (nI lz) ci a4 a5 a6 nu bk se op fa a7 a8 a9 a10 a11 (nI rn) kh kl sh sl a12 a13 a14 a15 a16 a17 a18 a19 a20))]) [0] rfl
    have hD9 := hD.sub (ws' := [(mo, .inr (7, mFs 1 a1 a2 a3 (nI lt) (nI lb) (nI lz) ci a4 a5 a6 nu bk se op fa a7 a8 a9 a10 a11 (nI rn) kh kl sh sl a12 a13 a14 a15 a16 a17 a18 a19 a20))]) [0] (by decide) rfl
    exact W.vret hx hb hr (fun t ht hW => ⟨⟨(), rfl, trivial, by rw [ht]; exact hP9, hD9⟩, hS.F ht⟩) hS.2.2 d_M_use_47
  · refine lv_iload_n hx hb d_M_use_5 rfl (lv_at hl 1 rfl) ?_
    refine lv_iconst (v := 2) hx hb d_M_use_6 (by decide) ?_
    refine lv_icmp_le (tgt := 14) hx hb d_M_use_7 (by decide) (fun c_3 => absurd c_3 (hv.resolve_left c_1)) (fun c_3 => ?_)
    refine lv_iconst (v := 1) hx hb d_M_use_10 (by decide) ?_
    refine lv_goto (tgt := 37) hx hb d_M_use_11 (by decide) ?_
    refine va_put (D := D) (ci := 7) (v := .int 1) (ty := .int) (C := R_M) (T := F_M) (N := 35) hx hb hts in_M tq_M tq_M_ok nq_M hown hG.1 hP hD hS 0 rfl rfl 0 (by decide) (hts _ k_697) (fun _ h9 => h9) rfl (by decide +kernel) rfl rfl (Nat.le_of_ble_eq_true rfl) d_M_use_37 (fun H locs hP hD hS => ?_)
    have hP : va_P D vwCl [(mo, .inr (7, mFs 1 a1 a2 a3 (nI lt) (nI lb) (nI lz) ci a4 a5 a6 nu bk se op fa a7 a8 a9 a10 a11 (nI rn) kh kl sh sl a12 a13 a14 a15 a16 a17 a18 a19 a20))] H := hP
    have hD : va_D A [(mo, .inr (7, mFs 1 a1 a2 a3 (nI lt) (nI lb) (nI lz) ci a4 a5 a6 nu bk se op fa a7 a8 a9 a10 a11 (nI rn) kh kl sh sl a12 a13 a14 a15 a16 a17 a18 a19 a20))] := hD
    refine lv_aload_n hx hb d_M_use_40 rfl (lv_at hl 0 rfl) ?_
    refine va_get (D := D) (ci := 7) (v := .int 1) (C := R_M) (T := F_M) (N := 35) hx hb hts in_M hown hG.1 hP 0 rfl rfl 0 (by decide) (hts _ k_697) (fun _ h9 => h9) rfl d_M_use_41 ?_
    refine lv_if_le (tgt := 48) hx hb d_M_use_44 (by decide) (fun c_4 => absurd c_4 (sb_leF (a := 1) (b := 0) rfl rfl (by omega) (by omega) (by omega))) (fun c_4 => ?_)
    have hP9 := hP.sub (ws' := [(mo, .inr (7, mFs 1 a1 a2 a3 (nI lt) (nI lb) (nI lz) ci a4 a5 a6 nu bk se op fa a7 a8 a9 a10 a11 (nI rn) kh kl sh sl a12 a13 a14 a15 a16 a17 a18 a19 a20))]) [0] rfl
    have hD9 := hD.sub (ws' := [(mo, .inr (7, mFs 1 a1 a2 a3 (nI lt) (nI lb) (nI lz) ci a4 a5 a6 nu bk se op fa a7 a8 a9 a10 a11 (nI rn) kh kl sh sl a12 a13 a14 a15 a16 a17 a18 a19 a20))]) [0] (by decide) rfl
    exact W.vret hx hb hr (fun t ht hW => ⟨⟨(), rfl, trivial, by rw [ht]; exact hP9, hD9⟩, hS.F ht⟩) hS.2.2 d_M_use_47

def rm_M_useL : Room := { frames := 0, cells := 0, slots := 0, locals := 0 }
set_option maxHeartbeats 4000000 in
set_option maxRecDepth 100000 in
theorem c_M_useL (l : Launch) (D : va_G) (cI cL cB : ClassId) (tS tF : Nat) (mo : Nat) (a1 : Nat) (a2 : Nat) (a3 : Nat) (a4 : Nat) (a5 : Nat) (a6 : Nat) (a7 : Nat) (a8 : Nat) (a9 : Nat) (a10 : Nat) (a11 : Nat) (a12 : Nat) (a13 : Nat) (a14 : Nat) (a15 : Nat) (a16 : Nat) (a17 : Nat) (a18 : Nat) (a19 : Nat) (a20 : Nat) (thr : Int32) (ci : Int32) (bk : Int32) (se : Int32) (op : Int32) (fa : Int32) (lt : Nat) (lb : Nat) (lz : Nat) (rn : Nat) (nu : Int64) (kh : Int64) (kl : Int64) (sh : Int64) (sl : Int64) (n0 : Nat) (sz : Nat) (hn : n0 ≤ 2) (h0 : n0 = 0 → ¬ lt = 16) (h1 : ¬ n0 = 0 → ¬ lt = 32) (hlt : lt ≤ 20000) : Met l y_M_use (sbw y_M_use b_M_use 3 none) rm_M_useL (sbPc D cI cL cB tS tF [.ref mo, .int (nI n0)] sz [(mo, .inr (7, mFs thr a1 a2 a3 (nI lt) (nI lb) (nI lz) ci a4 a5 a6 nu bk se op fa a7 a8 a9 a10 a11 (nI rn) kh kl sh sl a12 a13 a14 a15 a16 a17 a18 a19 a20))]) (sbQv D (fun (_ : Unit) => True) (fun (_ : Unit) => [(mo, .inr (7, mFs 2 a1 a2 a3 (nI lt) (nI lb) (nI lz) ci a4 a5 a6 nu bk se op fa a7 a8 a9 a10 a11 (nI rn) kh kl sh sl a12 a13 a14 a15 a16 a17 a18 a19 a20))]) (va_A [(mo, .inr (7, mFs thr a1 a2 a3 (nI lt) (nI lb) (nI lz) ci a4 a5 a6 nu bk se op fa a7 a8 a9 a10 a11 (nI rn) kh kl sh sl a12 a13 a14 a15 a16 a17 a18 a19 a20))] sz)) 0 0 (va_A [(mo, .inr (7, mFs thr a1 a2 a3 (nI lt) (nI lb) (nI lz) ci a4 a5 a6 nu bk se op fa a7 a8 a9 a10 a11 (nI rn) kh kl sh sl a12 a13 a14 a15 a16 a17 a18 a19 a20))] sz) := by
  refine sb_ofW (y := y_M_use) (maxL := 3) (av := [.ref mo, .int (nI n0)]) (Qc := fun A => (sbQv D (fun (_ : Unit) => True) (fun (_ : Unit) => [(mo, .inr (7, mFs 2 a1 a2 a3 (nI lt) (nI lb) (nI lz) ci a4 a5 a6 nu bk se op fa a7 a8 a9 a10 a11 (nI rn) kh kl sh sl a12 a13 a14 a15 a16 a17 a18 a19 a20))]) A)) (by decide) (Nat.le_of_ble_eq_true rfl) ?_
  intro p e s m args below meth c A ls hx hb hr hml hts hown hlocks hin hsz hP hG hD hA hS hl
  have hl : lv_has ls 3 [(0, .ref mo), (1, .int (nI n0))] := hl
  refine lv_aload_n hx hb d_M_use_0 rfl (lv_at hl 0 rfl) ?_
  refine lv_iload_n hx hb d_M_use_1 rfl (lv_at hl 1 rfl) ?_
  refine lv_if_lt (tgt := 10) hx hb d_M_use_2 (by decide) (fun c_1 => absurd c_1 (sb_ltF (a := n0) (b := 0) rfl rfl (by omega) (by omega) (by omega))) (fun c_1 => ?_)
  refine lv_iload_n hx hb d_M_use_5 rfl (lv_at hl 1 rfl) ?_
  refine lv_iconst (v := 2) hx hb d_M_use_6 (by decide) ?_
  refine lv_icmp_le (tgt := 14) hx hb d_M_use_7 (by decide) (fun c_2 => ?_) (fun c_2 => absurd (sb_leT (a := n0) (b := 2) rfl rfl (by omega) (by omega) (by omega)) c_2)
  refine lv_aload_n hx hb d_M_use_14 rfl (lv_at hl 0 rfl) ?_
  refine va_get (D := D) (ci := 7) (v := .int (nI lt)) (C := R_M) (T := F_M) (N := 35) hx hb hts in_M hown hG.1 hP 0 rfl rfl 4 (by decide) (hts _ k_701) (fun _ h9 => h9) rfl d_M_use_15 ?_
  refine lv_iload_n hx hb d_M_use_18 rfl (lv_at hl 1 rfl) ?_
  refine lv_if_ne (tgt := 27) hx hb d_M_use_19 (by decide) (fun c_3 => ?_) (fun c_3 => ?_)
  · have c_3 := mt (sb_eqI (a := n0) (b := 0) rfl rfl (by omega) (by omega)).mpr c_3
    refine lv_bipush (v := 32) hx hb d_M_use_27 (by decide) ?_
    refine lv_icmp_eq (tgt := 36) hx hb d_M_use_29 (by decide) (fun c_4 => absurd c_4 (sb_eqF (a := lt) (b := 32) rfl rfl (by omega) (by omega) (by omega))) (fun c_4 => ?_)
    refine lv_iconst (v := 2) hx hb d_M_use_32 (by decide) ?_
    refine lv_goto (tgt := 37) hx hb d_M_use_33 (by decide) ?_
    refine va_put (D := D) (ci := 7) (v := .int 2) (ty := .int) (C := R_M) (T := F_M) (N := 35) hx hb hts in_M tq_M tq_M_ok nq_M hown hG.1 hP hD hS 0 rfl rfl 0 (by decide) (hts _ k_697) (fun _ h9 => h9) rfl (by decide +kernel) rfl rfl (Nat.le_of_ble_eq_true rfl) d_M_use_37 (fun H locs hP hD hS => ?_)
    have hP : va_P D vwCl [(mo, .inr (7, mFs 2 a1 a2 a3 (nI lt) (nI lb) (nI lz) ci a4 a5 a6 nu bk se op fa a7 a8 a9 a10 a11 (nI rn) kh kl sh sl a12 a13 a14 a15 a16 a17 a18 a19 a20))] H := hP
    have hD : va_D A [(mo, .inr (7, mFs 2 a1 a2 a3 (nI lt) (nI lb) (nI lz) ci a4 a5 a6 nu bk se op fa a7 a8 a9 a10 a11 (nI rn) kh kl sh sl a12 a13 a14 a15 a16 a17 a18 a19 a20))] := hD
    refine lv_aload_n hx hb d_M_use_40 rfl (lv_at hl 0 rfl) ?_
    refine va_get (D := D) (ci := 7) (v := .int 2) (C := R_M) (T := F_M) (N := 35) hx hb hts in_M hown hG.1 hP 0 rfl rfl 0 (by decide) (hts _ k_697) (fun _ h9 => h9) rfl d_M_use_41 ?_
    refine lv_if_le (tgt := 48) hx hb d_M_use_44 (by decide) (fun c_5 => absurd c_5 (sb_leF (a := 2) (b := 0) rfl rfl (by omega) (by omega) (by omega))) (fun c_5 => ?_)
    have hP9 := hP.sub (ws' := [(mo, .inr (7, mFs 2 a1 a2 a3 (nI lt) (nI lb) (nI lz) ci a4 a5 a6 nu bk se op fa a7 a8 a9 a10 a11 (nI rn) kh kl sh sl a12 a13 a14 a15 a16 a17 a18 a19 a20))]) [0] rfl
    have hD9 := hD.sub (ws' := [(mo, .inr (7, mFs 2 a1 a2 a3 (nI lt) (nI lb) (nI lz) ci a4 a5 a6 nu bk se op fa a7 a8 a9 a10 a11 (nI rn) kh kl sh sl a12 a13 a14 a15 a16 a17 a18 a19 a20))]) [0] (by decide) rfl
    exact W.vret hx hb hr (fun t ht hW => ⟨⟨(), rfl, trivial, by rw [ht]; exact hP9, hD9⟩, hS.F ht⟩) hS.2.2 d_M_use_47
  · have c_3 := (sb_eqI (a := n0) (b := 0) rfl rfl (by omega) (by omega)).mp c_3
    refine lv_bipush (v := 16) hx hb d_M_use_22 (by decide) ?_
    refine lv_goto (tgt := 29) hx hb d_M_use_24 (by decide) ?_
    refine lv_icmp_eq (tgt := 36) hx hb d_M_use_29 (by decide) (fun c_6 => absurd c_6 (sb_eqF (a := lt) (b := 16) rfl rfl (by omega) (by omega) (by omega))) (fun c_6 => ?_)
    refine lv_iconst (v := 2) hx hb d_M_use_32 (by decide) ?_
    refine lv_goto (tgt := 37) hx hb d_M_use_33 (by decide) ?_
    refine va_put (D := D) (ci := 7) (v := .int 2) (ty := .int) (C := R_M) (T := F_M) (N := 35) hx hb hts in_M tq_M tq_M_ok nq_M hown hG.1 hP hD hS 0 rfl rfl 0 (by decide) (hts _ k_697) (fun _ h9 => h9) rfl (by decide +kernel) rfl rfl (Nat.le_of_ble_eq_true rfl) d_M_use_37 (fun H locs hP hD hS => ?_)
    have hP : va_P D vwCl [(mo, .inr (7, mFs 2 a1 a2 a3 (nI lt) (nI lb) (nI lz) ci a4 a5 a6 nu bk se op fa a7 a8 a9 a10 a11 (nI rn) kh kl sh sl a12 a13 a14 a15 a16 a17 a18 a19 a20))] H := hP
    have hD : va_D A [(mo, .inr (7, mFs 2 a1 a2 a3 (nI lt) (nI lb) (nI lz) ci a4 a5 a6 nu bk se op fa a7 a8 a9 a10 a11 (nI rn) kh kl sh sl a12 a13 a14 a15 a16 a17 a18 a19 a20))] := hD
    refine lv_aload_n hx hb d_M_use_40 rfl (lv_at hl 0 rfl) ?_
    refine va_get (D := D) (ci := 7) (v := .int 2) (C := R_M) (T := F_M) (N := 35) hx hb hts in_M hown hG.1 hP 0 rfl rfl 0 (by decide) (hts _ k_697) (fun _ h9 => h9) rfl d_M_use_41 ?_
    refine lv_if_le (tgt := 48) hx hb d_M_use_44 (by decide) (fun c_7 => absurd c_7 (sb_leF (a := 2) (b := 0) rfl rfl (by omega) (by omega) (by omega))) (fun c_7 => ?_)
    have hP9 := hP.sub (ws' := [(mo, .inr (7, mFs 2 a1 a2 a3 (nI lt) (nI lb) (nI lz) ci a4 a5 a6 nu bk se op fa a7 a8 a9 a10 a11 (nI rn) kh kl sh sl a12 a13 a14 a15 a16 a17 a18 a19 a20))]) [0] rfl
    have hD9 := hD.sub (ws' := [(mo, .inr (7, mFs 2 a1 a2 a3 (nI lt) (nI lb) (nI lz) ci a4 a5 a6 nu bk se op fa a7 a8 a9 a10 a11 (nI rn) kh kl sh sl a12 a13 a14 a15 a16 a17 a18 a19 a20))]) [0] (by decide) rfl
    exact W.vret hx hb hr (fun t ht hW => ⟨⟨(), rfl, trivial, by rw [ht]; exact hP9, hD9⟩, hS.F ht⟩) hS.2.2 d_M_use_47

def rm_M_use0 : Room := { frames := 2, cells := 0, slots := 0, locals := 49 }
set_option maxHeartbeats 4000000 in
set_option maxRecDepth 100000 in
theorem c_M_use0 (l : Launch) (D : va_G) (cI cL cB : ClassId) (tS tF : Nat) (mo : Nat) (a1 : Nat) (a2 : Nat) (a3 : Nat) (a4 : Nat) (a5 : Nat) (a6 : Nat) (a7 : Nat) (a8 : Nat) (a9 : Nat) (a10 : Nat) (a11 : Nat) (a12 : Nat) (a13 : Nat) (a14 : Nat) (a15 : Nat) (a16 : Nat) (a17 : Nat) (a18 : Nat) (a19 : Nat) (a20 : Nat) (thr : Int32) (ci : Int32) (bk : Int32) (se : Int32) (op : Int32) (fa : Int32) (lt : Nat) (lb : Nat) (lz : Nat) (rn : Nat) (nu : Int64) (kh : Int64) (kl : Int64) (sh : Int64) (sl : Int64) (gt : Nat → Nat) (gk : Nat → Nat) (gS : Nat → Nat) (gr : Nat → Nat) (gf : Nat → Nat) (sz : Nat) (hlt : lt = 16) (hgt : By gt) (hgk : By gk) (hgS : By gS) (hgr : By gr) (hgf : By gf) : Met l y_M_use (sbw y_M_use b_M_use 3 none) rm_M_use0 (sbPc D cI cL cB tS tF [.ref mo, .int 0] sz [(mo, .inr (7, mFs thr a1 a2 a3 (nI lt) (nI lb) (nI lz) ci a4 a5 a6 nu bk se op fa a7 a8 a9 a10 a11 (nI rn) kh kl sh sl a12 a13 a14 a15 a16 a17 a18 a19 a20)), (a1, .inl (cI, 98816, .inl (nF gt))), (a4, .inl (cI, 32, .inl (nF gk))), (a7, .inl (cI, 256, .inl (nF gS))), (a8, .inl (cI, 240, .inl (nF gr))), (a11, .inl (cI, 4, .inl (nF gf)))]) (sbQv D (fun (_ : Unit) => True) (fun (_ : Unit) => [(mo, .inr (7, mFs 0 a1 a2 a3 (nI 0) (nI lb) (nI lz) 0 a4 a5 a6 0 (bk + 1) se op fa a7 a8 a9 a10 a11 (nI 10) kh kl sh sl a12 a13 a14 a15 a16 a17 a18 a19 a20)), (a1, .inl (cI, 98816, .inl (nF gt))), (a4, .inl (cI, 32, .inl (nF (iter (nCpy gt) 16 gk)))), (a7, .inl (cI, 256, .inl (nF gS))), (a8, .inl (cI, 240, .inl (nF ((kSch gS (iter (nCpy gt) 16 gk) 4 gf gr 40).2.2)))), (a11, .inl (cI, 4, .inl (nF ((kSch gS (iter (nCpy gt) 16 gk) 4 gf gr 40).2.1))))]) (va_A [(mo, .inr (7, mFs thr a1 a2 a3 (nI lt) (nI lb) (nI lz) ci a4 a5 a6 nu bk se op fa a7 a8 a9 a10 a11 (nI rn) kh kl sh sl a12 a13 a14 a15 a16 a17 a18 a19 a20)), (a1, .inl (cI, 98816, .inl (nF gt))), (a4, .inl (cI, 32, .inl (nF gk))), (a7, .inl (cI, 256, .inl (nF gS))), (a8, .inl (cI, 240, .inl (nF gr))), (a11, .inl (cI, 4, .inl (nF gf)))] sz)) 0 0 (va_A [(mo, .inr (7, mFs thr a1 a2 a3 (nI lt) (nI lb) (nI lz) ci a4 a5 a6 nu bk se op fa a7 a8 a9 a10 a11 (nI rn) kh kl sh sl a12 a13 a14 a15 a16 a17 a18 a19 a20)), (a1, .inl (cI, 98816, .inl (nF gt))), (a4, .inl (cI, 32, .inl (nF gk))), (a7, .inl (cI, 256, .inl (nF gS))), (a8, .inl (cI, 240, .inl (nF gr))), (a11, .inl (cI, 4, .inl (nF gf)))] sz) := by
  refine sb_ofW (y := y_M_use) (maxL := 3) (av := [.ref mo, .int 0]) (Qc := fun A => (sbQv D (fun (_ : Unit) => True) (fun (_ : Unit) => [(mo, .inr (7, mFs 0 a1 a2 a3 (nI 0) (nI lb) (nI lz) 0 a4 a5 a6 0 (bk + 1) se op fa a7 a8 a9 a10 a11 (nI 10) kh kl sh sl a12 a13 a14 a15 a16 a17 a18 a19 a20)), (a1, .inl (cI, 98816, .inl (nF gt))), (a4, .inl (cI, 32, .inl (nF (iter (nCpy gt) 16 gk)))), (a7, .inl (cI, 256, .inl (nF gS))), (a8, .inl (cI, 240, .inl (nF ((kSch gS (iter (nCpy gt) 16 gk) 4 gf gr 40).2.2)))), (a11, .inl (cI, 4, .inl (nF ((kSch gS (iter (nCpy gt) 16 gk) 4 gf gr 40).2.1))))]) A)) (by decide) (Nat.le_of_ble_eq_true rfl) ?_
  intro p e s m args below meth c A ls hx hb hr hml hts hown hlocks hin hsz hP hG hD hA hS hl
  have hl : lv_has ls 3 [(0, .ref mo), (1, .int 0)] := hl
  refine lv_aload_n hx hb d_M_use_0 rfl (lv_at hl 0 rfl) ?_
  refine lv_iload_n hx hb d_M_use_1 rfl (lv_at hl 1 rfl) ?_
  refine lv_if_lt (tgt := 10) hx hb d_M_use_2 (by decide) (fun c_1 => absurd c_1 (sb_ltF (a := 0) (b := 0) rfl rfl (by omega) (by omega) (by omega))) (fun c_1 => ?_)
  refine lv_iload_n hx hb d_M_use_5 rfl (lv_at hl 1 rfl) ?_
  refine lv_iconst (v := 2) hx hb d_M_use_6 (by decide) ?_
  refine lv_icmp_le (tgt := 14) hx hb d_M_use_7 (by decide) (fun c_2 => ?_) (fun c_2 => absurd (sb_leT (a := 0) (b := 2) rfl rfl (by omega) (by omega) (by omega)) c_2)
  refine lv_aload_n hx hb d_M_use_14 rfl (lv_at hl 0 rfl) ?_
  refine va_get (D := D) (ci := 7) (v := .int (nI lt)) (C := R_M) (T := F_M) (N := 35) hx hb hts in_M hown hG.1 hP 0 rfl rfl 4 (by decide) (hts _ k_701) (fun _ h9 => h9) rfl d_M_use_15 ?_
  refine lv_iload_n hx hb d_M_use_18 rfl (lv_at hl 1 rfl) ?_
  refine lv_if_ne (tgt := 27) hx hb d_M_use_19 (by decide) (fun c_3 => absurd (sb_neF (a := 0) (b := 0) rfl rfl (by omega) (by omega) (by omega)) c_3) (fun c_3 => ?_)
  refine lv_bipush (v := 16) hx hb d_M_use_22 (by decide) ?_
  refine lv_goto (tgt := 29) hx hb d_M_use_24 (by decide) ?_
  refine lv_icmp_eq (tgt := 36) hx hb d_M_use_29 (by decide) (fun c_4 => ?_) (fun c_4 => absurd (sb_eqT (a := lt) (b := 16) rfl rfl (by omega) (by omega) (by omega)) c_4)
  refine lv_iconst (v := 0) hx hb d_M_use_36 (by decide) ?_
  refine va_put (D := D) (ci := 7) (v := .int 0) (ty := .int) (C := R_M) (T := F_M) (N := 35) hx hb hts in_M tq_M tq_M_ok nq_M hown hG.1 hP hD hS 0 rfl rfl 0 (by decide) (hts _ k_697) (fun _ h9 => h9) rfl (by decide +kernel) rfl rfl (Nat.le_of_ble_eq_true rfl) d_M_use_37 (fun H locs hP hD hS => ?_)
  have hP : va_P D vwCl [(mo, .inr (7, mFs 0 a1 a2 a3 (nI lt) (nI lb) (nI lz) ci a4 a5 a6 nu bk se op fa a7 a8 a9 a10 a11 (nI rn) kh kl sh sl a12 a13 a14 a15 a16 a17 a18 a19 a20)), (a1, .inl (cI, 98816, .inl (nF gt))), (a4, .inl (cI, 32, .inl (nF gk))), (a7, .inl (cI, 256, .inl (nF gS))), (a8, .inl (cI, 240, .inl (nF gr))), (a11, .inl (cI, 4, .inl (nF gf)))] H := hP
  have hD : va_D A [(mo, .inr (7, mFs 0 a1 a2 a3 (nI lt) (nI lb) (nI lz) ci a4 a5 a6 nu bk se op fa a7 a8 a9 a10 a11 (nI rn) kh kl sh sl a12 a13 a14 a15 a16 a17 a18 a19 a20)), (a1, .inl (cI, 98816, .inl (nF gt))), (a4, .inl (cI, 32, .inl (nF gk))), (a7, .inl (cI, 256, .inl (nF gS))), (a8, .inl (cI, 240, .inl (nF gr))), (a11, .inl (cI, 4, .inl (nF gf)))] := hD
  refine lv_aload_n hx hb d_M_use_40 rfl (lv_at hl 0 rfl) ?_
  refine va_get (D := D) (ci := 7) (v := .int 0) (C := R_M) (T := F_M) (N := 35) hx hb hts in_M hown hG.1 hP 0 rfl rfl 0 (by decide) (hts _ k_697) (fun _ h9 => h9) rfl d_M_use_41 ?_
  refine lv_if_le (tgt := 48) hx hb d_M_use_44 (by decide) (fun c_5 => ?_) (fun c_5 => absurd (sb_leT (a := 0) (b := 0) rfl rfl (by omega) (by omega) (by omega)) c_5)
  refine lv_aload_n hx hb d_M_use_48 rfl (lv_at hl 0 rfl) ?_
  refine lv_iload_n hx hb d_M_use_49 rfl (lv_at hl 1 rfl) ?_
  refine va_put (D := D) (ci := 7) (v := .int 0) (ty := .int) (C := R_M) (T := F_M) (N := 35) hx hb hts in_M tq_M tq_M_ok nq_M hown hG.1 hP hD hS 0 rfl rfl 7 (by decide) (hts _ k_704) (fun _ h9 => h9) rfl (by decide +kernel) rfl rfl (Nat.le_of_ble_eq_true rfl) d_M_use_50 (fun H locs hP hD hS => ?_)
  have hP : va_P D vwCl [(mo, .inr (7, mFs 0 a1 a2 a3 (nI lt) (nI lb) (nI lz) 0 a4 a5 a6 nu bk se op fa a7 a8 a9 a10 a11 (nI rn) kh kl sh sl a12 a13 a14 a15 a16 a17 a18 a19 a20)), (a1, .inl (cI, 98816, .inl (nF gt))), (a4, .inl (cI, 32, .inl (nF gk))), (a7, .inl (cI, 256, .inl (nF gS))), (a8, .inl (cI, 240, .inl (nF gr))), (a11, .inl (cI, 4, .inl (nF gf)))] H := hP
  have hD : va_D A [(mo, .inr (7, mFs 0 a1 a2 a3 (nI lt) (nI lb) (nI lz) 0 a4 a5 a6 nu bk se op fa a7 a8 a9 a10 a11 (nI rn) kh kl sh sl a12 a13 a14 a15 a16 a17 a18 a19 a20)), (a1, .inl (cI, 98816, .inl (nF gt))), (a4, .inl (cI, 32, .inl (nF gk))), (a7, .inl (cI, 256, .inl (nF gS))), (a8, .inl (cI, 240, .inl (nF gr))), (a11, .inl (cI, 4, .inl (nF gf)))] := hD
  refine lv_iconst (v := 0) hx hb d_M_use_53 (by decide) ?_
  refine lv_istore_n (lv' := [(2, .int 0), (0, .ref mo), (1, .int 0)]) hx hb d_M_use_54 rfl hl (by decide) rfl (fun ls hl => ?_)
  have lp1 : ∀ (d1 i : Nat), i + d1 = 16 → ∀ (H : Heap) (locs : List Loc) (ls : Array Slot), va_P D vwCl [(mo, .inr (7, mFs 0 a1 a2 a3 (nI lt) (nI lb) (nI lz) 0 a4 a5 a6 nu bk se op fa a7 a8 a9 a10 a11 (nI rn) kh kl sh sl a12 a13 a14 a15 a16 a17 a18 a19 a20)), (a1, .inl (cI, 98816, .inl (nF gt))), (a4, .inl (cI, 32, .inl (nF (iter (nCpy gt) i gk)))), (a7, .inl (cI, 256, .inl (nF gS))), (a8, .inl (cI, 240, .inl (nF gr))), (a11, .inl (cI, 4, .inl (nF gf)))] H → va_D A [(mo, .inr (7, mFs 0 a1 a2 a3 (nI lt) (nI lb) (nI lz) 0 a4 a5 a6 nu bk se op fa a7 a8 a9 a10 a11 (nI rn) kh kl sh sl a12 a13 a14 a15 a16 a17 a18 a19 a20)), (a1, .inl (cI, 98816, .inl (nF gt))), (a4, .inl (cI, 32, .inl (nF (iter (nCpy gt) i gk)))), (a7, .inl (cI, 256, .inl (nF gS))), (a8, .inl (cI, 240, .inl (nF gr))), (a11, .inl (cI, 4, .inl (nF gf)))] → va_S A s.heap H locs → lv_has ls 3 [(2, .int (nI i)), (0, .ref mo), (1, .int 0)] → W p l e rm_M_use0 s m args below meth c H locs 0 0 (MQ below (sbQv D (fun (_ : Unit) => True) (fun (_ : Unit) => [(mo, .inr (7, mFs 0 a1 a2 a3 (nI 0) (nI lb) (nI lz) 0 a4 a5 a6 0 (bk + 1) se op fa a7 a8 a9 a10 a11 (nI 10) kh kl sh sl a12 a13 a14 a15 a16 a17 a18 a19 a20)), (a1, .inl (cI, 98816, .inl (nF gt))), (a4, .inl (cI, 32, .inl (nF (iter (nCpy gt) 16 gk)))), (a7, .inl (cI, 256, .inl (nF gS))), (a8, .inl (cI, 240, .inl (nF ((kSch gS (iter (nCpy gt) 16 gk) 4 gf gr 40).2.2)))), (a11, .inl (cI, 4, .inl (nF ((kSch gS (iter (nCpy gt) 16 gk) 4 gf gr 40).2.1))))]) A) args s 0 0 A) (F0 m 55 ls []) := by
    intro d1
    induction d1 with
    | zero =>
      intro i hi1 H locs ls hP hD hS hl
      obtain rfl : 16 = i := by omega
      refine lv_iload_n hx hb d_M_use_55 rfl (lv_at hl 0 rfl) ?_
      refine lv_aload_n hx hb d_M_use_56 rfl (lv_at hl 1 rfl) ?_
      refine va_get (D := D) (ci := 7) (v := .int (nI lt)) (C := R_M) (T := F_M) (N := 35) hx hb hts in_M hown hG.1 hP 0 rfl rfl 4 (by decide) (hts _ k_701) (fun _ h9 => h9) rfl d_M_use_57 ?_
      refine lv_icmp_ge (tgt := 81) hx hb d_M_use_60 (by decide) (fun c_6 => ?_) (fun c_6 => absurd (sb_geT (a := 16) (b := lt) rfl rfl (by omega) (by omega) (by omega)) c_6)
      refine lv_iload_n hx hb d_M_use_81 rfl (lv_at hl 2 rfl) ?_
      refine lv_iconst (v := 2) hx hb d_M_use_82 (by decide) ?_
      refine lv_icmp_ge (tgt := 106) hx hb d_M_use_83 (by decide) (fun c_7 => absurd c_7 (sb_geF (a := 0) (b := 2) rfl rfl (by omega) (by omega) (by omega))) (fun c_7 => ?_)
      refine lv_aload_n hx hb d_M_use_86 rfl (lv_at hl 1 rfl) ?_
      refine lv_aload_n hx hb d_M_use_87 rfl (lv_at hl 1 rfl) ?_
      refine va_get (D := D) (ci := 7) (v := .int (nI lt)) (C := R_M) (T := F_M) (N := 35) hx hb hts in_M hown hG.1 hP 0 rfl rfl 4 (by decide) (hts _ k_701) (fun _ h9 => h9) rfl d_M_use_88 ?_
      refine lv_iconst (v := 4) hx hb d_M_use_91 (by decide) ?_
      refine lv_idiv hx hb d_M_use_92 (by decide) ?_
      refine sb_topn 4 (sb_eqn (a := lt / 4) (b := 4) (sb_div (a := lt) (b := 4) (by omega) (by omega) (by omega) rfl rfl) (by omega)) ?_
      refine sb_callv (wr := [(a1, .inl (cI, 98816, .inl (nF gt)))]) (va_runV (As := [.int (nI 4)]) (rest := []) ⟨hx, hb, hml, hown, hts⟩ (c_M_schedule4 l D cI cL cB tS tF mo a1 a2 a3 a4 a5 a6 a7 a8 a9 a10 a11 a12 a13 a14 a15 a16 a17 a18 a19 a20 0 0 bk se op fa lt lb lz rn nu kh kl sh sl (iter (nCpy gt) 16 gk) gS gr gf _ (nCpy_B hgt 16 _ hgk) hgS hgr hgf) (cwV 1 hts (sb_gV k_824 k_826 k_8 k_30 k_827) rfl rfl rfl (by decide +kernel) ⟨Nat.le_of_ble_eq_true rfl, Nat.le_of_ble_eq_true rfl⟩) (sb_pV hG hP hD hS hA [0, 2, 3, 4, 5] (by decide) rfl (ci := 7) (q0 := 0) rfl rfl) rfl rfl hl.1 rfl (lv_room (Nat.le_of_ble_eq_true rfl)) d_M_use_93 ⟨Nat.le_of_ble_eq_true rfl, Nat.le_of_ble_eq_true rfl⟩) hP hD hS hA [0, 2, 3, 4, 5] [1] rfl rfl (by decide) (by decide) (fun u H locs hw_8 hP hD hS => ?_)
      have hP : va_P D vwCl [(a1, .inl (cI, 98816, .inl (nF gt))), (mo, .inr (7, mFs 0 a1 a2 a3 (nI lt) (nI lb) (nI lz) 0 a4 a5 a6 nu bk se op fa a7 a8 a9 a10 a11 (nI 10) kh kl sh sl a12 a13 a14 a15 a16 a17 a18 a19 a20)), (a4, .inl (cI, 32, .inl (nF (iter (nCpy gt) 16 gk)))), (a7, .inl (cI, 256, .inl (nF gS))), (a8, .inl (cI, 240, .inl (nF ((kSch gS (iter (nCpy gt) 16 gk) 4 gf gr 40).2.2)))), (a11, .inl (cI, 4, .inl (nF ((kSch gS (iter (nCpy gt) 16 gk) 4 gf gr 40).2.1))))] H := hP
      have hD : va_D A [(a1, .inl (cI, 98816, .inl (nF gt))), (mo, .inr (7, mFs 0 a1 a2 a3 (nI lt) (nI lb) (nI lz) 0 a4 a5 a6 nu bk se op fa a7 a8 a9 a10 a11 (nI 10) kh kl sh sl a12 a13 a14 a15 a16 a17 a18 a19 a20)), (a4, .inl (cI, 32, .inl (nF (iter (nCpy gt) 16 gk)))), (a7, .inl (cI, 256, .inl (nF gS))), (a8, .inl (cI, 240, .inl (nF ((kSch gS (iter (nCpy gt) 16 gk) 4 gf gr 40).2.2)))), (a11, .inl (cI, 4, .inl (nF ((kSch gS (iter (nCpy gt) 16 gk) 4 gf gr 40).2.1))))] := hD
      refine lv_aload_n hx hb d_M_use_96 rfl (lv_at hl 1 rfl) ?_
      refine lv_dup hx hb d_M_use_97 rfl ?_
      refine va_get (D := D) (ci := 7) (v := .int bk) (C := R_M) (T := F_M) (N := 35) hx hb hts in_M hown hG.1 hP 1 rfl rfl 12 (by decide) (hts _ k_709) (fun _ h9 => h9) rfl d_M_use_98 ?_
      refine lv_iconst (v := 1) hx hb d_M_use_101 (by decide) ?_
      refine lv_iadd hx hb d_M_use_102 ?_
      refine lv_topi (fun x_9 ex_9 => ?_)
      refine va_put (D := D) (ci := 7) (v := .int x_9) (ty := .int) (C := R_M) (T := F_M) (N := 35) hx hb hts in_M tq_M tq_M_ok nq_M hown hG.1 hP hD hS 1 rfl rfl 12 (by decide) (hts _ k_709) (fun _ h9 => h9) rfl (by decide +kernel) rfl rfl (Nat.le_of_ble_eq_true rfl) d_M_use_103 (fun H locs hP hD hS => ?_)
      have hP : va_P D vwCl [(a1, .inl (cI, 98816, .inl (nF gt))), (mo, .inr (7, mFs 0 a1 a2 a3 (nI lt) (nI lb) (nI lz) 0 a4 a5 a6 nu x_9 se op fa a7 a8 a9 a10 a11 (nI 10) kh kl sh sl a12 a13 a14 a15 a16 a17 a18 a19 a20)), (a4, .inl (cI, 32, .inl (nF (iter (nCpy gt) 16 gk)))), (a7, .inl (cI, 256, .inl (nF gS))), (a8, .inl (cI, 240, .inl (nF ((kSch gS (iter (nCpy gt) 16 gk) 4 gf gr 40).2.2)))), (a11, .inl (cI, 4, .inl (nF ((kSch gS (iter (nCpy gt) 16 gk) 4 gf gr 40).2.1))))] H := hP
      have hD : va_D A [(a1, .inl (cI, 98816, .inl (nF gt))), (mo, .inr (7, mFs 0 a1 a2 a3 (nI lt) (nI lb) (nI lz) 0 a4 a5 a6 nu x_9 se op fa a7 a8 a9 a10 a11 (nI 10) kh kl sh sl a12 a13 a14 a15 a16 a17 a18 a19 a20)), (a4, .inl (cI, 32, .inl (nF (iter (nCpy gt) 16 gk)))), (a7, .inl (cI, 256, .inl (nF gS))), (a8, .inl (cI, 240, .inl (nF ((kSch gS (iter (nCpy gt) 16 gk) 4 gf gr 40).2.2)))), (a11, .inl (cI, 4, .inl (nF ((kSch gS (iter (nCpy gt) 16 gk) 4 gf gr 40).2.1))))] := hD
      refine lv_aload_n hx hb d_M_use_106 rfl (lv_at hl 1 rfl) ?_
      refine lv_iconst (v := 0) hx hb d_M_use_107 (by decide) ?_
      refine va_put (D := D) (ci := 7) (v := .int 0) (ty := .int) (C := R_M) (T := F_M) (N := 35) hx hb hts in_M tq_M tq_M_ok nq_M hown hG.1 hP hD hS 1 rfl rfl 4 (by decide) (hts _ k_701) (fun _ h9 => h9) rfl (by decide +kernel) rfl rfl (Nat.le_of_ble_eq_true rfl) d_M_use_108 (fun H locs hP hD hS => ?_)
      have hP : va_P D vwCl [(a1, .inl (cI, 98816, .inl (nF gt))), (mo, .inr (7, mFs 0 a1 a2 a3 0 (nI lb) (nI lz) 0 a4 a5 a6 nu x_9 se op fa a7 a8 a9 a10 a11 (nI 10) kh kl sh sl a12 a13 a14 a15 a16 a17 a18 a19 a20)), (a4, .inl (cI, 32, .inl (nF (iter (nCpy gt) 16 gk)))), (a7, .inl (cI, 256, .inl (nF gS))), (a8, .inl (cI, 240, .inl (nF ((kSch gS (iter (nCpy gt) 16 gk) 4 gf gr 40).2.2)))), (a11, .inl (cI, 4, .inl (nF ((kSch gS (iter (nCpy gt) 16 gk) 4 gf gr 40).2.1))))] H := hP
      have hD : va_D A [(a1, .inl (cI, 98816, .inl (nF gt))), (mo, .inr (7, mFs 0 a1 a2 a3 0 (nI lb) (nI lz) 0 a4 a5 a6 nu x_9 se op fa a7 a8 a9 a10 a11 (nI 10) kh kl sh sl a12 a13 a14 a15 a16 a17 a18 a19 a20)), (a4, .inl (cI, 32, .inl (nF (iter (nCpy gt) 16 gk)))), (a7, .inl (cI, 256, .inl (nF gS))), (a8, .inl (cI, 240, .inl (nF ((kSch gS (iter (nCpy gt) 16 gk) 4 gf gr 40).2.2)))), (a11, .inl (cI, 4, .inl (nF ((kSch gS (iter (nCpy gt) 16 gk) 4 gf gr 40).2.1))))] := hD
      refine lv_aload_n hx hb d_M_use_111 rfl (lv_at hl 1 rfl) ?_
      refine lv_lconst (v := 0) hx hb d_M_use_112 (by decide) ?_
      refine va_put (D := D) (ci := 7) (v := .long 0) (ty := .long) (C := R_M) (T := F_M) (N := 35) hx hb hts in_M tq_M tq_M_ok nq_M hown hG.1 hP hD hS 1 rfl rfl 11 (by decide) (hts _ k_708) (fun _ h9 => h9) rfl (by decide +kernel) rfl rfl (Nat.le_of_ble_eq_true rfl) d_M_use_113 (fun H locs hP hD hS => ?_)
      have hP : va_P D vwCl [(a1, .inl (cI, 98816, .inl (nF gt))), (mo, .inr (7, mFs 0 a1 a2 a3 0 (nI lb) (nI lz) 0 a4 a5 a6 0 x_9 se op fa a7 a8 a9 a10 a11 (nI 10) kh kl sh sl a12 a13 a14 a15 a16 a17 a18 a19 a20)), (a4, .inl (cI, 32, .inl (nF (iter (nCpy gt) 16 gk)))), (a7, .inl (cI, 256, .inl (nF gS))), (a8, .inl (cI, 240, .inl (nF ((kSch gS (iter (nCpy gt) 16 gk) 4 gf gr 40).2.2)))), (a11, .inl (cI, 4, .inl (nF ((kSch gS (iter (nCpy gt) 16 gk) 4 gf gr 40).2.1))))] H := hP
      have hD : va_D A [(a1, .inl (cI, 98816, .inl (nF gt))), (mo, .inr (7, mFs 0 a1 a2 a3 0 (nI lb) (nI lz) 0 a4 a5 a6 0 x_9 se op fa a7 a8 a9 a10 a11 (nI 10) kh kl sh sl a12 a13 a14 a15 a16 a17 a18 a19 a20)), (a4, .inl (cI, 32, .inl (nF (iter (nCpy gt) 16 gk)))), (a7, .inl (cI, 256, .inl (nF gS))), (a8, .inl (cI, 240, .inl (nF ((kSch gS (iter (nCpy gt) 16 gk) 4 gf gr 40).2.2)))), (a11, .inl (cI, 4, .inl (nF ((kSch gS (iter (nCpy gt) 16 gk) 4 gf gr 40).2.1))))] := hD
      subst ex_9
      have hP9 := hP.sub (ws' := [(mo, .inr (7, mFs 0 a1 a2 a3 0 (nI lb) (nI lz) 0 a4 a5 a6 0 (bk + 1) se op fa a7 a8 a9 a10 a11 (nI 10) kh kl sh sl a12 a13 a14 a15 a16 a17 a18 a19 a20)), (a1, .inl (cI, 98816, .inl (nF gt))), (a4, .inl (cI, 32, .inl (nF (iter (nCpy gt) 16 gk)))), (a7, .inl (cI, 256, .inl (nF gS))), (a8, .inl (cI, 240, .inl (nF ((kSch gS (iter (nCpy gt) 16 gk) 4 gf gr 40).2.2)))), (a11, .inl (cI, 4, .inl (nF ((kSch gS (iter (nCpy gt) 16 gk) 4 gf gr 40).2.1))))]) [1, 0, 2, 3, 4, 5] rfl
      have hD9 := hD.sub (ws' := [(mo, .inr (7, mFs 0 a1 a2 a3 0 (nI lb) (nI lz) 0 a4 a5 a6 0 (bk + 1) se op fa a7 a8 a9 a10 a11 (nI 10) kh kl sh sl a12 a13 a14 a15 a16 a17 a18 a19 a20)), (a1, .inl (cI, 98816, .inl (nF gt))), (a4, .inl (cI, 32, .inl (nF (iter (nCpy gt) 16 gk)))), (a7, .inl (cI, 256, .inl (nF gS))), (a8, .inl (cI, 240, .inl (nF ((kSch gS (iter (nCpy gt) 16 gk) 4 gf gr 40).2.2)))), (a11, .inl (cI, 4, .inl (nF ((kSch gS (iter (nCpy gt) 16 gk) 4 gf gr 40).2.1))))]) [1, 0, 2, 3, 4, 5] (by decide) rfl
      exact W.vret hx hb hr (fun t ht hW => ⟨⟨(), rfl, trivial, by rw [ht]; exact hP9, hD9⟩, hS.F ht⟩) hS.2.2 d_M_use_116
    | succ d1 ih1 =>
      intro i hi1 H locs ls hP hD hS hl
      refine lv_iload_n hx hb d_M_use_55 rfl (lv_at hl 0 rfl) ?_
      refine lv_aload_n hx hb d_M_use_56 rfl (lv_at hl 1 rfl) ?_
      refine va_get (D := D) (ci := 7) (v := .int (nI lt)) (C := R_M) (T := F_M) (N := 35) hx hb hts in_M hown hG.1 hP 0 rfl rfl 4 (by decide) (hts _ k_701) (fun _ h9 => h9) rfl d_M_use_57 ?_
      refine lv_icmp_ge (tgt := 81) hx hb d_M_use_60 (by decide) (fun c_10 => absurd c_10 (sb_geF (a := i) (b := lt) rfl rfl (by omega) (by omega) (by omega))) (fun c_10 => ?_)
      refine lv_aload_n hx hb d_M_use_63 rfl (lv_at hl 1 rfl) ?_
      refine va_get (D := D) (ci := 7) (v := .ref a4) (C := R_M) (T := F_M) (N := 35) hx hb hts in_M hown hG.1 hP 0 rfl rfl 8 (by decide) (hts _ k_705) (fun _ h9 => h9) rfl d_M_use_64 ?_
      refine lv_iload_n hx hb d_M_use_67 rfl (lv_at hl 0 rfl) ?_
      refine lv_aload_n hx hb d_M_use_68 rfl (lv_at hl 1 rfl) ?_
      refine va_get (D := D) (ci := 7) (v := .ref a1) (C := R_M) (T := F_M) (N := 35) hx hb hts in_M hown hG.1 hP 0 rfl rfl 1 (by decide) (hts _ k_698) (fun _ h9 => h9) rfl d_M_use_69 ?_
      refine lv_iload_n hx hb d_M_use_72 rfl (lv_at hl 0 rfl) ?_
      refine sb_ild hx hb hG.1 hP 1 rfl i rfl (by omega) (by omega) d_M_use_73 ?_
      refine sb_topn (gt i) rfl ?_
      refine sb_ist hx hb hG.1 hP hD hS 2 rfl i rfl (by omega) (by omega) d_M_use_74 (fun f_11 H locs ef_11 hP hD hS => ?_)
      have hP : va_P D vwCl [(mo, .inr (7, mFs 0 a1 a2 a3 (nI lt) (nI lb) (nI lz) 0 a4 a5 a6 nu bk se op fa a7 a8 a9 a10 a11 (nI rn) kh kl sh sl a12 a13 a14 a15 a16 a17 a18 a19 a20)), (a1, .inl (cI, 98816, .inl (nF gt))), (a4, .inl (cI, 32, .inl f_11)), (a7, .inl (cI, 256, .inl (nF gS))), (a8, .inl (cI, 240, .inl (nF gr))), (a11, .inl (cI, 4, .inl (nF gf)))] H := hP
      have hD : va_D A [(mo, .inr (7, mFs 0 a1 a2 a3 (nI lt) (nI lb) (nI lz) 0 a4 a5 a6 nu bk se op fa a7 a8 a9 a10 a11 (nI rn) kh kl sh sl a12 a13 a14 a15 a16 a17 a18 a19 a20)), (a1, .inl (cI, 98816, .inl (nF gt))), (a4, .inl (cI, 32, .inl f_11)), (a7, .inl (cI, 256, .inl (nF gS))), (a8, .inl (cI, 240, .inl (nF gr))), (a11, .inl (cI, 4, .inl (nF gf)))] := hD
      obtain rfl : f_11 = nF (updN (iter (nCpy gt) i gk) i (gt i)) := ef_11.trans (nF_set _ _ _)
      have hP : va_P D vwCl [(mo, .inr (7, mFs 0 a1 a2 a3 (nI lt) (nI lb) (nI lz) 0 a4 a5 a6 nu bk se op fa a7 a8 a9 a10 a11 (nI rn) kh kl sh sl a12 a13 a14 a15 a16 a17 a18 a19 a20)), (a1, .inl (cI, 98816, .inl (nF gt))), (a4, .inl (cI, 32, .inl (nF (updN (iter (nCpy gt) i gk) i (gt i))))), (a7, .inl (cI, 256, .inl (nF gS))), (a8, .inl (cI, 240, .inl (nF gr))), (a11, .inl (cI, 4, .inl (nF gf)))] H := hP
      have hD : va_D A [(mo, .inr (7, mFs 0 a1 a2 a3 (nI lt) (nI lb) (nI lz) 0 a4 a5 a6 nu bk se op fa a7 a8 a9 a10 a11 (nI rn) kh kl sh sl a12 a13 a14 a15 a16 a17 a18 a19 a20)), (a1, .inl (cI, 98816, .inl (nF gt))), (a4, .inl (cI, 32, .inl (nF (updN (iter (nCpy gt) i gk) i (gt i))))), (a7, .inl (cI, 256, .inl (nF gS))), (a8, .inl (cI, 240, .inl (nF gr))), (a11, .inl (cI, 4, .inl (nF gf)))] := hD
      refine lv_iinc (v := nI (i + 1)) (lv' := [(2, .int (nI (i + 1))), (0, .ref mo), (1, .int 0)]) hx hb d_M_use_75 hl (k := 0) rfl (sb_inc (a := i) (b := i + 1) (d := 1) rfl (by decide) (by omega)) (by decide) rfl (fun ls hl => ?_)
      refine lv_goto (tgt := 55) hx hb d_M_use_78 (by decide) ?_
      rw [show nF (updN (iter (nCpy gt) i gk) i (gt i)) = nF (iter (nCpy gt) (i + 1) gk) from rfl] at hP hD
      exact ih1 (i + 1) (by omega) _ _ ls (hP.sub [0, 1, 2, 3, 4, 5] rfl) (hD.sub [0, 1, 2, 3, 4, 5] (by decide) rfl) hS (lv_sub hl [0, 1, 2] rfl)
  exact lp1 16 0 (by omega) _ _ ls (hP.sub [0, 1, 2, 3, 4, 5] rfl) (hD.sub [0, 1, 2, 3, 4, 5] (by decide) rfl) hS (lv_sub hl [0, 1, 2] rfl)

def rm_M_use1 : Room := { frames := 2, cells := 0, slots := 0, locals := 49 }
set_option maxHeartbeats 4000000 in
set_option maxRecDepth 100000 in
theorem c_M_use1 (l : Launch) (D : va_G) (cI cL cB : ClassId) (tS tF : Nat) (mo : Nat) (a1 : Nat) (a2 : Nat) (a3 : Nat) (a4 : Nat) (a5 : Nat) (a6 : Nat) (a7 : Nat) (a8 : Nat) (a9 : Nat) (a10 : Nat) (a11 : Nat) (a12 : Nat) (a13 : Nat) (a14 : Nat) (a15 : Nat) (a16 : Nat) (a17 : Nat) (a18 : Nat) (a19 : Nat) (a20 : Nat) (thr : Int32) (ci : Int32) (bk : Int32) (se : Int32) (op : Int32) (fa : Int32) (lt : Nat) (lb : Nat) (lz : Nat) (rn : Nat) (nu : Int64) (kh : Int64) (kl : Int64) (sh : Int64) (sl : Int64) (gt : Nat → Nat) (gk : Nat → Nat) (gS : Nat → Nat) (gr : Nat → Nat) (gf : Nat → Nat) (sz : Nat) (hlt : lt = 32) (hgt : By gt) (hgk : By gk) (hgS : By gS) (hgr : By gr) (hgf : By gf) : Met l y_M_use (sbw y_M_use b_M_use 3 none) rm_M_use1 (sbPc D cI cL cB tS tF [.ref mo, .int 1] sz [(mo, .inr (7, mFs thr a1 a2 a3 (nI lt) (nI lb) (nI lz) ci a4 a5 a6 nu bk se op fa a7 a8 a9 a10 a11 (nI rn) kh kl sh sl a12 a13 a14 a15 a16 a17 a18 a19 a20)), (a1, .inl (cI, 98816, .inl (nF gt))), (a4, .inl (cI, 32, .inl (nF gk))), (a7, .inl (cI, 256, .inl (nF gS))), (a8, .inl (cI, 240, .inl (nF gr))), (a11, .inl (cI, 4, .inl (nF gf)))]) (sbQv D (fun (_ : Unit) => True) (fun (_ : Unit) => [(mo, .inr (7, mFs 0 a1 a2 a3 (nI 0) (nI lb) (nI lz) 1 a4 a5 a6 0 (bk + 1) se op fa a7 a8 a9 a10 a11 (nI 14) kh kl sh sl a12 a13 a14 a15 a16 a17 a18 a19 a20)), (a1, .inl (cI, 98816, .inl (nF gt))), (a4, .inl (cI, 32, .inl (nF (iter (nCpy gt) 32 gk)))), (a7, .inl (cI, 256, .inl (nF gS))), (a8, .inl (cI, 240, .inl (nF ((kSch gS (iter (nCpy gt) 32 gk) 8 gf gr 52).2.2)))), (a11, .inl (cI, 4, .inl (nF ((kSch gS (iter (nCpy gt) 32 gk) 8 gf gr 52).2.1))))]) (va_A [(mo, .inr (7, mFs thr a1 a2 a3 (nI lt) (nI lb) (nI lz) ci a4 a5 a6 nu bk se op fa a7 a8 a9 a10 a11 (nI rn) kh kl sh sl a12 a13 a14 a15 a16 a17 a18 a19 a20)), (a1, .inl (cI, 98816, .inl (nF gt))), (a4, .inl (cI, 32, .inl (nF gk))), (a7, .inl (cI, 256, .inl (nF gS))), (a8, .inl (cI, 240, .inl (nF gr))), (a11, .inl (cI, 4, .inl (nF gf)))] sz)) 0 0 (va_A [(mo, .inr (7, mFs thr a1 a2 a3 (nI lt) (nI lb) (nI lz) ci a4 a5 a6 nu bk se op fa a7 a8 a9 a10 a11 (nI rn) kh kl sh sl a12 a13 a14 a15 a16 a17 a18 a19 a20)), (a1, .inl (cI, 98816, .inl (nF gt))), (a4, .inl (cI, 32, .inl (nF gk))), (a7, .inl (cI, 256, .inl (nF gS))), (a8, .inl (cI, 240, .inl (nF gr))), (a11, .inl (cI, 4, .inl (nF gf)))] sz) := by
  refine sb_ofW (y := y_M_use) (maxL := 3) (av := [.ref mo, .int 1]) (Qc := fun A => (sbQv D (fun (_ : Unit) => True) (fun (_ : Unit) => [(mo, .inr (7, mFs 0 a1 a2 a3 (nI 0) (nI lb) (nI lz) 1 a4 a5 a6 0 (bk + 1) se op fa a7 a8 a9 a10 a11 (nI 14) kh kl sh sl a12 a13 a14 a15 a16 a17 a18 a19 a20)), (a1, .inl (cI, 98816, .inl (nF gt))), (a4, .inl (cI, 32, .inl (nF (iter (nCpy gt) 32 gk)))), (a7, .inl (cI, 256, .inl (nF gS))), (a8, .inl (cI, 240, .inl (nF ((kSch gS (iter (nCpy gt) 32 gk) 8 gf gr 52).2.2)))), (a11, .inl (cI, 4, .inl (nF ((kSch gS (iter (nCpy gt) 32 gk) 8 gf gr 52).2.1))))]) A)) (by decide) (Nat.le_of_ble_eq_true rfl) ?_
  intro p e s m args below meth c A ls hx hb hr hml hts hown hlocks hin hsz hP hG hD hA hS hl
  have hl : lv_has ls 3 [(0, .ref mo), (1, .int 1)] := hl
  refine lv_aload_n hx hb d_M_use_0 rfl (lv_at hl 0 rfl) ?_
  refine lv_iload_n hx hb d_M_use_1 rfl (lv_at hl 1 rfl) ?_
  refine lv_if_lt (tgt := 10) hx hb d_M_use_2 (by decide) (fun c_1 => absurd c_1 (sb_ltF (a := 1) (b := 0) rfl rfl (by omega) (by omega) (by omega))) (fun c_1 => ?_)
  refine lv_iload_n hx hb d_M_use_5 rfl (lv_at hl 1 rfl) ?_
  refine lv_iconst (v := 2) hx hb d_M_use_6 (by decide) ?_
  refine lv_icmp_le (tgt := 14) hx hb d_M_use_7 (by decide) (fun c_2 => ?_) (fun c_2 => absurd (sb_leT (a := 1) (b := 2) rfl rfl (by omega) (by omega) (by omega)) c_2)
  refine lv_aload_n hx hb d_M_use_14 rfl (lv_at hl 0 rfl) ?_
  refine va_get (D := D) (ci := 7) (v := .int (nI lt)) (C := R_M) (T := F_M) (N := 35) hx hb hts in_M hown hG.1 hP 0 rfl rfl 4 (by decide) (hts _ k_701) (fun _ h9 => h9) rfl d_M_use_15 ?_
  refine lv_iload_n hx hb d_M_use_18 rfl (lv_at hl 1 rfl) ?_
  refine lv_if_ne (tgt := 27) hx hb d_M_use_19 (by decide) (fun c_3 => ?_) (fun c_3 => absurd c_3 (sb_neT (a := 1) (b := 0) rfl rfl (by omega) (by omega) (by omega)))
  refine lv_bipush (v := 32) hx hb d_M_use_27 (by decide) ?_
  refine lv_icmp_eq (tgt := 36) hx hb d_M_use_29 (by decide) (fun c_4 => ?_) (fun c_4 => absurd (sb_eqT (a := lt) (b := 32) rfl rfl (by omega) (by omega) (by omega)) c_4)
  refine lv_iconst (v := 0) hx hb d_M_use_36 (by decide) ?_
  refine va_put (D := D) (ci := 7) (v := .int 0) (ty := .int) (C := R_M) (T := F_M) (N := 35) hx hb hts in_M tq_M tq_M_ok nq_M hown hG.1 hP hD hS 0 rfl rfl 0 (by decide) (hts _ k_697) (fun _ h9 => h9) rfl (by decide +kernel) rfl rfl (Nat.le_of_ble_eq_true rfl) d_M_use_37 (fun H locs hP hD hS => ?_)
  have hP : va_P D vwCl [(mo, .inr (7, mFs 0 a1 a2 a3 (nI lt) (nI lb) (nI lz) ci a4 a5 a6 nu bk se op fa a7 a8 a9 a10 a11 (nI rn) kh kl sh sl a12 a13 a14 a15 a16 a17 a18 a19 a20)), (a1, .inl (cI, 98816, .inl (nF gt))), (a4, .inl (cI, 32, .inl (nF gk))), (a7, .inl (cI, 256, .inl (nF gS))), (a8, .inl (cI, 240, .inl (nF gr))), (a11, .inl (cI, 4, .inl (nF gf)))] H := hP
  have hD : va_D A [(mo, .inr (7, mFs 0 a1 a2 a3 (nI lt) (nI lb) (nI lz) ci a4 a5 a6 nu bk se op fa a7 a8 a9 a10 a11 (nI rn) kh kl sh sl a12 a13 a14 a15 a16 a17 a18 a19 a20)), (a1, .inl (cI, 98816, .inl (nF gt))), (a4, .inl (cI, 32, .inl (nF gk))), (a7, .inl (cI, 256, .inl (nF gS))), (a8, .inl (cI, 240, .inl (nF gr))), (a11, .inl (cI, 4, .inl (nF gf)))] := hD
  refine lv_aload_n hx hb d_M_use_40 rfl (lv_at hl 0 rfl) ?_
  refine va_get (D := D) (ci := 7) (v := .int 0) (C := R_M) (T := F_M) (N := 35) hx hb hts in_M hown hG.1 hP 0 rfl rfl 0 (by decide) (hts _ k_697) (fun _ h9 => h9) rfl d_M_use_41 ?_
  refine lv_if_le (tgt := 48) hx hb d_M_use_44 (by decide) (fun c_5 => ?_) (fun c_5 => absurd (sb_leT (a := 0) (b := 0) rfl rfl (by omega) (by omega) (by omega)) c_5)
  refine lv_aload_n hx hb d_M_use_48 rfl (lv_at hl 0 rfl) ?_
  refine lv_iload_n hx hb d_M_use_49 rfl (lv_at hl 1 rfl) ?_
  refine va_put (D := D) (ci := 7) (v := .int 1) (ty := .int) (C := R_M) (T := F_M) (N := 35) hx hb hts in_M tq_M tq_M_ok nq_M hown hG.1 hP hD hS 0 rfl rfl 7 (by decide) (hts _ k_704) (fun _ h9 => h9) rfl (by decide +kernel) rfl rfl (Nat.le_of_ble_eq_true rfl) d_M_use_50 (fun H locs hP hD hS => ?_)
  have hP : va_P D vwCl [(mo, .inr (7, mFs 0 a1 a2 a3 (nI lt) (nI lb) (nI lz) 1 a4 a5 a6 nu bk se op fa a7 a8 a9 a10 a11 (nI rn) kh kl sh sl a12 a13 a14 a15 a16 a17 a18 a19 a20)), (a1, .inl (cI, 98816, .inl (nF gt))), (a4, .inl (cI, 32, .inl (nF gk))), (a7, .inl (cI, 256, .inl (nF gS))), (a8, .inl (cI, 240, .inl (nF gr))), (a11, .inl (cI, 4, .inl (nF gf)))] H := hP
  have hD : va_D A [(mo, .inr (7, mFs 0 a1 a2 a3 (nI lt) (nI lb) (nI lz) 1 a4 a5 a6 nu bk se op fa a7 a8 a9 a10 a11 (nI rn) kh kl sh sl a12 a13 a14 a15 a16 a17 a18 a19 a20)), (a1, .inl (cI, 98816, .inl (nF gt))), (a4, .inl (cI, 32, .inl (nF gk))), (a7, .inl (cI, 256, .inl (nF gS))), (a8, .inl (cI, 240, .inl (nF gr))), (a11, .inl (cI, 4, .inl (nF gf)))] := hD
  refine lv_iconst (v := 0) hx hb d_M_use_53 (by decide) ?_
  refine lv_istore_n (lv' := [(2, .int 0), (0, .ref mo), (1, .int 1)]) hx hb d_M_use_54 rfl hl (by decide) rfl (fun ls hl => ?_)
  have lp1 : ∀ (d1 i : Nat), i + d1 = 32 → ∀ (H : Heap) (locs : List Loc) (ls : Array Slot), va_P D vwCl [(mo, .inr (7, mFs 0 a1 a2 a3 (nI lt) (nI lb) (nI lz) 1 a4 a5 a6 nu bk se op fa a7 a8 a9 a10 a11 (nI rn) kh kl sh sl a12 a13 a14 a15 a16 a17 a18 a19 a20)), (a1, .inl (cI, 98816, .inl (nF gt))), (a4, .inl (cI, 32, .inl (nF (iter (nCpy gt) i gk)))), (a7, .inl (cI, 256, .inl (nF gS))), (a8, .inl (cI, 240, .inl (nF gr))), (a11, .inl (cI, 4, .inl (nF gf)))] H → va_D A [(mo, .inr (7, mFs 0 a1 a2 a3 (nI lt) (nI lb) (nI lz) 1 a4 a5 a6 nu bk se op fa a7 a8 a9 a10 a11 (nI rn) kh kl sh sl a12 a13 a14 a15 a16 a17 a18 a19 a20)), (a1, .inl (cI, 98816, .inl (nF gt))), (a4, .inl (cI, 32, .inl (nF (iter (nCpy gt) i gk)))), (a7, .inl (cI, 256, .inl (nF gS))), (a8, .inl (cI, 240, .inl (nF gr))), (a11, .inl (cI, 4, .inl (nF gf)))] → va_S A s.heap H locs → lv_has ls 3 [(2, .int (nI i)), (0, .ref mo), (1, .int 1)] → W p l e rm_M_use1 s m args below meth c H locs 0 0 (MQ below (sbQv D (fun (_ : Unit) => True) (fun (_ : Unit) => [(mo, .inr (7, mFs 0 a1 a2 a3 (nI 0) (nI lb) (nI lz) 1 a4 a5 a6 0 (bk + 1) se op fa a7 a8 a9 a10 a11 (nI 14) kh kl sh sl a12 a13 a14 a15 a16 a17 a18 a19 a20)), (a1, .inl (cI, 98816, .inl (nF gt))), (a4, .inl (cI, 32, .inl (nF (iter (nCpy gt) 32 gk)))), (a7, .inl (cI, 256, .inl (nF gS))), (a8, .inl (cI, 240, .inl (nF ((kSch gS (iter (nCpy gt) 32 gk) 8 gf gr 52).2.2)))), (a11, .inl (cI, 4, .inl (nF ((kSch gS (iter (nCpy gt) 32 gk) 8 gf gr 52).2.1))))]) A) args s 0 0 A) (F0 m 55 ls []) := by
    intro d1
    induction d1 with
    | zero =>
      intro i hi1 H locs ls hP hD hS hl
      obtain rfl : 32 = i := by omega
      refine lv_iload_n hx hb d_M_use_55 rfl (lv_at hl 0 rfl) ?_
      refine lv_aload_n hx hb d_M_use_56 rfl (lv_at hl 1 rfl) ?_
      refine va_get (D := D) (ci := 7) (v := .int (nI lt)) (C := R_M) (T := F_M) (N := 35) hx hb hts in_M hown hG.1 hP 0 rfl rfl 4 (by decide) (hts _ k_701) (fun _ h9 => h9) rfl d_M_use_57 ?_
      refine lv_icmp_ge (tgt := 81) hx hb d_M_use_60 (by decide) (fun c_6 => ?_) (fun c_6 => absurd (sb_geT (a := 32) (b := lt) rfl rfl (by omega) (by omega) (by omega)) c_6)
      refine lv_iload_n hx hb d_M_use_81 rfl (lv_at hl 2 rfl) ?_
      refine lv_iconst (v := 2) hx hb d_M_use_82 (by decide) ?_
      refine lv_icmp_ge (tgt := 106) hx hb d_M_use_83 (by decide) (fun c_7 => absurd c_7 (sb_geF (a := 1) (b := 2) rfl rfl (by omega) (by omega) (by omega))) (fun c_7 => ?_)
      refine lv_aload_n hx hb d_M_use_86 rfl (lv_at hl 1 rfl) ?_
      refine lv_aload_n hx hb d_M_use_87 rfl (lv_at hl 1 rfl) ?_
      refine va_get (D := D) (ci := 7) (v := .int (nI lt)) (C := R_M) (T := F_M) (N := 35) hx hb hts in_M hown hG.1 hP 0 rfl rfl 4 (by decide) (hts _ k_701) (fun _ h9 => h9) rfl d_M_use_88 ?_
      refine lv_iconst (v := 4) hx hb d_M_use_91 (by decide) ?_
      refine lv_idiv hx hb d_M_use_92 (by decide) ?_
      refine sb_topn 8 (sb_eqn (a := lt / 4) (b := 8) (sb_div (a := lt) (b := 4) (by omega) (by omega) (by omega) rfl rfl) (by omega)) ?_
      refine sb_callv (wr := [(a1, .inl (cI, 98816, .inl (nF gt)))]) (va_runV (As := [.int (nI 8)]) (rest := []) ⟨hx, hb, hml, hown, hts⟩ (c_M_schedule8 l D cI cL cB tS tF mo a1 a2 a3 a4 a5 a6 a7 a8 a9 a10 a11 a12 a13 a14 a15 a16 a17 a18 a19 a20 0 1 bk se op fa lt lb lz rn nu kh kl sh sl (iter (nCpy gt) 32 gk) gS gr gf _ (nCpy_B hgt 32 _ hgk) hgS hgr hgf) (cwV 1 hts (sb_gV k_824 k_826 k_8 k_30 k_827) rfl rfl rfl (by decide +kernel) ⟨Nat.le_of_ble_eq_true rfl, Nat.le_of_ble_eq_true rfl⟩) (sb_pV hG hP hD hS hA [0, 2, 3, 4, 5] (by decide) rfl (ci := 7) (q0 := 0) rfl rfl) rfl rfl hl.1 rfl (lv_room (Nat.le_of_ble_eq_true rfl)) d_M_use_93 ⟨Nat.le_of_ble_eq_true rfl, Nat.le_of_ble_eq_true rfl⟩) hP hD hS hA [0, 2, 3, 4, 5] [1] rfl rfl (by decide) (by decide) (fun u H locs hw_8 hP hD hS => ?_)
      have hP : va_P D vwCl [(a1, .inl (cI, 98816, .inl (nF gt))), (mo, .inr (7, mFs 0 a1 a2 a3 (nI lt) (nI lb) (nI lz) 1 a4 a5 a6 nu bk se op fa a7 a8 a9 a10 a11 (nI 14) kh kl sh sl a12 a13 a14 a15 a16 a17 a18 a19 a20)), (a4, .inl (cI, 32, .inl (nF (iter (nCpy gt) 32 gk)))), (a7, .inl (cI, 256, .inl (nF gS))), (a8, .inl (cI, 240, .inl (nF ((kSch gS (iter (nCpy gt) 32 gk) 8 gf gr 52).2.2)))), (a11, .inl (cI, 4, .inl (nF ((kSch gS (iter (nCpy gt) 32 gk) 8 gf gr 52).2.1))))] H := hP
      have hD : va_D A [(a1, .inl (cI, 98816, .inl (nF gt))), (mo, .inr (7, mFs 0 a1 a2 a3 (nI lt) (nI lb) (nI lz) 1 a4 a5 a6 nu bk se op fa a7 a8 a9 a10 a11 (nI 14) kh kl sh sl a12 a13 a14 a15 a16 a17 a18 a19 a20)), (a4, .inl (cI, 32, .inl (nF (iter (nCpy gt) 32 gk)))), (a7, .inl (cI, 256, .inl (nF gS))), (a8, .inl (cI, 240, .inl (nF ((kSch gS (iter (nCpy gt) 32 gk) 8 gf gr 52).2.2)))), (a11, .inl (cI, 4, .inl (nF ((kSch gS (iter (nCpy gt) 32 gk) 8 gf gr 52).2.1))))] := hD
      refine lv_aload_n hx hb d_M_use_96 rfl (lv_at hl 1 rfl) ?_
      refine lv_dup hx hb d_M_use_97 rfl ?_
      refine va_get (D := D) (ci := 7) (v := .int bk) (C := R_M) (T := F_M) (N := 35) hx hb hts in_M hown hG.1 hP 1 rfl rfl 12 (by decide) (hts _ k_709) (fun _ h9 => h9) rfl d_M_use_98 ?_
      refine lv_iconst (v := 1) hx hb d_M_use_101 (by decide) ?_
      refine lv_iadd hx hb d_M_use_102 ?_
      refine lv_topi (fun x_9 ex_9 => ?_)
      refine va_put (D := D) (ci := 7) (v := .int x_9) (ty := .int) (C := R_M) (T := F_M) (N := 35) hx hb hts in_M tq_M tq_M_ok nq_M hown hG.1 hP hD hS 1 rfl rfl 12 (by decide) (hts _ k_709) (fun _ h9 => h9) rfl (by decide +kernel) rfl rfl (Nat.le_of_ble_eq_true rfl) d_M_use_103 (fun H locs hP hD hS => ?_)
      have hP : va_P D vwCl [(a1, .inl (cI, 98816, .inl (nF gt))), (mo, .inr (7, mFs 0 a1 a2 a3 (nI lt) (nI lb) (nI lz) 1 a4 a5 a6 nu x_9 se op fa a7 a8 a9 a10 a11 (nI 14) kh kl sh sl a12 a13 a14 a15 a16 a17 a18 a19 a20)), (a4, .inl (cI, 32, .inl (nF (iter (nCpy gt) 32 gk)))), (a7, .inl (cI, 256, .inl (nF gS))), (a8, .inl (cI, 240, .inl (nF ((kSch gS (iter (nCpy gt) 32 gk) 8 gf gr 52).2.2)))), (a11, .inl (cI, 4, .inl (nF ((kSch gS (iter (nCpy gt) 32 gk) 8 gf gr 52).2.1))))] H := hP
      have hD : va_D A [(a1, .inl (cI, 98816, .inl (nF gt))), (mo, .inr (7, mFs 0 a1 a2 a3 (nI lt) (nI lb) (nI lz) 1 a4 a5 a6 nu x_9 se op fa a7 a8 a9 a10 a11 (nI 14) kh kl sh sl a12 a13 a14 a15 a16 a17 a18 a19 a20)), (a4, .inl (cI, 32, .inl (nF (iter (nCpy gt) 32 gk)))), (a7, .inl (cI, 256, .inl (nF gS))), (a8, .inl (cI, 240, .inl (nF ((kSch gS (iter (nCpy gt) 32 gk) 8 gf gr 52).2.2)))), (a11, .inl (cI, 4, .inl (nF ((kSch gS (iter (nCpy gt) 32 gk) 8 gf gr 52).2.1))))] := hD
      refine lv_aload_n hx hb d_M_use_106 rfl (lv_at hl 1 rfl) ?_
      refine lv_iconst (v := 0) hx hb d_M_use_107 (by decide) ?_
      refine va_put (D := D) (ci := 7) (v := .int 0) (ty := .int) (C := R_M) (T := F_M) (N := 35) hx hb hts in_M tq_M tq_M_ok nq_M hown hG.1 hP hD hS 1 rfl rfl 4 (by decide) (hts _ k_701) (fun _ h9 => h9) rfl (by decide +kernel) rfl rfl (Nat.le_of_ble_eq_true rfl) d_M_use_108 (fun H locs hP hD hS => ?_)
      have hP : va_P D vwCl [(a1, .inl (cI, 98816, .inl (nF gt))), (mo, .inr (7, mFs 0 a1 a2 a3 0 (nI lb) (nI lz) 1 a4 a5 a6 nu x_9 se op fa a7 a8 a9 a10 a11 (nI 14) kh kl sh sl a12 a13 a14 a15 a16 a17 a18 a19 a20)), (a4, .inl (cI, 32, .inl (nF (iter (nCpy gt) 32 gk)))), (a7, .inl (cI, 256, .inl (nF gS))), (a8, .inl (cI, 240, .inl (nF ((kSch gS (iter (nCpy gt) 32 gk) 8 gf gr 52).2.2)))), (a11, .inl (cI, 4, .inl (nF ((kSch gS (iter (nCpy gt) 32 gk) 8 gf gr 52).2.1))))] H := hP
      have hD : va_D A [(a1, .inl (cI, 98816, .inl (nF gt))), (mo, .inr (7, mFs 0 a1 a2 a3 0 (nI lb) (nI lz) 1 a4 a5 a6 nu x_9 se op fa a7 a8 a9 a10 a11 (nI 14) kh kl sh sl a12 a13 a14 a15 a16 a17 a18 a19 a20)), (a4, .inl (cI, 32, .inl (nF (iter (nCpy gt) 32 gk)))), (a7, .inl (cI, 256, .inl (nF gS))), (a8, .inl (cI, 240, .inl (nF ((kSch gS (iter (nCpy gt) 32 gk) 8 gf gr 52).2.2)))), (a11, .inl (cI, 4, .inl (nF ((kSch gS (iter (nCpy gt) 32 gk) 8 gf gr 52).2.1))))] := hD
      refine lv_aload_n hx hb d_M_use_111 rfl (lv_at hl 1 rfl) ?_
      refine lv_lconst (v := 0) hx hb d_M_use_112 (by decide) ?_
      refine va_put (D := D) (ci := 7) (v := .long 0) (ty := .long) (C := R_M) (T := F_M) (N := 35) hx hb hts in_M tq_M tq_M_ok nq_M hown hG.1 hP hD hS 1 rfl rfl 11 (by decide) (hts _ k_708) (fun _ h9 => h9) rfl (by decide +kernel) rfl rfl (Nat.le_of_ble_eq_true rfl) d_M_use_113 (fun H locs hP hD hS => ?_)
      have hP : va_P D vwCl [(a1, .inl (cI, 98816, .inl (nF gt))), (mo, .inr (7, mFs 0 a1 a2 a3 0 (nI lb) (nI lz) 1 a4 a5 a6 0 x_9 se op fa a7 a8 a9 a10 a11 (nI 14) kh kl sh sl a12 a13 a14 a15 a16 a17 a18 a19 a20)), (a4, .inl (cI, 32, .inl (nF (iter (nCpy gt) 32 gk)))), (a7, .inl (cI, 256, .inl (nF gS))), (a8, .inl (cI, 240, .inl (nF ((kSch gS (iter (nCpy gt) 32 gk) 8 gf gr 52).2.2)))), (a11, .inl (cI, 4, .inl (nF ((kSch gS (iter (nCpy gt) 32 gk) 8 gf gr 52).2.1))))] H := hP
      have hD : va_D A [(a1, .inl (cI, 98816, .inl (nF gt))), (mo, .inr (7, mFs 0 a1 a2 a3 0 (nI lb) (nI lz) 1 a4 a5 a6 0 x_9 se op fa a7 a8 a9 a10 a11 (nI 14) kh kl sh sl a12 a13 a14 a15 a16 a17 a18 a19 a20)), (a4, .inl (cI, 32, .inl (nF (iter (nCpy gt) 32 gk)))), (a7, .inl (cI, 256, .inl (nF gS))), (a8, .inl (cI, 240, .inl (nF ((kSch gS (iter (nCpy gt) 32 gk) 8 gf gr 52).2.2)))), (a11, .inl (cI, 4, .inl (nF ((kSch gS (iter (nCpy gt) 32 gk) 8 gf gr 52).2.1))))] := hD
      subst ex_9
      have hP9 := hP.sub (ws' := [(mo, .inr (7, mFs 0 a1 a2 a3 0 (nI lb) (nI lz) 1 a4 a5 a6 0 (bk + 1) se op fa a7 a8 a9 a10 a11 (nI 14) kh kl sh sl a12 a13 a14 a15 a16 a17 a18 a19 a20)), (a1, .inl (cI, 98816, .inl (nF gt))), (a4, .inl (cI, 32, .inl (nF (iter (nCpy gt) 32 gk)))), (a7, .inl (cI, 256, .inl (nF gS))), (a8, .inl (cI, 240, .inl (nF ((kSch gS (iter (nCpy gt) 32 gk) 8 gf gr 52).2.2)))), (a11, .inl (cI, 4, .inl (nF ((kSch gS (iter (nCpy gt) 32 gk) 8 gf gr 52).2.1))))]) [1, 0, 2, 3, 4, 5] rfl
      have hD9 := hD.sub (ws' := [(mo, .inr (7, mFs 0 a1 a2 a3 0 (nI lb) (nI lz) 1 a4 a5 a6 0 (bk + 1) se op fa a7 a8 a9 a10 a11 (nI 14) kh kl sh sl a12 a13 a14 a15 a16 a17 a18 a19 a20)), (a1, .inl (cI, 98816, .inl (nF gt))), (a4, .inl (cI, 32, .inl (nF (iter (nCpy gt) 32 gk)))), (a7, .inl (cI, 256, .inl (nF gS))), (a8, .inl (cI, 240, .inl (nF ((kSch gS (iter (nCpy gt) 32 gk) 8 gf gr 52).2.2)))), (a11, .inl (cI, 4, .inl (nF ((kSch gS (iter (nCpy gt) 32 gk) 8 gf gr 52).2.1))))]) [1, 0, 2, 3, 4, 5] (by decide) rfl
      exact W.vret hx hb hr (fun t ht hW => ⟨⟨(), rfl, trivial, by rw [ht]; exact hP9, hD9⟩, hS.F ht⟩) hS.2.2 d_M_use_116
    | succ d1 ih1 =>
      intro i hi1 H locs ls hP hD hS hl
      refine lv_iload_n hx hb d_M_use_55 rfl (lv_at hl 0 rfl) ?_
      refine lv_aload_n hx hb d_M_use_56 rfl (lv_at hl 1 rfl) ?_
      refine va_get (D := D) (ci := 7) (v := .int (nI lt)) (C := R_M) (T := F_M) (N := 35) hx hb hts in_M hown hG.1 hP 0 rfl rfl 4 (by decide) (hts _ k_701) (fun _ h9 => h9) rfl d_M_use_57 ?_
      refine lv_icmp_ge (tgt := 81) hx hb d_M_use_60 (by decide) (fun c_10 => absurd c_10 (sb_geF (a := i) (b := lt) rfl rfl (by omega) (by omega) (by omega))) (fun c_10 => ?_)
      refine lv_aload_n hx hb d_M_use_63 rfl (lv_at hl 1 rfl) ?_
      refine va_get (D := D) (ci := 7) (v := .ref a4) (C := R_M) (T := F_M) (N := 35) hx hb hts in_M hown hG.1 hP 0 rfl rfl 8 (by decide) (hts _ k_705) (fun _ h9 => h9) rfl d_M_use_64 ?_
      refine lv_iload_n hx hb d_M_use_67 rfl (lv_at hl 0 rfl) ?_
      refine lv_aload_n hx hb d_M_use_68 rfl (lv_at hl 1 rfl) ?_
      refine va_get (D := D) (ci := 7) (v := .ref a1) (C := R_M) (T := F_M) (N := 35) hx hb hts in_M hown hG.1 hP 0 rfl rfl 1 (by decide) (hts _ k_698) (fun _ h9 => h9) rfl d_M_use_69 ?_
      refine lv_iload_n hx hb d_M_use_72 rfl (lv_at hl 0 rfl) ?_
      refine sb_ild hx hb hG.1 hP 1 rfl i rfl (by omega) (by omega) d_M_use_73 ?_
      refine sb_topn (gt i) rfl ?_
      refine sb_ist hx hb hG.1 hP hD hS 2 rfl i rfl (by omega) (by omega) d_M_use_74 (fun f_11 H locs ef_11 hP hD hS => ?_)
      have hP : va_P D vwCl [(mo, .inr (7, mFs 0 a1 a2 a3 (nI lt) (nI lb) (nI lz) 1 a4 a5 a6 nu bk se op fa a7 a8 a9 a10 a11 (nI rn) kh kl sh sl a12 a13 a14 a15 a16 a17 a18 a19 a20)), (a1, .inl (cI, 98816, .inl (nF gt))), (a4, .inl (cI, 32, .inl f_11)), (a7, .inl (cI, 256, .inl (nF gS))), (a8, .inl (cI, 240, .inl (nF gr))), (a11, .inl (cI, 4, .inl (nF gf)))] H := hP
      have hD : va_D A [(mo, .inr (7, mFs 0 a1 a2 a3 (nI lt) (nI lb) (nI lz) 1 a4 a5 a6 nu bk se op fa a7 a8 a9 a10 a11 (nI rn) kh kl sh sl a12 a13 a14 a15 a16 a17 a18 a19 a20)), (a1, .inl (cI, 98816, .inl (nF gt))), (a4, .inl (cI, 32, .inl f_11)), (a7, .inl (cI, 256, .inl (nF gS))), (a8, .inl (cI, 240, .inl (nF gr))), (a11, .inl (cI, 4, .inl (nF gf)))] := hD
      obtain rfl : f_11 = nF (updN (iter (nCpy gt) i gk) i (gt i)) := ef_11.trans (nF_set _ _ _)
      have hP : va_P D vwCl [(mo, .inr (7, mFs 0 a1 a2 a3 (nI lt) (nI lb) (nI lz) 1 a4 a5 a6 nu bk se op fa a7 a8 a9 a10 a11 (nI rn) kh kl sh sl a12 a13 a14 a15 a16 a17 a18 a19 a20)), (a1, .inl (cI, 98816, .inl (nF gt))), (a4, .inl (cI, 32, .inl (nF (updN (iter (nCpy gt) i gk) i (gt i))))), (a7, .inl (cI, 256, .inl (nF gS))), (a8, .inl (cI, 240, .inl (nF gr))), (a11, .inl (cI, 4, .inl (nF gf)))] H := hP
      have hD : va_D A [(mo, .inr (7, mFs 0 a1 a2 a3 (nI lt) (nI lb) (nI lz) 1 a4 a5 a6 nu bk se op fa a7 a8 a9 a10 a11 (nI rn) kh kl sh sl a12 a13 a14 a15 a16 a17 a18 a19 a20)), (a1, .inl (cI, 98816, .inl (nF gt))), (a4, .inl (cI, 32, .inl (nF (updN (iter (nCpy gt) i gk) i (gt i))))), (a7, .inl (cI, 256, .inl (nF gS))), (a8, .inl (cI, 240, .inl (nF gr))), (a11, .inl (cI, 4, .inl (nF gf)))] := hD
      refine lv_iinc (v := nI (i + 1)) (lv' := [(2, .int (nI (i + 1))), (0, .ref mo), (1, .int 1)]) hx hb d_M_use_75 hl (k := 0) rfl (sb_inc (a := i) (b := i + 1) (d := 1) rfl (by decide) (by omega)) (by decide) rfl (fun ls hl => ?_)
      refine lv_goto (tgt := 55) hx hb d_M_use_78 (by decide) ?_
      rw [show nF (updN (iter (nCpy gt) i gk) i (gt i)) = nF (iter (nCpy gt) (i + 1) gk) from rfl] at hP hD
      exact ih1 (i + 1) (by omega) _ _ ls (hP.sub [0, 1, 2, 3, 4, 5] rfl) (hD.sub [0, 1, 2, 3, 4, 5] (by decide) rfl) hS (lv_sub hl [0, 1, 2] rfl)
  exact lp1 32 0 (by omega) _ _ ls (hP.sub [0, 1, 2, 3, 4, 5] rfl) (hD.sub [0, 1, 2, 3, 4, 5] (by decide) rfl) hS (lv_sub hl [0, 1, 2] rfl)

def rm_M_use2 : Room := { frames := 0, cells := 0, slots := 0, locals := 0 }
set_option maxHeartbeats 4000000 in
set_option maxRecDepth 100000 in
theorem c_M_use2 (l : Launch) (D : va_G) (cI cL cB : ClassId) (tS tF : Nat) (mo : Nat) (a1 : Nat) (a2 : Nat) (a3 : Nat) (a4 : Nat) (a5 : Nat) (a6 : Nat) (a7 : Nat) (a8 : Nat) (a9 : Nat) (a10 : Nat) (a11 : Nat) (a12 : Nat) (a13 : Nat) (a14 : Nat) (a15 : Nat) (a16 : Nat) (a17 : Nat) (a18 : Nat) (a19 : Nat) (a20 : Nat) (thr : Int32) (ci : Int32) (bk : Int32) (se : Int32) (op : Int32) (fa : Int32) (lt : Nat) (lb : Nat) (lz : Nat) (rn : Nat) (nu : Int64) (kh : Int64) (kl : Int64) (sh : Int64) (sl : Int64) (gt : Nat → Nat) (gk : Nat → Nat) (sz : Nat) (hlt : lt = 32) : Met l y_M_use (sbw y_M_use b_M_use 3 none) rm_M_use2 (sbPc D cI cL cB tS tF [.ref mo, .int 2] sz [(mo, .inr (7, mFs thr a1 a2 a3 (nI lt) (nI lb) (nI lz) ci a4 a5 a6 nu bk se op fa a7 a8 a9 a10 a11 (nI rn) kh kl sh sl a12 a13 a14 a15 a16 a17 a18 a19 a20)), (a1, .inl (cI, 98816, .inl (nF gt))), (a4, .inl (cI, 32, .inl (nF gk)))]) (sbQv D (fun (_ : Unit) => True) (fun (_ : Unit) => [(mo, .inr (7, mFs 0 a1 a2 a3 (nI 0) (nI lb) (nI lz) 2 a4 a5 a6 0 bk se op fa a7 a8 a9 a10 a11 (nI rn) kh kl sh sl a12 a13 a14 a15 a16 a17 a18 a19 a20)), (a1, .inl (cI, 98816, .inl (nF gt))), (a4, .inl (cI, 32, .inl (nF (iter (nCpy gt) 32 gk))))]) (va_A [(mo, .inr (7, mFs thr a1 a2 a3 (nI lt) (nI lb) (nI lz) ci a4 a5 a6 nu bk se op fa a7 a8 a9 a10 a11 (nI rn) kh kl sh sl a12 a13 a14 a15 a16 a17 a18 a19 a20)), (a1, .inl (cI, 98816, .inl (nF gt))), (a4, .inl (cI, 32, .inl (nF gk)))] sz)) 0 0 (va_A [(mo, .inr (7, mFs thr a1 a2 a3 (nI lt) (nI lb) (nI lz) ci a4 a5 a6 nu bk se op fa a7 a8 a9 a10 a11 (nI rn) kh kl sh sl a12 a13 a14 a15 a16 a17 a18 a19 a20)), (a1, .inl (cI, 98816, .inl (nF gt))), (a4, .inl (cI, 32, .inl (nF gk)))] sz) := by
  refine sb_ofW (y := y_M_use) (maxL := 3) (av := [.ref mo, .int 2]) (Qc := fun A => (sbQv D (fun (_ : Unit) => True) (fun (_ : Unit) => [(mo, .inr (7, mFs 0 a1 a2 a3 (nI 0) (nI lb) (nI lz) 2 a4 a5 a6 0 bk se op fa a7 a8 a9 a10 a11 (nI rn) kh kl sh sl a12 a13 a14 a15 a16 a17 a18 a19 a20)), (a1, .inl (cI, 98816, .inl (nF gt))), (a4, .inl (cI, 32, .inl (nF (iter (nCpy gt) 32 gk))))]) A)) (by decide) (Nat.le_of_ble_eq_true rfl) ?_
  intro p e s m args below meth c A ls hx hb hr hml hts hown hlocks hin hsz hP hG hD hA hS hl
  have hl : lv_has ls 3 [(0, .ref mo), (1, .int 2)] := hl
  refine lv_aload_n hx hb d_M_use_0 rfl (lv_at hl 0 rfl) ?_
  refine lv_iload_n hx hb d_M_use_1 rfl (lv_at hl 1 rfl) ?_
  refine lv_if_lt (tgt := 10) hx hb d_M_use_2 (by decide) (fun c_1 => absurd c_1 (sb_ltF (a := 2) (b := 0) rfl rfl (by omega) (by omega) (by omega))) (fun c_1 => ?_)
  refine lv_iload_n hx hb d_M_use_5 rfl (lv_at hl 1 rfl) ?_
  refine lv_iconst (v := 2) hx hb d_M_use_6 (by decide) ?_
  refine lv_icmp_le (tgt := 14) hx hb d_M_use_7 (by decide) (fun c_2 => ?_) (fun c_2 => absurd (sb_leT (a := 2) (b := 2) rfl rfl (by omega) (by omega) (by omega)) c_2)
  refine lv_aload_n hx hb d_M_use_14 rfl (lv_at hl 0 rfl) ?_
  refine va_get (D := D) (ci := 7) (v := .int (nI lt)) (C := R_M) (T := F_M) (N := 35) hx hb hts in_M hown hG.1 hP 0 rfl rfl 4 (by decide) (hts _ k_701) (fun _ h9 => h9) rfl d_M_use_15 ?_
  refine lv_iload_n hx hb d_M_use_18 rfl (lv_at hl 1 rfl) ?_
  refine lv_if_ne (tgt := 27) hx hb d_M_use_19 (by decide) (fun c_3 => ?_) (fun c_3 => absurd c_3 (sb_neT (a := 2) (b := 0) rfl rfl (by omega) (by omega) (by omega)))
  refine lv_bipush (v := 32) hx hb d_M_use_27 (by decide) ?_
  refine lv_icmp_eq (tgt := 36) hx hb d_M_use_29 (by decide) (fun c_4 => ?_) (fun c_4 => absurd (sb_eqT (a := lt) (b := 32) rfl rfl (by omega) (by omega) (by omega)) c_4)
  refine lv_iconst (v := 0) hx hb d_M_use_36 (by decide) ?_
  refine va_put (D := D) (ci := 7) (v := .int 0) (ty := .int) (C := R_M) (T := F_M) (N := 35) hx hb hts in_M tq_M tq_M_ok nq_M hown hG.1 hP hD hS 0 rfl rfl 0 (by decide) (hts _ k_697) (fun _ h9 => h9) rfl (by decide +kernel) rfl rfl (Nat.le_of_ble_eq_true rfl) d_M_use_37 (fun H locs hP hD hS => ?_)
  have hP : va_P D vwCl [(mo, .inr (7, mFs 0 a1 a2 a3 (nI lt) (nI lb) (nI lz) ci a4 a5 a6 nu bk se op fa a7 a8 a9 a10 a11 (nI rn) kh kl sh sl a12 a13 a14 a15 a16 a17 a18 a19 a20)), (a1, .inl (cI, 98816, .inl (nF gt))), (a4, .inl (cI, 32, .inl (nF gk)))] H := hP
  have hD : va_D A [(mo, .inr (7, mFs 0 a1 a2 a3 (nI lt) (nI lb) (nI lz) ci a4 a5 a6 nu bk se op fa a7 a8 a9 a10 a11 (nI rn) kh kl sh sl a12 a13 a14 a15 a16 a17 a18 a19 a20)), (a1, .inl (cI, 98816, .inl (nF gt))), (a4, .inl (cI, 32, .inl (nF gk)))] := hD
  refine lv_aload_n hx hb d_M_use_40 rfl (lv_at hl 0 rfl) ?_
  refine va_get (D := D) (ci := 7) (v := .int 0) (C := R_M) (T := F_M) (N := 35) hx hb hts in_M hown hG.1 hP 0 rfl rfl 0 (by decide) (hts _ k_697) (fun _ h9 => h9) rfl d_M_use_41 ?_
  refine lv_if_le (tgt := 48) hx hb d_M_use_44 (by decide) (fun c_5 => ?_) (fun c_5 => absurd (sb_leT (a := 0) (b := 0) rfl rfl (by omega) (by omega) (by omega)) c_5)
  refine lv_aload_n hx hb d_M_use_48 rfl (lv_at hl 0 rfl) ?_
  refine lv_iload_n hx hb d_M_use_49 rfl (lv_at hl 1 rfl) ?_
  refine va_put (D := D) (ci := 7) (v := .int 2) (ty := .int) (C := R_M) (T := F_M) (N := 35) hx hb hts in_M tq_M tq_M_ok nq_M hown hG.1 hP hD hS 0 rfl rfl 7 (by decide) (hts _ k_704) (fun _ h9 => h9) rfl (by decide +kernel) rfl rfl (Nat.le_of_ble_eq_true rfl) d_M_use_50 (fun H locs hP hD hS => ?_)
  have hP : va_P D vwCl [(mo, .inr (7, mFs 0 a1 a2 a3 (nI lt) (nI lb) (nI lz) 2 a4 a5 a6 nu bk se op fa a7 a8 a9 a10 a11 (nI rn) kh kl sh sl a12 a13 a14 a15 a16 a17 a18 a19 a20)), (a1, .inl (cI, 98816, .inl (nF gt))), (a4, .inl (cI, 32, .inl (nF gk)))] H := hP
  have hD : va_D A [(mo, .inr (7, mFs 0 a1 a2 a3 (nI lt) (nI lb) (nI lz) 2 a4 a5 a6 nu bk se op fa a7 a8 a9 a10 a11 (nI rn) kh kl sh sl a12 a13 a14 a15 a16 a17 a18 a19 a20)), (a1, .inl (cI, 98816, .inl (nF gt))), (a4, .inl (cI, 32, .inl (nF gk)))] := hD
  refine lv_iconst (v := 0) hx hb d_M_use_53 (by decide) ?_
  refine lv_istore_n (lv' := [(2, .int 0), (0, .ref mo), (1, .int 2)]) hx hb d_M_use_54 rfl hl (by decide) rfl (fun ls hl => ?_)
  have lp1 : ∀ (d1 i : Nat), i + d1 = 32 → ∀ (H : Heap) (locs : List Loc) (ls : Array Slot), va_P D vwCl [(mo, .inr (7, mFs 0 a1 a2 a3 (nI lt) (nI lb) (nI lz) 2 a4 a5 a6 nu bk se op fa a7 a8 a9 a10 a11 (nI rn) kh kl sh sl a12 a13 a14 a15 a16 a17 a18 a19 a20)), (a1, .inl (cI, 98816, .inl (nF gt))), (a4, .inl (cI, 32, .inl (nF (iter (nCpy gt) i gk))))] H → va_D A [(mo, .inr (7, mFs 0 a1 a2 a3 (nI lt) (nI lb) (nI lz) 2 a4 a5 a6 nu bk se op fa a7 a8 a9 a10 a11 (nI rn) kh kl sh sl a12 a13 a14 a15 a16 a17 a18 a19 a20)), (a1, .inl (cI, 98816, .inl (nF gt))), (a4, .inl (cI, 32, .inl (nF (iter (nCpy gt) i gk))))] → va_S A s.heap H locs → lv_has ls 3 [(2, .int (nI i)), (0, .ref mo), (1, .int 2)] → W p l e rm_M_use2 s m args below meth c H locs 0 0 (MQ below (sbQv D (fun (_ : Unit) => True) (fun (_ : Unit) => [(mo, .inr (7, mFs 0 a1 a2 a3 (nI 0) (nI lb) (nI lz) 2 a4 a5 a6 0 bk se op fa a7 a8 a9 a10 a11 (nI rn) kh kl sh sl a12 a13 a14 a15 a16 a17 a18 a19 a20)), (a1, .inl (cI, 98816, .inl (nF gt))), (a4, .inl (cI, 32, .inl (nF (iter (nCpy gt) 32 gk))))]) A) args s 0 0 A) (F0 m 55 ls []) := by
    intro d1
    induction d1 with
    | zero =>
      intro i hi1 H locs ls hP hD hS hl
      obtain rfl : 32 = i := by omega
      refine lv_iload_n hx hb d_M_use_55 rfl (lv_at hl 0 rfl) ?_
      refine lv_aload_n hx hb d_M_use_56 rfl (lv_at hl 1 rfl) ?_
      refine va_get (D := D) (ci := 7) (v := .int (nI lt)) (C := R_M) (T := F_M) (N := 35) hx hb hts in_M hown hG.1 hP 0 rfl rfl 4 (by decide) (hts _ k_701) (fun _ h9 => h9) rfl d_M_use_57 ?_
      refine lv_icmp_ge (tgt := 81) hx hb d_M_use_60 (by decide) (fun c_6 => ?_) (fun c_6 => absurd (sb_geT (a := 32) (b := lt) rfl rfl (by omega) (by omega) (by omega)) c_6)
      refine lv_iload_n hx hb d_M_use_81 rfl (lv_at hl 2 rfl) ?_
      refine lv_iconst (v := 2) hx hb d_M_use_82 (by decide) ?_
      refine lv_icmp_ge (tgt := 106) hx hb d_M_use_83 (by decide) (fun c_7 => ?_) (fun c_7 => absurd (sb_geT (a := 2) (b := 2) rfl rfl (by omega) (by omega) (by omega)) c_7)
      refine lv_aload_n hx hb d_M_use_106 rfl (lv_at hl 1 rfl) ?_
      refine lv_iconst (v := 0) hx hb d_M_use_107 (by decide) ?_
      refine va_put (D := D) (ci := 7) (v := .int 0) (ty := .int) (C := R_M) (T := F_M) (N := 35) hx hb hts in_M tq_M tq_M_ok nq_M hown hG.1 hP hD hS 0 rfl rfl 4 (by decide) (hts _ k_701) (fun _ h9 => h9) rfl (by decide +kernel) rfl rfl (Nat.le_of_ble_eq_true rfl) d_M_use_108 (fun H locs hP hD hS => ?_)
      have hP : va_P D vwCl [(mo, .inr (7, mFs 0 a1 a2 a3 0 (nI lb) (nI lz) 2 a4 a5 a6 nu bk se op fa a7 a8 a9 a10 a11 (nI rn) kh kl sh sl a12 a13 a14 a15 a16 a17 a18 a19 a20)), (a1, .inl (cI, 98816, .inl (nF gt))), (a4, .inl (cI, 32, .inl (nF (iter (nCpy gt) 32 gk))))] H := hP
      have hD : va_D A [(mo, .inr (7, mFs 0 a1 a2 a3 0 (nI lb) (nI lz) 2 a4 a5 a6 nu bk se op fa a7 a8 a9 a10 a11 (nI rn) kh kl sh sl a12 a13 a14 a15 a16 a17 a18 a19 a20)), (a1, .inl (cI, 98816, .inl (nF gt))), (a4, .inl (cI, 32, .inl (nF (iter (nCpy gt) 32 gk))))] := hD
      refine lv_aload_n hx hb d_M_use_111 rfl (lv_at hl 1 rfl) ?_
      refine lv_lconst (v := 0) hx hb d_M_use_112 (by decide) ?_
      refine va_put (D := D) (ci := 7) (v := .long 0) (ty := .long) (C := R_M) (T := F_M) (N := 35) hx hb hts in_M tq_M tq_M_ok nq_M hown hG.1 hP hD hS 0 rfl rfl 11 (by decide) (hts _ k_708) (fun _ h9 => h9) rfl (by decide +kernel) rfl rfl (Nat.le_of_ble_eq_true rfl) d_M_use_113 (fun H locs hP hD hS => ?_)
      have hP : va_P D vwCl [(mo, .inr (7, mFs 0 a1 a2 a3 0 (nI lb) (nI lz) 2 a4 a5 a6 0 bk se op fa a7 a8 a9 a10 a11 (nI rn) kh kl sh sl a12 a13 a14 a15 a16 a17 a18 a19 a20)), (a1, .inl (cI, 98816, .inl (nF gt))), (a4, .inl (cI, 32, .inl (nF (iter (nCpy gt) 32 gk))))] H := hP
      have hD : va_D A [(mo, .inr (7, mFs 0 a1 a2 a3 0 (nI lb) (nI lz) 2 a4 a5 a6 0 bk se op fa a7 a8 a9 a10 a11 (nI rn) kh kl sh sl a12 a13 a14 a15 a16 a17 a18 a19 a20)), (a1, .inl (cI, 98816, .inl (nF gt))), (a4, .inl (cI, 32, .inl (nF (iter (nCpy gt) 32 gk))))] := hD
      have hP9 := hP.sub (ws' := [(mo, .inr (7, mFs 0 a1 a2 a3 0 (nI lb) (nI lz) 2 a4 a5 a6 0 bk se op fa a7 a8 a9 a10 a11 (nI rn) kh kl sh sl a12 a13 a14 a15 a16 a17 a18 a19 a20)), (a1, .inl (cI, 98816, .inl (nF gt))), (a4, .inl (cI, 32, .inl (nF (iter (nCpy gt) 32 gk))))]) [0, 1, 2] rfl
      have hD9 := hD.sub (ws' := [(mo, .inr (7, mFs 0 a1 a2 a3 0 (nI lb) (nI lz) 2 a4 a5 a6 0 bk se op fa a7 a8 a9 a10 a11 (nI rn) kh kl sh sl a12 a13 a14 a15 a16 a17 a18 a19 a20)), (a1, .inl (cI, 98816, .inl (nF gt))), (a4, .inl (cI, 32, .inl (nF (iter (nCpy gt) 32 gk))))]) [0, 1, 2] (by decide) rfl
      exact W.vret hx hb hr (fun t ht hW => ⟨⟨(), rfl, trivial, by rw [ht]; exact hP9, hD9⟩, hS.F ht⟩) hS.2.2 d_M_use_116
    | succ d1 ih1 =>
      intro i hi1 H locs ls hP hD hS hl
      refine lv_iload_n hx hb d_M_use_55 rfl (lv_at hl 0 rfl) ?_
      refine lv_aload_n hx hb d_M_use_56 rfl (lv_at hl 1 rfl) ?_
      refine va_get (D := D) (ci := 7) (v := .int (nI lt)) (C := R_M) (T := F_M) (N := 35) hx hb hts in_M hown hG.1 hP 0 rfl rfl 4 (by decide) (hts _ k_701) (fun _ h9 => h9) rfl d_M_use_57 ?_
      refine lv_icmp_ge (tgt := 81) hx hb d_M_use_60 (by decide) (fun c_8 => absurd c_8 (sb_geF (a := i) (b := lt) rfl rfl (by omega) (by omega) (by omega))) (fun c_8 => ?_)
      refine lv_aload_n hx hb d_M_use_63 rfl (lv_at hl 1 rfl) ?_
      refine va_get (D := D) (ci := 7) (v := .ref a4) (C := R_M) (T := F_M) (N := 35) hx hb hts in_M hown hG.1 hP 0 rfl rfl 8 (by decide) (hts _ k_705) (fun _ h9 => h9) rfl d_M_use_64 ?_
      refine lv_iload_n hx hb d_M_use_67 rfl (lv_at hl 0 rfl) ?_
      refine lv_aload_n hx hb d_M_use_68 rfl (lv_at hl 1 rfl) ?_
      refine va_get (D := D) (ci := 7) (v := .ref a1) (C := R_M) (T := F_M) (N := 35) hx hb hts in_M hown hG.1 hP 0 rfl rfl 1 (by decide) (hts _ k_698) (fun _ h9 => h9) rfl d_M_use_69 ?_
      refine lv_iload_n hx hb d_M_use_72 rfl (lv_at hl 0 rfl) ?_
      refine sb_ild hx hb hG.1 hP 1 rfl i rfl (by omega) (by omega) d_M_use_73 ?_
      refine sb_topn (gt i) rfl ?_
      refine sb_ist hx hb hG.1 hP hD hS 2 rfl i rfl (by omega) (by omega) d_M_use_74 (fun f_9 H locs ef_9 hP hD hS => ?_)
      have hP : va_P D vwCl [(mo, .inr (7, mFs 0 a1 a2 a3 (nI lt) (nI lb) (nI lz) 2 a4 a5 a6 nu bk se op fa a7 a8 a9 a10 a11 (nI rn) kh kl sh sl a12 a13 a14 a15 a16 a17 a18 a19 a20)), (a1, .inl (cI, 98816, .inl (nF gt))), (a4, .inl (cI, 32, .inl f_9))] H := hP
      have hD : va_D A [(mo, .inr (7, mFs 0 a1 a2 a3 (nI lt) (nI lb) (nI lz) 2 a4 a5 a6 nu bk se op fa a7 a8 a9 a10 a11 (nI rn) kh kl sh sl a12 a13 a14 a15 a16 a17 a18 a19 a20)), (a1, .inl (cI, 98816, .inl (nF gt))), (a4, .inl (cI, 32, .inl f_9))] := hD
      obtain rfl : f_9 = nF (updN (iter (nCpy gt) i gk) i (gt i)) := ef_9.trans (nF_set _ _ _)
      have hP : va_P D vwCl [(mo, .inr (7, mFs 0 a1 a2 a3 (nI lt) (nI lb) (nI lz) 2 a4 a5 a6 nu bk se op fa a7 a8 a9 a10 a11 (nI rn) kh kl sh sl a12 a13 a14 a15 a16 a17 a18 a19 a20)), (a1, .inl (cI, 98816, .inl (nF gt))), (a4, .inl (cI, 32, .inl (nF (updN (iter (nCpy gt) i gk) i (gt i)))))] H := hP
      have hD : va_D A [(mo, .inr (7, mFs 0 a1 a2 a3 (nI lt) (nI lb) (nI lz) 2 a4 a5 a6 nu bk se op fa a7 a8 a9 a10 a11 (nI rn) kh kl sh sl a12 a13 a14 a15 a16 a17 a18 a19 a20)), (a1, .inl (cI, 98816, .inl (nF gt))), (a4, .inl (cI, 32, .inl (nF (updN (iter (nCpy gt) i gk) i (gt i)))))] := hD
      refine lv_iinc (v := nI (i + 1)) (lv' := [(2, .int (nI (i + 1))), (0, .ref mo), (1, .int 2)]) hx hb d_M_use_75 hl (k := 0) rfl (sb_inc (a := i) (b := i + 1) (d := 1) rfl (by decide) (by omega)) (by decide) rfl (fun ls hl => ?_)
      refine lv_goto (tgt := 55) hx hb d_M_use_78 (by decide) ?_
      rw [show nF (updN (iter (nCpy gt) i gk) i (gt i)) = nF (iter (nCpy gt) (i + 1) gk) from rfl] at hP hD
      exact ih1 (i + 1) (by omega) _ _ ls (hP.sub [0, 1, 2] rfl) (hD.sub [0, 1, 2] (by decide) rfl) hS (lv_sub hl [0, 1, 2] rfl)
  exact lp1 32 0 (by omega) _ _ ls (hP.sub [0, 1, 2] rfl) (hD.sub [0, 1, 2] (by decide) rfl) hS (lv_sub hl [0, 1, 2] rfl)

theorem d_M_iv_0 : decode b_M_iv 0 = .ok (.aload_n 0, 1) := by decide +kernel
theorem d_M_iv_1 : decode b_M_iv 1 = .ok (.aload_n 0, 1) := by decide +kernel
theorem d_M_iv_2 : decode b_M_iv 2 = .ok (.getfield 162, 3) := by decide +kernel
theorem d_M_iv_5 : decode b_M_iv 5 = .ok (.bipush 12, 2) := by decide +kernel
theorem d_M_iv_7 : decode b_M_iv 7 = .ok (.if_icmp .ne 7, 3) := by decide +kernel
theorem d_M_iv_10 : decode b_M_iv 10 = .ok (.iconst 0, 1) := by decide +kernel
theorem d_M_iv_11 : decode b_M_iv 11 = .ok (.goto 4, 3) := by decide +kernel
theorem d_M_iv_14 : decode b_M_iv 14 = .ok (.iconst 1, 1) := by decide +kernel
theorem d_M_iv_15 : decode b_M_iv 15 = .ok (.putfield 79, 3) := by decide +kernel
theorem d_M_iv_18 : decode b_M_iv 18 = .ok (.aload_n 0, 1) := by decide +kernel
theorem d_M_iv_19 : decode b_M_iv 19 = .ok (.getfield 79, 3) := by decide +kernel
theorem d_M_iv_22 : decode b_M_iv 22 = .ok (.ifCond .le 4, 3) := by decide +kernel
theorem d_M_iv_25 : decode b_M_iv 25 = .ok (.return_, 1) := by decide +kernel
theorem d_M_iv_26 : decode b_M_iv 26 = .ok (.iconst 0, 1) := by decide +kernel
theorem d_M_iv_27 : decode b_M_iv 27 = .ok (.istore_n 1, 1) := by decide +kernel
theorem d_M_iv_28 : decode b_M_iv 28 = .ok (.iload_n 1, 1) := by decide +kernel
theorem d_M_iv_29 : decode b_M_iv 29 = .ok (.bipush 12, 2) := by decide +kernel
theorem d_M_iv_31 : decode b_M_iv 31 = .ok (.if_icmp .ge 21, 3) := by decide +kernel
theorem d_M_iv_34 : decode b_M_iv 34 = .ok (.aload_n 0, 1) := by decide +kernel
theorem d_M_iv_35 : decode b_M_iv 35 = .ok (.getfield 27, 3) := by decide +kernel
theorem d_M_iv_38 : decode b_M_iv 38 = .ok (.iload_n 1, 1) := by decide +kernel
theorem d_M_iv_39 : decode b_M_iv 39 = .ok (.aload_n 0, 1) := by decide +kernel
theorem d_M_iv_40 : decode b_M_iv 40 = .ok (.getfield 8, 3) := by decide +kernel
theorem d_M_iv_43 : decode b_M_iv 43 = .ok (.iload_n 1, 1) := by decide +kernel
theorem d_M_iv_44 : decode b_M_iv 44 = .ok (.iaload, 1) := by decide +kernel
theorem d_M_iv_45 : decode b_M_iv 45 = .ok (.iastore, 1) := by decide +kernel
theorem d_M_iv_46 : decode b_M_iv 46 = .ok (.iinc 1 1, 3) := by decide +kernel
theorem d_M_iv_49 : decode b_M_iv 49 = .ok (.goto (-21), 3) := by decide +kernel
theorem d_M_iv_52 : decode b_M_iv 52 = .ok (.aload_n 0, 1) := by decide +kernel
theorem d_M_iv_53 : decode b_M_iv 53 = .ok (.iconst 0, 1) := by decide +kernel
theorem d_M_iv_54 : decode b_M_iv 54 = .ok (.putfield 162, 3) := by decide +kernel
theorem d_M_iv_57 : decode b_M_iv 57 = .ok (.aload_n 0, 1) := by decide +kernel
theorem d_M_iv_58 : decode b_M_iv 58 = .ok (.lconst 0, 1) := by decide +kernel
theorem d_M_iv_59 : decode b_M_iv 59 = .ok (.putfield 147, 3) := by decide +kernel
theorem d_M_iv_62 : decode b_M_iv 62 = .ok (.return_, 1) := by decide +kernel

def rm_M_ivY : Room := { frames := 0, cells := 0, slots := 0, locals := 0 }
set_option maxHeartbeats 4000000 in
set_option maxRecDepth 100000 in
theorem c_M_ivY (l : Launch) (D : va_G) (cI cL cB : ClassId) (tS tF : Nat) (mo : Nat) (a1 : Nat) (a2 : Nat) (a3 : Nat) (a4 : Nat) (a5 : Nat) (a6 : Nat) (a7 : Nat) (a8 : Nat) (a9 : Nat) (a10 : Nat) (a11 : Nat) (a12 : Nat) (a13 : Nat) (a14 : Nat) (a15 : Nat) (a16 : Nat) (a17 : Nat) (a18 : Nat) (a19 : Nat) (a20 : Nat) (thr : Int32) (ci : Int32) (bk : Int32) (se : Int32) (op : Int32) (fa : Int32) (lt : Nat) (lb : Nat) (lz : Nat) (rn : Nat) (nu : Int64) (kh : Int64) (kl : Int64) (sh : Int64) (sl : Int64) (gt : Nat → Nat) (gi : Nat → Nat) (sz : Nat) (hlt : lt = 12) : Met l y_M_iv (sbw y_M_iv b_M_iv 2 none) rm_M_ivY (sbPc D cI cL cB tS tF [.ref mo] sz [(mo, .inr (7, mFs thr a1 a2 a3 (nI lt) (nI lb) (nI lz) ci a4 a5 a6 nu bk se op fa a7 a8 a9 a10 a11 (nI rn) kh kl sh sl a12 a13 a14 a15 a16 a17 a18 a19 a20)), (a1, .inl (cI, 98816, .inl (nF gt))), (a5, .inl (cI, 12, .inl (nF gi)))]) (sbQv D (fun (_ : Unit) => True) (fun (_ : Unit) => [(mo, .inr (7, mFs 0 a1 a2 a3 (nI 0) (nI lb) (nI lz) ci a4 a5 a6 0 bk se op fa a7 a8 a9 a10 a11 (nI rn) kh kl sh sl a12 a13 a14 a15 a16 a17 a18 a19 a20)), (a1, .inl (cI, 98816, .inl (nF gt))), (a5, .inl (cI, 12, .inl (nF (iter (nCpy gt) 12 gi))))]) (va_A [(mo, .inr (7, mFs thr a1 a2 a3 (nI lt) (nI lb) (nI lz) ci a4 a5 a6 nu bk se op fa a7 a8 a9 a10 a11 (nI rn) kh kl sh sl a12 a13 a14 a15 a16 a17 a18 a19 a20)), (a1, .inl (cI, 98816, .inl (nF gt))), (a5, .inl (cI, 12, .inl (nF gi)))] sz)) 0 0 (va_A [(mo, .inr (7, mFs thr a1 a2 a3 (nI lt) (nI lb) (nI lz) ci a4 a5 a6 nu bk se op fa a7 a8 a9 a10 a11 (nI rn) kh kl sh sl a12 a13 a14 a15 a16 a17 a18 a19 a20)), (a1, .inl (cI, 98816, .inl (nF gt))), (a5, .inl (cI, 12, .inl (nF gi)))] sz) := by
  refine sb_ofW (y := y_M_iv) (maxL := 2) (av := [.ref mo]) (Qc := fun A => (sbQv D (fun (_ : Unit) => True) (fun (_ : Unit) => [(mo, .inr (7, mFs 0 a1 a2 a3 (nI 0) (nI lb) (nI lz) ci a4 a5 a6 0 bk se op fa a7 a8 a9 a10 a11 (nI rn) kh kl sh sl a12 a13 a14 a15 a16 a17 a18 a19 a20)), (a1, .inl (cI, 98816, .inl (nF gt))), (a5, .inl (cI, 12, .inl (nF (iter (nCpy gt) 12 gi))))]) A)) (by decide) (Nat.le_of_ble_eq_true rfl) ?_
  intro p e s m args below meth c A ls hx hb hr hml hts hown hlocks hin hsz hP hG hD hA hS hl
  have hl : lv_has ls 2 [(0, .ref mo)] := hl
  refine lv_aload_n hx hb d_M_iv_0 rfl (lv_at hl 0 rfl) ?_
  refine lv_aload_n hx hb d_M_iv_1 rfl (lv_at hl 0 rfl) ?_
  refine va_get (D := D) (ci := 7) (v := .int (nI lt)) (C := R_M) (T := F_M) (N := 35) hx hb hts in_M hown hG.1 hP 0 rfl rfl 4 (by decide) (hts _ k_701) (fun _ h9 => h9) rfl d_M_iv_2 ?_
  refine lv_bipush (v := 12) hx hb d_M_iv_5 (by decide) ?_
  refine lv_icmp_ne (tgt := 14) hx hb d_M_iv_7 (by decide) (fun c_1 => absurd (sb_neF (a := lt) (b := 12) rfl rfl (by omega) (by omega) (by omega)) c_1) (fun c_1 => ?_)
  refine lv_iconst (v := 0) hx hb d_M_iv_10 (by decide) ?_
  refine lv_goto (tgt := 15) hx hb d_M_iv_11 (by decide) ?_
  refine va_put (D := D) (ci := 7) (v := .int 0) (ty := .int) (C := R_M) (T := F_M) (N := 35) hx hb hts in_M tq_M tq_M_ok nq_M hown hG.1 hP hD hS 0 rfl rfl 0 (by decide) (hts _ k_697) (fun _ h9 => h9) rfl (by decide +kernel) rfl rfl (Nat.le_of_ble_eq_true rfl) d_M_iv_15 (fun H locs hP hD hS => ?_)
  have hP : va_P D vwCl [(mo, .inr (7, mFs 0 a1 a2 a3 (nI lt) (nI lb) (nI lz) ci a4 a5 a6 nu bk se op fa a7 a8 a9 a10 a11 (nI rn) kh kl sh sl a12 a13 a14 a15 a16 a17 a18 a19 a20)), (a1, .inl (cI, 98816, .inl (nF gt))), (a5, .inl (cI, 12, .inl (nF gi)))] H := hP
  have hD : va_D A [(mo, .inr (7, mFs 0 a1 a2 a3 (nI lt) (nI lb) (nI lz) ci a4 a5 a6 nu bk se op fa a7 a8 a9 a10 a11 (nI rn) kh kl sh sl a12 a13 a14 a15 a16 a17 a18 a19 a20)), (a1, .inl (cI, 98816, .inl (nF gt))), (a5, .inl (cI, 12, .inl (nF gi)))] := hD
  refine lv_aload_n hx hb d_M_iv_18 rfl (lv_at hl 0 rfl) ?_
  refine va_get (D := D) (ci := 7) (v := .int 0) (C := R_M) (T := F_M) (N := 35) hx hb hts in_M hown hG.1 hP 0 rfl rfl 0 (by decide) (hts _ k_697) (fun _ h9 => h9) rfl d_M_iv_19 ?_
  refine lv_if_le (tgt := 26) hx hb d_M_iv_22 (by decide) (fun c_2 => ?_) (fun c_2 => absurd (sb_leT (a := 0) (b := 0) rfl rfl (by omega) (by omega) (by omega)) c_2)
  refine lv_iconst (v := 0) hx hb d_M_iv_26 (by decide) ?_
  refine lv_istore_n (lv' := [(1, .int 0), (0, .ref mo)]) hx hb d_M_iv_27 rfl hl (by decide) rfl (fun ls hl => ?_)
  have lp1 : ∀ (d1 i : Nat), i + d1 = 12 → ∀ (H : Heap) (locs : List Loc) (ls : Array Slot), va_P D vwCl [(mo, .inr (7, mFs 0 a1 a2 a3 (nI lt) (nI lb) (nI lz) ci a4 a5 a6 nu bk se op fa a7 a8 a9 a10 a11 (nI rn) kh kl sh sl a12 a13 a14 a15 a16 a17 a18 a19 a20)), (a1, .inl (cI, 98816, .inl (nF gt))), (a5, .inl (cI, 12, .inl (nF (iter (nCpy gt) i gi))))] H → va_D A [(mo, .inr (7, mFs 0 a1 a2 a3 (nI lt) (nI lb) (nI lz) ci a4 a5 a6 nu bk se op fa a7 a8 a9 a10 a11 (nI rn) kh kl sh sl a12 a13 a14 a15 a16 a17 a18 a19 a20)), (a1, .inl (cI, 98816, .inl (nF gt))), (a5, .inl (cI, 12, .inl (nF (iter (nCpy gt) i gi))))] → va_S A s.heap H locs → lv_has ls 2 [(1, .int (nI i)), (0, .ref mo)] → W p l e rm_M_ivY s m args below meth c H locs 0 0 (MQ below (sbQv D (fun (_ : Unit) => True) (fun (_ : Unit) => [(mo, .inr (7, mFs 0 a1 a2 a3 (nI 0) (nI lb) (nI lz) ci a4 a5 a6 0 bk se op fa a7 a8 a9 a10 a11 (nI rn) kh kl sh sl a12 a13 a14 a15 a16 a17 a18 a19 a20)), (a1, .inl (cI, 98816, .inl (nF gt))), (a5, .inl (cI, 12, .inl (nF (iter (nCpy gt) 12 gi))))]) A) args s 0 0 A) (F0 m 28 ls []) := by
    intro d1
    induction d1 with
    | zero =>
      intro i hi1 H locs ls hP hD hS hl
      obtain rfl : 12 = i := by omega
      refine lv_iload_n hx hb d_M_iv_28 rfl (lv_at hl 0 rfl) ?_
      refine lv_bipush (v := 12) hx hb d_M_iv_29 (by decide) ?_
      refine lv_icmp_ge (tgt := 52) hx hb d_M_iv_31 (by decide) (fun c_3 => ?_) (fun c_3 => absurd (sb_geT (a := 12) (b := 12) rfl rfl (by omega) (by omega) (by omega)) c_3)
      refine lv_aload_n hx hb d_M_iv_52 rfl (lv_at hl 1 rfl) ?_
      refine lv_iconst (v := 0) hx hb d_M_iv_53 (by decide) ?_
      refine va_put (D := D) (ci := 7) (v := .int 0) (ty := .int) (C := R_M) (T := F_M) (N := 35) hx hb hts in_M tq_M tq_M_ok nq_M hown hG.1 hP hD hS 0 rfl rfl 4 (by decide) (hts _ k_701) (fun _ h9 => h9) rfl (by decide +kernel) rfl rfl (Nat.le_of_ble_eq_true rfl) d_M_iv_54 (fun H locs hP hD hS => ?_)
      have hP : va_P D vwCl [(mo, .inr (7, mFs 0 a1 a2 a3 0 (nI lb) (nI lz) ci a4 a5 a6 nu bk se op fa a7 a8 a9 a10 a11 (nI rn) kh kl sh sl a12 a13 a14 a15 a16 a17 a18 a19 a20)), (a1, .inl (cI, 98816, .inl (nF gt))), (a5, .inl (cI, 12, .inl (nF (iter (nCpy gt) 12 gi))))] H := hP
      have hD : va_D A [(mo, .inr (7, mFs 0 a1 a2 a3 0 (nI lb) (nI lz) ci a4 a5 a6 nu bk se op fa a7 a8 a9 a10 a11 (nI rn) kh kl sh sl a12 a13 a14 a15 a16 a17 a18 a19 a20)), (a1, .inl (cI, 98816, .inl (nF gt))), (a5, .inl (cI, 12, .inl (nF (iter (nCpy gt) 12 gi))))] := hD
      refine lv_aload_n hx hb d_M_iv_57 rfl (lv_at hl 1 rfl) ?_
      refine lv_lconst (v := 0) hx hb d_M_iv_58 (by decide) ?_
      refine va_put (D := D) (ci := 7) (v := .long 0) (ty := .long) (C := R_M) (T := F_M) (N := 35) hx hb hts in_M tq_M tq_M_ok nq_M hown hG.1 hP hD hS 0 rfl rfl 11 (by decide) (hts _ k_708) (fun _ h9 => h9) rfl (by decide +kernel) rfl rfl (Nat.le_of_ble_eq_true rfl) d_M_iv_59 (fun H locs hP hD hS => ?_)
      have hP : va_P D vwCl [(mo, .inr (7, mFs 0 a1 a2 a3 0 (nI lb) (nI lz) ci a4 a5 a6 0 bk se op fa a7 a8 a9 a10 a11 (nI rn) kh kl sh sl a12 a13 a14 a15 a16 a17 a18 a19 a20)), (a1, .inl (cI, 98816, .inl (nF gt))), (a5, .inl (cI, 12, .inl (nF (iter (nCpy gt) 12 gi))))] H := hP
      have hD : va_D A [(mo, .inr (7, mFs 0 a1 a2 a3 0 (nI lb) (nI lz) ci a4 a5 a6 0 bk se op fa a7 a8 a9 a10 a11 (nI rn) kh kl sh sl a12 a13 a14 a15 a16 a17 a18 a19 a20)), (a1, .inl (cI, 98816, .inl (nF gt))), (a5, .inl (cI, 12, .inl (nF (iter (nCpy gt) 12 gi))))] := hD
      have hP9 := hP.sub (ws' := [(mo, .inr (7, mFs 0 a1 a2 a3 0 (nI lb) (nI lz) ci a4 a5 a6 0 bk se op fa a7 a8 a9 a10 a11 (nI rn) kh kl sh sl a12 a13 a14 a15 a16 a17 a18 a19 a20)), (a1, .inl (cI, 98816, .inl (nF gt))), (a5, .inl (cI, 12, .inl (nF (iter (nCpy gt) 12 gi))))]) [0, 1, 2] rfl
      have hD9 := hD.sub (ws' := [(mo, .inr (7, mFs 0 a1 a2 a3 0 (nI lb) (nI lz) ci a4 a5 a6 0 bk se op fa a7 a8 a9 a10 a11 (nI rn) kh kl sh sl a12 a13 a14 a15 a16 a17 a18 a19 a20)), (a1, .inl (cI, 98816, .inl (nF gt))), (a5, .inl (cI, 12, .inl (nF (iter (nCpy gt) 12 gi))))]) [0, 1, 2] (by decide) rfl
      exact W.vret hx hb hr (fun t ht hW => ⟨⟨(), rfl, trivial, by rw [ht]; exact hP9, hD9⟩, hS.F ht⟩) hS.2.2 d_M_iv_62
    | succ d1 ih1 =>
      intro i hi1 H locs ls hP hD hS hl
      refine lv_iload_n hx hb d_M_iv_28 rfl (lv_at hl 0 rfl) ?_
      refine lv_bipush (v := 12) hx hb d_M_iv_29 (by decide) ?_
      refine lv_icmp_ge (tgt := 52) hx hb d_M_iv_31 (by decide) (fun c_4 => absurd c_4 (sb_geF (a := i) (b := 12) rfl rfl (by omega) (by omega) (by omega))) (fun c_4 => ?_)
      refine lv_aload_n hx hb d_M_iv_34 rfl (lv_at hl 1 rfl) ?_
      refine va_get (D := D) (ci := 7) (v := .ref a5) (C := R_M) (T := F_M) (N := 35) hx hb hts in_M hown hG.1 hP 0 rfl rfl 9 (by decide) (hts _ k_706) (fun _ h9 => h9) rfl d_M_iv_35 ?_
      refine lv_iload_n hx hb d_M_iv_38 rfl (lv_at hl 0 rfl) ?_
      refine lv_aload_n hx hb d_M_iv_39 rfl (lv_at hl 1 rfl) ?_
      refine va_get (D := D) (ci := 7) (v := .ref a1) (C := R_M) (T := F_M) (N := 35) hx hb hts in_M hown hG.1 hP 0 rfl rfl 1 (by decide) (hts _ k_698) (fun _ h9 => h9) rfl d_M_iv_40 ?_
      refine lv_iload_n hx hb d_M_iv_43 rfl (lv_at hl 0 rfl) ?_
      refine sb_ild hx hb hG.1 hP 1 rfl i rfl (by omega) (by omega) d_M_iv_44 ?_
      refine sb_topn (gt i) rfl ?_
      refine sb_ist hx hb hG.1 hP hD hS 2 rfl i rfl (by omega) (by omega) d_M_iv_45 (fun f_5 H locs ef_5 hP hD hS => ?_)
      have hP : va_P D vwCl [(mo, .inr (7, mFs 0 a1 a2 a3 (nI lt) (nI lb) (nI lz) ci a4 a5 a6 nu bk se op fa a7 a8 a9 a10 a11 (nI rn) kh kl sh sl a12 a13 a14 a15 a16 a17 a18 a19 a20)), (a1, .inl (cI, 98816, .inl (nF gt))), (a5, .inl (cI, 12, .inl f_5))] H := hP
      have hD : va_D A [(mo, .inr (7, mFs 0 a1 a2 a3 (nI lt) (nI lb) (nI lz) ci a4 a5 a6 nu bk se op fa a7 a8 a9 a10 a11 (nI rn) kh kl sh sl a12 a13 a14 a15 a16 a17 a18 a19 a20)), (a1, .inl (cI, 98816, .inl (nF gt))), (a5, .inl (cI, 12, .inl f_5))] := hD
      obtain rfl : f_5 = nF (updN (iter (nCpy gt) i gi) i (gt i)) := ef_5.trans (nF_set _ _ _)
      have hP : va_P D vwCl [(mo, .inr (7, mFs 0 a1 a2 a3 (nI lt) (nI lb) (nI lz) ci a4 a5 a6 nu bk se op fa a7 a8 a9 a10 a11 (nI rn) kh kl sh sl a12 a13 a14 a15 a16 a17 a18 a19 a20)), (a1, .inl (cI, 98816, .inl (nF gt))), (a5, .inl (cI, 12, .inl (nF (updN (iter (nCpy gt) i gi) i (gt i)))))] H := hP
      have hD : va_D A [(mo, .inr (7, mFs 0 a1 a2 a3 (nI lt) (nI lb) (nI lz) ci a4 a5 a6 nu bk se op fa a7 a8 a9 a10 a11 (nI rn) kh kl sh sl a12 a13 a14 a15 a16 a17 a18 a19 a20)), (a1, .inl (cI, 98816, .inl (nF gt))), (a5, .inl (cI, 12, .inl (nF (updN (iter (nCpy gt) i gi) i (gt i)))))] := hD
      refine lv_iinc (v := nI (i + 1)) (lv' := [(1, .int (nI (i + 1))), (0, .ref mo)]) hx hb d_M_iv_46 hl (k := 0) rfl (sb_inc (a := i) (b := i + 1) (d := 1) rfl (by decide) (by omega)) (by decide) rfl (fun ls hl => ?_)
      refine lv_goto (tgt := 28) hx hb d_M_iv_49 (by decide) ?_
      rw [show nF (updN (iter (nCpy gt) i gi) i (gt i)) = nF (iter (nCpy gt) (i + 1) gi) from rfl] at hP hD
      exact ih1 (i + 1) (by omega) _ _ ls (hP.sub [0, 1, 2] rfl) (hD.sub [0, 1, 2] (by decide) rfl) hS (lv_sub hl [0, 1] rfl)
  exact lp1 12 0 (by omega) _ _ ls (hP.sub [0, 1, 2] rfl) (hD.sub [0, 1, 2] (by decide) rfl) hS (lv_sub hl [0, 1] rfl)

def rm_M_ivN : Room := { frames := 0, cells := 0, slots := 0, locals := 0 }
set_option maxHeartbeats 4000000 in
set_option maxRecDepth 100000 in
theorem c_M_ivN (l : Launch) (D : va_G) (cI cL cB : ClassId) (tS tF : Nat) (mo : Nat) (a1 : Nat) (a2 : Nat) (a3 : Nat) (a4 : Nat) (a5 : Nat) (a6 : Nat) (a7 : Nat) (a8 : Nat) (a9 : Nat) (a10 : Nat) (a11 : Nat) (a12 : Nat) (a13 : Nat) (a14 : Nat) (a15 : Nat) (a16 : Nat) (a17 : Nat) (a18 : Nat) (a19 : Nat) (a20 : Nat) (thr : Int32) (ci : Int32) (bk : Int32) (se : Int32) (op : Int32) (fa : Int32) (lt : Nat) (lb : Nat) (lz : Nat) (rn : Nat) (nu : Int64) (kh : Int64) (kl : Int64) (sh : Int64) (sl : Int64) (sz : Nat) (hl12 : ¬ lt = 12) (hlt : lt ≤ 20000) : Met l y_M_iv (sbw y_M_iv b_M_iv 2 none) rm_M_ivN (sbPc D cI cL cB tS tF [.ref mo] sz [(mo, .inr (7, mFs thr a1 a2 a3 (nI lt) (nI lb) (nI lz) ci a4 a5 a6 nu bk se op fa a7 a8 a9 a10 a11 (nI rn) kh kl sh sl a12 a13 a14 a15 a16 a17 a18 a19 a20))]) (sbQv D (fun (_ : Unit) => True) (fun (_ : Unit) => [(mo, .inr (7, mFs 1 a1 a2 a3 (nI lt) (nI lb) (nI lz) ci a4 a5 a6 nu bk se op fa a7 a8 a9 a10 a11 (nI rn) kh kl sh sl a12 a13 a14 a15 a16 a17 a18 a19 a20))]) (va_A [(mo, .inr (7, mFs thr a1 a2 a3 (nI lt) (nI lb) (nI lz) ci a4 a5 a6 nu bk se op fa a7 a8 a9 a10 a11 (nI rn) kh kl sh sl a12 a13 a14 a15 a16 a17 a18 a19 a20))] sz)) 0 0 (va_A [(mo, .inr (7, mFs thr a1 a2 a3 (nI lt) (nI lb) (nI lz) ci a4 a5 a6 nu bk se op fa a7 a8 a9 a10 a11 (nI rn) kh kl sh sl a12 a13 a14 a15 a16 a17 a18 a19 a20))] sz) := by
  refine sb_ofW (y := y_M_iv) (maxL := 2) (av := [.ref mo]) (Qc := fun A => (sbQv D (fun (_ : Unit) => True) (fun (_ : Unit) => [(mo, .inr (7, mFs 1 a1 a2 a3 (nI lt) (nI lb) (nI lz) ci a4 a5 a6 nu bk se op fa a7 a8 a9 a10 a11 (nI rn) kh kl sh sl a12 a13 a14 a15 a16 a17 a18 a19 a20))]) A)) (by decide) (Nat.le_of_ble_eq_true rfl) ?_
  intro p e s m args below meth c A ls hx hb hr hml hts hown hlocks hin hsz hP hG hD hA hS hl
  have hl : lv_has ls 2 [(0, .ref mo)] := hl
  refine lv_aload_n hx hb d_M_iv_0 rfl (lv_at hl 0 rfl) ?_
  refine lv_aload_n hx hb d_M_iv_1 rfl (lv_at hl 0 rfl) ?_
  refine va_get (D := D) (ci := 7) (v := .int (nI lt)) (C := R_M) (T := F_M) (N := 35) hx hb hts in_M hown hG.1 hP 0 rfl rfl 4 (by decide) (hts _ k_701) (fun _ h9 => h9) rfl d_M_iv_2 ?_
  refine lv_bipush (v := 12) hx hb d_M_iv_5 (by decide) ?_
  refine lv_icmp_ne (tgt := 14) hx hb d_M_iv_7 (by decide) (fun c_1 => ?_) (fun c_1 => absurd c_1 (sb_neT (a := lt) (b := 12) rfl rfl (by omega) (by omega) (by omega)))
  refine lv_iconst (v := 1) hx hb d_M_iv_14 (by decide) ?_
  refine va_put (D := D) (ci := 7) (v := .int 1) (ty := .int) (C := R_M) (T := F_M) (N := 35) hx hb hts in_M tq_M tq_M_ok nq_M hown hG.1 hP hD hS 0 rfl rfl 0 (by decide) (hts _ k_697) (fun _ h9 => h9) rfl (by decide +kernel) rfl rfl (Nat.le_of_ble_eq_true rfl) d_M_iv_15 (fun H locs hP hD hS => ?_)
  have hP : va_P D vwCl [(mo, .inr (7, mFs 1 a1 a2 a3 (nI lt) (nI lb) (nI lz) ci a4 a5 a6 nu bk se op fa a7 a8 a9 a10 a11 (nI rn) kh kl sh sl a12 a13 a14 a15 a16 a17 a18 a19 a20))] H := hP
  have hD : va_D A [(mo, .inr (7, mFs 1 a1 a2 a3 (nI lt) (nI lb) (nI lz) ci a4 a5 a6 nu bk se op fa a7 a8 a9 a10 a11 (nI rn) kh kl sh sl a12 a13 a14 a15 a16 a17 a18 a19 a20))] := hD
  refine lv_aload_n hx hb d_M_iv_18 rfl (lv_at hl 0 rfl) ?_
  refine va_get (D := D) (ci := 7) (v := .int 1) (C := R_M) (T := F_M) (N := 35) hx hb hts in_M hown hG.1 hP 0 rfl rfl 0 (by decide) (hts _ k_697) (fun _ h9 => h9) rfl d_M_iv_19 ?_
  refine lv_if_le (tgt := 26) hx hb d_M_iv_22 (by decide) (fun c_2 => absurd c_2 (sb_leF (a := 1) (b := 0) rfl rfl (by omega) (by omega) (by omega))) (fun c_2 => ?_)
  have hP9 := hP.sub (ws' := [(mo, .inr (7, mFs 1 a1 a2 a3 (nI lt) (nI lb) (nI lz) ci a4 a5 a6 nu bk se op fa a7 a8 a9 a10 a11 (nI rn) kh kl sh sl a12 a13 a14 a15 a16 a17 a18 a19 a20))]) [0] rfl
  have hD9 := hD.sub (ws' := [(mo, .inr (7, mFs 1 a1 a2 a3 (nI lt) (nI lb) (nI lz) ci a4 a5 a6 nu bk se op fa a7 a8 a9 a10 a11 (nI rn) kh kl sh sl a12 a13 a14 a15 a16 a17 a18 a19 a20))]) [0] (by decide) rfl
  exact W.vret hx hb hr (fun t ht hW => ⟨⟨(), rfl, trivial, by rw [ht]; exact hP9, hD9⟩, hS.F ht⟩) hS.2.2 d_M_iv_25

theorem d_M_beside_0 : decode b_M_beside 0 = .ok (.aload_n 0, 1) := by decide +kernel
theorem d_M_beside_1 : decode b_M_beside 1 = .ok (.iconst 0, 1) := by decide +kernel
theorem d_M_beside_2 : decode b_M_beside 2 = .ok (.putfield 79, 3) := by decide +kernel
theorem d_M_beside_5 : decode b_M_beside 5 = .ok (.iconst 0, 1) := by decide +kernel
theorem d_M_beside_6 : decode b_M_beside 6 = .ok (.istore_n 1, 1) := by decide +kernel
theorem d_M_beside_7 : decode b_M_beside 7 = .ok (.iload_n 1, 1) := by decide +kernel
theorem d_M_beside_8 : decode b_M_beside 8 = .ok (.aload_n 0, 1) := by decide +kernel
theorem d_M_beside_9 : decode b_M_beside 9 = .ok (.getfield 162, 3) := by decide +kernel
theorem d_M_beside_12 : decode b_M_beside 12 = .ok (.if_icmp .ge 21, 3) := by decide +kernel
theorem d_M_beside_15 : decode b_M_beside 15 = .ok (.aload_n 0, 1) := by decide +kernel
theorem d_M_beside_16 : decode b_M_beside 16 = .ok (.getfield 17, 3) := by decide +kernel
theorem d_M_beside_19 : decode b_M_beside 19 = .ok (.iload_n 1, 1) := by decide +kernel
theorem d_M_beside_20 : decode b_M_beside 20 = .ok (.aload_n 0, 1) := by decide +kernel
theorem d_M_beside_21 : decode b_M_beside 21 = .ok (.getfield 8, 3) := by decide +kernel
theorem d_M_beside_24 : decode b_M_beside 24 = .ok (.iload_n 1, 1) := by decide +kernel
theorem d_M_beside_25 : decode b_M_beside 25 = .ok (.iaload, 1) := by decide +kernel
theorem d_M_beside_26 : decode b_M_beside 26 = .ok (.iastore, 1) := by decide +kernel
theorem d_M_beside_27 : decode b_M_beside 27 = .ok (.iinc 1 1, 3) := by decide +kernel
theorem d_M_beside_30 : decode b_M_beside 30 = .ok (.goto (-23), 3) := by decide +kernel
theorem d_M_beside_33 : decode b_M_beside 33 = .ok (.aload_n 0, 1) := by decide +kernel
theorem d_M_beside_34 : decode b_M_beside 34 = .ok (.aload_n 0, 1) := by decide +kernel
theorem d_M_beside_35 : decode b_M_beside 35 = .ok (.getfield 162, 3) := by decide +kernel
theorem d_M_beside_38 : decode b_M_beside 38 = .ok (.putfield 107, 3) := by decide +kernel
theorem d_M_beside_41 : decode b_M_beside 41 = .ok (.aload_n 0, 1) := by decide +kernel
theorem d_M_beside_42 : decode b_M_beside 42 = .ok (.iconst 0, 1) := by decide +kernel
theorem d_M_beside_43 : decode b_M_beside 43 = .ok (.putfield 162, 3) := by decide +kernel
theorem d_M_beside_46 : decode b_M_beside 46 = .ok (.aload_n 0, 1) := by decide +kernel
theorem d_M_beside_47 : decode b_M_beside 47 = .ok (.getfield 107, 3) := by decide +kernel
theorem d_M_beside_50 : decode b_M_beside 50 = .ok (.ireturn, 1) := by decide +kernel

def rm_M_beside : Room := { frames := 0, cells := 0, slots := 0, locals := 0 }
set_option maxHeartbeats 4000000 in
set_option maxRecDepth 100000 in
theorem c_M_beside (l : Launch) (D : va_G) (cI cL cB : ClassId) (tS tF : Nat) (mo : Nat) (a1 : Nat) (a2 : Nat) (a3 : Nat) (a4 : Nat) (a5 : Nat) (a6 : Nat) (a7 : Nat) (a8 : Nat) (a9 : Nat) (a10 : Nat) (a11 : Nat) (a12 : Nat) (a13 : Nat) (a14 : Nat) (a15 : Nat) (a16 : Nat) (a17 : Nat) (a18 : Nat) (a19 : Nat) (a20 : Nat) (thr : Int32) (ci : Int32) (bk : Int32) (se : Int32) (op : Int32) (fa : Int32) (lt : Nat) (lb : Nat) (lz : Nat) (rn : Nat) (nu : Int64) (kh : Int64) (kl : Int64) (sh : Int64) (sl : Int64) (gt : Nat → Nat) (gz : Nat → Nat) (sz : Nat) (hlt : lt ≤ 20000) : Met l y_M_beside (sbw y_M_beside b_M_beside 2 (some .int)) rm_M_beside (sbPc D cI cL cB tS tF [.ref mo] sz [(mo, .inr (7, mFs thr a1 a2 a3 (nI lt) (nI lb) (nI lz) ci a4 a5 a6 nu bk se op fa a7 a8 a9 a10 a11 (nI rn) kh kl sh sl a12 a13 a14 a15 a16 a17 a18 a19 a20)), (a1, .inl (cI, 98816, .inl (nF gt))), (a3, .inl (cI, 98816, .inl (nF gz)))]) (sbQi D (fun (r : Int32) (_ : Unit) => r = nI lt) (fun (_ : Unit) => [(mo, .inr (7, mFs 0 a1 a2 a3 (nI 0) (nI lb) (nI lt) ci a4 a5 a6 nu bk se op fa a7 a8 a9 a10 a11 (nI rn) kh kl sh sl a12 a13 a14 a15 a16 a17 a18 a19 a20)), (a1, .inl (cI, 98816, .inl (nF gt))), (a3, .inl (cI, 98816, .inl (nF (iter (nCpy gt) lt gz))))]) (va_A [(mo, .inr (7, mFs thr a1 a2 a3 (nI lt) (nI lb) (nI lz) ci a4 a5 a6 nu bk se op fa a7 a8 a9 a10 a11 (nI rn) kh kl sh sl a12 a13 a14 a15 a16 a17 a18 a19 a20)), (a1, .inl (cI, 98816, .inl (nF gt))), (a3, .inl (cI, 98816, .inl (nF gz)))] sz)) 0 0 (va_A [(mo, .inr (7, mFs thr a1 a2 a3 (nI lt) (nI lb) (nI lz) ci a4 a5 a6 nu bk se op fa a7 a8 a9 a10 a11 (nI rn) kh kl sh sl a12 a13 a14 a15 a16 a17 a18 a19 a20)), (a1, .inl (cI, 98816, .inl (nF gt))), (a3, .inl (cI, 98816, .inl (nF gz)))] sz) := by
  refine sb_ofW (y := y_M_beside) (maxL := 2) (av := [.ref mo]) (Qc := fun A => (sbQi D (fun (r : Int32) (_ : Unit) => r = nI lt) (fun (_ : Unit) => [(mo, .inr (7, mFs 0 a1 a2 a3 (nI 0) (nI lb) (nI lt) ci a4 a5 a6 nu bk se op fa a7 a8 a9 a10 a11 (nI rn) kh kl sh sl a12 a13 a14 a15 a16 a17 a18 a19 a20)), (a1, .inl (cI, 98816, .inl (nF gt))), (a3, .inl (cI, 98816, .inl (nF (iter (nCpy gt) lt gz))))]) A)) (by decide) (Nat.le_of_ble_eq_true rfl) ?_
  intro p e s m args below meth c A ls hx hb hr hml hts hown hlocks hin hsz hP hG hD hA hS hl
  have hl : lv_has ls 2 [(0, .ref mo)] := hl
  refine lv_aload_n hx hb d_M_beside_0 rfl (lv_at hl 0 rfl) ?_
  refine lv_iconst (v := 0) hx hb d_M_beside_1 (by decide) ?_
  refine va_put (D := D) (ci := 7) (v := .int 0) (ty := .int) (C := R_M) (T := F_M) (N := 35) hx hb hts in_M tq_M tq_M_ok nq_M hown hG.1 hP hD hS 0 rfl rfl 0 (by decide) (hts _ k_697) (fun _ h9 => h9) rfl (by decide +kernel) rfl rfl (Nat.le_of_ble_eq_true rfl) d_M_beside_2 (fun H locs hP hD hS => ?_)
  have hP : va_P D vwCl [(mo, .inr (7, mFs 0 a1 a2 a3 (nI lt) (nI lb) (nI lz) ci a4 a5 a6 nu bk se op fa a7 a8 a9 a10 a11 (nI rn) kh kl sh sl a12 a13 a14 a15 a16 a17 a18 a19 a20)), (a1, .inl (cI, 98816, .inl (nF gt))), (a3, .inl (cI, 98816, .inl (nF gz)))] H := hP
  have hD : va_D A [(mo, .inr (7, mFs 0 a1 a2 a3 (nI lt) (nI lb) (nI lz) ci a4 a5 a6 nu bk se op fa a7 a8 a9 a10 a11 (nI rn) kh kl sh sl a12 a13 a14 a15 a16 a17 a18 a19 a20)), (a1, .inl (cI, 98816, .inl (nF gt))), (a3, .inl (cI, 98816, .inl (nF gz)))] := hD
  refine lv_iconst (v := 0) hx hb d_M_beside_5 (by decide) ?_
  refine lv_istore_n (lv' := [(1, .int 0), (0, .ref mo)]) hx hb d_M_beside_6 rfl hl (by decide) rfl (fun ls hl => ?_)
  have lp1 : ∀ (d1 i : Nat), i + d1 = lt → ∀ (H : Heap) (locs : List Loc) (ls : Array Slot), va_P D vwCl [(mo, .inr (7, mFs 0 a1 a2 a3 (nI lt) (nI lb) (nI lz) ci a4 a5 a6 nu bk se op fa a7 a8 a9 a10 a11 (nI rn) kh kl sh sl a12 a13 a14 a15 a16 a17 a18 a19 a20)), (a1, .inl (cI, 98816, .inl (nF gt))), (a3, .inl (cI, 98816, .inl (nF (iter (nCpy gt) i gz))))] H → va_D A [(mo, .inr (7, mFs 0 a1 a2 a3 (nI lt) (nI lb) (nI lz) ci a4 a5 a6 nu bk se op fa a7 a8 a9 a10 a11 (nI rn) kh kl sh sl a12 a13 a14 a15 a16 a17 a18 a19 a20)), (a1, .inl (cI, 98816, .inl (nF gt))), (a3, .inl (cI, 98816, .inl (nF (iter (nCpy gt) i gz))))] → va_S A s.heap H locs → lv_has ls 2 [(1, .int (nI i)), (0, .ref mo)] → W p l e rm_M_beside s m args below meth c H locs 0 0 (MQ below (sbQi D (fun (r : Int32) (_ : Unit) => r = nI lt) (fun (_ : Unit) => [(mo, .inr (7, mFs 0 a1 a2 a3 (nI 0) (nI lb) (nI lt) ci a4 a5 a6 nu bk se op fa a7 a8 a9 a10 a11 (nI rn) kh kl sh sl a12 a13 a14 a15 a16 a17 a18 a19 a20)), (a1, .inl (cI, 98816, .inl (nF gt))), (a3, .inl (cI, 98816, .inl (nF (iter (nCpy gt) lt gz))))]) A) args s 0 0 A) (F0 m 7 ls []) := by
    intro d1
    induction d1 with
    | zero =>
      intro i hi1 H locs ls hP hD hS hl
      obtain rfl : lt = i := by omega
      refine lv_iload_n hx hb d_M_beside_7 rfl (lv_at hl 0 rfl) ?_
      refine lv_aload_n hx hb d_M_beside_8 rfl (lv_at hl 1 rfl) ?_
      refine va_get (D := D) (ci := 7) (v := .int (nI lt)) (C := R_M) (T := F_M) (N := 35) hx hb hts in_M hown hG.1 hP 0 rfl rfl 4 (by decide) (hts _ k_701) (fun _ h9 => h9) rfl d_M_beside_9 ?_
      refine lv_icmp_ge (tgt := 33) hx hb d_M_beside_12 (by decide) (fun c_1 => ?_) (fun c_1 => absurd (sb_geT (a := lt) (b := lt) rfl rfl (by omega) (by omega) (by omega)) c_1)
      refine lv_aload_n hx hb d_M_beside_33 rfl (lv_at hl 1 rfl) ?_
      refine lv_aload_n hx hb d_M_beside_34 rfl (lv_at hl 1 rfl) ?_
      refine va_get (D := D) (ci := 7) (v := .int (nI lt)) (C := R_M) (T := F_M) (N := 35) hx hb hts in_M hown hG.1 hP 0 rfl rfl 4 (by decide) (hts _ k_701) (fun _ h9 => h9) rfl d_M_beside_35 ?_
      refine va_put (D := D) (ci := 7) (v := .int (nI lt)) (ty := .int) (C := R_M) (T := F_M) (N := 35) hx hb hts in_M tq_M tq_M_ok nq_M hown hG.1 hP hD hS 0 rfl rfl 6 (by decide) (hts _ k_703) (fun _ h9 => h9) rfl (by decide +kernel) rfl rfl (Nat.le_of_ble_eq_true rfl) d_M_beside_38 (fun H locs hP hD hS => ?_)
      have hP : va_P D vwCl [(mo, .inr (7, mFs 0 a1 a2 a3 (nI lt) (nI lb) (nI lt) ci a4 a5 a6 nu bk se op fa a7 a8 a9 a10 a11 (nI rn) kh kl sh sl a12 a13 a14 a15 a16 a17 a18 a19 a20)), (a1, .inl (cI, 98816, .inl (nF gt))), (a3, .inl (cI, 98816, .inl (nF (iter (nCpy gt) lt gz))))] H := hP
      have hD : va_D A [(mo, .inr (7, mFs 0 a1 a2 a3 (nI lt) (nI lb) (nI lt) ci a4 a5 a6 nu bk se op fa a7 a8 a9 a10 a11 (nI rn) kh kl sh sl a12 a13 a14 a15 a16 a17 a18 a19 a20)), (a1, .inl (cI, 98816, .inl (nF gt))), (a3, .inl (cI, 98816, .inl (nF (iter (nCpy gt) lt gz))))] := hD
      refine lv_aload_n hx hb d_M_beside_41 rfl (lv_at hl 1 rfl) ?_
      refine lv_iconst (v := 0) hx hb d_M_beside_42 (by decide) ?_
      refine va_put (D := D) (ci := 7) (v := .int 0) (ty := .int) (C := R_M) (T := F_M) (N := 35) hx hb hts in_M tq_M tq_M_ok nq_M hown hG.1 hP hD hS 0 rfl rfl 4 (by decide) (hts _ k_701) (fun _ h9 => h9) rfl (by decide +kernel) rfl rfl (Nat.le_of_ble_eq_true rfl) d_M_beside_43 (fun H locs hP hD hS => ?_)
      have hP : va_P D vwCl [(mo, .inr (7, mFs 0 a1 a2 a3 0 (nI lb) (nI lt) ci a4 a5 a6 nu bk se op fa a7 a8 a9 a10 a11 (nI rn) kh kl sh sl a12 a13 a14 a15 a16 a17 a18 a19 a20)), (a1, .inl (cI, 98816, .inl (nF gt))), (a3, .inl (cI, 98816, .inl (nF (iter (nCpy gt) lt gz))))] H := hP
      have hD : va_D A [(mo, .inr (7, mFs 0 a1 a2 a3 0 (nI lb) (nI lt) ci a4 a5 a6 nu bk se op fa a7 a8 a9 a10 a11 (nI rn) kh kl sh sl a12 a13 a14 a15 a16 a17 a18 a19 a20)), (a1, .inl (cI, 98816, .inl (nF gt))), (a3, .inl (cI, 98816, .inl (nF (iter (nCpy gt) lt gz))))] := hD
      refine lv_aload_n hx hb d_M_beside_46 rfl (lv_at hl 1 rfl) ?_
      refine va_get (D := D) (ci := 7) (v := .int (nI lt)) (C := R_M) (T := F_M) (N := 35) hx hb hts in_M hown hG.1 hP 0 rfl rfl 6 (by decide) (hts _ k_703) (fun _ h9 => h9) rfl d_M_beside_47 ?_
      have hP9 := hP.sub (ws' := [(mo, .inr (7, mFs 0 a1 a2 a3 0 (nI lb) (nI lt) ci a4 a5 a6 nu bk se op fa a7 a8 a9 a10 a11 (nI rn) kh kl sh sl a12 a13 a14 a15 a16 a17 a18 a19 a20)), (a1, .inl (cI, 98816, .inl (nF gt))), (a3, .inl (cI, 98816, .inl (nF (iter (nCpy gt) lt gz))))]) [0, 1, 2] rfl
      have hD9 := hD.sub (ws' := [(mo, .inr (7, mFs 0 a1 a2 a3 0 (nI lb) (nI lt) ci a4 a5 a6 nu bk se op fa a7 a8 a9 a10 a11 (nI rn) kh kl sh sl a12 a13 a14 a15 a16 a17 a18 a19 a20)), (a1, .inl (cI, 98816, .inl (nF gt))), (a3, .inl (cI, 98816, .inl (nF (iter (nCpy gt) lt gz))))]) [0, 1, 2] (by decide) rfl
      exact W.iret (v := nI lt) hx hb hr (fun t ht hW => ⟨⟨_, (), rfl, rfl, by rw [ht]; exact hP9, hD9⟩, hS.F ht⟩) hS.2.2 d_M_beside_50
    | succ d1 ih1 =>
      intro i hi1 H locs ls hP hD hS hl
      refine lv_iload_n hx hb d_M_beside_7 rfl (lv_at hl 0 rfl) ?_
      refine lv_aload_n hx hb d_M_beside_8 rfl (lv_at hl 1 rfl) ?_
      refine va_get (D := D) (ci := 7) (v := .int (nI lt)) (C := R_M) (T := F_M) (N := 35) hx hb hts in_M hown hG.1 hP 0 rfl rfl 4 (by decide) (hts _ k_701) (fun _ h9 => h9) rfl d_M_beside_9 ?_
      refine lv_icmp_ge (tgt := 33) hx hb d_M_beside_12 (by decide) (fun c_2 => absurd c_2 (sb_geF (a := i) (b := lt) rfl rfl (by omega) (by omega) (by omega))) (fun c_2 => ?_)
      refine lv_aload_n hx hb d_M_beside_15 rfl (lv_at hl 1 rfl) ?_
      refine va_get (D := D) (ci := 7) (v := .ref a3) (C := R_M) (T := F_M) (N := 35) hx hb hts in_M hown hG.1 hP 0 rfl rfl 3 (by decide) (hts _ k_700) (fun _ h9 => h9) rfl d_M_beside_16 ?_
      refine lv_iload_n hx hb d_M_beside_19 rfl (lv_at hl 0 rfl) ?_
      refine lv_aload_n hx hb d_M_beside_20 rfl (lv_at hl 1 rfl) ?_
      refine va_get (D := D) (ci := 7) (v := .ref a1) (C := R_M) (T := F_M) (N := 35) hx hb hts in_M hown hG.1 hP 0 rfl rfl 1 (by decide) (hts _ k_698) (fun _ h9 => h9) rfl d_M_beside_21 ?_
      refine lv_iload_n hx hb d_M_beside_24 rfl (lv_at hl 0 rfl) ?_
      refine sb_ild hx hb hG.1 hP 1 rfl i rfl (by omega) (by omega) d_M_beside_25 ?_
      refine sb_topn (gt i) rfl ?_
      refine sb_ist hx hb hG.1 hP hD hS 2 rfl i rfl (by omega) (by omega) d_M_beside_26 (fun f_3 H locs ef_3 hP hD hS => ?_)
      have hP : va_P D vwCl [(mo, .inr (7, mFs 0 a1 a2 a3 (nI lt) (nI lb) (nI lz) ci a4 a5 a6 nu bk se op fa a7 a8 a9 a10 a11 (nI rn) kh kl sh sl a12 a13 a14 a15 a16 a17 a18 a19 a20)), (a1, .inl (cI, 98816, .inl (nF gt))), (a3, .inl (cI, 98816, .inl f_3))] H := hP
      have hD : va_D A [(mo, .inr (7, mFs 0 a1 a2 a3 (nI lt) (nI lb) (nI lz) ci a4 a5 a6 nu bk se op fa a7 a8 a9 a10 a11 (nI rn) kh kl sh sl a12 a13 a14 a15 a16 a17 a18 a19 a20)), (a1, .inl (cI, 98816, .inl (nF gt))), (a3, .inl (cI, 98816, .inl f_3))] := hD
      obtain rfl : f_3 = nF (updN (iter (nCpy gt) i gz) i (gt i)) := ef_3.trans (nF_set _ _ _)
      have hP : va_P D vwCl [(mo, .inr (7, mFs 0 a1 a2 a3 (nI lt) (nI lb) (nI lz) ci a4 a5 a6 nu bk se op fa a7 a8 a9 a10 a11 (nI rn) kh kl sh sl a12 a13 a14 a15 a16 a17 a18 a19 a20)), (a1, .inl (cI, 98816, .inl (nF gt))), (a3, .inl (cI, 98816, .inl (nF (updN (iter (nCpy gt) i gz) i (gt i)))))] H := hP
      have hD : va_D A [(mo, .inr (7, mFs 0 a1 a2 a3 (nI lt) (nI lb) (nI lz) ci a4 a5 a6 nu bk se op fa a7 a8 a9 a10 a11 (nI rn) kh kl sh sl a12 a13 a14 a15 a16 a17 a18 a19 a20)), (a1, .inl (cI, 98816, .inl (nF gt))), (a3, .inl (cI, 98816, .inl (nF (updN (iter (nCpy gt) i gz) i (gt i)))))] := hD
      refine lv_iinc (v := nI (i + 1)) (lv' := [(1, .int (nI (i + 1))), (0, .ref mo)]) hx hb d_M_beside_27 hl (k := 0) rfl (sb_inc (a := i) (b := i + 1) (d := 1) rfl (by decide) (by omega)) (by decide) rfl (fun ls hl => ?_)
      refine lv_goto (tgt := 7) hx hb d_M_beside_30 (by decide) ?_
      rw [show nF (updN (iter (nCpy gt) i gz) i (gt i)) = nF (iter (nCpy gt) (i + 1) gz) from rfl] at hP hD
      exact ih1 (i + 1) (by omega) _ _ ls (hP.sub [0, 1, 2] rfl) (hD.sub [0, 1, 2] (by decide) rfl) hS (lv_sub hl [0, 1] rfl)
  exact lp1 lt 0 (by omega) _ _ ls (hP.sub [0, 1, 2] rfl) (hD.sub [0, 1, 2] (by decide) rfl) hS (lv_sub hl [0, 1] rfl)

theorem d_M_back_0 : decode b_M_back 0 = .ok (.aload_n 0, 1) := by decide +kernel
theorem d_M_back_1 : decode b_M_back 1 = .ok (.iconst 0, 1) := by decide +kernel
theorem d_M_back_2 : decode b_M_back 2 = .ok (.putfield 79, 3) := by decide +kernel
theorem d_M_back_5 : decode b_M_back 5 = .ok (.iload_n 1, 1) := by decide +kernel
theorem d_M_back_6 : decode b_M_back 6 = .ok (.iconst (-1), 1) := by decide +kernel
theorem d_M_back_7 : decode b_M_back 7 = .ok (.if_icmp .lt 11, 3) := by decide +kernel
theorem d_M_back_10 : decode b_M_back 10 = .ok (.iload_n 1, 1) := by decide +kernel
theorem d_M_back_11 : decode b_M_back 11 = .ok (.aload_n 0, 1) := by decide +kernel
theorem d_M_back_12 : decode b_M_back 12 = .ok (.getfield 156, 3) := by decide +kernel
theorem d_M_back_15 : decode b_M_back 15 = .ok (.if_icmp .lt 9, 3) := by decide +kernel
theorem d_M_back_18 : decode b_M_back 18 = .ok (.aload_n 0, 1) := by decide +kernel
theorem d_M_back_19 : decode b_M_back 19 = .ok (.iconst 1, 1) := by decide +kernel
theorem d_M_back_20 : decode b_M_back 20 = .ok (.invokevirtual 166, 3) := by decide +kernel
theorem d_M_back_23 : decode b_M_back 23 = .ok (.ireturn, 1) := by decide +kernel
theorem d_M_back_24 : decode b_M_back 24 = .ok (.iconst 0, 1) := by decide +kernel
theorem d_M_back_25 : decode b_M_back 25 = .ok (.istore_n 3, 1) := by decide +kernel
theorem d_M_back_26 : decode b_M_back 26 = .ok (.iload_n 3, 1) := by decide +kernel
theorem d_M_back_27 : decode b_M_back 27 = .ok (.aload_n 0, 1) := by decide +kernel
theorem d_M_back_28 : decode b_M_back 28 = .ok (.getfield 156, 3) := by decide +kernel
theorem d_M_back_31 : decode b_M_back 31 = .ok (.if_icmp .ge 36, 3) := by decide +kernel
theorem d_M_back_34 : decode b_M_back 34 = .ok (.aload_n 0, 1) := by decide +kernel
theorem d_M_back_35 : decode b_M_back 35 = .ok (.getfield 8, 3) := by decide +kernel
theorem d_M_back_38 : decode b_M_back 38 = .ok (.iload_n 3, 1) := by decide +kernel
theorem d_M_back_39 : decode b_M_back 39 = .ok (.aload_n 0, 1) := by decide +kernel
theorem d_M_back_40 : decode b_M_back 40 = .ok (.getfield 14, 3) := by decide +kernel
theorem d_M_back_43 : decode b_M_back 43 = .ok (.iload_n 3, 1) := by decide +kernel
theorem d_M_back_44 : decode b_M_back 44 = .ok (.iaload, 1) := by decide +kernel
theorem d_M_back_45 : decode b_M_back 45 = .ok (.iload_n 3, 1) := by decide +kernel
theorem d_M_back_46 : decode b_M_back 46 = .ok (.iload_n 1, 1) := by decide +kernel
theorem d_M_back_47 : decode b_M_back 47 = .ok (.if_icmp .ne 11, 3) := by decide +kernel
theorem d_M_back_50 : decode b_M_back 50 = .ok (.iload_n 2, 1) := by decide +kernel
theorem d_M_back_51 : decode b_M_back 51 = .ok (.sipush 255, 3) := by decide +kernel
theorem d_M_back_54 : decode b_M_back 54 = .ok (.iand, 1) := by decide +kernel
theorem d_M_back_55 : decode b_M_back 55 = .ok (.goto 4, 3) := by decide +kernel
theorem d_M_back_58 : decode b_M_back 58 = .ok (.iconst 0, 1) := by decide +kernel
theorem d_M_back_59 : decode b_M_back 59 = .ok (.ixor, 1) := by decide +kernel
theorem d_M_back_60 : decode b_M_back 60 = .ok (.iastore, 1) := by decide +kernel
theorem d_M_back_61 : decode b_M_back 61 = .ok (.iinc 3 1, 3) := by decide +kernel
theorem d_M_back_64 : decode b_M_back 64 = .ok (.goto (-38), 3) := by decide +kernel
theorem d_M_back_67 : decode b_M_back 67 = .ok (.aload_n 0, 1) := by decide +kernel
theorem d_M_back_68 : decode b_M_back 68 = .ok (.aload_n 0, 1) := by decide +kernel
theorem d_M_back_69 : decode b_M_back 69 = .ok (.getfield 156, 3) := by decide +kernel
theorem d_M_back_72 : decode b_M_back 72 = .ok (.putfield 162, 3) := by decide +kernel
theorem d_M_back_75 : decode b_M_back 75 = .ok (.aload_n 0, 1) := by decide +kernel
theorem d_M_back_76 : decode b_M_back 76 = .ok (.getfield 162, 3) := by decide +kernel
theorem d_M_back_79 : decode b_M_back 79 = .ok (.ireturn, 1) := by decide +kernel

def rm_M_backN : Room := { frames := 1, cells := 0, slots := 0, locals := 21 }
set_option maxHeartbeats 4000000 in
set_option maxRecDepth 100000 in
theorem c_M_backN (l : Launch) (D : va_G) (cI cL cB : ClassId) (tS tF : Nat) (mo : Nat) (a1 : Nat) (a2 : Nat) (a3 : Nat) (a4 : Nat) (a5 : Nat) (a6 : Nat) (a7 : Nat) (a8 : Nat) (a9 : Nat) (a10 : Nat) (a11 : Nat) (a12 : Nat) (a13 : Nat) (a14 : Nat) (a15 : Nat) (a16 : Nat) (a17 : Nat) (a18 : Nat) (a19 : Nat) (a20 : Nat) (thr : Int32) (ci : Int32) (bk : Int32) (se : Int32) (op : Int32) (fa : Int32) (lt : Nat) (lb : Nat) (lz : Nat) (rn : Nat) (nu : Int64) (kh : Int64) (kl : Int64) (sh : Int64) (sl : Int64) (v : Int32) (v2 : Int32) (sz : Nat) (hv : v < -1 ∨ ¬ v < nI lb) : Met l y_M_back (sbw y_M_back b_M_back 4 (some .int)) rm_M_backN (sbPc D cI cL cB tS tF [.ref mo, .int v, .int v2] sz [(mo, .inr (7, mFs thr a1 a2 a3 (nI lt) (nI lb) (nI lz) ci a4 a5 a6 nu bk se op fa a7 a8 a9 a10 a11 (nI rn) kh kl sh sl a12 a13 a14 a15 a16 a17 a18 a19 a20))]) (sbQi D (fun (r : Int32) (_ : Unit) => r = 0) (fun (_ : Unit) => [(mo, .inr (7, mFs 1 a1 a2 a3 (nI lt) (nI lb) (nI lz) ci a4 a5 a6 nu bk se op fa a7 a8 a9 a10 a11 (nI rn) kh kl sh sl a12 a13 a14 a15 a16 a17 a18 a19 a20))]) (va_A [(mo, .inr (7, mFs thr a1 a2 a3 (nI lt) (nI lb) (nI lz) ci a4 a5 a6 nu bk se op fa a7 a8 a9 a10 a11 (nI rn) kh kl sh sl a12 a13 a14 a15 a16 a17 a18 a19 a20))] sz)) 0 0 (va_A [(mo, .inr (7, mFs thr a1 a2 a3 (nI lt) (nI lb) (nI lz) ci a4 a5 a6 nu bk se op fa a7 a8 a9 a10 a11 (nI rn) kh kl sh sl a12 a13 a14 a15 a16 a17 a18 a19 a20))] sz) := by
  refine sb_ofW (y := y_M_back) (maxL := 4) (av := [.ref mo, .int v, .int v2]) (Qc := fun A => (sbQi D (fun (r : Int32) (_ : Unit) => r = 0) (fun (_ : Unit) => [(mo, .inr (7, mFs 1 a1 a2 a3 (nI lt) (nI lb) (nI lz) ci a4 a5 a6 nu bk se op fa a7 a8 a9 a10 a11 (nI rn) kh kl sh sl a12 a13 a14 a15 a16 a17 a18 a19 a20))]) A)) (by decide) (Nat.le_of_ble_eq_true rfl) ?_
  intro p e s m args below meth c A ls hx hb hr hml hts hown hlocks hin hsz hP hG hD hA hS hl
  have hl : lv_has ls 4 [(0, .ref mo), (1, .int v), (2, .int v2)] := hl
  refine lv_aload_n hx hb d_M_back_0 rfl (lv_at hl 0 rfl) ?_
  refine lv_iconst (v := 0) hx hb d_M_back_1 (by decide) ?_
  refine va_put (D := D) (ci := 7) (v := .int 0) (ty := .int) (C := R_M) (T := F_M) (N := 35) hx hb hts in_M tq_M tq_M_ok nq_M hown hG.1 hP hD hS 0 rfl rfl 0 (by decide) (hts _ k_697) (fun _ h9 => h9) rfl (by decide +kernel) rfl rfl (Nat.le_of_ble_eq_true rfl) d_M_back_2 (fun H locs hP hD hS => ?_)
  have hP : va_P D vwCl [(mo, .inr (7, mFs 0 a1 a2 a3 (nI lt) (nI lb) (nI lz) ci a4 a5 a6 nu bk se op fa a7 a8 a9 a10 a11 (nI rn) kh kl sh sl a12 a13 a14 a15 a16 a17 a18 a19 a20))] H := hP
  have hD : va_D A [(mo, .inr (7, mFs 0 a1 a2 a3 (nI lt) (nI lb) (nI lz) ci a4 a5 a6 nu bk se op fa a7 a8 a9 a10 a11 (nI rn) kh kl sh sl a12 a13 a14 a15 a16 a17 a18 a19 a20))] := hD
  refine lv_iload_n hx hb d_M_back_5 rfl (lv_at hl 1 rfl) ?_
  refine lv_iconst (v := (-1)) hx hb d_M_back_6 (by decide) ?_
  refine lv_icmp_lt (tgt := 18) hx hb d_M_back_7 (by decide) (fun c_1 => ?_) (fun c_1 => ?_)
  · refine lv_aload_n hx hb d_M_back_18 rfl (lv_at hl 0 rfl) ?_
    refine lv_iconst (v := 1) hx hb d_M_back_19 (by decide) ?_
    refine sb_calli (wr := []) (va_runV (As := [.int 1]) (rest := []) ⟨hx, hb, hml, hown, hts⟩ (c_M_fail l D cI cL cB tS tF mo a1 a2 a3 a4 a5 a6 a7 a8 a9 a10 a11 a12 a13 a14 a15 a16 a17 a18 a19 a20 0 ci bk se op fa lt lb lz rn nu kh kl sh sl 1 _ ) (cwV 1 hts (sb_gV k_812 k_814 k_7 k_30 k_815) rfl rfl rfl (by decide +kernel) ⟨Nat.le_of_ble_eq_true rfl, Nat.le_of_ble_eq_true rfl⟩) (sb_pV hG hP hD hS hA [0] (by decide) rfl (ci := 7) (q0 := 0) rfl rfl) rfl rfl hl.1 rfl (lv_room (Nat.le_of_ble_eq_true rfl)) d_M_back_20 ⟨Nat.le_of_ble_eq_true rfl, Nat.le_of_ble_eq_true rfl⟩) hP hD hS hA [0] [] rfl rfl (by decide) (by decide) (fun r_3 u H locs hw_2 hP hD hS => ?_)
    have hP : va_P D vwCl [(mo, .inr (7, mFs 1 a1 a2 a3 (nI lt) (nI lb) (nI lz) ci a4 a5 a6 nu bk se op fa a7 a8 a9 a10 a11 (nI rn) kh kl sh sl a12 a13 a14 a15 a16 a17 a18 a19 a20))] H := hP
    have hD : va_D A [(mo, .inr (7, mFs 1 a1 a2 a3 (nI lt) (nI lb) (nI lz) ci a4 a5 a6 nu bk se op fa a7 a8 a9 a10 a11 (nI rn) kh kl sh sl a12 a13 a14 a15 a16 a17 a18 a19 a20))] := hD
    subst hw_2
    have hP9 := hP.sub (ws' := [(mo, .inr (7, mFs 1 a1 a2 a3 (nI lt) (nI lb) (nI lz) ci a4 a5 a6 nu bk se op fa a7 a8 a9 a10 a11 (nI rn) kh kl sh sl a12 a13 a14 a15 a16 a17 a18 a19 a20))]) [0] rfl
    have hD9 := hD.sub (ws' := [(mo, .inr (7, mFs 1 a1 a2 a3 (nI lt) (nI lb) (nI lz) ci a4 a5 a6 nu bk se op fa a7 a8 a9 a10 a11 (nI rn) kh kl sh sl a12 a13 a14 a15 a16 a17 a18 a19 a20))]) [0] (by decide) rfl
    exact W.iret (v := 0) hx hb hr (fun t ht hW => ⟨⟨_, (), rfl, rfl, by rw [ht]; exact hP9, hD9⟩, hS.F ht⟩) hS.2.2 d_M_back_23
  · refine lv_iload_n hx hb d_M_back_10 rfl (lv_at hl 1 rfl) ?_
    refine lv_aload_n hx hb d_M_back_11 rfl (lv_at hl 0 rfl) ?_
    refine va_get (D := D) (ci := 7) (v := .int (nI lb)) (C := R_M) (T := F_M) (N := 35) hx hb hts in_M hown hG.1 hP 0 rfl rfl 5 (by decide) (hts _ k_702) (fun _ h9 => h9) rfl d_M_back_12 ?_
    refine lv_icmp_lt (tgt := 24) hx hb d_M_back_15 (by decide) (fun c_4 => absurd c_4 (hv.resolve_left c_1)) (fun c_4 => ?_)
    refine lv_aload_n hx hb d_M_back_18 rfl (lv_at hl 0 rfl) ?_
    refine lv_iconst (v := 1) hx hb d_M_back_19 (by decide) ?_
    refine sb_calli (wr := []) (va_runV (As := [.int 1]) (rest := []) ⟨hx, hb, hml, hown, hts⟩ (c_M_fail l D cI cL cB tS tF mo a1 a2 a3 a4 a5 a6 a7 a8 a9 a10 a11 a12 a13 a14 a15 a16 a17 a18 a19 a20 0 ci bk se op fa lt lb lz rn nu kh kl sh sl 1 _ ) (cwV 1 hts (sb_gV k_812 k_814 k_7 k_30 k_815) rfl rfl rfl (by decide +kernel) ⟨Nat.le_of_ble_eq_true rfl, Nat.le_of_ble_eq_true rfl⟩) (sb_pV hG hP hD hS hA [0] (by decide) rfl (ci := 7) (q0 := 0) rfl rfl) rfl rfl hl.1 rfl (lv_room (Nat.le_of_ble_eq_true rfl)) d_M_back_20 ⟨Nat.le_of_ble_eq_true rfl, Nat.le_of_ble_eq_true rfl⟩) hP hD hS hA [0] [] rfl rfl (by decide) (by decide) (fun r_6 u H locs hw_5 hP hD hS => ?_)
    have hP : va_P D vwCl [(mo, .inr (7, mFs 1 a1 a2 a3 (nI lt) (nI lb) (nI lz) ci a4 a5 a6 nu bk se op fa a7 a8 a9 a10 a11 (nI rn) kh kl sh sl a12 a13 a14 a15 a16 a17 a18 a19 a20))] H := hP
    have hD : va_D A [(mo, .inr (7, mFs 1 a1 a2 a3 (nI lt) (nI lb) (nI lz) ci a4 a5 a6 nu bk se op fa a7 a8 a9 a10 a11 (nI rn) kh kl sh sl a12 a13 a14 a15 a16 a17 a18 a19 a20))] := hD
    subst hw_5
    have hP9 := hP.sub (ws' := [(mo, .inr (7, mFs 1 a1 a2 a3 (nI lt) (nI lb) (nI lz) ci a4 a5 a6 nu bk se op fa a7 a8 a9 a10 a11 (nI rn) kh kl sh sl a12 a13 a14 a15 a16 a17 a18 a19 a20))]) [0] rfl
    have hD9 := hD.sub (ws' := [(mo, .inr (7, mFs 1 a1 a2 a3 (nI lt) (nI lb) (nI lz) ci a4 a5 a6 nu bk se op fa a7 a8 a9 a10 a11 (nI rn) kh kl sh sl a12 a13 a14 a15 a16 a17 a18 a19 a20))]) [0] (by decide) rfl
    exact W.iret (v := 0) hx hb hr (fun t ht hW => ⟨⟨_, (), rfl, rfl, by rw [ht]; exact hP9, hD9⟩, hS.F ht⟩) hS.2.2 d_M_back_23

def rm_M_backY : Room := { frames := 0, cells := 0, slots := 0, locals := 0 }
set_option maxHeartbeats 4000000 in
set_option maxRecDepth 100000 in
theorem c_M_backY (l : Launch) (D : va_G) (cI cL cB : ClassId) (tS tF : Nat) (mo : Nat) (a1 : Nat) (a2 : Nat) (a3 : Nat) (a4 : Nat) (a5 : Nat) (a6 : Nat) (a7 : Nat) (a8 : Nat) (a9 : Nat) (a10 : Nat) (a11 : Nat) (a12 : Nat) (a13 : Nat) (a14 : Nat) (a15 : Nat) (a16 : Nat) (a17 : Nat) (a18 : Nat) (a19 : Nat) (a20 : Nat) (thr : Int32) (ci : Int32) (bk : Int32) (se : Int32) (op : Int32) (fa : Int32) (lt : Nat) (lb : Nat) (lz : Nat) (rn : Nat) (nu : Int64) (kh : Int64) (kl : Int64) (sh : Int64) (sl : Int64) (gt : Nat → Nat) (gx : Nat → Nat) (n0 : Nat) (v2 : Int32) (sz : Nat) (hn : n0 < lb) (hlb : lb ≤ 20100) : Met l y_M_back (sbw y_M_back b_M_back 4 (some .int)) rm_M_backY (sbPc D cI cL cB tS tF [.ref mo, .int (nI n0), .int v2] sz [(mo, .inr (7, mFs thr a1 a2 a3 (nI lt) (nI lb) (nI lz) ci a4 a5 a6 nu bk se op fa a7 a8 a9 a10 a11 (nI rn) kh kl sh sl a12 a13 a14 a15 a16 a17 a18 a19 a20)), (a1, .inl (cI, 98816, .inl (nF gt))), (a2, .inl (cI, 98816, .inl (nF gx)))]) (sbQi D (fun (r : Int32) (_ : Unit) => r = nI lb) (fun (_ : Unit) => [(mo, .inr (7, mFs 0 a1 a2 a3 (nI lb) (nI lb) (nI lz) ci a4 a5 a6 nu bk se op fa a7 a8 a9 a10 a11 (nI rn) kh kl sh sl a12 a13 a14 a15 a16 a17 a18 a19 a20)), (a1, .inl (cI, 98816, .inl (nF (iter (bkS gx v2 n0) lb gt)))), (a2, .inl (cI, 98816, .inl (nF gx)))]) (va_A [(mo, .inr (7, mFs thr a1 a2 a3 (nI lt) (nI lb) (nI lz) ci a4 a5 a6 nu bk se op fa a7 a8 a9 a10 a11 (nI rn) kh kl sh sl a12 a13 a14 a15 a16 a17 a18 a19 a20)), (a1, .inl (cI, 98816, .inl (nF gt))), (a2, .inl (cI, 98816, .inl (nF gx)))] sz)) 0 0 (va_A [(mo, .inr (7, mFs thr a1 a2 a3 (nI lt) (nI lb) (nI lz) ci a4 a5 a6 nu bk se op fa a7 a8 a9 a10 a11 (nI rn) kh kl sh sl a12 a13 a14 a15 a16 a17 a18 a19 a20)), (a1, .inl (cI, 98816, .inl (nF gt))), (a2, .inl (cI, 98816, .inl (nF gx)))] sz) := by
  refine sb_ofW (y := y_M_back) (maxL := 4) (av := [.ref mo, .int (nI n0), .int v2]) (Qc := fun A => (sbQi D (fun (r : Int32) (_ : Unit) => r = nI lb) (fun (_ : Unit) => [(mo, .inr (7, mFs 0 a1 a2 a3 (nI lb) (nI lb) (nI lz) ci a4 a5 a6 nu bk se op fa a7 a8 a9 a10 a11 (nI rn) kh kl sh sl a12 a13 a14 a15 a16 a17 a18 a19 a20)), (a1, .inl (cI, 98816, .inl (nF (iter (bkS gx v2 n0) lb gt)))), (a2, .inl (cI, 98816, .inl (nF gx)))]) A)) (by decide) (Nat.le_of_ble_eq_true rfl) ?_
  intro p e s m args below meth c A ls hx hb hr hml hts hown hlocks hin hsz hP hG hD hA hS hl
  have hl : lv_has ls 4 [(0, .ref mo), (1, .int (nI n0)), (2, .int v2)] := hl
  refine lv_aload_n hx hb d_M_back_0 rfl (lv_at hl 0 rfl) ?_
  refine lv_iconst (v := 0) hx hb d_M_back_1 (by decide) ?_
  refine va_put (D := D) (ci := 7) (v := .int 0) (ty := .int) (C := R_M) (T := F_M) (N := 35) hx hb hts in_M tq_M tq_M_ok nq_M hown hG.1 hP hD hS 0 rfl rfl 0 (by decide) (hts _ k_697) (fun _ h9 => h9) rfl (by decide +kernel) rfl rfl (Nat.le_of_ble_eq_true rfl) d_M_back_2 (fun H locs hP hD hS => ?_)
  have hP : va_P D vwCl [(mo, .inr (7, mFs 0 a1 a2 a3 (nI lt) (nI lb) (nI lz) ci a4 a5 a6 nu bk se op fa a7 a8 a9 a10 a11 (nI rn) kh kl sh sl a12 a13 a14 a15 a16 a17 a18 a19 a20)), (a1, .inl (cI, 98816, .inl (nF gt))), (a2, .inl (cI, 98816, .inl (nF gx)))] H := hP
  have hD : va_D A [(mo, .inr (7, mFs 0 a1 a2 a3 (nI lt) (nI lb) (nI lz) ci a4 a5 a6 nu bk se op fa a7 a8 a9 a10 a11 (nI rn) kh kl sh sl a12 a13 a14 a15 a16 a17 a18 a19 a20)), (a1, .inl (cI, 98816, .inl (nF gt))), (a2, .inl (cI, 98816, .inl (nF gx)))] := hD
  refine lv_iload_n hx hb d_M_back_5 rfl (lv_at hl 1 rfl) ?_
  refine lv_iconst (v := (-1)) hx hb d_M_back_6 (by decide) ?_
  refine lv_icmp_lt (tgt := 18) hx hb d_M_back_7 (by decide) (fun c_1 => absurd c_1 (sb_ltm1 (by omega))) (fun c_1 => ?_)
  refine lv_iload_n hx hb d_M_back_10 rfl (lv_at hl 1 rfl) ?_
  refine lv_aload_n hx hb d_M_back_11 rfl (lv_at hl 0 rfl) ?_
  refine va_get (D := D) (ci := 7) (v := .int (nI lb)) (C := R_M) (T := F_M) (N := 35) hx hb hts in_M hown hG.1 hP 0 rfl rfl 5 (by decide) (hts _ k_702) (fun _ h9 => h9) rfl d_M_back_12 ?_
  refine lv_icmp_lt (tgt := 24) hx hb d_M_back_15 (by decide) (fun c_2 => ?_) (fun c_2 => absurd (sb_ltT (a := n0) (b := lb) rfl rfl (by omega) (by omega) (by omega)) c_2)
  refine lv_iconst (v := 0) hx hb d_M_back_24 (by decide) ?_
  refine lv_istore_n (lv' := [(3, .int 0), (0, .ref mo), (1, .int (nI n0)), (2, .int v2)]) hx hb d_M_back_25 rfl hl (by decide) rfl (fun ls hl => ?_)
  have lp1 : ∀ (d1 i : Nat), i + d1 = lb → ∀ (H : Heap) (locs : List Loc) (ls : Array Slot), va_P D vwCl [(mo, .inr (7, mFs 0 a1 a2 a3 (nI lt) (nI lb) (nI lz) ci a4 a5 a6 nu bk se op fa a7 a8 a9 a10 a11 (nI rn) kh kl sh sl a12 a13 a14 a15 a16 a17 a18 a19 a20)), (a1, .inl (cI, 98816, .inl (nF (iter (bkS gx v2 n0) i gt)))), (a2, .inl (cI, 98816, .inl (nF gx)))] H → va_D A [(mo, .inr (7, mFs 0 a1 a2 a3 (nI lt) (nI lb) (nI lz) ci a4 a5 a6 nu bk se op fa a7 a8 a9 a10 a11 (nI rn) kh kl sh sl a12 a13 a14 a15 a16 a17 a18 a19 a20)), (a1, .inl (cI, 98816, .inl (nF (iter (bkS gx v2 n0) i gt)))), (a2, .inl (cI, 98816, .inl (nF gx)))] → va_S A s.heap H locs → lv_has ls 4 [(3, .int (nI i)), (0, .ref mo), (1, .int (nI n0)), (2, .int v2)] → W p l e rm_M_backY s m args below meth c H locs 0 0 (MQ below (sbQi D (fun (r : Int32) (_ : Unit) => r = nI lb) (fun (_ : Unit) => [(mo, .inr (7, mFs 0 a1 a2 a3 (nI lb) (nI lb) (nI lz) ci a4 a5 a6 nu bk se op fa a7 a8 a9 a10 a11 (nI rn) kh kl sh sl a12 a13 a14 a15 a16 a17 a18 a19 a20)), (a1, .inl (cI, 98816, .inl (nF (iter (bkS gx v2 n0) lb gt)))), (a2, .inl (cI, 98816, .inl (nF gx)))]) A) args s 0 0 A) (F0 m 26 ls []) := by
    intro d1
    induction d1 with
    | zero =>
      intro i hi1 H locs ls hP hD hS hl
      obtain rfl : lb = i := by omega
      refine lv_iload_n hx hb d_M_back_26 rfl (lv_at hl 0 rfl) ?_
      refine lv_aload_n hx hb d_M_back_27 rfl (lv_at hl 1 rfl) ?_
      refine va_get (D := D) (ci := 7) (v := .int (nI lb)) (C := R_M) (T := F_M) (N := 35) hx hb hts in_M hown hG.1 hP 0 rfl rfl 5 (by decide) (hts _ k_702) (fun _ h9 => h9) rfl d_M_back_28 ?_
      refine lv_icmp_ge (tgt := 67) hx hb d_M_back_31 (by decide) (fun c_3 => ?_) (fun c_3 => absurd (sb_geT (a := lb) (b := lb) rfl rfl (by omega) (by omega) (by omega)) c_3)
      refine lv_aload_n hx hb d_M_back_67 rfl (lv_at hl 1 rfl) ?_
      refine lv_aload_n hx hb d_M_back_68 rfl (lv_at hl 1 rfl) ?_
      refine va_get (D := D) (ci := 7) (v := .int (nI lb)) (C := R_M) (T := F_M) (N := 35) hx hb hts in_M hown hG.1 hP 0 rfl rfl 5 (by decide) (hts _ k_702) (fun _ h9 => h9) rfl d_M_back_69 ?_
      refine va_put (D := D) (ci := 7) (v := .int (nI lb)) (ty := .int) (C := R_M) (T := F_M) (N := 35) hx hb hts in_M tq_M tq_M_ok nq_M hown hG.1 hP hD hS 0 rfl rfl 4 (by decide) (hts _ k_701) (fun _ h9 => h9) rfl (by decide +kernel) rfl rfl (Nat.le_of_ble_eq_true rfl) d_M_back_72 (fun H locs hP hD hS => ?_)
      have hP : va_P D vwCl [(mo, .inr (7, mFs 0 a1 a2 a3 (nI lb) (nI lb) (nI lz) ci a4 a5 a6 nu bk se op fa a7 a8 a9 a10 a11 (nI rn) kh kl sh sl a12 a13 a14 a15 a16 a17 a18 a19 a20)), (a1, .inl (cI, 98816, .inl (nF (iter (bkS gx v2 n0) lb gt)))), (a2, .inl (cI, 98816, .inl (nF gx)))] H := hP
      have hD : va_D A [(mo, .inr (7, mFs 0 a1 a2 a3 (nI lb) (nI lb) (nI lz) ci a4 a5 a6 nu bk se op fa a7 a8 a9 a10 a11 (nI rn) kh kl sh sl a12 a13 a14 a15 a16 a17 a18 a19 a20)), (a1, .inl (cI, 98816, .inl (nF (iter (bkS gx v2 n0) lb gt)))), (a2, .inl (cI, 98816, .inl (nF gx)))] := hD
      refine lv_aload_n hx hb d_M_back_75 rfl (lv_at hl 1 rfl) ?_
      refine va_get (D := D) (ci := 7) (v := .int (nI lb)) (C := R_M) (T := F_M) (N := 35) hx hb hts in_M hown hG.1 hP 0 rfl rfl 4 (by decide) (hts _ k_701) (fun _ h9 => h9) rfl d_M_back_76 ?_
      have hP9 := hP.sub (ws' := [(mo, .inr (7, mFs 0 a1 a2 a3 (nI lb) (nI lb) (nI lz) ci a4 a5 a6 nu bk se op fa a7 a8 a9 a10 a11 (nI rn) kh kl sh sl a12 a13 a14 a15 a16 a17 a18 a19 a20)), (a1, .inl (cI, 98816, .inl (nF (iter (bkS gx v2 n0) lb gt)))), (a2, .inl (cI, 98816, .inl (nF gx)))]) [0, 1, 2] rfl
      have hD9 := hD.sub (ws' := [(mo, .inr (7, mFs 0 a1 a2 a3 (nI lb) (nI lb) (nI lz) ci a4 a5 a6 nu bk se op fa a7 a8 a9 a10 a11 (nI rn) kh kl sh sl a12 a13 a14 a15 a16 a17 a18 a19 a20)), (a1, .inl (cI, 98816, .inl (nF (iter (bkS gx v2 n0) lb gt)))), (a2, .inl (cI, 98816, .inl (nF gx)))]) [0, 1, 2] (by decide) rfl
      exact W.iret (v := nI lb) hx hb hr (fun t ht hW => ⟨⟨_, (), rfl, rfl, by rw [ht]; exact hP9, hD9⟩, hS.F ht⟩) hS.2.2 d_M_back_79
    | succ d1 ih1 =>
      intro i hi1 H locs ls hP hD hS hl
      refine lv_iload_n hx hb d_M_back_26 rfl (lv_at hl 0 rfl) ?_
      refine lv_aload_n hx hb d_M_back_27 rfl (lv_at hl 1 rfl) ?_
      refine va_get (D := D) (ci := 7) (v := .int (nI lb)) (C := R_M) (T := F_M) (N := 35) hx hb hts in_M hown hG.1 hP 0 rfl rfl 5 (by decide) (hts _ k_702) (fun _ h9 => h9) rfl d_M_back_28 ?_
      refine lv_icmp_ge (tgt := 67) hx hb d_M_back_31 (by decide) (fun c_4 => absurd c_4 (sb_geF (a := i) (b := lb) rfl rfl (by omega) (by omega) (by omega))) (fun c_4 => ?_)
      refine lv_aload_n hx hb d_M_back_34 rfl (lv_at hl 1 rfl) ?_
      refine va_get (D := D) (ci := 7) (v := .ref a1) (C := R_M) (T := F_M) (N := 35) hx hb hts in_M hown hG.1 hP 0 rfl rfl 1 (by decide) (hts _ k_698) (fun _ h9 => h9) rfl d_M_back_35 ?_
      refine lv_iload_n hx hb d_M_back_38 rfl (lv_at hl 0 rfl) ?_
      refine lv_aload_n hx hb d_M_back_39 rfl (lv_at hl 1 rfl) ?_
      refine va_get (D := D) (ci := 7) (v := .ref a2) (C := R_M) (T := F_M) (N := 35) hx hb hts in_M hown hG.1 hP 0 rfl rfl 2 (by decide) (hts _ k_699) (fun _ h9 => h9) rfl d_M_back_40 ?_
      refine lv_iload_n hx hb d_M_back_43 rfl (lv_at hl 0 rfl) ?_
      refine sb_ild hx hb hG.1 hP 2 rfl i rfl (by omega) (by omega) d_M_back_44 ?_
      refine lv_iload_n hx hb d_M_back_45 rfl (lv_at hl 0 rfl) ?_
      refine lv_iload_n hx hb d_M_back_46 rfl (lv_at hl 2 rfl) ?_
      refine lv_icmp_ne (tgt := 58) hx hb d_M_back_47 (by decide) (fun c_5 => ?_) (fun c_5 => ?_)
      · have c_5 := mt (sb_eqI (a := i) (b := n0) rfl rfl (by omega) (by omega)).mpr c_5
        refine lv_iconst (v := 0) hx hb d_M_back_58 (by decide) ?_
        refine lv_ixor hx hb d_M_back_59 ?_
        refine sb_topn ((gx i) ^^^ 0) (sb_xor (a := gx i) (b := 0) rfl rfl) ?_
        refine sb_topn ((gx i) ^^^ 0) rfl ?_
        refine sb_ist hx hb hG.1 hP hD hS 1 rfl i rfl (by omega) (by omega) d_M_back_60 (fun f_6 H locs ef_6 hP hD hS => ?_)
        have hP : va_P D vwCl [(mo, .inr (7, mFs 0 a1 a2 a3 (nI lt) (nI lb) (nI lz) ci a4 a5 a6 nu bk se op fa a7 a8 a9 a10 a11 (nI rn) kh kl sh sl a12 a13 a14 a15 a16 a17 a18 a19 a20)), (a1, .inl (cI, 98816, .inl f_6)), (a2, .inl (cI, 98816, .inl (nF gx)))] H := hP
        have hD : va_D A [(mo, .inr (7, mFs 0 a1 a2 a3 (nI lt) (nI lb) (nI lz) ci a4 a5 a6 nu bk se op fa a7 a8 a9 a10 a11 (nI rn) kh kl sh sl a12 a13 a14 a15 a16 a17 a18 a19 a20)), (a1, .inl (cI, 98816, .inl f_6)), (a2, .inl (cI, 98816, .inl (nF gx)))] := hD
        obtain rfl : f_6 = nF (updN (iter (bkS gx v2 n0) i gt) i ((gx i) ^^^ 0)) := ef_6.trans (nF_set _ _ _)
        have hP : va_P D vwCl [(mo, .inr (7, mFs 0 a1 a2 a3 (nI lt) (nI lb) (nI lz) ci a4 a5 a6 nu bk se op fa a7 a8 a9 a10 a11 (nI rn) kh kl sh sl a12 a13 a14 a15 a16 a17 a18 a19 a20)), (a1, .inl (cI, 98816, .inl (nF (updN (iter (bkS gx v2 n0) i gt) i ((gx i) ^^^ 0))))), (a2, .inl (cI, 98816, .inl (nF gx)))] H := hP
        have hD : va_D A [(mo, .inr (7, mFs 0 a1 a2 a3 (nI lt) (nI lb) (nI lz) ci a4 a5 a6 nu bk se op fa a7 a8 a9 a10 a11 (nI rn) kh kl sh sl a12 a13 a14 a15 a16 a17 a18 a19 a20)), (a1, .inl (cI, 98816, .inl (nF (updN (iter (bkS gx v2 n0) i gt) i ((gx i) ^^^ 0))))), (a2, .inl (cI, 98816, .inl (nF gx)))] := hD
        refine lv_iinc (v := nI (i + 1)) (lv' := [(3, .int (nI (i + 1))), (0, .ref mo), (1, .int (nI n0)), (2, .int v2)]) hx hb d_M_back_61 hl (k := 0) rfl (sb_inc (a := i) (b := i + 1) (d := 1) rfl (by decide) (by omega)) (by decide) rfl (fun ls hl => ?_)
        refine lv_goto (tgt := 26) hx hb d_M_back_64 (by decide) ?_
        rw [show nF (updN (iter (bkS gx v2 n0) i gt) i ((gx i) ^^^ 0)) = nF (iter (bkS gx v2 n0) (i + 1) gt) from (congrArg nF (Eq.trans (by simp only [bkS, if_neg c_5]) (iter_s _ _ _).symm))] at hP hD
        exact ih1 (i + 1) (by omega) _ _ ls (hP.sub [0, 1, 2] rfl) (hD.sub [0, 1, 2] (by decide) rfl) hS (lv_sub hl [0, 1, 2, 3] rfl)
      · have c_5 := (sb_eqI (a := i) (b := n0) rfl rfl (by omega) (by omega)).mp c_5
        refine lv_iload_n hx hb d_M_back_50 rfl (lv_at hl 3 rfl) ?_
        refine lv_sipush (v := 255) hx hb d_M_back_51 (by decide) ?_
        refine lv_iand hx hb d_M_back_54 ?_
        refine sb_topn (byI v2 0) (sb_by0 v2) ?_
        refine lv_goto (tgt := 59) hx hb d_M_back_55 (by decide) ?_
        refine lv_ixor hx hb d_M_back_59 ?_
        refine sb_topn ((gx i) ^^^ (byI v2 0)) (sb_xor (a := gx i) (b := byI v2 0) rfl rfl) ?_
        refine sb_topn ((gx i) ^^^ (byI v2 0)) rfl ?_
        refine sb_ist hx hb hG.1 hP hD hS 1 rfl i rfl (by omega) (by omega) d_M_back_60 (fun f_7 H locs ef_7 hP hD hS => ?_)
        have hP : va_P D vwCl [(mo, .inr (7, mFs 0 a1 a2 a3 (nI lt) (nI lb) (nI lz) ci a4 a5 a6 nu bk se op fa a7 a8 a9 a10 a11 (nI rn) kh kl sh sl a12 a13 a14 a15 a16 a17 a18 a19 a20)), (a1, .inl (cI, 98816, .inl f_7)), (a2, .inl (cI, 98816, .inl (nF gx)))] H := hP
        have hD : va_D A [(mo, .inr (7, mFs 0 a1 a2 a3 (nI lt) (nI lb) (nI lz) ci a4 a5 a6 nu bk se op fa a7 a8 a9 a10 a11 (nI rn) kh kl sh sl a12 a13 a14 a15 a16 a17 a18 a19 a20)), (a1, .inl (cI, 98816, .inl f_7)), (a2, .inl (cI, 98816, .inl (nF gx)))] := hD
        obtain rfl : f_7 = nF (updN (iter (bkS gx v2 n0) i gt) i ((gx i) ^^^ (byI v2 0))) := ef_7.trans (nF_set _ _ _)
        have hP : va_P D vwCl [(mo, .inr (7, mFs 0 a1 a2 a3 (nI lt) (nI lb) (nI lz) ci a4 a5 a6 nu bk se op fa a7 a8 a9 a10 a11 (nI rn) kh kl sh sl a12 a13 a14 a15 a16 a17 a18 a19 a20)), (a1, .inl (cI, 98816, .inl (nF (updN (iter (bkS gx v2 n0) i gt) i ((gx i) ^^^ (byI v2 0)))))), (a2, .inl (cI, 98816, .inl (nF gx)))] H := hP
        have hD : va_D A [(mo, .inr (7, mFs 0 a1 a2 a3 (nI lt) (nI lb) (nI lz) ci a4 a5 a6 nu bk se op fa a7 a8 a9 a10 a11 (nI rn) kh kl sh sl a12 a13 a14 a15 a16 a17 a18 a19 a20)), (a1, .inl (cI, 98816, .inl (nF (updN (iter (bkS gx v2 n0) i gt) i ((gx i) ^^^ (byI v2 0)))))), (a2, .inl (cI, 98816, .inl (nF gx)))] := hD
        refine lv_iinc (v := nI (i + 1)) (lv' := [(3, .int (nI (i + 1))), (0, .ref mo), (1, .int (nI n0)), (2, .int v2)]) hx hb d_M_back_61 hl (k := 0) rfl (sb_inc (a := i) (b := i + 1) (d := 1) rfl (by decide) (by omega)) (by decide) rfl (fun ls hl => ?_)
        refine lv_goto (tgt := 26) hx hb d_M_back_64 (by decide) ?_
        rw [show nF (updN (iter (bkS gx v2 n0) i gt) i ((gx i) ^^^ (byI v2 0))) = nF (iter (bkS gx v2 n0) (i + 1) gt) from (congrArg nF (Eq.trans (by simp only [bkS, if_pos c_5]) (iter_s _ _ _).symm))] at hP hD
        exact ih1 (i + 1) (by omega) _ _ ls (hP.sub [0, 1, 2] rfl) (hD.sub [0, 1, 2] (by decide) rfl) hS (lv_sub hl [0, 1, 2, 3] rfl)
  exact lp1 lb 0 (by omega) _ _ ls (hP.sub [0, 1, 2] rfl) (hD.sub [0, 1, 2] (by decide) rfl) hS (lv_sub hl [0, 1, 2, 3] rfl)

def rm_M_backM : Room := { frames := 0, cells := 0, slots := 0, locals := 0 }
set_option maxHeartbeats 4000000 in
set_option maxRecDepth 100000 in
theorem c_M_backM (l : Launch) (D : va_G) (cI cL cB : ClassId) (tS tF : Nat) (mo : Nat) (a1 : Nat) (a2 : Nat) (a3 : Nat) (a4 : Nat) (a5 : Nat) (a6 : Nat) (a7 : Nat) (a8 : Nat) (a9 : Nat) (a10 : Nat) (a11 : Nat) (a12 : Nat) (a13 : Nat) (a14 : Nat) (a15 : Nat) (a16 : Nat) (a17 : Nat) (a18 : Nat) (a19 : Nat) (a20 : Nat) (thr : Int32) (ci : Int32) (bk : Int32) (se : Int32) (op : Int32) (fa : Int32) (lt : Nat) (lb : Nat) (lz : Nat) (rn : Nat) (nu : Int64) (kh : Int64) (kl : Int64) (sh : Int64) (sl : Int64) (gt : Nat → Nat) (gx : Nat → Nat) (v2 : Int32) (sz : Nat) (hlb : lb ≤ 20100) : Met l y_M_back (sbw y_M_back b_M_back 4 (some .int)) rm_M_backM (sbPc D cI cL cB tS tF [.ref mo, .int (-1), .int v2] sz [(mo, .inr (7, mFs thr a1 a2 a3 (nI lt) (nI lb) (nI lz) ci a4 a5 a6 nu bk se op fa a7 a8 a9 a10 a11 (nI rn) kh kl sh sl a12 a13 a14 a15 a16 a17 a18 a19 a20)), (a1, .inl (cI, 98816, .inl (nF gt))), (a2, .inl (cI, 98816, .inl (nF gx)))]) (sbQi D (fun (r : Int32) (_ : Unit) => r = nI lb) (fun (_ : Unit) => [(mo, .inr (7, mFs 0 a1 a2 a3 (nI lb) (nI lb) (nI lz) ci a4 a5 a6 nu bk se op fa a7 a8 a9 a10 a11 (nI rn) kh kl sh sl a12 a13 a14 a15 a16 a17 a18 a19 a20)), (a1, .inl (cI, 98816, .inl (nF (iter (bkS gx v2 98816) lb gt)))), (a2, .inl (cI, 98816, .inl (nF gx)))]) (va_A [(mo, .inr (7, mFs thr a1 a2 a3 (nI lt) (nI lb) (nI lz) ci a4 a5 a6 nu bk se op fa a7 a8 a9 a10 a11 (nI rn) kh kl sh sl a12 a13 a14 a15 a16 a17 a18 a19 a20)), (a1, .inl (cI, 98816, .inl (nF gt))), (a2, .inl (cI, 98816, .inl (nF gx)))] sz)) 0 0 (va_A [(mo, .inr (7, mFs thr a1 a2 a3 (nI lt) (nI lb) (nI lz) ci a4 a5 a6 nu bk se op fa a7 a8 a9 a10 a11 (nI rn) kh kl sh sl a12 a13 a14 a15 a16 a17 a18 a19 a20)), (a1, .inl (cI, 98816, .inl (nF gt))), (a2, .inl (cI, 98816, .inl (nF gx)))] sz) := by
  refine sb_ofW (y := y_M_back) (maxL := 4) (av := [.ref mo, .int (-1), .int v2]) (Qc := fun A => (sbQi D (fun (r : Int32) (_ : Unit) => r = nI lb) (fun (_ : Unit) => [(mo, .inr (7, mFs 0 a1 a2 a3 (nI lb) (nI lb) (nI lz) ci a4 a5 a6 nu bk se op fa a7 a8 a9 a10 a11 (nI rn) kh kl sh sl a12 a13 a14 a15 a16 a17 a18 a19 a20)), (a1, .inl (cI, 98816, .inl (nF (iter (bkS gx v2 98816) lb gt)))), (a2, .inl (cI, 98816, .inl (nF gx)))]) A)) (by decide) (Nat.le_of_ble_eq_true rfl) ?_
  intro p e s m args below meth c A ls hx hb hr hml hts hown hlocks hin hsz hP hG hD hA hS hl
  have hl : lv_has ls 4 [(0, .ref mo), (1, .int (-1)), (2, .int v2)] := hl
  refine lv_aload_n hx hb d_M_back_0 rfl (lv_at hl 0 rfl) ?_
  refine lv_iconst (v := 0) hx hb d_M_back_1 (by decide) ?_
  refine va_put (D := D) (ci := 7) (v := .int 0) (ty := .int) (C := R_M) (T := F_M) (N := 35) hx hb hts in_M tq_M tq_M_ok nq_M hown hG.1 hP hD hS 0 rfl rfl 0 (by decide) (hts _ k_697) (fun _ h9 => h9) rfl (by decide +kernel) rfl rfl (Nat.le_of_ble_eq_true rfl) d_M_back_2 (fun H locs hP hD hS => ?_)
  have hP : va_P D vwCl [(mo, .inr (7, mFs 0 a1 a2 a3 (nI lt) (nI lb) (nI lz) ci a4 a5 a6 nu bk se op fa a7 a8 a9 a10 a11 (nI rn) kh kl sh sl a12 a13 a14 a15 a16 a17 a18 a19 a20)), (a1, .inl (cI, 98816, .inl (nF gt))), (a2, .inl (cI, 98816, .inl (nF gx)))] H := hP
  have hD : va_D A [(mo, .inr (7, mFs 0 a1 a2 a3 (nI lt) (nI lb) (nI lz) ci a4 a5 a6 nu bk se op fa a7 a8 a9 a10 a11 (nI rn) kh kl sh sl a12 a13 a14 a15 a16 a17 a18 a19 a20)), (a1, .inl (cI, 98816, .inl (nF gt))), (a2, .inl (cI, 98816, .inl (nF gx)))] := hD
  refine lv_iload_n hx hb d_M_back_5 rfl (lv_at hl 1 rfl) ?_
  refine lv_iconst (v := (-1)) hx hb d_M_back_6 (by decide) ?_
  refine lv_icmp_lt (tgt := 18) hx hb d_M_back_7 (by decide) (fun c_1 => absurd c_1 (by decide)) (fun c_1 => ?_)
  refine lv_iload_n hx hb d_M_back_10 rfl (lv_at hl 1 rfl) ?_
  refine lv_aload_n hx hb d_M_back_11 rfl (lv_at hl 0 rfl) ?_
  refine va_get (D := D) (ci := 7) (v := .int (nI lb)) (C := R_M) (T := F_M) (N := 35) hx hb hts in_M hown hG.1 hP 0 rfl rfl 5 (by decide) (hts _ k_702) (fun _ h9 => h9) rfl d_M_back_12 ?_
  refine lv_icmp_lt (tgt := 24) hx hb d_M_back_15 (by decide) (fun c_2 => ?_) (fun c_2 => absurd (sb_m1lt (by omega)) c_2)
  refine lv_iconst (v := 0) hx hb d_M_back_24 (by decide) ?_
  refine lv_istore_n (lv' := [(3, .int 0), (0, .ref mo), (1, .int (-1)), (2, .int v2)]) hx hb d_M_back_25 rfl hl (by decide) rfl (fun ls hl => ?_)
  have lp1 : ∀ (d1 i : Nat), i + d1 = lb → ∀ (H : Heap) (locs : List Loc) (ls : Array Slot), va_P D vwCl [(mo, .inr (7, mFs 0 a1 a2 a3 (nI lt) (nI lb) (nI lz) ci a4 a5 a6 nu bk se op fa a7 a8 a9 a10 a11 (nI rn) kh kl sh sl a12 a13 a14 a15 a16 a17 a18 a19 a20)), (a1, .inl (cI, 98816, .inl (nF (iter (bkS gx v2 98816) i gt)))), (a2, .inl (cI, 98816, .inl (nF gx)))] H → va_D A [(mo, .inr (7, mFs 0 a1 a2 a3 (nI lt) (nI lb) (nI lz) ci a4 a5 a6 nu bk se op fa a7 a8 a9 a10 a11 (nI rn) kh kl sh sl a12 a13 a14 a15 a16 a17 a18 a19 a20)), (a1, .inl (cI, 98816, .inl (nF (iter (bkS gx v2 98816) i gt)))), (a2, .inl (cI, 98816, .inl (nF gx)))] → va_S A s.heap H locs → lv_has ls 4 [(3, .int (nI i)), (0, .ref mo), (1, .int (-1)), (2, .int v2)] → W p l e rm_M_backM s m args below meth c H locs 0 0 (MQ below (sbQi D (fun (r : Int32) (_ : Unit) => r = nI lb) (fun (_ : Unit) => [(mo, .inr (7, mFs 0 a1 a2 a3 (nI lb) (nI lb) (nI lz) ci a4 a5 a6 nu bk se op fa a7 a8 a9 a10 a11 (nI rn) kh kl sh sl a12 a13 a14 a15 a16 a17 a18 a19 a20)), (a1, .inl (cI, 98816, .inl (nF (iter (bkS gx v2 98816) lb gt)))), (a2, .inl (cI, 98816, .inl (nF gx)))]) A) args s 0 0 A) (F0 m 26 ls []) := by
    intro d1
    induction d1 with
    | zero =>
      intro i hi1 H locs ls hP hD hS hl
      obtain rfl : lb = i := by omega
      refine lv_iload_n hx hb d_M_back_26 rfl (lv_at hl 0 rfl) ?_
      refine lv_aload_n hx hb d_M_back_27 rfl (lv_at hl 1 rfl) ?_
      refine va_get (D := D) (ci := 7) (v := .int (nI lb)) (C := R_M) (T := F_M) (N := 35) hx hb hts in_M hown hG.1 hP 0 rfl rfl 5 (by decide) (hts _ k_702) (fun _ h9 => h9) rfl d_M_back_28 ?_
      refine lv_icmp_ge (tgt := 67) hx hb d_M_back_31 (by decide) (fun c_3 => ?_) (fun c_3 => absurd (sb_geT (a := lb) (b := lb) rfl rfl (by omega) (by omega) (by omega)) c_3)
      refine lv_aload_n hx hb d_M_back_67 rfl (lv_at hl 1 rfl) ?_
      refine lv_aload_n hx hb d_M_back_68 rfl (lv_at hl 1 rfl) ?_
      refine va_get (D := D) (ci := 7) (v := .int (nI lb)) (C := R_M) (T := F_M) (N := 35) hx hb hts in_M hown hG.1 hP 0 rfl rfl 5 (by decide) (hts _ k_702) (fun _ h9 => h9) rfl d_M_back_69 ?_
      refine va_put (D := D) (ci := 7) (v := .int (nI lb)) (ty := .int) (C := R_M) (T := F_M) (N := 35) hx hb hts in_M tq_M tq_M_ok nq_M hown hG.1 hP hD hS 0 rfl rfl 4 (by decide) (hts _ k_701) (fun _ h9 => h9) rfl (by decide +kernel) rfl rfl (Nat.le_of_ble_eq_true rfl) d_M_back_72 (fun H locs hP hD hS => ?_)
      have hP : va_P D vwCl [(mo, .inr (7, mFs 0 a1 a2 a3 (nI lb) (nI lb) (nI lz) ci a4 a5 a6 nu bk se op fa a7 a8 a9 a10 a11 (nI rn) kh kl sh sl a12 a13 a14 a15 a16 a17 a18 a19 a20)), (a1, .inl (cI, 98816, .inl (nF (iter (bkS gx v2 98816) lb gt)))), (a2, .inl (cI, 98816, .inl (nF gx)))] H := hP
      have hD : va_D A [(mo, .inr (7, mFs 0 a1 a2 a3 (nI lb) (nI lb) (nI lz) ci a4 a5 a6 nu bk se op fa a7 a8 a9 a10 a11 (nI rn) kh kl sh sl a12 a13 a14 a15 a16 a17 a18 a19 a20)), (a1, .inl (cI, 98816, .inl (nF (iter (bkS gx v2 98816) lb gt)))), (a2, .inl (cI, 98816, .inl (nF gx)))] := hD
      refine lv_aload_n hx hb d_M_back_75 rfl (lv_at hl 1 rfl) ?_
      refine va_get (D := D) (ci := 7) (v := .int (nI lb)) (C := R_M) (T := F_M) (N := 35) hx hb hts in_M hown hG.1 hP 0 rfl rfl 4 (by decide) (hts _ k_701) (fun _ h9 => h9) rfl d_M_back_76 ?_
      have hP9 := hP.sub (ws' := [(mo, .inr (7, mFs 0 a1 a2 a3 (nI lb) (nI lb) (nI lz) ci a4 a5 a6 nu bk se op fa a7 a8 a9 a10 a11 (nI rn) kh kl sh sl a12 a13 a14 a15 a16 a17 a18 a19 a20)), (a1, .inl (cI, 98816, .inl (nF (iter (bkS gx v2 98816) lb gt)))), (a2, .inl (cI, 98816, .inl (nF gx)))]) [0, 1, 2] rfl
      have hD9 := hD.sub (ws' := [(mo, .inr (7, mFs 0 a1 a2 a3 (nI lb) (nI lb) (nI lz) ci a4 a5 a6 nu bk se op fa a7 a8 a9 a10 a11 (nI rn) kh kl sh sl a12 a13 a14 a15 a16 a17 a18 a19 a20)), (a1, .inl (cI, 98816, .inl (nF (iter (bkS gx v2 98816) lb gt)))), (a2, .inl (cI, 98816, .inl (nF gx)))]) [0, 1, 2] (by decide) rfl
      exact W.iret (v := nI lb) hx hb hr (fun t ht hW => ⟨⟨_, (), rfl, rfl, by rw [ht]; exact hP9, hD9⟩, hS.F ht⟩) hS.2.2 d_M_back_79
    | succ d1 ih1 =>
      intro i hi1 H locs ls hP hD hS hl
      refine lv_iload_n hx hb d_M_back_26 rfl (lv_at hl 0 rfl) ?_
      refine lv_aload_n hx hb d_M_back_27 rfl (lv_at hl 1 rfl) ?_
      refine va_get (D := D) (ci := 7) (v := .int (nI lb)) (C := R_M) (T := F_M) (N := 35) hx hb hts in_M hown hG.1 hP 0 rfl rfl 5 (by decide) (hts _ k_702) (fun _ h9 => h9) rfl d_M_back_28 ?_
      refine lv_icmp_ge (tgt := 67) hx hb d_M_back_31 (by decide) (fun c_4 => absurd c_4 (sb_geF (a := i) (b := lb) rfl rfl (by omega) (by omega) (by omega))) (fun c_4 => ?_)
      refine lv_aload_n hx hb d_M_back_34 rfl (lv_at hl 1 rfl) ?_
      refine va_get (D := D) (ci := 7) (v := .ref a1) (C := R_M) (T := F_M) (N := 35) hx hb hts in_M hown hG.1 hP 0 rfl rfl 1 (by decide) (hts _ k_698) (fun _ h9 => h9) rfl d_M_back_35 ?_
      refine lv_iload_n hx hb d_M_back_38 rfl (lv_at hl 0 rfl) ?_
      refine lv_aload_n hx hb d_M_back_39 rfl (lv_at hl 1 rfl) ?_
      refine va_get (D := D) (ci := 7) (v := .ref a2) (C := R_M) (T := F_M) (N := 35) hx hb hts in_M hown hG.1 hP 0 rfl rfl 2 (by decide) (hts _ k_699) (fun _ h9 => h9) rfl d_M_back_40 ?_
      refine lv_iload_n hx hb d_M_back_43 rfl (lv_at hl 0 rfl) ?_
      refine sb_ild hx hb hG.1 hP 2 rfl i rfl (by omega) (by omega) d_M_back_44 ?_
      refine lv_iload_n hx hb d_M_back_45 rfl (lv_at hl 0 rfl) ?_
      refine lv_iload_n hx hb d_M_back_46 rfl (lv_at hl 2 rfl) ?_
      refine lv_icmp_ne (tgt := 58) hx hb d_M_back_47 (by decide) (fun c_5 => ?_) (fun c_5 => absurd c_5 (sb_nem1 (by omega)))
      refine lv_iconst (v := 0) hx hb d_M_back_58 (by decide) ?_
      refine lv_ixor hx hb d_M_back_59 ?_
      refine sb_topn ((gx i) ^^^ 0) (sb_xor (a := gx i) (b := 0) rfl rfl) ?_
      refine sb_topn ((gx i) ^^^ 0) rfl ?_
      refine sb_ist hx hb hG.1 hP hD hS 1 rfl i rfl (by omega) (by omega) d_M_back_60 (fun f_6 H locs ef_6 hP hD hS => ?_)
      have hP : va_P D vwCl [(mo, .inr (7, mFs 0 a1 a2 a3 (nI lt) (nI lb) (nI lz) ci a4 a5 a6 nu bk se op fa a7 a8 a9 a10 a11 (nI rn) kh kl sh sl a12 a13 a14 a15 a16 a17 a18 a19 a20)), (a1, .inl (cI, 98816, .inl f_6)), (a2, .inl (cI, 98816, .inl (nF gx)))] H := hP
      have hD : va_D A [(mo, .inr (7, mFs 0 a1 a2 a3 (nI lt) (nI lb) (nI lz) ci a4 a5 a6 nu bk se op fa a7 a8 a9 a10 a11 (nI rn) kh kl sh sl a12 a13 a14 a15 a16 a17 a18 a19 a20)), (a1, .inl (cI, 98816, .inl f_6)), (a2, .inl (cI, 98816, .inl (nF gx)))] := hD
      obtain rfl : f_6 = nF (updN (iter (bkS gx v2 98816) i gt) i ((gx i) ^^^ 0)) := ef_6.trans (nF_set _ _ _)
      have hP : va_P D vwCl [(mo, .inr (7, mFs 0 a1 a2 a3 (nI lt) (nI lb) (nI lz) ci a4 a5 a6 nu bk se op fa a7 a8 a9 a10 a11 (nI rn) kh kl sh sl a12 a13 a14 a15 a16 a17 a18 a19 a20)), (a1, .inl (cI, 98816, .inl (nF (updN (iter (bkS gx v2 98816) i gt) i ((gx i) ^^^ 0))))), (a2, .inl (cI, 98816, .inl (nF gx)))] H := hP
      have hD : va_D A [(mo, .inr (7, mFs 0 a1 a2 a3 (nI lt) (nI lb) (nI lz) ci a4 a5 a6 nu bk se op fa a7 a8 a9 a10 a11 (nI rn) kh kl sh sl a12 a13 a14 a15 a16 a17 a18 a19 a20)), (a1, .inl (cI, 98816, .inl (nF (updN (iter (bkS gx v2 98816) i gt) i ((gx i) ^^^ 0))))), (a2, .inl (cI, 98816, .inl (nF gx)))] := hD
      refine lv_iinc (v := nI (i + 1)) (lv' := [(3, .int (nI (i + 1))), (0, .ref mo), (1, .int (-1)), (2, .int v2)]) hx hb d_M_back_61 hl (k := 0) rfl (sb_inc (a := i) (b := i + 1) (d := 1) rfl (by decide) (by omega)) (by decide) rfl (fun ls hl => ?_)
      refine lv_goto (tgt := 26) hx hb d_M_back_64 (by decide) ?_
      rw [show nF (updN (iter (bkS gx v2 98816) i gt) i ((gx i) ^^^ 0)) = nF (iter (bkS gx v2 98816) (i + 1) gt) from (congrArg nF (Eq.trans (by simp only [bkS, if_neg (show ¬ i = 98816 by omega)]) (iter_s _ _ _).symm))] at hP hD
      exact ih1 (i + 1) (by omega) _ _ ls (hP.sub [0, 1, 2] rfl) (hD.sub [0, 1, 2] (by decide) rfl) hS (lv_sub hl [0, 1, 2, 3] rfl)
  exact lp1 lb 0 (by omega) _ _ ls (hP.sub [0, 1, 2] rfl) (hD.sub [0, 1, 2] (by decide) rfl) hS (lv_sub hl [0, 1, 2, 3] rfl)

theorem d_M_box_0 : decode b_M_box 0 = .ok (.aload_n 0, 1) := by decide +kernel
theorem d_M_box_1 : decode b_M_box 1 = .ok (.iconst 0, 1) := by decide +kernel
theorem d_M_box_2 : decode b_M_box 2 = .ok (.putfield 79, 3) := by decide +kernel
theorem d_M_box_5 : decode b_M_box 5 = .ok (.iload_n 1, 1) := by decide +kernel
theorem d_M_box_6 : decode b_M_box 6 = .ok (.ifCond .lt 11, 3) := by decide +kernel
theorem d_M_box_9 : decode b_M_box 9 = .ok (.iload_n 1, 1) := by decide +kernel
theorem d_M_box_10 : decode b_M_box 10 = .ok (.aload_n 0, 1) := by decide +kernel
theorem d_M_box_11 : decode b_M_box 11 = .ok (.getfield 156, 3) := by decide +kernel
theorem d_M_box_14 : decode b_M_box 14 = .ok (.if_icmp .lt 9, 3) := by decide +kernel
theorem d_M_box_17 : decode b_M_box 17 = .ok (.aload_n 0, 1) := by decide +kernel
theorem d_M_box_18 : decode b_M_box 18 = .ok (.iconst 1, 1) := by decide +kernel
theorem d_M_box_19 : decode b_M_box 19 = .ok (.invokevirtual 166, 3) := by decide +kernel
theorem d_M_box_22 : decode b_M_box 22 = .ok (.ireturn, 1) := by decide +kernel
theorem d_M_box_23 : decode b_M_box 23 = .ok (.aload_n 0, 1) := by decide +kernel
theorem d_M_box_24 : decode b_M_box 24 = .ok (.getfield 14, 3) := by decide +kernel
theorem d_M_box_27 : decode b_M_box 27 = .ok (.iload_n 1, 1) := by decide +kernel
theorem d_M_box_28 : decode b_M_box 28 = .ok (.iaload, 1) := by decide +kernel
theorem d_M_box_29 : decode b_M_box 29 = .ok (.ireturn, 1) := by decide +kernel

def rm_M_boxN : Room := { frames := 1, cells := 0, slots := 0, locals := 21 }
set_option maxHeartbeats 4000000 in
set_option maxRecDepth 100000 in
theorem c_M_boxN (l : Launch) (D : va_G) (cI cL cB : ClassId) (tS tF : Nat) (mo : Nat) (a1 : Nat) (a2 : Nat) (a3 : Nat) (a4 : Nat) (a5 : Nat) (a6 : Nat) (a7 : Nat) (a8 : Nat) (a9 : Nat) (a10 : Nat) (a11 : Nat) (a12 : Nat) (a13 : Nat) (a14 : Nat) (a15 : Nat) (a16 : Nat) (a17 : Nat) (a18 : Nat) (a19 : Nat) (a20 : Nat) (thr : Int32) (ci : Int32) (bk : Int32) (se : Int32) (op : Int32) (fa : Int32) (lt : Nat) (lb : Nat) (lz : Nat) (rn : Nat) (nu : Int64) (kh : Int64) (kl : Int64) (sh : Int64) (sl : Int64) (v : Int32) (sz : Nat) (hv : v < 0 ∨ ¬ v < nI lb) : Met l y_M_box (sbw y_M_box b_M_box 2 (some .int)) rm_M_boxN (sbPc D cI cL cB tS tF [.ref mo, .int v] sz [(mo, .inr (7, mFs thr a1 a2 a3 (nI lt) (nI lb) (nI lz) ci a4 a5 a6 nu bk se op fa a7 a8 a9 a10 a11 (nI rn) kh kl sh sl a12 a13 a14 a15 a16 a17 a18 a19 a20))]) (sbQi D (fun (r : Int32) (_ : Unit) => r = 0) (fun (_ : Unit) => [(mo, .inr (7, mFs 1 a1 a2 a3 (nI lt) (nI lb) (nI lz) ci a4 a5 a6 nu bk se op fa a7 a8 a9 a10 a11 (nI rn) kh kl sh sl a12 a13 a14 a15 a16 a17 a18 a19 a20))]) (va_A [(mo, .inr (7, mFs thr a1 a2 a3 (nI lt) (nI lb) (nI lz) ci a4 a5 a6 nu bk se op fa a7 a8 a9 a10 a11 (nI rn) kh kl sh sl a12 a13 a14 a15 a16 a17 a18 a19 a20))] sz)) 0 0 (va_A [(mo, .inr (7, mFs thr a1 a2 a3 (nI lt) (nI lb) (nI lz) ci a4 a5 a6 nu bk se op fa a7 a8 a9 a10 a11 (nI rn) kh kl sh sl a12 a13 a14 a15 a16 a17 a18 a19 a20))] sz) := by
  refine sb_ofW (y := y_M_box) (maxL := 2) (av := [.ref mo, .int v]) (Qc := fun A => (sbQi D (fun (r : Int32) (_ : Unit) => r = 0) (fun (_ : Unit) => [(mo, .inr (7, mFs 1 a1 a2 a3 (nI lt) (nI lb) (nI lz) ci a4 a5 a6 nu bk se op fa a7 a8 a9 a10 a11 (nI rn) kh kl sh sl a12 a13 a14 a15 a16 a17 a18 a19 a20))]) A)) (by decide) (Nat.le_of_ble_eq_true rfl) ?_
  intro p e s m args below meth c A ls hx hb hr hml hts hown hlocks hin hsz hP hG hD hA hS hl
  have hl : lv_has ls 2 [(0, .ref mo), (1, .int v)] := hl
  refine lv_aload_n hx hb d_M_box_0 rfl (lv_at hl 0 rfl) ?_
  refine lv_iconst (v := 0) hx hb d_M_box_1 (by decide) ?_
  refine va_put (D := D) (ci := 7) (v := .int 0) (ty := .int) (C := R_M) (T := F_M) (N := 35) hx hb hts in_M tq_M tq_M_ok nq_M hown hG.1 hP hD hS 0 rfl rfl 0 (by decide) (hts _ k_697) (fun _ h9 => h9) rfl (by decide +kernel) rfl rfl (Nat.le_of_ble_eq_true rfl) d_M_box_2 (fun H locs hP hD hS => ?_)
  have hP : va_P D vwCl [(mo, .inr (7, mFs 0 a1 a2 a3 (nI lt) (nI lb) (nI lz) ci a4 a5 a6 nu bk se op fa a7 a8 a9 a10 a11 (nI rn) kh kl sh sl a12 a13 a14 a15 a16 a17 a18 a19 a20))] H := hP
  have hD : va_D A [(mo, .inr (7, mFs 0 a1 a2 a3 (nI lt) (nI lb) (nI lz) ci a4 a5 a6 nu bk se op fa a7 a8 a9 a10 a11 (nI rn) kh kl sh sl a12 a13 a14 a15 a16 a17 a18 a19 a20))] := hD
  refine lv_iload_n hx hb d_M_box_5 rfl (lv_at hl 1 rfl) ?_
  refine lv_if_lt (tgt := 17) hx hb d_M_box_6 (by decide) (fun c_1 => ?_) (fun c_1 => ?_)
  · refine lv_aload_n hx hb d_M_box_17 rfl (lv_at hl 0 rfl) ?_
    refine lv_iconst (v := 1) hx hb d_M_box_18 (by decide) ?_
    refine sb_calli (wr := []) (va_runV (As := [.int 1]) (rest := []) ⟨hx, hb, hml, hown, hts⟩ (c_M_fail l D cI cL cB tS tF mo a1 a2 a3 a4 a5 a6 a7 a8 a9 a10 a11 a12 a13 a14 a15 a16 a17 a18 a19 a20 0 ci bk se op fa lt lb lz rn nu kh kl sh sl 1 _ ) (cwV 1 hts (sb_gV k_812 k_814 k_7 k_30 k_815) rfl rfl rfl (by decide +kernel) ⟨Nat.le_of_ble_eq_true rfl, Nat.le_of_ble_eq_true rfl⟩) (sb_pV hG hP hD hS hA [0] (by decide) rfl (ci := 7) (q0 := 0) rfl rfl) rfl rfl hl.1 rfl (lv_room (Nat.le_of_ble_eq_true rfl)) d_M_box_19 ⟨Nat.le_of_ble_eq_true rfl, Nat.le_of_ble_eq_true rfl⟩) hP hD hS hA [0] [] rfl rfl (by decide) (by decide) (fun r_3 u H locs hw_2 hP hD hS => ?_)
    have hP : va_P D vwCl [(mo, .inr (7, mFs 1 a1 a2 a3 (nI lt) (nI lb) (nI lz) ci a4 a5 a6 nu bk se op fa a7 a8 a9 a10 a11 (nI rn) kh kl sh sl a12 a13 a14 a15 a16 a17 a18 a19 a20))] H := hP
    have hD : va_D A [(mo, .inr (7, mFs 1 a1 a2 a3 (nI lt) (nI lb) (nI lz) ci a4 a5 a6 nu bk se op fa a7 a8 a9 a10 a11 (nI rn) kh kl sh sl a12 a13 a14 a15 a16 a17 a18 a19 a20))] := hD
    subst hw_2
    have hP9 := hP.sub (ws' := [(mo, .inr (7, mFs 1 a1 a2 a3 (nI lt) (nI lb) (nI lz) ci a4 a5 a6 nu bk se op fa a7 a8 a9 a10 a11 (nI rn) kh kl sh sl a12 a13 a14 a15 a16 a17 a18 a19 a20))]) [0] rfl
    have hD9 := hD.sub (ws' := [(mo, .inr (7, mFs 1 a1 a2 a3 (nI lt) (nI lb) (nI lz) ci a4 a5 a6 nu bk se op fa a7 a8 a9 a10 a11 (nI rn) kh kl sh sl a12 a13 a14 a15 a16 a17 a18 a19 a20))]) [0] (by decide) rfl
    exact W.iret (v := 0) hx hb hr (fun t ht hW => ⟨⟨_, (), rfl, rfl, by rw [ht]; exact hP9, hD9⟩, hS.F ht⟩) hS.2.2 d_M_box_22
  · refine lv_iload_n hx hb d_M_box_9 rfl (lv_at hl 1 rfl) ?_
    refine lv_aload_n hx hb d_M_box_10 rfl (lv_at hl 0 rfl) ?_
    refine va_get (D := D) (ci := 7) (v := .int (nI lb)) (C := R_M) (T := F_M) (N := 35) hx hb hts in_M hown hG.1 hP 0 rfl rfl 5 (by decide) (hts _ k_702) (fun _ h9 => h9) rfl d_M_box_11 ?_
    refine lv_icmp_lt (tgt := 23) hx hb d_M_box_14 (by decide) (fun c_4 => absurd c_4 (hv.resolve_left c_1)) (fun c_4 => ?_)
    refine lv_aload_n hx hb d_M_box_17 rfl (lv_at hl 0 rfl) ?_
    refine lv_iconst (v := 1) hx hb d_M_box_18 (by decide) ?_
    refine sb_calli (wr := []) (va_runV (As := [.int 1]) (rest := []) ⟨hx, hb, hml, hown, hts⟩ (c_M_fail l D cI cL cB tS tF mo a1 a2 a3 a4 a5 a6 a7 a8 a9 a10 a11 a12 a13 a14 a15 a16 a17 a18 a19 a20 0 ci bk se op fa lt lb lz rn nu kh kl sh sl 1 _ ) (cwV 1 hts (sb_gV k_812 k_814 k_7 k_30 k_815) rfl rfl rfl (by decide +kernel) ⟨Nat.le_of_ble_eq_true rfl, Nat.le_of_ble_eq_true rfl⟩) (sb_pV hG hP hD hS hA [0] (by decide) rfl (ci := 7) (q0 := 0) rfl rfl) rfl rfl hl.1 rfl (lv_room (Nat.le_of_ble_eq_true rfl)) d_M_box_19 ⟨Nat.le_of_ble_eq_true rfl, Nat.le_of_ble_eq_true rfl⟩) hP hD hS hA [0] [] rfl rfl (by decide) (by decide) (fun r_6 u H locs hw_5 hP hD hS => ?_)
    have hP : va_P D vwCl [(mo, .inr (7, mFs 1 a1 a2 a3 (nI lt) (nI lb) (nI lz) ci a4 a5 a6 nu bk se op fa a7 a8 a9 a10 a11 (nI rn) kh kl sh sl a12 a13 a14 a15 a16 a17 a18 a19 a20))] H := hP
    have hD : va_D A [(mo, .inr (7, mFs 1 a1 a2 a3 (nI lt) (nI lb) (nI lz) ci a4 a5 a6 nu bk se op fa a7 a8 a9 a10 a11 (nI rn) kh kl sh sl a12 a13 a14 a15 a16 a17 a18 a19 a20))] := hD
    subst hw_5
    have hP9 := hP.sub (ws' := [(mo, .inr (7, mFs 1 a1 a2 a3 (nI lt) (nI lb) (nI lz) ci a4 a5 a6 nu bk se op fa a7 a8 a9 a10 a11 (nI rn) kh kl sh sl a12 a13 a14 a15 a16 a17 a18 a19 a20))]) [0] rfl
    have hD9 := hD.sub (ws' := [(mo, .inr (7, mFs 1 a1 a2 a3 (nI lt) (nI lb) (nI lz) ci a4 a5 a6 nu bk se op fa a7 a8 a9 a10 a11 (nI rn) kh kl sh sl a12 a13 a14 a15 a16 a17 a18 a19 a20))]) [0] (by decide) rfl
    exact W.iret (v := 0) hx hb hr (fun t ht hW => ⟨⟨_, (), rfl, rfl, by rw [ht]; exact hP9, hD9⟩, hS.F ht⟩) hS.2.2 d_M_box_22

def rm_M_boxY : Room := { frames := 0, cells := 0, slots := 0, locals := 0 }
set_option maxHeartbeats 4000000 in
set_option maxRecDepth 100000 in
theorem c_M_boxY (l : Launch) (D : va_G) (cI cL cB : ClassId) (tS tF : Nat) (mo : Nat) (a1 : Nat) (a2 : Nat) (a3 : Nat) (a4 : Nat) (a5 : Nat) (a6 : Nat) (a7 : Nat) (a8 : Nat) (a9 : Nat) (a10 : Nat) (a11 : Nat) (a12 : Nat) (a13 : Nat) (a14 : Nat) (a15 : Nat) (a16 : Nat) (a17 : Nat) (a18 : Nat) (a19 : Nat) (a20 : Nat) (thr : Int32) (ci : Int32) (bk : Int32) (se : Int32) (op : Int32) (fa : Int32) (lt : Nat) (lb : Nat) (lz : Nat) (rn : Nat) (nu : Int64) (kh : Int64) (kl : Int64) (sh : Int64) (sl : Int64) (gx : Nat → Nat) (n0 : Nat) (sz : Nat) (hn : n0 < lb) (hlb : lb ≤ 20100) : Met l y_M_box (sbw y_M_box b_M_box 2 (some .int)) rm_M_boxY (sbPc D cI cL cB tS tF [.ref mo, .int (nI n0)] sz [(mo, .inr (7, mFs thr a1 a2 a3 (nI lt) (nI lb) (nI lz) ci a4 a5 a6 nu bk se op fa a7 a8 a9 a10 a11 (nI rn) kh kl sh sl a12 a13 a14 a15 a16 a17 a18 a19 a20)), (a2, .inl (cI, 98816, .inl (nF gx)))]) (sbQi D (fun (r : Int32) (_ : Unit) => r = nI (gx n0)) (fun (_ : Unit) => [(mo, .inr (7, mFs 0 a1 a2 a3 (nI lt) (nI lb) (nI lz) ci a4 a5 a6 nu bk se op fa a7 a8 a9 a10 a11 (nI rn) kh kl sh sl a12 a13 a14 a15 a16 a17 a18 a19 a20)), (a2, .inl (cI, 98816, .inl (nF gx)))]) (va_A [(mo, .inr (7, mFs thr a1 a2 a3 (nI lt) (nI lb) (nI lz) ci a4 a5 a6 nu bk se op fa a7 a8 a9 a10 a11 (nI rn) kh kl sh sl a12 a13 a14 a15 a16 a17 a18 a19 a20)), (a2, .inl (cI, 98816, .inl (nF gx)))] sz)) 0 0 (va_A [(mo, .inr (7, mFs thr a1 a2 a3 (nI lt) (nI lb) (nI lz) ci a4 a5 a6 nu bk se op fa a7 a8 a9 a10 a11 (nI rn) kh kl sh sl a12 a13 a14 a15 a16 a17 a18 a19 a20)), (a2, .inl (cI, 98816, .inl (nF gx)))] sz) := by
  refine sb_ofW (y := y_M_box) (maxL := 2) (av := [.ref mo, .int (nI n0)]) (Qc := fun A => (sbQi D (fun (r : Int32) (_ : Unit) => r = nI (gx n0)) (fun (_ : Unit) => [(mo, .inr (7, mFs 0 a1 a2 a3 (nI lt) (nI lb) (nI lz) ci a4 a5 a6 nu bk se op fa a7 a8 a9 a10 a11 (nI rn) kh kl sh sl a12 a13 a14 a15 a16 a17 a18 a19 a20)), (a2, .inl (cI, 98816, .inl (nF gx)))]) A)) (by decide) (Nat.le_of_ble_eq_true rfl) ?_
  intro p e s m args below meth c A ls hx hb hr hml hts hown hlocks hin hsz hP hG hD hA hS hl
  have hl : lv_has ls 2 [(0, .ref mo), (1, .int (nI n0))] := hl
  refine lv_aload_n hx hb d_M_box_0 rfl (lv_at hl 0 rfl) ?_
  refine lv_iconst (v := 0) hx hb d_M_box_1 (by decide) ?_
  refine va_put (D := D) (ci := 7) (v := .int 0) (ty := .int) (C := R_M) (T := F_M) (N := 35) hx hb hts in_M tq_M tq_M_ok nq_M hown hG.1 hP hD hS 0 rfl rfl 0 (by decide) (hts _ k_697) (fun _ h9 => h9) rfl (by decide +kernel) rfl rfl (Nat.le_of_ble_eq_true rfl) d_M_box_2 (fun H locs hP hD hS => ?_)
  have hP : va_P D vwCl [(mo, .inr (7, mFs 0 a1 a2 a3 (nI lt) (nI lb) (nI lz) ci a4 a5 a6 nu bk se op fa a7 a8 a9 a10 a11 (nI rn) kh kl sh sl a12 a13 a14 a15 a16 a17 a18 a19 a20)), (a2, .inl (cI, 98816, .inl (nF gx)))] H := hP
  have hD : va_D A [(mo, .inr (7, mFs 0 a1 a2 a3 (nI lt) (nI lb) (nI lz) ci a4 a5 a6 nu bk se op fa a7 a8 a9 a10 a11 (nI rn) kh kl sh sl a12 a13 a14 a15 a16 a17 a18 a19 a20)), (a2, .inl (cI, 98816, .inl (nF gx)))] := hD
  refine lv_iload_n hx hb d_M_box_5 rfl (lv_at hl 1 rfl) ?_
  refine lv_if_lt (tgt := 17) hx hb d_M_box_6 (by decide) (fun c_1 => absurd c_1 (sb_ltF (a := n0) (b := 0) rfl rfl (by omega) (by omega) (by omega))) (fun c_1 => ?_)
  refine lv_iload_n hx hb d_M_box_9 rfl (lv_at hl 1 rfl) ?_
  refine lv_aload_n hx hb d_M_box_10 rfl (lv_at hl 0 rfl) ?_
  refine va_get (D := D) (ci := 7) (v := .int (nI lb)) (C := R_M) (T := F_M) (N := 35) hx hb hts in_M hown hG.1 hP 0 rfl rfl 5 (by decide) (hts _ k_702) (fun _ h9 => h9) rfl d_M_box_11 ?_
  refine lv_icmp_lt (tgt := 23) hx hb d_M_box_14 (by decide) (fun c_2 => ?_) (fun c_2 => absurd (sb_ltT (a := n0) (b := lb) rfl rfl (by omega) (by omega) (by omega)) c_2)
  refine lv_aload_n hx hb d_M_box_23 rfl (lv_at hl 0 rfl) ?_
  refine va_get (D := D) (ci := 7) (v := .ref a2) (C := R_M) (T := F_M) (N := 35) hx hb hts in_M hown hG.1 hP 0 rfl rfl 2 (by decide) (hts _ k_699) (fun _ h9 => h9) rfl d_M_box_24 ?_
  refine lv_iload_n hx hb d_M_box_27 rfl (lv_at hl 1 rfl) ?_
  refine sb_ild hx hb hG.1 hP 1 rfl n0 rfl (by omega) (by omega) d_M_box_28 ?_
  have hP9 := hP.sub (ws' := [(mo, .inr (7, mFs 0 a1 a2 a3 (nI lt) (nI lb) (nI lz) ci a4 a5 a6 nu bk se op fa a7 a8 a9 a10 a11 (nI rn) kh kl sh sl a12 a13 a14 a15 a16 a17 a18 a19 a20)), (a2, .inl (cI, 98816, .inl (nF gx)))]) [0, 1] rfl
  have hD9 := hD.sub (ws' := [(mo, .inr (7, mFs 0 a1 a2 a3 (nI lt) (nI lb) (nI lz) ci a4 a5 a6 nu bk se op fa a7 a8 a9 a10 a11 (nI rn) kh kl sh sl a12 a13 a14 a15 a16 a17 a18 a19 a20)), (a2, .inl (cI, 98816, .inl (nF gx)))]) [0, 1] (by decide) rfl
  exact W.iret (v := nI (gx n0)) hx hb hr (fun t ht hW => ⟨⟨_, (), rfl, rfl, by rw [ht]; exact hP9, hD9⟩, hS.F ht⟩) hS.2.2 d_M_box_29
