theorem d_M_polyRow_0 : decode b_M_polyRow 0 = .ok (.iconst 0, 1) := by decide +kernel
theorem d_M_polyRow_1 : decode b_M_polyRow 1 = .ok (.istore_n 3, 1) := by decide +kernel
theorem d_M_polyRow_2 : decode b_M_polyRow 2 = .ok (.iload_n 3, 1) := by decide +kernel
theorem d_M_polyRow_3 : decode b_M_polyRow 3 = .ok (.iload_n 2, 1) := by decide +kernel
theorem d_M_polyRow_4 : decode b_M_polyRow 4 = .ok (.if_icmp .ge 62, 3) := by decide +kernel
theorem d_M_polyRow_7 : decode b_M_polyRow 7 = .ok (.iconst 0, 1) := by decide +kernel
theorem d_M_polyRow_8 : decode b_M_polyRow 8 = .ok (.istore 4, 2) := by decide +kernel
theorem d_M_polyRow_10 : decode b_M_polyRow 10 = .ok (.iload 4, 2) := by decide +kernel
theorem d_M_polyRow_12 : decode b_M_polyRow 12 = .ok (.bipush 16, 2) := by decide +kernel
theorem d_M_polyRow_14 : decode b_M_polyRow 14 = .ok (.if_icmp .ge 34, 3) := by decide +kernel
theorem d_M_polyRow_17 : decode b_M_polyRow 17 = .ok (.aload_n 0, 1) := by decide +kernel
theorem d_M_polyRow_18 : decode b_M_polyRow 18 = .ok (.getfield 66, 3) := by decide +kernel
theorem d_M_polyRow_21 : decode b_M_polyRow 21 = .ok (.iload 4, 2) := by decide +kernel
theorem d_M_polyRow_23 : decode b_M_polyRow 23 = .ok (.iload_n 3, 1) := by decide +kernel
theorem d_M_polyRow_24 : decode b_M_polyRow 24 = .ok (.iload 4, 2) := by decide +kernel
theorem d_M_polyRow_26 : decode b_M_polyRow 26 = .ok (.iadd, 1) := by decide +kernel
theorem d_M_polyRow_27 : decode b_M_polyRow 27 = .ok (.iload_n 2, 1) := by decide +kernel
theorem d_M_polyRow_28 : decode b_M_polyRow 28 = .ok (.if_icmp .ge 12, 3) := by decide +kernel
theorem d_M_polyRow_31 : decode b_M_polyRow 31 = .ok (.aload_n 1, 1) := by decide +kernel
theorem d_M_polyRow_32 : decode b_M_polyRow 32 = .ok (.iload_n 3, 1) := by decide +kernel
theorem d_M_polyRow_33 : decode b_M_polyRow 33 = .ok (.iload 4, 2) := by decide +kernel
theorem d_M_polyRow_35 : decode b_M_polyRow 35 = .ok (.iadd, 1) := by decide +kernel
theorem d_M_polyRow_36 : decode b_M_polyRow 36 = .ok (.iaload, 1) := by decide +kernel
theorem d_M_polyRow_37 : decode b_M_polyRow 37 = .ok (.goto 4, 3) := by decide +kernel
theorem d_M_polyRow_40 : decode b_M_polyRow 40 = .ok (.iconst 0, 1) := by decide +kernel
theorem d_M_polyRow_41 : decode b_M_polyRow 41 = .ok (.iastore, 1) := by decide +kernel
theorem d_M_polyRow_42 : decode b_M_polyRow 42 = .ok (.iinc 4 1, 3) := by decide +kernel
theorem d_M_polyRow_45 : decode b_M_polyRow 45 = .ok (.goto (-35), 3) := by decide +kernel
theorem d_M_polyRow_48 : decode b_M_polyRow 48 = .ok (.aload_n 0, 1) := by decide +kernel
theorem d_M_polyRow_49 : decode b_M_polyRow 49 = .ok (.getfield 66, 3) := by decide +kernel
theorem d_M_polyRow_52 : decode b_M_polyRow 52 = .ok (.bipush 16, 2) := by decide +kernel
theorem d_M_polyRow_54 : decode b_M_polyRow 54 = .ok (.iconst 1, 1) := by decide +kernel
theorem d_M_polyRow_55 : decode b_M_polyRow 55 = .ok (.iastore, 1) := by decide +kernel
theorem d_M_polyRow_56 : decode b_M_polyRow 56 = .ok (.aload_n 0, 1) := by decide +kernel
theorem d_M_polyRow_57 : decode b_M_polyRow 57 = .ok (.invokevirtual 137, 3) := by decide +kernel
theorem d_M_polyRow_60 : decode b_M_polyRow 60 = .ok (.iinc 3 16, 3) := by decide +kernel
theorem d_M_polyRow_63 : decode b_M_polyRow 63 = .ok (.goto (-61), 3) := by decide +kernel
theorem d_M_polyRow_66 : decode b_M_polyRow 66 = .ok (.return_, 1) := by decide +kernel

def rm_M_polyRow : Room := { frames := 1, cells := 0, slots := 0, locals := 24 }
set_option maxHeartbeats 4000000 in
set_option maxRecDepth 100000 in
theorem c_M_polyRow (l : Launch) (D : va_G) (cI cL cB : ClassId) (tS tF : Nat) (mo : Nat) (a1 : Nat) (a2 : Nat) (a3 : Nat) (a4 : Nat) (a5 : Nat) (a6 : Nat) (a7 : Nat) (a8 : Nat) (a9 : Nat) (a10 : Nat) (a11 : Nat) (a12 : Nat) (a13 : Nat) (a14 : Nat) (a15 : Nat) (a16 : Nat) (a17 : Nat) (a18 : Nat) (a19 : Nat) (a20 : Nat) (thr : Int32) (ci : Int32) (bk : Int32) (se : Int32) (op : Int32) (fa : Int32) (lt : Nat) (lb : Nat) (lz : Nat) (rn : Nat) (nu : Int64) (kh : Int64) (kl : Int64) (sh : Int64) (sl : Int64) (ga : Nat → Nat) (gb : Nat → Nat) (gd : Nat → Nat) (gc : Nat → Nat) (tx : Nat) (gt : Nat → Nat) (nn : Nat) (sz : Nat) (hga : By ga) (hgb : By gb) (hgd : By gd) (hgc : By gc) (hgt : By gt) (hnn : nn ≤ 20000) : Met l y_M_polyRow (sbw y_M_polyRow b_M_polyRow 5 none) rm_M_polyRow (sbPc D cI cL cB tS tF [.ref mo, .ref tx, .int (nI nn)] sz [(mo, .inr (7, mFs thr a1 a2 a3 (nI lt) (nI lb) (nI lz) ci a4 a5 a6 nu bk se op fa a7 a8 a9 a10 a11 (nI rn) kh kl sh sl a12 a13 a14 a15 a16 a17 a18 a19 a20)), (a15, .inl (cI, 17, .inl (nF ga))), (a16, .inl (cI, 17, .inl (nF gb))), (a17, .inl (cI, 40, .inl (nF gd))), (a18, .inl (cI, 17, .inl (nF gc))), (tx, .inl (cI, 98816, .inl (nF gt)))]) (sbQv D (fun (_ : Unit) => True) (fun (_ : Unit) => [(mo, .inr (7, mFs thr a1 a2 a3 (nI lt) (nI lb) (nI lz) ci a4 a5 a6 nu bk se op fa a7 a8 a9 a10 a11 (nI rn) kh kl sh sl a12 a13 a14 a15 a16 a17 a18 a19 a20)), (a15, .inl (cI, 17, .inl (nF ((plx gb gt nn (ga, gd, gc)).1)))), (a16, .inl (cI, 17, .inl (nF gb))), (a17, .inl (cI, 40, .inl (nF ((plx gb gt nn (ga, gd, gc)).2.1)))), (a18, .inl (cI, 17, .inl (nF ((plx gb gt nn (ga, gd, gc)).2.2)))), (tx, .inl (cI, 98816, .inl (nF gt)))]) (va_A [(mo, .inr (7, mFs thr a1 a2 a3 (nI lt) (nI lb) (nI lz) ci a4 a5 a6 nu bk se op fa a7 a8 a9 a10 a11 (nI rn) kh kl sh sl a12 a13 a14 a15 a16 a17 a18 a19 a20)), (a15, .inl (cI, 17, .inl (nF ga))), (a16, .inl (cI, 17, .inl (nF gb))), (a17, .inl (cI, 40, .inl (nF gd))), (a18, .inl (cI, 17, .inl (nF gc))), (tx, .inl (cI, 98816, .inl (nF gt)))] sz)) 0 0 (va_A [(mo, .inr (7, mFs thr a1 a2 a3 (nI lt) (nI lb) (nI lz) ci a4 a5 a6 nu bk se op fa a7 a8 a9 a10 a11 (nI rn) kh kl sh sl a12 a13 a14 a15 a16 a17 a18 a19 a20)), (a15, .inl (cI, 17, .inl (nF ga))), (a16, .inl (cI, 17, .inl (nF gb))), (a17, .inl (cI, 40, .inl (nF gd))), (a18, .inl (cI, 17, .inl (nF gc))), (tx, .inl (cI, 98816, .inl (nF gt)))] sz) := by
  refine sb_ofW (y := y_M_polyRow) (maxL := 5) (av := [.ref mo, .ref tx, .int (nI nn)]) (Qc := fun A => (sbQv D (fun (_ : Unit) => True) (fun (_ : Unit) => [(mo, .inr (7, mFs thr a1 a2 a3 (nI lt) (nI lb) (nI lz) ci a4 a5 a6 nu bk se op fa a7 a8 a9 a10 a11 (nI rn) kh kl sh sl a12 a13 a14 a15 a16 a17 a18 a19 a20)), (a15, .inl (cI, 17, .inl (nF ((plx gb gt nn (ga, gd, gc)).1)))), (a16, .inl (cI, 17, .inl (nF gb))), (a17, .inl (cI, 40, .inl (nF ((plx gb gt nn (ga, gd, gc)).2.1)))), (a18, .inl (cI, 17, .inl (nF ((plx gb gt nn (ga, gd, gc)).2.2)))), (tx, .inl (cI, 98816, .inl (nF gt)))]) A)) (by decide) (Nat.le_of_ble_eq_true rfl) ?_
  intro p e s m args below meth c A ls hx hb hr hml hts hown hlocks hin hsz hP hG hD hA hS hl
  have hl : lv_has ls 5 [(0, .ref mo), (1, .ref tx), (2, .int (nI nn))] := hl
  refine lv_iconst (v := 0) hx hb d_M_polyRow_0 (by decide) ?_
  refine lv_istore_n (lv' := [(3, .int 0), (0, .ref mo), (1, .ref tx), (2, .int (nI nn))]) hx hb d_M_polyRow_1 rfl hl (by decide) rfl (fun ls hl => ?_)
  have lp1 : ∀ (d1 i : Nat), i + d1 = (nn + 15) / 16 → ∀ (H : Heap) (locs : List Loc) (ls : Array Slot), va_P D vwCl [(mo, .inr (7, mFs thr a1 a2 a3 (nI lt) (nI lb) (nI lz) ci a4 a5 a6 nu bk se op fa a7 a8 a9 a10 a11 (nI rn) kh kl sh sl a12 a13 a14 a15 a16 a17 a18 a19 a20)), (a15, .inl (cI, 17, .inl (nF ((plI gb gt nn i (ga, gd, gc)).1)))), (a16, .inl (cI, 17, .inl (nF gb))), (a17, .inl (cI, 40, .inl (nF ((plI gb gt nn i (ga, gd, gc)).2.1)))), (a18, .inl (cI, 17, .inl (nF ((plI gb gt nn i (ga, gd, gc)).2.2)))), (tx, .inl (cI, 98816, .inl (nF gt)))] H → va_D A [(mo, .inr (7, mFs thr a1 a2 a3 (nI lt) (nI lb) (nI lz) ci a4 a5 a6 nu bk se op fa a7 a8 a9 a10 a11 (nI rn) kh kl sh sl a12 a13 a14 a15 a16 a17 a18 a19 a20)), (a15, .inl (cI, 17, .inl (nF ((plI gb gt nn i (ga, gd, gc)).1)))), (a16, .inl (cI, 17, .inl (nF gb))), (a17, .inl (cI, 40, .inl (nF ((plI gb gt nn i (ga, gd, gc)).2.1)))), (a18, .inl (cI, 17, .inl (nF ((plI gb gt nn i (ga, gd, gc)).2.2)))), (tx, .inl (cI, 98816, .inl (nF gt)))] → va_S A s.heap H locs → lv_has ls 5 [(3, .int (nI (16 * i))), (0, .ref mo), (1, .ref tx), (2, .int (nI nn))] → W p l e rm_M_polyRow s m args below meth c H locs 0 0 (MQ below (sbQv D (fun (_ : Unit) => True) (fun (_ : Unit) => [(mo, .inr (7, mFs thr a1 a2 a3 (nI lt) (nI lb) (nI lz) ci a4 a5 a6 nu bk se op fa a7 a8 a9 a10 a11 (nI rn) kh kl sh sl a12 a13 a14 a15 a16 a17 a18 a19 a20)), (a15, .inl (cI, 17, .inl (nF ((plx gb gt nn (ga, gd, gc)).1)))), (a16, .inl (cI, 17, .inl (nF gb))), (a17, .inl (cI, 40, .inl (nF ((plx gb gt nn (ga, gd, gc)).2.1)))), (a18, .inl (cI, 17, .inl (nF ((plx gb gt nn (ga, gd, gc)).2.2)))), (tx, .inl (cI, 98816, .inl (nF gt)))]) A) args s 0 0 A) (F0 m 2 ls []) := by
    intro d1
    induction d1 with
    | zero =>
      intro i hi1 H locs ls hP hD hS hl
      obtain rfl : (nn + 15) / 16 = i := by omega
      have hB := plI_B (q := (ga, gd, gc)) hgb hgt nn ((nn + 15) / 16) ⟨hga, hgd, hgc⟩
      refine lv_iload_n hx hb d_M_polyRow_2 rfl (lv_at hl 0 rfl) ?_
      refine lv_iload_n hx hb d_M_polyRow_3 rfl (lv_at hl 3 rfl) ?_
      refine lv_icmp_ge (tgt := 66) hx hb d_M_polyRow_4 (by decide) (fun c_1 => ?_) (fun c_1 => absurd (sb_geT (a := 16 * ((nn + 15) / 16)) (b := nn) rfl rfl (by omega) (by omega) (by omega)) c_1)
      have hP9 := hP.sub (ws' := [(mo, .inr (7, mFs thr a1 a2 a3 (nI lt) (nI lb) (nI lz) ci a4 a5 a6 nu bk se op fa a7 a8 a9 a10 a11 (nI rn) kh kl sh sl a12 a13 a14 a15 a16 a17 a18 a19 a20)), (a15, .inl (cI, 17, .inl (nF ((plI gb gt nn ((nn + 15) / 16) (ga, gd, gc)).1)))), (a16, .inl (cI, 17, .inl (nF gb))), (a17, .inl (cI, 40, .inl (nF ((plI gb gt nn ((nn + 15) / 16) (ga, gd, gc)).2.1)))), (a18, .inl (cI, 17, .inl (nF ((plI gb gt nn ((nn + 15) / 16) (ga, gd, gc)).2.2)))), (tx, .inl (cI, 98816, .inl (nF gt)))]) [0, 1, 2, 3, 4, 5] rfl
      have hD9 := hD.sub (ws' := [(mo, .inr (7, mFs thr a1 a2 a3 (nI lt) (nI lb) (nI lz) ci a4 a5 a6 nu bk se op fa a7 a8 a9 a10 a11 (nI rn) kh kl sh sl a12 a13 a14 a15 a16 a17 a18 a19 a20)), (a15, .inl (cI, 17, .inl (nF ((plI gb gt nn ((nn + 15) / 16) (ga, gd, gc)).1)))), (a16, .inl (cI, 17, .inl (nF gb))), (a17, .inl (cI, 40, .inl (nF ((plI gb gt nn ((nn + 15) / 16) (ga, gd, gc)).2.1)))), (a18, .inl (cI, 17, .inl (nF ((plI gb gt nn ((nn + 15) / 16) (ga, gd, gc)).2.2)))), (tx, .inl (cI, 98816, .inl (nF gt)))]) [0, 1, 2, 3, 4, 5] (by decide) rfl
      exact W.vret hx hb hr (fun t ht hW => ⟨⟨(), rfl, trivial, by rw [ht]; exact hP9, hD9⟩, hS.F ht⟩) hS.2.2 d_M_polyRow_66
    | succ d1 ih1 =>
      intro i hi1 H locs ls hP hD hS hl
      have hB := plI_B (q := (ga, gd, gc)) hgb hgt nn i ⟨hga, hgd, hgc⟩
      refine lv_iload_n hx hb d_M_polyRow_2 rfl (lv_at hl 0 rfl) ?_
      refine lv_iload_n hx hb d_M_polyRow_3 rfl (lv_at hl 3 rfl) ?_
      refine lv_icmp_ge (tgt := 66) hx hb d_M_polyRow_4 (by decide) (fun c_2 => absurd c_2 (sb_geF (a := 16 * i) (b := nn) rfl rfl (by omega) (by omega) (by omega))) (fun c_2 => ?_)
      refine lv_iconst (v := 0) hx hb d_M_polyRow_7 (by decide) ?_
      refine lv_istore (lv' := [(4, .int 0), (3, .int (nI (16 * i))), (0, .ref mo), (1, .ref tx), (2, .int (nI nn))]) hx hb d_M_polyRow_8 hl (by decide) rfl (fun ls hl => ?_)
      have lp2 : ∀ (d2 k : Nat), k + d2 = 16 → ∀ (H : Heap) (locs : List Loc) (ls : Array Slot), va_P D vwCl [(mo, .inr (7, mFs thr a1 a2 a3 (nI lt) (nI lb) (nI lz) ci a4 a5 a6 nu bk se op fa a7 a8 a9 a10 a11 (nI rn) kh kl sh sl a12 a13 a14 a15 a16 a17 a18 a19 a20)), (a15, .inl (cI, 17, .inl (nF ((plI gb gt nn i (ga, gd, gc)).1)))), (a16, .inl (cI, 17, .inl (nF gb))), (a17, .inl (cI, 40, .inl (nF ((plI gb gt nn i (ga, gd, gc)).2.1)))), (a18, .inl (cI, 17, .inl (nF (iter (chS gt nn (16 * i)) k ((plI gb gt nn i (ga, gd, gc)).2.2))))), (tx, .inl (cI, 98816, .inl (nF gt)))] H → va_D A [(mo, .inr (7, mFs thr a1 a2 a3 (nI lt) (nI lb) (nI lz) ci a4 a5 a6 nu bk se op fa a7 a8 a9 a10 a11 (nI rn) kh kl sh sl a12 a13 a14 a15 a16 a17 a18 a19 a20)), (a15, .inl (cI, 17, .inl (nF ((plI gb gt nn i (ga, gd, gc)).1)))), (a16, .inl (cI, 17, .inl (nF gb))), (a17, .inl (cI, 40, .inl (nF ((plI gb gt nn i (ga, gd, gc)).2.1)))), (a18, .inl (cI, 17, .inl (nF (iter (chS gt nn (16 * i)) k ((plI gb gt nn i (ga, gd, gc)).2.2))))), (tx, .inl (cI, 98816, .inl (nF gt)))] → va_S A s.heap H locs → lv_has ls 5 [(4, .int (nI k)), (3, .int (nI (16 * i))), (0, .ref mo), (1, .ref tx), (2, .int (nI nn))] → W p l e rm_M_polyRow s m args below meth c H locs 0 0 (MQ below (sbQv D (fun (_ : Unit) => True) (fun (_ : Unit) => [(mo, .inr (7, mFs thr a1 a2 a3 (nI lt) (nI lb) (nI lz) ci a4 a5 a6 nu bk se op fa a7 a8 a9 a10 a11 (nI rn) kh kl sh sl a12 a13 a14 a15 a16 a17 a18 a19 a20)), (a15, .inl (cI, 17, .inl (nF ((plx gb gt nn (ga, gd, gc)).1)))), (a16, .inl (cI, 17, .inl (nF gb))), (a17, .inl (cI, 40, .inl (nF ((plx gb gt nn (ga, gd, gc)).2.1)))), (a18, .inl (cI, 17, .inl (nF ((plx gb gt nn (ga, gd, gc)).2.2)))), (tx, .inl (cI, 98816, .inl (nF gt)))]) A) args s 0 0 A) (F0 m 10 ls []) := by
        intro d2
        induction d2 with
        | zero =>
          intro k hi2 H locs ls hP hD hS hl
          obtain rfl : 16 = k := by omega
          refine lv_iload hx hb d_M_polyRow_10 (lv_at hl 0 rfl) ?_
          refine lv_bipush (v := 16) hx hb d_M_polyRow_12 (by decide) ?_
          refine lv_icmp_ge (tgt := 48) hx hb d_M_polyRow_14 (by decide) (fun c_3 => ?_) (fun c_3 => absurd (sb_geT (a := 16) (b := 16) rfl rfl (by omega) (by omega) (by omega)) c_3)
          refine lv_aload_n hx hb d_M_polyRow_48 rfl (lv_at hl 2 rfl) ?_
          refine va_get (D := D) (ci := 7) (v := .ref a18) (C := R_M) (T := F_M) (N := 35) hx hb hts in_M hown hG.1 hP 0 rfl rfl 32 (by decide) (hts _ k_729) (fun _ h9 => h9) rfl d_M_polyRow_49 ?_
          refine lv_bipush (v := 16) hx hb d_M_polyRow_52 (by decide) ?_
          refine lv_iconst (v := 1) hx hb d_M_polyRow_54 (by decide) ?_
          refine sb_ist hx hb hG.1 hP hD hS 4 rfl 16 rfl (by omega) (by omega) d_M_polyRow_55 (fun f_4 H locs ef_4 hP hD hS => ?_)
          have hP : va_P D vwCl [(mo, .inr (7, mFs thr a1 a2 a3 (nI lt) (nI lb) (nI lz) ci a4 a5 a6 nu bk se op fa a7 a8 a9 a10 a11 (nI rn) kh kl sh sl a12 a13 a14 a15 a16 a17 a18 a19 a20)), (a15, .inl (cI, 17, .inl (nF ((plI gb gt nn i (ga, gd, gc)).1)))), (a16, .inl (cI, 17, .inl (nF gb))), (a17, .inl (cI, 40, .inl (nF ((plI gb gt nn i (ga, gd, gc)).2.1)))), (a18, .inl (cI, 17, .inl f_4)), (tx, .inl (cI, 98816, .inl (nF gt)))] H := hP
          have hD : va_D A [(mo, .inr (7, mFs thr a1 a2 a3 (nI lt) (nI lb) (nI lz) ci a4 a5 a6 nu bk se op fa a7 a8 a9 a10 a11 (nI rn) kh kl sh sl a12 a13 a14 a15 a16 a17 a18 a19 a20)), (a15, .inl (cI, 17, .inl (nF ((plI gb gt nn i (ga, gd, gc)).1)))), (a16, .inl (cI, 17, .inl (nF gb))), (a17, .inl (cI, 40, .inl (nF ((plI gb gt nn i (ga, gd, gc)).2.1)))), (a18, .inl (cI, 17, .inl f_4)), (tx, .inl (cI, 98816, .inl (nF gt)))] := hD
          obtain rfl : f_4 = nF (updN (iter (chS gt nn (16 * i)) 16 ((plI gb gt nn i (ga, gd, gc)).2.2)) 16 1) := ef_4.trans (nF_set _ _ _)
          have hP : va_P D vwCl [(mo, .inr (7, mFs thr a1 a2 a3 (nI lt) (nI lb) (nI lz) ci a4 a5 a6 nu bk se op fa a7 a8 a9 a10 a11 (nI rn) kh kl sh sl a12 a13 a14 a15 a16 a17 a18 a19 a20)), (a15, .inl (cI, 17, .inl (nF ((plI gb gt nn i (ga, gd, gc)).1)))), (a16, .inl (cI, 17, .inl (nF gb))), (a17, .inl (cI, 40, .inl (nF ((plI gb gt nn i (ga, gd, gc)).2.1)))), (a18, .inl (cI, 17, .inl (nF (chN gt nn (16 * i) (plI gb gt nn i (ga, gd, gc)).2.2)))), (tx, .inl (cI, 98816, .inl (nF gt)))] H := hP
          have hD : va_D A [(mo, .inr (7, mFs thr a1 a2 a3 (nI lt) (nI lb) (nI lz) ci a4 a5 a6 nu bk se op fa a7 a8 a9 a10 a11 (nI rn) kh kl sh sl a12 a13 a14 a15 a16 a17 a18 a19 a20)), (a15, .inl (cI, 17, .inl (nF ((plI gb gt nn i (ga, gd, gc)).1)))), (a16, .inl (cI, 17, .inl (nF gb))), (a17, .inl (cI, 40, .inl (nF ((plI gb gt nn i (ga, gd, gc)).2.1)))), (a18, .inl (cI, 17, .inl (nF (chN gt nn (16 * i) (plI gb gt nn i (ga, gd, gc)).2.2)))), (tx, .inl (cI, 98816, .inl (nF gt)))] := hD
          refine lv_aload_n hx hb d_M_polyRow_56 rfl (lv_at hl 2 rfl) ?_
          refine sb_callv (wr := [(tx, .inl (cI, 98816, .inl (nF gt)))]) (va_runV (As := []) (rest := []) ⟨hx, hb, hml, hown, hts⟩ (c_M_poly l D cI cL cB tS tF mo a1 a2 a3 a4 a5 a6 a7 a8 a9 a10 a11 a12 a13 a14 a15 a16 a17 a18 a19 a20 thr ci bk se op fa lt lb lz rn nu kh kl sh sl ((plI gb gt nn i (ga, gd, gc)).1) gb ((plI gb gt nn i (ga, gd, gc)).2.1) (chN gt nn (16 * i) (plI gb gt nn i (ga, gd, gc)).2.2) _ hB.1 hgb hB.2.1 (chN_B hgt nn (16 * i) hB.2.2)) (cwV 0 hts (sb_gV k_891 k_893 k_18 k_30 k_894) rfl rfl rfl (by decide +kernel) ⟨Nat.le_of_ble_eq_true rfl, Nat.le_of_ble_eq_true rfl⟩) (sb_pV hG hP hD hS hA [0, 1, 2, 3, 4] (by decide) rfl (ci := 7) (q0 := 0) rfl rfl) rfl rfl hl.1 rfl (lv_room (Nat.le_of_ble_eq_true rfl)) d_M_polyRow_57 ⟨Nat.le_of_ble_eq_true rfl, Nat.le_of_ble_eq_true rfl⟩) hP hD hS hA [0, 1, 2, 3, 4] [5] rfl rfl (by decide) (by decide) (fun u H locs hw_5 hP hD hS => ?_)
          have hP : va_P D vwCl [(tx, .inl (cI, 98816, .inl (nF gt))), (mo, .inr (7, mFs thr a1 a2 a3 (nI lt) (nI lb) (nI lz) ci a4 a5 a6 nu bk se op fa a7 a8 a9 a10 a11 (nI rn) kh kl sh sl a12 a13 a14 a15 a16 a17 a18 a19 a20)), (a15, .inl (cI, 17, .inl (nF (polyT ((plI gb gt nn i (ga, gd, gc)).1) gb ((plI gb gt nn i (ga, gd, gc)).2.1) (chN gt nn (16 * i) (plI gb gt nn i (ga, gd, gc)).2.2))))), (a16, .inl (cI, 17, .inl (nF gb))), (a17, .inl (cI, 40, .inl (nF (polyD ((plI gb gt nn i (ga, gd, gc)).1) gb ((plI gb gt nn i (ga, gd, gc)).2.1) (chN gt nn (16 * i) (plI gb gt nn i (ga, gd, gc)).2.2))))), (a18, .inl (cI, 17, .inl (nF (chN gt nn (16 * i) (plI gb gt nn i (ga, gd, gc)).2.2))))] H := hP
          have hD : va_D A [(tx, .inl (cI, 98816, .inl (nF gt))), (mo, .inr (7, mFs thr a1 a2 a3 (nI lt) (nI lb) (nI lz) ci a4 a5 a6 nu bk se op fa a7 a8 a9 a10 a11 (nI rn) kh kl sh sl a12 a13 a14 a15 a16 a17 a18 a19 a20)), (a15, .inl (cI, 17, .inl (nF (polyT ((plI gb gt nn i (ga, gd, gc)).1) gb ((plI gb gt nn i (ga, gd, gc)).2.1) (chN gt nn (16 * i) (plI gb gt nn i (ga, gd, gc)).2.2))))), (a16, .inl (cI, 17, .inl (nF gb))), (a17, .inl (cI, 40, .inl (nF (polyD ((plI gb gt nn i (ga, gd, gc)).1) gb ((plI gb gt nn i (ga, gd, gc)).2.1) (chN gt nn (16 * i) (plI gb gt nn i (ga, gd, gc)).2.2))))), (a18, .inl (cI, 17, .inl (nF (chN gt nn (16 * i) (plI gb gt nn i (ga, gd, gc)).2.2))))] := hD
          refine lv_iinc (v := nI ((16 * i) + 16)) (lv' := [(3, .int (nI ((16 * i) + 16))), (4, .int (nI 16)), (0, .ref mo), (1, .ref tx), (2, .int (nI nn))]) hx hb d_M_polyRow_60 hl (k := 1) rfl (sb_inc (a := 16 * i) (b := (16 * i) + 16) (d := 16) rfl (by decide) (by omega)) (by decide) rfl (fun ls hl => ?_)
          refine lv_goto (tgt := 2) hx hb d_M_polyRow_63 (by decide) ?_
          have hE : (plI gb gt nn (i + 1) (ga, gd, gc)) = (polyT ((plI gb gt nn i (ga, gd, gc)).1) gb ((plI gb gt nn i (ga, gd, gc)).2.1) (chN gt nn (16 * i) (plI gb gt nn i (ga, gd, gc)).2.2), polyD ((plI gb gt nn i (ga, gd, gc)).1) gb ((plI gb gt nn i (ga, gd, gc)).2.1) (chN gt nn (16 * i) (plI gb gt nn i (ga, gd, gc)).2.2), (chN gt nn (16 * i) (plI gb gt nn i (ga, gd, gc)).2.2)) := rfl
          have ih' := ih1 (i + 1) (by omega)
          rw [hE] at ih'
          rw [show nI ((16 * i) + 16) = nI (16 * (i + 1)) from congrArg nI (by omega)] at hl
          exact ih' _ _ ls (hP.sub [1, 2, 3, 4, 5, 0] rfl) (hD.sub [1, 2, 3, 4, 5, 0] (by decide) rfl) hS (lv_sub hl [0, 2, 3, 4] rfl)
        | succ d2 ih2 =>
          intro k hi2 H locs ls hP hD hS hl
          refine lv_iload hx hb d_M_polyRow_10 (lv_at hl 0 rfl) ?_
          refine lv_bipush (v := 16) hx hb d_M_polyRow_12 (by decide) ?_
          refine lv_icmp_ge (tgt := 48) hx hb d_M_polyRow_14 (by decide) (fun c_6 => absurd c_6 (sb_geF (a := k) (b := 16) rfl rfl (by omega) (by omega) (by omega))) (fun c_6 => ?_)
          refine lv_aload_n hx hb d_M_polyRow_17 rfl (lv_at hl 2 rfl) ?_
          refine va_get (D := D) (ci := 7) (v := .ref a18) (C := R_M) (T := F_M) (N := 35) hx hb hts in_M hown hG.1 hP 0 rfl rfl 32 (by decide) (hts _ k_729) (fun _ h9 => h9) rfl d_M_polyRow_18 ?_
          refine lv_iload hx hb d_M_polyRow_21 (lv_at hl 0 rfl) ?_
          refine lv_iload_n hx hb d_M_polyRow_23 rfl (lv_at hl 1 rfl) ?_
          refine lv_iload hx hb d_M_polyRow_24 (lv_at hl 0 rfl) ?_
          refine lv_iadd hx hb d_M_polyRow_26 ?_
          refine sb_topn ((16 * i) + k) (nI_add (16 * i) k) ?_
          refine lv_iload_n hx hb d_M_polyRow_27 rfl (lv_at hl 4 rfl) ?_
          refine lv_icmp_ge (tgt := 40) hx hb d_M_polyRow_28 (by decide) (fun c_7 => ?_) (fun c_7 => ?_)
          · have c_7 := (sb_geI (a := (16 * i) + k) (b := nn) rfl rfl (by omega) (by omega)).mp c_7
            refine lv_iconst (v := 0) hx hb d_M_polyRow_40 (by decide) ?_
            refine sb_ist hx hb hG.1 hP hD hS 4 rfl k rfl (by omega) (by omega) d_M_polyRow_41 (fun f_8 H locs ef_8 hP hD hS => ?_)
            have hP : va_P D vwCl [(mo, .inr (7, mFs thr a1 a2 a3 (nI lt) (nI lb) (nI lz) ci a4 a5 a6 nu bk se op fa a7 a8 a9 a10 a11 (nI rn) kh kl sh sl a12 a13 a14 a15 a16 a17 a18 a19 a20)), (a15, .inl (cI, 17, .inl (nF ((plI gb gt nn i (ga, gd, gc)).1)))), (a16, .inl (cI, 17, .inl (nF gb))), (a17, .inl (cI, 40, .inl (nF ((plI gb gt nn i (ga, gd, gc)).2.1)))), (a18, .inl (cI, 17, .inl f_8)), (tx, .inl (cI, 98816, .inl (nF gt)))] H := hP
            have hD : va_D A [(mo, .inr (7, mFs thr a1 a2 a3 (nI lt) (nI lb) (nI lz) ci a4 a5 a6 nu bk se op fa a7 a8 a9 a10 a11 (nI rn) kh kl sh sl a12 a13 a14 a15 a16 a17 a18 a19 a20)), (a15, .inl (cI, 17, .inl (nF ((plI gb gt nn i (ga, gd, gc)).1)))), (a16, .inl (cI, 17, .inl (nF gb))), (a17, .inl (cI, 40, .inl (nF ((plI gb gt nn i (ga, gd, gc)).2.1)))), (a18, .inl (cI, 17, .inl f_8)), (tx, .inl (cI, 98816, .inl (nF gt)))] := hD
            obtain rfl : f_8 = nF (updN (iter (chS gt nn (16 * i)) k ((plI gb gt nn i (ga, gd, gc)).2.2)) k 0) := ef_8.trans (nF_set _ _ _)
            have hP : va_P D vwCl [(mo, .inr (7, mFs thr a1 a2 a3 (nI lt) (nI lb) (nI lz) ci a4 a5 a6 nu bk se op fa a7 a8 a9 a10 a11 (nI rn) kh kl sh sl a12 a13 a14 a15 a16 a17 a18 a19 a20)), (a15, .inl (cI, 17, .inl (nF ((plI gb gt nn i (ga, gd, gc)).1)))), (a16, .inl (cI, 17, .inl (nF gb))), (a17, .inl (cI, 40, .inl (nF ((plI gb gt nn i (ga, gd, gc)).2.1)))), (a18, .inl (cI, 17, .inl (nF (updN (iter (chS gt nn (16 * i)) k ((plI gb gt nn i (ga, gd, gc)).2.2)) k 0)))), (tx, .inl (cI, 98816, .inl (nF gt)))] H := hP
            have hD : va_D A [(mo, .inr (7, mFs thr a1 a2 a3 (nI lt) (nI lb) (nI lz) ci a4 a5 a6 nu bk se op fa a7 a8 a9 a10 a11 (nI rn) kh kl sh sl a12 a13 a14 a15 a16 a17 a18 a19 a20)), (a15, .inl (cI, 17, .inl (nF ((plI gb gt nn i (ga, gd, gc)).1)))), (a16, .inl (cI, 17, .inl (nF gb))), (a17, .inl (cI, 40, .inl (nF ((plI gb gt nn i (ga, gd, gc)).2.1)))), (a18, .inl (cI, 17, .inl (nF (updN (iter (chS gt nn (16 * i)) k ((plI gb gt nn i (ga, gd, gc)).2.2)) k 0)))), (tx, .inl (cI, 98816, .inl (nF gt)))] := hD
            refine lv_iinc (v := nI (k + 1)) (lv' := [(4, .int (nI (k + 1))), (3, .int (nI (16 * i))), (0, .ref mo), (1, .ref tx), (2, .int (nI nn))]) hx hb d_M_polyRow_42 hl (k := 0) rfl (sb_inc (a := k) (b := k + 1) (d := 1) rfl (by decide) (by omega)) (by decide) rfl (fun ls hl => ?_)
            refine lv_goto (tgt := 10) hx hb d_M_polyRow_45 (by decide) ?_
            rw [show nF (updN (iter (chS gt nn (16 * i)) k ((plI gb gt nn i (ga, gd, gc)).2.2)) k 0) = nF (iter (chS gt nn (16 * i)) (k + 1) ((plI gb gt nn i (ga, gd, gc)).2.2)) from (congrArg nF (Eq.trans (by simp only [chS, if_pos c_7]) (iter_s _ _ _).symm))] at hP hD
            exact ih2 (k + 1) (by omega) _ _ ls (hP.sub [0, 1, 2, 3, 4, 5] rfl) (hD.sub [0, 1, 2, 3, 4, 5] (by decide) rfl) hS (lv_sub hl [0, 1, 2, 3, 4] rfl)
          · have c_7 := mt (sb_geI (a := (16 * i) + k) (b := nn) rfl rfl (by omega) (by omega)).mpr c_7
            refine lv_aload_n hx hb d_M_polyRow_31 rfl (lv_at hl 3 rfl) ?_
            refine lv_iload_n hx hb d_M_polyRow_32 rfl (lv_at hl 1 rfl) ?_
            refine lv_iload hx hb d_M_polyRow_33 (lv_at hl 0 rfl) ?_
            refine lv_iadd hx hb d_M_polyRow_35 ?_
            refine sb_topn ((16 * i) + k) (nI_add (16 * i) k) ?_
            refine sb_ild hx hb hG.1 hP 5 rfl ((16 * i) + k) rfl (by omega) (by omega) d_M_polyRow_36 ?_
            refine lv_goto (tgt := 41) hx hb d_M_polyRow_37 (by decide) ?_
            refine sb_topn (gt ((16 * i) + k)) rfl ?_
            refine sb_ist hx hb hG.1 hP hD hS 4 rfl k rfl (by omega) (by omega) d_M_polyRow_41 (fun f_9 H locs ef_9 hP hD hS => ?_)
            have hP : va_P D vwCl [(mo, .inr (7, mFs thr a1 a2 a3 (nI lt) (nI lb) (nI lz) ci a4 a5 a6 nu bk se op fa a7 a8 a9 a10 a11 (nI rn) kh kl sh sl a12 a13 a14 a15 a16 a17 a18 a19 a20)), (a15, .inl (cI, 17, .inl (nF ((plI gb gt nn i (ga, gd, gc)).1)))), (a16, .inl (cI, 17, .inl (nF gb))), (a17, .inl (cI, 40, .inl (nF ((plI gb gt nn i (ga, gd, gc)).2.1)))), (a18, .inl (cI, 17, .inl f_9)), (tx, .inl (cI, 98816, .inl (nF gt)))] H := hP
            have hD : va_D A [(mo, .inr (7, mFs thr a1 a2 a3 (nI lt) (nI lb) (nI lz) ci a4 a5 a6 nu bk se op fa a7 a8 a9 a10 a11 (nI rn) kh kl sh sl a12 a13 a14 a15 a16 a17 a18 a19 a20)), (a15, .inl (cI, 17, .inl (nF ((plI gb gt nn i (ga, gd, gc)).1)))), (a16, .inl (cI, 17, .inl (nF gb))), (a17, .inl (cI, 40, .inl (nF ((plI gb gt nn i (ga, gd, gc)).2.1)))), (a18, .inl (cI, 17, .inl f_9)), (tx, .inl (cI, 98816, .inl (nF gt)))] := hD
            obtain rfl : f_9 = nF (updN (iter (chS gt nn (16 * i)) k ((plI gb gt nn i (ga, gd, gc)).2.2)) k (gt ((16 * i) + k))) := ef_9.trans (nF_set _ _ _)
            have hP : va_P D vwCl [(mo, .inr (7, mFs thr a1 a2 a3 (nI lt) (nI lb) (nI lz) ci a4 a5 a6 nu bk se op fa a7 a8 a9 a10 a11 (nI rn) kh kl sh sl a12 a13 a14 a15 a16 a17 a18 a19 a20)), (a15, .inl (cI, 17, .inl (nF ((plI gb gt nn i (ga, gd, gc)).1)))), (a16, .inl (cI, 17, .inl (nF gb))), (a17, .inl (cI, 40, .inl (nF ((plI gb gt nn i (ga, gd, gc)).2.1)))), (a18, .inl (cI, 17, .inl (nF (updN (iter (chS gt nn (16 * i)) k ((plI gb gt nn i (ga, gd, gc)).2.2)) k (gt ((16 * i) + k)))))), (tx, .inl (cI, 98816, .inl (nF gt)))] H := hP
            have hD : va_D A [(mo, .inr (7, mFs thr a1 a2 a3 (nI lt) (nI lb) (nI lz) ci a4 a5 a6 nu bk se op fa a7 a8 a9 a10 a11 (nI rn) kh kl sh sl a12 a13 a14 a15 a16 a17 a18 a19 a20)), (a15, .inl (cI, 17, .inl (nF ((plI gb gt nn i (ga, gd, gc)).1)))), (a16, .inl (cI, 17, .inl (nF gb))), (a17, .inl (cI, 40, .inl (nF ((plI gb gt nn i (ga, gd, gc)).2.1)))), (a18, .inl (cI, 17, .inl (nF (updN (iter (chS gt nn (16 * i)) k ((plI gb gt nn i (ga, gd, gc)).2.2)) k (gt ((16 * i) + k)))))), (tx, .inl (cI, 98816, .inl (nF gt)))] := hD
            refine lv_iinc (v := nI (k + 1)) (lv' := [(4, .int (nI (k + 1))), (3, .int (nI (16 * i))), (0, .ref mo), (1, .ref tx), (2, .int (nI nn))]) hx hb d_M_polyRow_42 hl (k := 0) rfl (sb_inc (a := k) (b := k + 1) (d := 1) rfl (by decide) (by omega)) (by decide) rfl (fun ls hl => ?_)
            refine lv_goto (tgt := 10) hx hb d_M_polyRow_45 (by decide) ?_
            rw [show nF (updN (iter (chS gt nn (16 * i)) k ((plI gb gt nn i (ga, gd, gc)).2.2)) k (gt ((16 * i) + k))) = nF (iter (chS gt nn (16 * i)) (k + 1) ((plI gb gt nn i (ga, gd, gc)).2.2)) from (congrArg nF (Eq.trans (by simp only [chS, if_neg c_7]) (iter_s _ _ _).symm))] at hP hD
            exact ih2 (k + 1) (by omega) _ _ ls (hP.sub [0, 1, 2, 3, 4, 5] rfl) (hD.sub [0, 1, 2, 3, 4, 5] (by decide) rfl) hS (lv_sub hl [0, 1, 2, 3, 4] rfl)
      exact lp2 16 0 (by omega) _ _ ls (hP.sub [0, 1, 2, 3, 4, 5] rfl) (hD.sub [0, 1, 2, 3, 4, 5] (by decide) rfl) hS (lv_sub hl [0, 1, 2, 3, 4] rfl)
  exact lp1 ((nn + 15) / 16) 0 (by omega) _ _ ls (hP.sub [0, 1, 2, 3, 4, 5] rfl) (hD.sub [0, 1, 2, 3, 4, 5] (by decide) rfl) hS (lv_sub hl [0, 1, 2, 3] rfl)

theorem d_M_tagChacha_0 : decode b_M_tagChacha 0 = .ok (.aload_n 0, 1) := by decide +kernel
theorem d_M_tagChacha_1 : decode b_M_tagChacha 1 = .ok (.iconst 0, 1) := by decide +kernel
theorem d_M_tagChacha_2 : decode b_M_tagChacha 2 = .ok (.invokevirtual 140, 3) := by decide +kernel
theorem d_M_tagChacha_5 : decode b_M_tagChacha 5 = .ok (.iconst 0, 1) := by decide +kernel
theorem d_M_tagChacha_6 : decode b_M_tagChacha 6 = .ok (.istore_n 3, 1) := by decide +kernel
theorem d_M_tagChacha_7 : decode b_M_tagChacha 7 = .ok (.iload_n 3, 1) := by decide +kernel
theorem d_M_tagChacha_8 : decode b_M_tagChacha 8 = .ok (.bipush 17, 2) := by decide +kernel
theorem d_M_tagChacha_10 : decode b_M_tagChacha 10 = .ok (.if_icmp .ge 91, 3) := by decide +kernel
theorem d_M_tagChacha_13 : decode b_M_tagChacha 13 = .ok (.aload_n 0, 1) := by decide +kernel
theorem d_M_tagChacha_14 : decode b_M_tagChacha 14 = .ok (.getfield 57, 3) := by decide +kernel
theorem d_M_tagChacha_17 : decode b_M_tagChacha 17 = .ok (.iload_n 3, 1) := by decide +kernel
theorem d_M_tagChacha_18 : decode b_M_tagChacha 18 = .ok (.iconst 0, 1) := by decide +kernel
theorem d_M_tagChacha_19 : decode b_M_tagChacha 19 = .ok (.iastore, 1) := by decide +kernel
theorem d_M_tagChacha_20 : decode b_M_tagChacha 20 = .ok (.aload_n 0, 1) := by decide +kernel
theorem d_M_tagChacha_21 : decode b_M_tagChacha 21 = .ok (.getfield 60, 3) := by decide +kernel
theorem d_M_tagChacha_24 : decode b_M_tagChacha 24 = .ok (.iload_n 3, 1) := by decide +kernel
theorem d_M_tagChacha_25 : decode b_M_tagChacha 25 = .ok (.iload_n 3, 1) := by decide +kernel
theorem d_M_tagChacha_26 : decode b_M_tagChacha 26 = .ok (.bipush 16, 2) := by decide +kernel
theorem d_M_tagChacha_28 : decode b_M_tagChacha 28 = .ok (.if_icmp .ne 7, 3) := by decide +kernel
theorem d_M_tagChacha_31 : decode b_M_tagChacha 31 = .ok (.iconst 0, 1) := by decide +kernel
theorem d_M_tagChacha_32 : decode b_M_tagChacha 32 = .ok (.goto 41, 3) := by decide +kernel
theorem d_M_tagChacha_35 : decode b_M_tagChacha 35 = .ok (.aload_n 0, 1) := by decide +kernel
theorem d_M_tagChacha_36 : decode b_M_tagChacha 36 = .ok (.getfield 54, 3) := by decide +kernel
theorem d_M_tagChacha_39 : decode b_M_tagChacha 39 = .ok (.iload_n 3, 1) := by decide +kernel
theorem d_M_tagChacha_40 : decode b_M_tagChacha 40 = .ok (.iaload, 1) := by decide +kernel
theorem d_M_tagChacha_41 : decode b_M_tagChacha 41 = .ok (.iload_n 3, 1) := by decide +kernel
theorem d_M_tagChacha_42 : decode b_M_tagChacha 42 = .ok (.iconst 4, 1) := by decide +kernel
theorem d_M_tagChacha_43 : decode b_M_tagChacha 43 = .ok (.irem, 1) := by decide +kernel
theorem d_M_tagChacha_44 : decode b_M_tagChacha 44 = .ok (.iconst 3, 1) := by decide +kernel
theorem d_M_tagChacha_45 : decode b_M_tagChacha 45 = .ok (.if_icmp .ne 8, 3) := by decide +kernel
theorem d_M_tagChacha_48 : decode b_M_tagChacha 48 = .ok (.bipush 15, 2) := by decide +kernel
theorem d_M_tagChacha_50 : decode b_M_tagChacha 50 = .ok (.goto 22, 3) := by decide +kernel
theorem d_M_tagChacha_53 : decode b_M_tagChacha 53 = .ok (.iload_n 3, 1) := by decide +kernel
theorem d_M_tagChacha_54 : decode b_M_tagChacha 54 = .ok (.iconst 4, 1) := by decide +kernel
theorem d_M_tagChacha_55 : decode b_M_tagChacha 55 = .ok (.irem, 1) := by decide +kernel
theorem d_M_tagChacha_56 : decode b_M_tagChacha 56 = .ok (.ifCond .ne 13, 3) := by decide +kernel
theorem d_M_tagChacha_59 : decode b_M_tagChacha 59 = .ok (.iload_n 3, 1) := by decide +kernel
theorem d_M_tagChacha_60 : decode b_M_tagChacha 60 = .ok (.ifCond .le 9, 3) := by decide +kernel
theorem d_M_tagChacha_63 : decode b_M_tagChacha 63 = .ok (.sipush 252, 3) := by decide +kernel
theorem d_M_tagChacha_66 : decode b_M_tagChacha 66 = .ok (.goto 6, 3) := by decide +kernel
theorem d_M_tagChacha_69 : decode b_M_tagChacha 69 = .ok (.sipush 255, 3) := by decide +kernel
theorem d_M_tagChacha_72 : decode b_M_tagChacha 72 = .ok (.iand, 1) := by decide +kernel
theorem d_M_tagChacha_73 : decode b_M_tagChacha 73 = .ok (.iastore, 1) := by decide +kernel
theorem d_M_tagChacha_74 : decode b_M_tagChacha 74 = .ok (.iload_n 3, 1) := by decide +kernel
theorem d_M_tagChacha_75 : decode b_M_tagChacha 75 = .ok (.bipush 16, 2) := by decide +kernel
theorem d_M_tagChacha_77 : decode b_M_tagChacha 77 = .ok (.if_icmp .ge 18, 3) := by decide +kernel
theorem d_M_tagChacha_80 : decode b_M_tagChacha 80 = .ok (.aload_n 0, 1) := by decide +kernel
theorem d_M_tagChacha_81 : decode b_M_tagChacha 81 = .ok (.getfield 72, 3) := by decide +kernel
theorem d_M_tagChacha_84 : decode b_M_tagChacha 84 = .ok (.iload_n 3, 1) := by decide +kernel
theorem d_M_tagChacha_85 : decode b_M_tagChacha 85 = .ok (.aload_n 0, 1) := by decide +kernel
theorem d_M_tagChacha_86 : decode b_M_tagChacha 86 = .ok (.getfield 54, 3) := by decide +kernel
theorem d_M_tagChacha_89 : decode b_M_tagChacha 89 = .ok (.bipush 16, 2) := by decide +kernel
theorem d_M_tagChacha_91 : decode b_M_tagChacha 91 = .ok (.iload_n 3, 1) := by decide +kernel
theorem d_M_tagChacha_92 : decode b_M_tagChacha 92 = .ok (.iadd, 1) := by decide +kernel
theorem d_M_tagChacha_93 : decode b_M_tagChacha 93 = .ok (.iaload, 1) := by decide +kernel
theorem d_M_tagChacha_94 : decode b_M_tagChacha 94 = .ok (.iastore, 1) := by decide +kernel
theorem d_M_tagChacha_95 : decode b_M_tagChacha 95 = .ok (.iinc 3 1, 3) := by decide +kernel
theorem d_M_tagChacha_98 : decode b_M_tagChacha 98 = .ok (.goto (-91), 3) := by decide +kernel
theorem d_M_tagChacha_101 : decode b_M_tagChacha 101 = .ok (.aload_n 0, 1) := by decide +kernel
theorem d_M_tagChacha_102 : decode b_M_tagChacha 102 = .ok (.aload_n 0, 1) := by decide +kernel
theorem d_M_tagChacha_103 : decode b_M_tagChacha 103 = .ok (.getfield 17, 3) := by decide +kernel
theorem d_M_tagChacha_106 : decode b_M_tagChacha 106 = .ok (.aload_n 0, 1) := by decide +kernel
theorem d_M_tagChacha_107 : decode b_M_tagChacha 107 = .ok (.getfield 107, 3) := by decide +kernel
theorem d_M_tagChacha_110 : decode b_M_tagChacha 110 = .ok (.invokevirtual 143, 3) := by decide +kernel
theorem d_M_tagChacha_113 : decode b_M_tagChacha 113 = .ok (.aload_n 0, 1) := by decide +kernel
theorem d_M_tagChacha_114 : decode b_M_tagChacha 114 = .ok (.aload_n 1, 1) := by decide +kernel
theorem d_M_tagChacha_115 : decode b_M_tagChacha 115 = .ok (.iload_n 2, 1) := by decide +kernel
theorem d_M_tagChacha_116 : decode b_M_tagChacha 116 = .ok (.invokevirtual 143, 3) := by decide +kernel
theorem d_M_tagChacha_119 : decode b_M_tagChacha 119 = .ok (.iconst 0, 1) := by decide +kernel
theorem d_M_tagChacha_120 : decode b_M_tagChacha 120 = .ok (.istore_n 3, 1) := by decide +kernel
theorem d_M_tagChacha_121 : decode b_M_tagChacha 121 = .ok (.iload_n 3, 1) := by decide +kernel
theorem d_M_tagChacha_122 : decode b_M_tagChacha 122 = .ok (.bipush 16, 2) := by decide +kernel
theorem d_M_tagChacha_124 : decode b_M_tagChacha 124 = .ok (.if_icmp .ge 53, 3) := by decide +kernel
theorem d_M_tagChacha_127 : decode b_M_tagChacha 127 = .ok (.aload_n 0, 1) := by decide +kernel
theorem d_M_tagChacha_128 : decode b_M_tagChacha 128 = .ok (.getfield 66, 3) := by decide +kernel
theorem d_M_tagChacha_131 : decode b_M_tagChacha 131 = .ok (.iload_n 3, 1) := by decide +kernel
theorem d_M_tagChacha_132 : decode b_M_tagChacha 132 = .ok (.iload_n 3, 1) := by decide +kernel
theorem d_M_tagChacha_133 : decode b_M_tagChacha 133 = .ok (.bipush 8, 2) := by decide +kernel
theorem d_M_tagChacha_135 : decode b_M_tagChacha 135 = .ok (.if_icmp .ge 20, 3) := by decide +kernel
theorem d_M_tagChacha_138 : decode b_M_tagChacha 138 = .ok (.aload_n 0, 1) := by decide +kernel
theorem d_M_tagChacha_139 : decode b_M_tagChacha 139 = .ok (.getfield 107, 3) := by decide +kernel
theorem d_M_tagChacha_142 : decode b_M_tagChacha 142 = .ok (.i2l, 1) := by decide +kernel
theorem d_M_tagChacha_143 : decode b_M_tagChacha 143 = .ok (.bipush 8, 2) := by decide +kernel
theorem d_M_tagChacha_145 : decode b_M_tagChacha 145 = .ok (.iload_n 3, 1) := by decide +kernel
theorem d_M_tagChacha_146 : decode b_M_tagChacha 146 = .ok (.imul, 1) := by decide +kernel
theorem d_M_tagChacha_147 : decode b_M_tagChacha 147 = .ok (.lushr, 1) := by decide +kernel
theorem d_M_tagChacha_148 : decode b_M_tagChacha 148 = .ok (.ldc2_w 120, 3) := by decide +kernel
theorem d_M_tagChacha_151 : decode b_M_tagChacha 151 = .ok (.land, 1) := by decide +kernel
theorem d_M_tagChacha_152 : decode b_M_tagChacha 152 = .ok (.goto 17, 3) := by decide +kernel
theorem d_M_tagChacha_155 : decode b_M_tagChacha 155 = .ok (.iload_n 2, 1) := by decide +kernel
theorem d_M_tagChacha_156 : decode b_M_tagChacha 156 = .ok (.i2l, 1) := by decide +kernel
theorem d_M_tagChacha_157 : decode b_M_tagChacha 157 = .ok (.bipush 8, 2) := by decide +kernel
theorem d_M_tagChacha_159 : decode b_M_tagChacha 159 = .ok (.iload_n 3, 1) := by decide +kernel
theorem d_M_tagChacha_160 : decode b_M_tagChacha 160 = .ok (.bipush 8, 2) := by decide +kernel
theorem d_M_tagChacha_162 : decode b_M_tagChacha 162 = .ok (.isub, 1) := by decide +kernel
theorem d_M_tagChacha_163 : decode b_M_tagChacha 163 = .ok (.imul, 1) := by decide +kernel
theorem d_M_tagChacha_164 : decode b_M_tagChacha 164 = .ok (.lushr, 1) := by decide +kernel
theorem d_M_tagChacha_165 : decode b_M_tagChacha 165 = .ok (.ldc2_w 120, 3) := by decide +kernel
theorem d_M_tagChacha_168 : decode b_M_tagChacha 168 = .ok (.land, 1) := by decide +kernel
theorem d_M_tagChacha_169 : decode b_M_tagChacha 169 = .ok (.l2i, 1) := by decide +kernel
theorem d_M_tagChacha_170 : decode b_M_tagChacha 170 = .ok (.iastore, 1) := by decide +kernel
theorem d_M_tagChacha_171 : decode b_M_tagChacha 171 = .ok (.iinc 3 1, 3) := by decide +kernel
theorem d_M_tagChacha_174 : decode b_M_tagChacha 174 = .ok (.goto (-53), 3) := by decide +kernel
theorem d_M_tagChacha_177 : decode b_M_tagChacha 177 = .ok (.aload_n 0, 1) := by decide +kernel
theorem d_M_tagChacha_178 : decode b_M_tagChacha 178 = .ok (.getfield 66, 3) := by decide +kernel
theorem d_M_tagChacha_181 : decode b_M_tagChacha 181 = .ok (.bipush 16, 2) := by decide +kernel
theorem d_M_tagChacha_183 : decode b_M_tagChacha 183 = .ok (.iconst 1, 1) := by decide +kernel
theorem d_M_tagChacha_184 : decode b_M_tagChacha 184 = .ok (.iastore, 1) := by decide +kernel
theorem d_M_tagChacha_185 : decode b_M_tagChacha 185 = .ok (.aload_n 0, 1) := by decide +kernel
theorem d_M_tagChacha_186 : decode b_M_tagChacha 186 = .ok (.invokevirtual 137, 3) := by decide +kernel
theorem d_M_tagChacha_189 : decode b_M_tagChacha 189 = .ok (.iconst 0, 1) := by decide +kernel
theorem d_M_tagChacha_190 : decode b_M_tagChacha 190 = .ok (.istore_n 3, 1) := by decide +kernel
theorem d_M_tagChacha_191 : decode b_M_tagChacha 191 = .ok (.iconst 0, 1) := by decide +kernel
theorem d_M_tagChacha_192 : decode b_M_tagChacha 192 = .ok (.istore 4, 2) := by decide +kernel
theorem d_M_tagChacha_194 : decode b_M_tagChacha 194 = .ok (.iload 4, 2) := by decide +kernel
theorem d_M_tagChacha_196 : decode b_M_tagChacha 196 = .ok (.bipush 16, 2) := by decide +kernel
theorem d_M_tagChacha_198 : decode b_M_tagChacha 198 = .ok (.if_icmp .ge 44, 3) := by decide +kernel
theorem d_M_tagChacha_201 : decode b_M_tagChacha 201 = .ok (.iload_n 3, 1) := by decide +kernel
theorem d_M_tagChacha_202 : decode b_M_tagChacha 202 = .ok (.aload_n 0, 1) := by decide +kernel
theorem d_M_tagChacha_203 : decode b_M_tagChacha 203 = .ok (.getfield 57, 3) := by decide +kernel
theorem d_M_tagChacha_206 : decode b_M_tagChacha 206 = .ok (.iload 4, 2) := by decide +kernel
theorem d_M_tagChacha_208 : decode b_M_tagChacha 208 = .ok (.iaload, 1) := by decide +kernel
theorem d_M_tagChacha_209 : decode b_M_tagChacha 209 = .ok (.aload_n 0, 1) := by decide +kernel
theorem d_M_tagChacha_210 : decode b_M_tagChacha 210 = .ok (.getfield 72, 3) := by decide +kernel
theorem d_M_tagChacha_213 : decode b_M_tagChacha 213 = .ok (.iload 4, 2) := by decide +kernel
theorem d_M_tagChacha_215 : decode b_M_tagChacha 215 = .ok (.iaload, 1) := by decide +kernel
theorem d_M_tagChacha_216 : decode b_M_tagChacha 216 = .ok (.iadd, 1) := by decide +kernel
theorem d_M_tagChacha_217 : decode b_M_tagChacha 217 = .ok (.iadd, 1) := by decide +kernel
theorem d_M_tagChacha_218 : decode b_M_tagChacha 218 = .ok (.istore_n 3, 1) := by decide +kernel
theorem d_M_tagChacha_219 : decode b_M_tagChacha 219 = .ok (.aload_n 0, 1) := by decide +kernel
theorem d_M_tagChacha_220 : decode b_M_tagChacha 220 = .ok (.getfield 69, 3) := by decide +kernel
theorem d_M_tagChacha_223 : decode b_M_tagChacha 223 = .ok (.iload 4, 2) := by decide +kernel
theorem d_M_tagChacha_225 : decode b_M_tagChacha 225 = .ok (.iload_n 3, 1) := by decide +kernel
theorem d_M_tagChacha_226 : decode b_M_tagChacha 226 = .ok (.sipush 255, 3) := by decide +kernel
theorem d_M_tagChacha_229 : decode b_M_tagChacha 229 = .ok (.iand, 1) := by decide +kernel
theorem d_M_tagChacha_230 : decode b_M_tagChacha 230 = .ok (.iastore, 1) := by decide +kernel
theorem d_M_tagChacha_231 : decode b_M_tagChacha 231 = .ok (.iload_n 3, 1) := by decide +kernel
theorem d_M_tagChacha_232 : decode b_M_tagChacha 232 = .ok (.bipush 8, 2) := by decide +kernel
theorem d_M_tagChacha_234 : decode b_M_tagChacha 234 = .ok (.ishr, 1) := by decide +kernel
theorem d_M_tagChacha_235 : decode b_M_tagChacha 235 = .ok (.istore_n 3, 1) := by decide +kernel
theorem d_M_tagChacha_236 : decode b_M_tagChacha 236 = .ok (.iinc 4 1, 3) := by decide +kernel
theorem d_M_tagChacha_239 : decode b_M_tagChacha 239 = .ok (.goto (-45), 3) := by decide +kernel
theorem d_M_tagChacha_242 : decode b_M_tagChacha 242 = .ok (.return_, 1) := by decide +kernel

def rm_M_tagChacha : Room := { frames := 3, cells := 0, slots := 0, locals := 68 }
set_option maxHeartbeats 4000000 in
set_option maxRecDepth 100000 in
theorem c_M_tagChacha (l : Launch) (D : va_G) (cI cL cB : ClassId) (tS tF : Nat) (mo : Nat) (a1 : Nat) (a2 : Nat) (a3 : Nat) (a4 : Nat) (a5 : Nat) (a6 : Nat) (a7 : Nat) (a8 : Nat) (a9 : Nat) (a10 : Nat) (a11 : Nat) (a12 : Nat) (a13 : Nat) (a14 : Nat) (a15 : Nat) (a16 : Nat) (a17 : Nat) (a18 : Nat) (a19 : Nat) (a20 : Nat) (thr : Int32) (ci : Int32) (bk : Int32) (se : Int32) (op : Int32) (fa : Int32) (lt : Nat) (lb : Nat) (lz : Nat) (rn : Nat) (nu : Int64) (kh : Int64) (kl : Int64) (sh : Int64) (sl : Int64) (gk : Nat → Nat) (gn : Nat → Nat) (gu : Nat → Nat) (ga : Nat → Nat) (gb : Nat → Nat) (gd : Nat → Nat) (gc : Nat → Nat) (gg : Nat → Nat) (gw : Nat → Nat) (gz : Nat → Nat) (wd : Nat → Int32) (td : Nat → Int32) (tx : Nat) (gt : Nat → Nat) (nn : Nat) (sz : Nat) (hgu : By gu) (hga : By ga) (hgb : By gb) (hgd : By gd) (hgc : By gc) (hgg : By gg) (hgw : By gw) (hgz : By gz) (hgt : By gt) (hlz : lz ≤ 20000) (hnn : nn ≤ 20000) : Met l y_M_tagChacha (sbw y_M_tagChacha b_M_tagChacha 5 none) rm_M_tagChacha (sbPc D cI cL cB tS tF [.ref mo, .ref tx, .int (nI nn)] sz [(mo, .inr (7, mFs thr a1 a2 a3 (nI lt) (nI lb) (nI lz) ci a4 a5 a6 nu bk se op fa a7 a8 a9 a10 a11 (nI rn) kh kl sh sl a12 a13 a14 a15 a16 a17 a18 a19 a20)), (a4, .inl (cI, 32, .inl (nF gk))), (a6, .inl (cI, 12, .inl (nF gn))), (a12, .inl (cI, 16, .inl wd)), (a13, .inl (cI, 16, .inl td)), (a14, .inl (cI, 64, .inl (nF gu))), (a15, .inl (cI, 17, .inl (nF ga))), (a16, .inl (cI, 17, .inl (nF gb))), (a17, .inl (cI, 40, .inl (nF gd))), (a18, .inl (cI, 17, .inl (nF gc))), (a19, .inl (cI, 16, .inl (nF gg))), (a20, .inl (cI, 16, .inl (nF gw))), (a3, .inl (cI, 98816, .inl (nF gz))), (tx, .inl (cI, 98816, .inl (nF gt)))]) (sbQv D (fun (_ : Unit) => True) (fun (_ : Unit) => [(mo, .inr (7, mFs thr a1 a2 a3 (nI lt) (nI lb) (nI lz) ci a4 a5 a6 nu bk se op fa a7 a8 a9 a10 a11 (nI rn) kh kl sh sl a12 a13 a14 a15 a16 a17 a18 a19 a20)), (a4, .inl (cI, 32, .inl (nF gk))), (a6, .inl (cI, 12, .inl (nF gn))), (a12, .inl (cI, 16, .inl (cWord gk gn 0 wd))), (a13, .inl (cI, 16, .inl (cTurn (cWord gk gn 0 wd) td))), (a14, .inl (cI, 64, .inl (nF (ccN gk gn 0 wd td gu)))), (a15, .inl (cI, 17, .inl (nF (tcT (ccN gk gn 0 wd td gu) gb gz lz ga gd gc gt nn)))), (a16, .inl (cI, 17, .inl (nF (tcF (ccN gk gn 0 wd td gu) gb)))), (a17, .inl (cI, 40, .inl (nF (tcD (ccN gk gn 0 wd td gu) gb gz lz ga gd gc gt nn)))), (a18, .inl (cI, 17, .inl (nF (tcC (ccN gk gn 0 wd td gu) gb gz lz ga gd gc gt nn)))), (a19, .inl (cI, 16, .inl (nF (tcG (tcT (ccN gk gn 0 wd td gu) gb gz lz ga gd gc gt nn) (ccN gk gn 0 wd td gu) gw gg)))), (a20, .inl (cI, 16, .inl (nF (iter (mkS (ccN gk gn 0 wd td gu)) 17 gw)))), (a3, .inl (cI, 98816, .inl (nF gz))), (tx, .inl (cI, 98816, .inl (nF gt)))]) (va_A [(mo, .inr (7, mFs thr a1 a2 a3 (nI lt) (nI lb) (nI lz) ci a4 a5 a6 nu bk se op fa a7 a8 a9 a10 a11 (nI rn) kh kl sh sl a12 a13 a14 a15 a16 a17 a18 a19 a20)), (a4, .inl (cI, 32, .inl (nF gk))), (a6, .inl (cI, 12, .inl (nF gn))), (a12, .inl (cI, 16, .inl wd)), (a13, .inl (cI, 16, .inl td)), (a14, .inl (cI, 64, .inl (nF gu))), (a15, .inl (cI, 17, .inl (nF ga))), (a16, .inl (cI, 17, .inl (nF gb))), (a17, .inl (cI, 40, .inl (nF gd))), (a18, .inl (cI, 17, .inl (nF gc))), (a19, .inl (cI, 16, .inl (nF gg))), (a20, .inl (cI, 16, .inl (nF gw))), (a3, .inl (cI, 98816, .inl (nF gz))), (tx, .inl (cI, 98816, .inl (nF gt)))] sz)) 0 0 (va_A [(mo, .inr (7, mFs thr a1 a2 a3 (nI lt) (nI lb) (nI lz) ci a4 a5 a6 nu bk se op fa a7 a8 a9 a10 a11 (nI rn) kh kl sh sl a12 a13 a14 a15 a16 a17 a18 a19 a20)), (a4, .inl (cI, 32, .inl (nF gk))), (a6, .inl (cI, 12, .inl (nF gn))), (a12, .inl (cI, 16, .inl wd)), (a13, .inl (cI, 16, .inl td)), (a14, .inl (cI, 64, .inl (nF gu))), (a15, .inl (cI, 17, .inl (nF ga))), (a16, .inl (cI, 17, .inl (nF gb))), (a17, .inl (cI, 40, .inl (nF gd))), (a18, .inl (cI, 17, .inl (nF gc))), (a19, .inl (cI, 16, .inl (nF gg))), (a20, .inl (cI, 16, .inl (nF gw))), (a3, .inl (cI, 98816, .inl (nF gz))), (tx, .inl (cI, 98816, .inl (nF gt)))] sz) := by
  refine sb_ofW (y := y_M_tagChacha) (maxL := 5) (av := [.ref mo, .ref tx, .int (nI nn)]) (Qc := fun A => (sbQv D (fun (_ : Unit) => True) (fun (_ : Unit) => [(mo, .inr (7, mFs thr a1 a2 a3 (nI lt) (nI lb) (nI lz) ci a4 a5 a6 nu bk se op fa a7 a8 a9 a10 a11 (nI rn) kh kl sh sl a12 a13 a14 a15 a16 a17 a18 a19 a20)), (a4, .inl (cI, 32, .inl (nF gk))), (a6, .inl (cI, 12, .inl (nF gn))), (a12, .inl (cI, 16, .inl (cWord gk gn 0 wd))), (a13, .inl (cI, 16, .inl (cTurn (cWord gk gn 0 wd) td))), (a14, .inl (cI, 64, .inl (nF (ccN gk gn 0 wd td gu)))), (a15, .inl (cI, 17, .inl (nF (tcT (ccN gk gn 0 wd td gu) gb gz lz ga gd gc gt nn)))), (a16, .inl (cI, 17, .inl (nF (tcF (ccN gk gn 0 wd td gu) gb)))), (a17, .inl (cI, 40, .inl (nF (tcD (ccN gk gn 0 wd td gu) gb gz lz ga gd gc gt nn)))), (a18, .inl (cI, 17, .inl (nF (tcC (ccN gk gn 0 wd td gu) gb gz lz ga gd gc gt nn)))), (a19, .inl (cI, 16, .inl (nF (tcG (tcT (ccN gk gn 0 wd td gu) gb gz lz ga gd gc gt nn) (ccN gk gn 0 wd td gu) gw gg)))), (a20, .inl (cI, 16, .inl (nF (iter (mkS (ccN gk gn 0 wd td gu)) 17 gw)))), (a3, .inl (cI, 98816, .inl (nF gz))), (tx, .inl (cI, 98816, .inl (nF gt)))]) A)) (by decide) (Nat.le_of_ble_eq_true rfl) ?_
  intro p e s m args below meth c A ls hx hb hr hml hts hown hlocks hin hsz hP hG hD hA hS hl
  have hl : lv_has ls 5 [(0, .ref mo), (1, .ref tx), (2, .int (nI nn))] := hl
  refine lv_aload_n hx hb d_M_tagChacha_0 rfl (lv_at hl 0 rfl) ?_
  refine lv_iconst (v := 0) hx hb d_M_tagChacha_1 (by decide) ?_
  refine sb_callv (wr := [(a15, .inl (cI, 17, .inl (nF ga))), (a16, .inl (cI, 17, .inl (nF gb))), (a17, .inl (cI, 40, .inl (nF gd))), (a18, .inl (cI, 17, .inl (nF gc))), (a19, .inl (cI, 16, .inl (nF gg))), (a20, .inl (cI, 16, .inl (nF gw))), (a3, .inl (cI, 98816, .inl (nF gz))), (tx, .inl (cI, 98816, .inl (nF gt)))]) (va_runV (As := [.int 0]) (rest := []) ⟨hx, hb, hml, hown, hts⟩ (c_M_chacha l D cI cL cB tS tF mo a1 a2 a3 a4 a5 a6 a7 a8 a9 a10 a11 a12 a13 a14 a15 a16 a17 a18 a19 a20 thr ci bk se op fa lt lb lz rn nu kh kl sh sl gk gn gu wd td 0 _ ) (cwV 1 hts (sb_gV k_853 k_855 k_11 k_30 k_856) rfl rfl rfl (by decide +kernel) ⟨Nat.le_of_ble_eq_true rfl, Nat.le_of_ble_eq_true rfl⟩) (sb_pV hG hP hD hS hA [0, 1, 2, 3, 4, 5] (by decide) rfl (ci := 7) (q0 := 0) rfl rfl) rfl rfl hl.1 rfl (lv_room (Nat.le_of_ble_eq_true rfl)) d_M_tagChacha_2 ⟨Nat.le_of_ble_eq_true rfl, Nat.le_of_ble_eq_true rfl⟩) hP hD hS hA [0, 1, 2, 3, 4, 5] [6, 7, 8, 9, 10, 11, 12, 13] rfl rfl (by decide) (by decide) (fun u H locs hw_1 hP hD hS => ?_)
  have hP : va_P D vwCl [(a15, .inl (cI, 17, .inl (nF ga))), (a16, .inl (cI, 17, .inl (nF gb))), (a17, .inl (cI, 40, .inl (nF gd))), (a18, .inl (cI, 17, .inl (nF gc))), (a19, .inl (cI, 16, .inl (nF gg))), (a20, .inl (cI, 16, .inl (nF gw))), (a3, .inl (cI, 98816, .inl (nF gz))), (tx, .inl (cI, 98816, .inl (nF gt))), (mo, .inr (7, mFs thr a1 a2 a3 (nI lt) (nI lb) (nI lz) ci a4 a5 a6 nu bk se op fa a7 a8 a9 a10 a11 (nI rn) kh kl sh sl a12 a13 a14 a15 a16 a17 a18 a19 a20)), (a4, .inl (cI, 32, .inl (nF gk))), (a6, .inl (cI, 12, .inl (nF gn))), (a12, .inl (cI, 16, .inl (cWord gk gn 0 wd))), (a13, .inl (cI, 16, .inl (cTurn (cWord gk gn 0 wd) td))), (a14, .inl (cI, 64, .inl (nF (cStrx (cWord gk gn 0 wd) (cTurn (cWord gk gn 0 wd) td) gu))))] H := hP
  have hD : va_D A [(a15, .inl (cI, 17, .inl (nF ga))), (a16, .inl (cI, 17, .inl (nF gb))), (a17, .inl (cI, 40, .inl (nF gd))), (a18, .inl (cI, 17, .inl (nF gc))), (a19, .inl (cI, 16, .inl (nF gg))), (a20, .inl (cI, 16, .inl (nF gw))), (a3, .inl (cI, 98816, .inl (nF gz))), (tx, .inl (cI, 98816, .inl (nF gt))), (mo, .inr (7, mFs thr a1 a2 a3 (nI lt) (nI lb) (nI lz) ci a4 a5 a6 nu bk se op fa a7 a8 a9 a10 a11 (nI rn) kh kl sh sl a12 a13 a14 a15 a16 a17 a18 a19 a20)), (a4, .inl (cI, 32, .inl (nF gk))), (a6, .inl (cI, 12, .inl (nF gn))), (a12, .inl (cI, 16, .inl (cWord gk gn 0 wd))), (a13, .inl (cI, 16, .inl (cTurn (cWord gk gn 0 wd) td))), (a14, .inl (cI, 64, .inl (nF (cStrx (cWord gk gn 0 wd) (cTurn (cWord gk gn 0 wd) td) gu))))] := hD
  obtain ⟨wq, hwq⟩ : ∃ x : Nat → Int32, x = cWord gk gn 0 wd := ⟨_, rfl⟩
  rw [← hwq] at hP hD
  have hP : va_P D vwCl [(a15, .inl (cI, 17, .inl (nF ga))), (a16, .inl (cI, 17, .inl (nF gb))), (a17, .inl (cI, 40, .inl (nF gd))), (a18, .inl (cI, 17, .inl (nF gc))), (a19, .inl (cI, 16, .inl (nF gg))), (a20, .inl (cI, 16, .inl (nF gw))), (a3, .inl (cI, 98816, .inl (nF gz))), (tx, .inl (cI, 98816, .inl (nF gt))), (mo, .inr (7, mFs thr a1 a2 a3 (nI lt) (nI lb) (nI lz) ci a4 a5 a6 nu bk se op fa a7 a8 a9 a10 a11 (nI rn) kh kl sh sl a12 a13 a14 a15 a16 a17 a18 a19 a20)), (a4, .inl (cI, 32, .inl (nF gk))), (a6, .inl (cI, 12, .inl (nF gn))), (a12, .inl (cI, 16, .inl wq)), (a13, .inl (cI, 16, .inl (cTurn wq td))), (a14, .inl (cI, 64, .inl (nF (cStrx wq (cTurn wq td) gu))))] H := hP
  have hD : va_D A [(a15, .inl (cI, 17, .inl (nF ga))), (a16, .inl (cI, 17, .inl (nF gb))), (a17, .inl (cI, 40, .inl (nF gd))), (a18, .inl (cI, 17, .inl (nF gc))), (a19, .inl (cI, 16, .inl (nF gg))), (a20, .inl (cI, 16, .inl (nF gw))), (a3, .inl (cI, 98816, .inl (nF gz))), (tx, .inl (cI, 98816, .inl (nF gt))), (mo, .inr (7, mFs thr a1 a2 a3 (nI lt) (nI lb) (nI lz) ci a4 a5 a6 nu bk se op fa a7 a8 a9 a10 a11 (nI rn) kh kl sh sl a12 a13 a14 a15 a16 a17 a18 a19 a20)), (a4, .inl (cI, 32, .inl (nF gk))), (a6, .inl (cI, 12, .inl (nF gn))), (a12, .inl (cI, 16, .inl wq)), (a13, .inl (cI, 16, .inl (cTurn wq td))), (a14, .inl (cI, 64, .inl (nF (cStrx wq (cTurn wq td) gu))))] := hD
  obtain ⟨tq, htq⟩ : ∃ x : Nat → Int32, x = cTurn wq td := ⟨_, rfl⟩
  rw [← htq] at hP hD
  have hP : va_P D vwCl [(a15, .inl (cI, 17, .inl (nF ga))), (a16, .inl (cI, 17, .inl (nF gb))), (a17, .inl (cI, 40, .inl (nF gd))), (a18, .inl (cI, 17, .inl (nF gc))), (a19, .inl (cI, 16, .inl (nF gg))), (a20, .inl (cI, 16, .inl (nF gw))), (a3, .inl (cI, 98816, .inl (nF gz))), (tx, .inl (cI, 98816, .inl (nF gt))), (mo, .inr (7, mFs thr a1 a2 a3 (nI lt) (nI lb) (nI lz) ci a4 a5 a6 nu bk se op fa a7 a8 a9 a10 a11 (nI rn) kh kl sh sl a12 a13 a14 a15 a16 a17 a18 a19 a20)), (a4, .inl (cI, 32, .inl (nF gk))), (a6, .inl (cI, 12, .inl (nF gn))), (a12, .inl (cI, 16, .inl wq)), (a13, .inl (cI, 16, .inl tq)), (a14, .inl (cI, 64, .inl (nF (cStrx wq tq gu))))] H := hP
  have hD : va_D A [(a15, .inl (cI, 17, .inl (nF ga))), (a16, .inl (cI, 17, .inl (nF gb))), (a17, .inl (cI, 40, .inl (nF gd))), (a18, .inl (cI, 17, .inl (nF gc))), (a19, .inl (cI, 16, .inl (nF gg))), (a20, .inl (cI, 16, .inl (nF gw))), (a3, .inl (cI, 98816, .inl (nF gz))), (tx, .inl (cI, 98816, .inl (nF gt))), (mo, .inr (7, mFs thr a1 a2 a3 (nI lt) (nI lb) (nI lz) ci a4 a5 a6 nu bk se op fa a7 a8 a9 a10 a11 (nI rn) kh kl sh sl a12 a13 a14 a15 a16 a17 a18 a19 a20)), (a4, .inl (cI, 32, .inl (nF gk))), (a6, .inl (cI, 12, .inl (nF gn))), (a12, .inl (cI, 16, .inl wq)), (a13, .inl (cI, 16, .inl tq)), (a14, .inl (cI, 64, .inl (nF (cStrx wq tq gu))))] := hD
  obtain ⟨su, hsu⟩ : ∃ x : Nat → Nat, x = cStrx wq tq gu := ⟨_, rfl⟩
  rw [← hsu] at hP hD
  have hsu : su = ccN gk gn 0 wd td gu := by rw [hsu, htq, hwq]; rfl
  have hP : va_P D vwCl [(a15, .inl (cI, 17, .inl (nF ga))), (a16, .inl (cI, 17, .inl (nF gb))), (a17, .inl (cI, 40, .inl (nF gd))), (a18, .inl (cI, 17, .inl (nF gc))), (a19, .inl (cI, 16, .inl (nF gg))), (a20, .inl (cI, 16, .inl (nF gw))), (a3, .inl (cI, 98816, .inl (nF gz))), (tx, .inl (cI, 98816, .inl (nF gt))), (mo, .inr (7, mFs thr a1 a2 a3 (nI lt) (nI lb) (nI lz) ci a4 a5 a6 nu bk se op fa a7 a8 a9 a10 a11 (nI rn) kh kl sh sl a12 a13 a14 a15 a16 a17 a18 a19 a20)), (a4, .inl (cI, 32, .inl (nF gk))), (a6, .inl (cI, 12, .inl (nF gn))), (a12, .inl (cI, 16, .inl wq)), (a13, .inl (cI, 16, .inl tq)), (a14, .inl (cI, 64, .inl (nF su)))] H := hP
  have hD : va_D A [(a15, .inl (cI, 17, .inl (nF ga))), (a16, .inl (cI, 17, .inl (nF gb))), (a17, .inl (cI, 40, .inl (nF gd))), (a18, .inl (cI, 17, .inl (nF gc))), (a19, .inl (cI, 16, .inl (nF gg))), (a20, .inl (cI, 16, .inl (nF gw))), (a3, .inl (cI, 98816, .inl (nF gz))), (tx, .inl (cI, 98816, .inl (nF gt))), (mo, .inr (7, mFs thr a1 a2 a3 (nI lt) (nI lb) (nI lz) ci a4 a5 a6 nu bk se op fa a7 a8 a9 a10 a11 (nI rn) kh kl sh sl a12 a13 a14 a15 a16 a17 a18 a19 a20)), (a4, .inl (cI, 32, .inl (nF gk))), (a6, .inl (cI, 12, .inl (nF gn))), (a12, .inl (cI, 16, .inl wq)), (a13, .inl (cI, 16, .inl tq)), (a14, .inl (cI, 64, .inl (nF su)))] := hD
  have bsu : By su := by rw [hsu]; unfold ccN; exact cStr_B _ _ 64 _ hgu
  refine lv_iconst (v := 0) hx hb d_M_tagChacha_5 (by decide) ?_
  refine lv_istore_n (lv' := [(3, .int 0), (0, .ref mo), (1, .ref tx), (2, .int (nI nn))]) hx hb d_M_tagChacha_6 rfl hl (by decide) rfl (fun ls hl => ?_)
  have lp1 : ∀ (d1 i : Nat), i + d1 = 17 → ∀ (H : Heap) (locs : List Loc) (ls : Array Slot), va_P D vwCl [(a15, .inl (cI, 17, .inl (nF (iter nZero i ga)))), (a16, .inl (cI, 17, .inl (nF (iter (fS su) i gb)))), (a17, .inl (cI, 40, .inl (nF gd))), (a18, .inl (cI, 17, .inl (nF gc))), (a19, .inl (cI, 16, .inl (nF gg))), (a20, .inl (cI, 16, .inl (nF (iter (mkS su) i gw)))), (a3, .inl (cI, 98816, .inl (nF gz))), (tx, .inl (cI, 98816, .inl (nF gt))), (mo, .inr (7, mFs thr a1 a2 a3 (nI lt) (nI lb) (nI lz) ci a4 a5 a6 nu bk se op fa a7 a8 a9 a10 a11 (nI rn) kh kl sh sl a12 a13 a14 a15 a16 a17 a18 a19 a20)), (a4, .inl (cI, 32, .inl (nF gk))), (a6, .inl (cI, 12, .inl (nF gn))), (a12, .inl (cI, 16, .inl wq)), (a13, .inl (cI, 16, .inl tq)), (a14, .inl (cI, 64, .inl (nF su)))] H → va_D A [(a15, .inl (cI, 17, .inl (nF (iter nZero i ga)))), (a16, .inl (cI, 17, .inl (nF (iter (fS su) i gb)))), (a17, .inl (cI, 40, .inl (nF gd))), (a18, .inl (cI, 17, .inl (nF gc))), (a19, .inl (cI, 16, .inl (nF gg))), (a20, .inl (cI, 16, .inl (nF (iter (mkS su) i gw)))), (a3, .inl (cI, 98816, .inl (nF gz))), (tx, .inl (cI, 98816, .inl (nF gt))), (mo, .inr (7, mFs thr a1 a2 a3 (nI lt) (nI lb) (nI lz) ci a4 a5 a6 nu bk se op fa a7 a8 a9 a10 a11 (nI rn) kh kl sh sl a12 a13 a14 a15 a16 a17 a18 a19 a20)), (a4, .inl (cI, 32, .inl (nF gk))), (a6, .inl (cI, 12, .inl (nF gn))), (a12, .inl (cI, 16, .inl wq)), (a13, .inl (cI, 16, .inl tq)), (a14, .inl (cI, 64, .inl (nF su)))] → va_S A s.heap H locs → lv_has ls 5 [(3, .int (nI i)), (0, .ref mo), (1, .ref tx), (2, .int (nI nn))] → W p l e rm_M_tagChacha s m args below meth c H locs 0 0 (MQ below (sbQv D (fun (_ : Unit) => True) (fun (_ : Unit) => [(mo, .inr (7, mFs thr a1 a2 a3 (nI lt) (nI lb) (nI lz) ci a4 a5 a6 nu bk se op fa a7 a8 a9 a10 a11 (nI rn) kh kl sh sl a12 a13 a14 a15 a16 a17 a18 a19 a20)), (a4, .inl (cI, 32, .inl (nF gk))), (a6, .inl (cI, 12, .inl (nF gn))), (a12, .inl (cI, 16, .inl (cWord gk gn 0 wd))), (a13, .inl (cI, 16, .inl (cTurn (cWord gk gn 0 wd) td))), (a14, .inl (cI, 64, .inl (nF (ccN gk gn 0 wd td gu)))), (a15, .inl (cI, 17, .inl (nF (tcT (ccN gk gn 0 wd td gu) gb gz lz ga gd gc gt nn)))), (a16, .inl (cI, 17, .inl (nF (tcF (ccN gk gn 0 wd td gu) gb)))), (a17, .inl (cI, 40, .inl (nF (tcD (ccN gk gn 0 wd td gu) gb gz lz ga gd gc gt nn)))), (a18, .inl (cI, 17, .inl (nF (tcC (ccN gk gn 0 wd td gu) gb gz lz ga gd gc gt nn)))), (a19, .inl (cI, 16, .inl (nF (tcG (tcT (ccN gk gn 0 wd td gu) gb gz lz ga gd gc gt nn) (ccN gk gn 0 wd td gu) gw gg)))), (a20, .inl (cI, 16, .inl (nF (iter (mkS (ccN gk gn 0 wd td gu)) 17 gw)))), (a3, .inl (cI, 98816, .inl (nF gz))), (tx, .inl (cI, 98816, .inl (nF gt)))]) A) args s 0 0 A) (F0 m 7 ls []) := by
    intro d1
    induction d1 with
    | zero =>
      intro i hi1 H locs ls hP hD hS hl
      obtain rfl : 17 = i := by omega
      have hsb := bsu 17
      refine lv_iload_n hx hb d_M_tagChacha_7 rfl (lv_at hl 0 rfl) ?_
      refine lv_bipush (v := 17) hx hb d_M_tagChacha_8 (by decide) ?_
      refine lv_icmp_ge (tgt := 101) hx hb d_M_tagChacha_10 (by decide) (fun c_2 => ?_) (fun c_2 => absurd (sb_geT (a := 17) (b := 17) rfl rfl (by omega) (by omega) (by omega)) c_2)
      obtain ⟨fb, hfb⟩ : ∃ x : Nat → Nat, x = iter (fS su) 17 gb := ⟨_, rfl⟩
      rw [← hfb] at hP hD
      have hfb : fb = tcF su gb := hfb
      have hP : va_P D vwCl [(a15, .inl (cI, 17, .inl (nF (iter nZero 17 ga)))), (a16, .inl (cI, 17, .inl (nF fb))), (a17, .inl (cI, 40, .inl (nF gd))), (a18, .inl (cI, 17, .inl (nF gc))), (a19, .inl (cI, 16, .inl (nF gg))), (a20, .inl (cI, 16, .inl (nF (iter (mkS su) 17 gw)))), (a3, .inl (cI, 98816, .inl (nF gz))), (tx, .inl (cI, 98816, .inl (nF gt))), (mo, .inr (7, mFs thr a1 a2 a3 (nI lt) (nI lb) (nI lz) ci a4 a5 a6 nu bk se op fa a7 a8 a9 a10 a11 (nI rn) kh kl sh sl a12 a13 a14 a15 a16 a17 a18 a19 a20)), (a4, .inl (cI, 32, .inl (nF gk))), (a6, .inl (cI, 12, .inl (nF gn))), (a12, .inl (cI, 16, .inl wq)), (a13, .inl (cI, 16, .inl tq)), (a14, .inl (cI, 64, .inl (nF su)))] H := hP
      have hD : va_D A [(a15, .inl (cI, 17, .inl (nF (iter nZero 17 ga)))), (a16, .inl (cI, 17, .inl (nF fb))), (a17, .inl (cI, 40, .inl (nF gd))), (a18, .inl (cI, 17, .inl (nF gc))), (a19, .inl (cI, 16, .inl (nF gg))), (a20, .inl (cI, 16, .inl (nF (iter (mkS su) 17 gw)))), (a3, .inl (cI, 98816, .inl (nF gz))), (tx, .inl (cI, 98816, .inl (nF gt))), (mo, .inr (7, mFs thr a1 a2 a3 (nI lt) (nI lb) (nI lz) ci a4 a5 a6 nu bk se op fa a7 a8 a9 a10 a11 (nI rn) kh kl sh sl a12 a13 a14 a15 a16 a17 a18 a19 a20)), (a4, .inl (cI, 32, .inl (nF gk))), (a6, .inl (cI, 12, .inl (nF gn))), (a12, .inl (cI, 16, .inl wq)), (a13, .inl (cI, 16, .inl tq)), (a14, .inl (cI, 64, .inl (nF su)))] := hD
      have bfb : By fb := by rw [hfb]; exact tcF_B bsu hgb
      obtain ⟨tz, htz⟩ : ∃ x : Nat → Nat, x = iter nZero 17 ga := ⟨_, rfl⟩
      rw [← htz] at hP hD
      have hP : va_P D vwCl [(a15, .inl (cI, 17, .inl (nF tz))), (a16, .inl (cI, 17, .inl (nF fb))), (a17, .inl (cI, 40, .inl (nF gd))), (a18, .inl (cI, 17, .inl (nF gc))), (a19, .inl (cI, 16, .inl (nF gg))), (a20, .inl (cI, 16, .inl (nF (iter (mkS su) 17 gw)))), (a3, .inl (cI, 98816, .inl (nF gz))), (tx, .inl (cI, 98816, .inl (nF gt))), (mo, .inr (7, mFs thr a1 a2 a3 (nI lt) (nI lb) (nI lz) ci a4 a5 a6 nu bk se op fa a7 a8 a9 a10 a11 (nI rn) kh kl sh sl a12 a13 a14 a15 a16 a17 a18 a19 a20)), (a4, .inl (cI, 32, .inl (nF gk))), (a6, .inl (cI, 12, .inl (nF gn))), (a12, .inl (cI, 16, .inl wq)), (a13, .inl (cI, 16, .inl tq)), (a14, .inl (cI, 64, .inl (nF su)))] H := hP
      have hD : va_D A [(a15, .inl (cI, 17, .inl (nF tz))), (a16, .inl (cI, 17, .inl (nF fb))), (a17, .inl (cI, 40, .inl (nF gd))), (a18, .inl (cI, 17, .inl (nF gc))), (a19, .inl (cI, 16, .inl (nF gg))), (a20, .inl (cI, 16, .inl (nF (iter (mkS su) 17 gw)))), (a3, .inl (cI, 98816, .inl (nF gz))), (tx, .inl (cI, 98816, .inl (nF gt))), (mo, .inr (7, mFs thr a1 a2 a3 (nI lt) (nI lb) (nI lz) ci a4 a5 a6 nu bk se op fa a7 a8 a9 a10 a11 (nI rn) kh kl sh sl a12 a13 a14 a15 a16 a17 a18 a19 a20)), (a4, .inl (cI, 32, .inl (nF gk))), (a6, .inl (cI, 12, .inl (nF gn))), (a12, .inl (cI, 16, .inl wq)), (a13, .inl (cI, 16, .inl tq)), (a14, .inl (cI, 64, .inl (nF su)))] := hD
      have btz : By tz := by rw [htz]; exact nZero_B 17 _ hga
      obtain ⟨mw, hmw⟩ : ∃ x : Nat → Nat, x = iter (mkS su) 17 gw := ⟨_, rfl⟩
      rw [← hmw] at hP hD
      have hP : va_P D vwCl [(a15, .inl (cI, 17, .inl (nF tz))), (a16, .inl (cI, 17, .inl (nF fb))), (a17, .inl (cI, 40, .inl (nF gd))), (a18, .inl (cI, 17, .inl (nF gc))), (a19, .inl (cI, 16, .inl (nF gg))), (a20, .inl (cI, 16, .inl (nF mw))), (a3, .inl (cI, 98816, .inl (nF gz))), (tx, .inl (cI, 98816, .inl (nF gt))), (mo, .inr (7, mFs thr a1 a2 a3 (nI lt) (nI lb) (nI lz) ci a4 a5 a6 nu bk se op fa a7 a8 a9 a10 a11 (nI rn) kh kl sh sl a12 a13 a14 a15 a16 a17 a18 a19 a20)), (a4, .inl (cI, 32, .inl (nF gk))), (a6, .inl (cI, 12, .inl (nF gn))), (a12, .inl (cI, 16, .inl wq)), (a13, .inl (cI, 16, .inl tq)), (a14, .inl (cI, 64, .inl (nF su)))] H := hP
      have hD : va_D A [(a15, .inl (cI, 17, .inl (nF tz))), (a16, .inl (cI, 17, .inl (nF fb))), (a17, .inl (cI, 40, .inl (nF gd))), (a18, .inl (cI, 17, .inl (nF gc))), (a19, .inl (cI, 16, .inl (nF gg))), (a20, .inl (cI, 16, .inl (nF mw))), (a3, .inl (cI, 98816, .inl (nF gz))), (tx, .inl (cI, 98816, .inl (nF gt))), (mo, .inr (7, mFs thr a1 a2 a3 (nI lt) (nI lb) (nI lz) ci a4 a5 a6 nu bk se op fa a7 a8 a9 a10 a11 (nI rn) kh kl sh sl a12 a13 a14 a15 a16 a17 a18 a19 a20)), (a4, .inl (cI, 32, .inl (nF gk))), (a6, .inl (cI, 12, .inl (nF gn))), (a12, .inl (cI, 16, .inl wq)), (a13, .inl (cI, 16, .inl tq)), (a14, .inl (cI, 64, .inl (nF su)))] := hD
      have bmw : By mw := by rw [hmw]; exact mkS_B bsu 17 _ hgw
      refine lv_aload_n hx hb d_M_tagChacha_101 rfl (lv_at hl 1 rfl) ?_
      refine lv_aload_n hx hb d_M_tagChacha_102 rfl (lv_at hl 1 rfl) ?_
      refine va_get (D := D) (ci := 7) (v := .ref a3) (C := R_M) (T := F_M) (N := 35) hx hb hts in_M hown hG.1 hP 8 rfl rfl 3 (by decide) (hts _ k_700) (fun _ h9 => h9) rfl d_M_tagChacha_103 ?_
      refine lv_aload_n hx hb d_M_tagChacha_106 rfl (lv_at hl 1 rfl) ?_
      refine va_get (D := D) (ci := 7) (v := .int (nI lz)) (C := R_M) (T := F_M) (N := 35) hx hb hts in_M hown hG.1 hP 8 rfl rfl 6 (by decide) (hts _ k_703) (fun _ h9 => h9) rfl d_M_tagChacha_107 ?_
      refine sb_callv (wr := [(a19, .inl (cI, 16, .inl (nF gg))), (a20, .inl (cI, 16, .inl (nF mw))), (tx, .inl (cI, 98816, .inl (nF gt))), (a4, .inl (cI, 32, .inl (nF gk))), (a6, .inl (cI, 12, .inl (nF gn))), (a12, .inl (cI, 16, .inl wq)), (a13, .inl (cI, 16, .inl tq)), (a14, .inl (cI, 64, .inl (nF su)))]) (va_runV (As := [.ref a3, .int (nI lz)]) (rest := []) ⟨hx, hb, hml, hown, hts⟩ (c_M_polyRow l D cI cL cB tS tF mo a1 a2 a3 a4 a5 a6 a7 a8 a9 a10 a11 a12 a13 a14 a15 a16 a17 a18 a19 a20 thr ci bk se op fa lt lb lz rn nu kh kl sh sl tz fb gd gc a3 gz lz _ btz bfb hgd hgc hgz hlz) (cwV 2 hts (sb_gV k_887 k_889 k_17 k_30 k_890) rfl rfl rfl (by decide +kernel) ⟨Nat.le_of_ble_eq_true rfl, Nat.le_of_ble_eq_true rfl⟩) (sb_pV hG hP hD hS hA [8, 0, 1, 2, 3, 6] (by decide) rfl (ci := 7) (q0 := 8) rfl rfl) rfl rfl hl.1 rfl (lv_room (Nat.le_of_ble_eq_true rfl)) d_M_tagChacha_110 ⟨Nat.le_of_ble_eq_true rfl, Nat.le_of_ble_eq_true rfl⟩) hP hD hS hA [8, 0, 1, 2, 3, 6] [4, 5, 7, 9, 10, 11, 12, 13] rfl rfl (by decide) (by decide) (fun u H locs hw_3 hP hD hS => ?_)
      have hP : va_P D vwCl [(a19, .inl (cI, 16, .inl (nF gg))), (a20, .inl (cI, 16, .inl (nF mw))), (tx, .inl (cI, 98816, .inl (nF gt))), (a4, .inl (cI, 32, .inl (nF gk))), (a6, .inl (cI, 12, .inl (nF gn))), (a12, .inl (cI, 16, .inl wq)), (a13, .inl (cI, 16, .inl tq)), (a14, .inl (cI, 64, .inl (nF su))), (mo, .inr (7, mFs thr a1 a2 a3 (nI lt) (nI lb) (nI lz) ci a4 a5 a6 nu bk se op fa a7 a8 a9 a10 a11 (nI rn) kh kl sh sl a12 a13 a14 a15 a16 a17 a18 a19 a20)), (a15, .inl (cI, 17, .inl (nF ((plx fb gz lz (tz, gd, gc)).1)))), (a16, .inl (cI, 17, .inl (nF fb))), (a17, .inl (cI, 40, .inl (nF ((plx fb gz lz (tz, gd, gc)).2.1)))), (a18, .inl (cI, 17, .inl (nF ((plx fb gz lz (tz, gd, gc)).2.2)))), (a3, .inl (cI, 98816, .inl (nF gz)))] H := hP
      have hD : va_D A [(a19, .inl (cI, 16, .inl (nF gg))), (a20, .inl (cI, 16, .inl (nF mw))), (tx, .inl (cI, 98816, .inl (nF gt))), (a4, .inl (cI, 32, .inl (nF gk))), (a6, .inl (cI, 12, .inl (nF gn))), (a12, .inl (cI, 16, .inl wq)), (a13, .inl (cI, 16, .inl tq)), (a14, .inl (cI, 64, .inl (nF su))), (mo, .inr (7, mFs thr a1 a2 a3 (nI lt) (nI lb) (nI lz) ci a4 a5 a6 nu bk se op fa a7 a8 a9 a10 a11 (nI rn) kh kl sh sl a12 a13 a14 a15 a16 a17 a18 a19 a20)), (a15, .inl (cI, 17, .inl (nF ((plx fb gz lz (tz, gd, gc)).1)))), (a16, .inl (cI, 17, .inl (nF fb))), (a17, .inl (cI, 40, .inl (nF ((plx fb gz lz (tz, gd, gc)).2.1)))), (a18, .inl (cI, 17, .inl (nF ((plx fb gz lz (tz, gd, gc)).2.2)))), (a3, .inl (cI, 98816, .inl (nF gz)))] := hD
      obtain ⟨q1, hq1⟩ : ∃ x : N3, x = plx fb gz lz (tz, gd, gc) := ⟨_, rfl⟩
      rw [← hq1] at hP hD
      have hq1 : q1 = tcQ1 su gb gz lz ga gd gc := by rw [hq1, hfb, htz]; rfl
      have hP : va_P D vwCl [(a19, .inl (cI, 16, .inl (nF gg))), (a20, .inl (cI, 16, .inl (nF mw))), (tx, .inl (cI, 98816, .inl (nF gt))), (a4, .inl (cI, 32, .inl (nF gk))), (a6, .inl (cI, 12, .inl (nF gn))), (a12, .inl (cI, 16, .inl wq)), (a13, .inl (cI, 16, .inl tq)), (a14, .inl (cI, 64, .inl (nF su))), (mo, .inr (7, mFs thr a1 a2 a3 (nI lt) (nI lb) (nI lz) ci a4 a5 a6 nu bk se op fa a7 a8 a9 a10 a11 (nI rn) kh kl sh sl a12 a13 a14 a15 a16 a17 a18 a19 a20)), (a15, .inl (cI, 17, .inl (nF q1.1))), (a16, .inl (cI, 17, .inl (nF fb))), (a17, .inl (cI, 40, .inl (nF q1.2.1))), (a18, .inl (cI, 17, .inl (nF q1.2.2))), (a3, .inl (cI, 98816, .inl (nF gz)))] H := hP
      have hD : va_D A [(a19, .inl (cI, 16, .inl (nF gg))), (a20, .inl (cI, 16, .inl (nF mw))), (tx, .inl (cI, 98816, .inl (nF gt))), (a4, .inl (cI, 32, .inl (nF gk))), (a6, .inl (cI, 12, .inl (nF gn))), (a12, .inl (cI, 16, .inl wq)), (a13, .inl (cI, 16, .inl tq)), (a14, .inl (cI, 64, .inl (nF su))), (mo, .inr (7, mFs thr a1 a2 a3 (nI lt) (nI lb) (nI lz) ci a4 a5 a6 nu bk se op fa a7 a8 a9 a10 a11 (nI rn) kh kl sh sl a12 a13 a14 a15 a16 a17 a18 a19 a20)), (a15, .inl (cI, 17, .inl (nF q1.1))), (a16, .inl (cI, 17, .inl (nF fb))), (a17, .inl (cI, 40, .inl (nF q1.2.1))), (a18, .inl (cI, 17, .inl (nF q1.2.2))), (a3, .inl (cI, 98816, .inl (nF gz)))] := hD
      have b1 : B3 q1 := by rw [hq1]; exact tcQ1_B bsu hgb hgz hga hgd hgc lz
      refine lv_aload_n hx hb d_M_tagChacha_113 rfl (lv_at hl 1 rfl) ?_
      refine lv_aload_n hx hb d_M_tagChacha_114 rfl (lv_at hl 2 rfl) ?_
      refine lv_iload_n hx hb d_M_tagChacha_115 rfl (lv_at hl 3 rfl) ?_
      refine sb_callv (wr := [(a19, .inl (cI, 16, .inl (nF gg))), (a20, .inl (cI, 16, .inl (nF mw))), (a4, .inl (cI, 32, .inl (nF gk))), (a6, .inl (cI, 12, .inl (nF gn))), (a12, .inl (cI, 16, .inl wq)), (a13, .inl (cI, 16, .inl tq)), (a14, .inl (cI, 64, .inl (nF su))), (a3, .inl (cI, 98816, .inl (nF gz)))]) (va_runV (As := [.ref tx, .int (nI nn)]) (rest := []) ⟨hx, hb, hml, hown, hts⟩ (c_M_polyRow l D cI cL cB tS tF mo a1 a2 a3 a4 a5 a6 a7 a8 a9 a10 a11 a12 a13 a14 a15 a16 a17 a18 a19 a20 thr ci bk se op fa lt lb lz rn nu kh kl sh sl q1.1 fb q1.2.1 q1.2.2 tx gt nn _ b1.1 bfb b1.2.1 b1.2.2 hgt hnn) (cwV 2 hts (sb_gV k_887 k_889 k_17 k_30 k_890) rfl rfl rfl (by decide +kernel) ⟨Nat.le_of_ble_eq_true rfl, Nat.le_of_ble_eq_true rfl⟩) (sb_pV hG hP hD hS hA [8, 9, 10, 11, 12, 2] (by decide) rfl (ci := 7) (q0 := 8) rfl rfl) rfl rfl hl.1 rfl (lv_room (Nat.le_of_ble_eq_true rfl)) d_M_tagChacha_116 ⟨Nat.le_of_ble_eq_true rfl, Nat.le_of_ble_eq_true rfl⟩) hP hD hS hA [8, 9, 10, 11, 12, 2] [0, 1, 3, 4, 5, 6, 7, 13] rfl rfl (by decide) (by decide) (fun u H locs hw_4 hP hD hS => ?_)
      have hP : va_P D vwCl [(a19, .inl (cI, 16, .inl (nF gg))), (a20, .inl (cI, 16, .inl (nF mw))), (a4, .inl (cI, 32, .inl (nF gk))), (a6, .inl (cI, 12, .inl (nF gn))), (a12, .inl (cI, 16, .inl wq)), (a13, .inl (cI, 16, .inl tq)), (a14, .inl (cI, 64, .inl (nF su))), (a3, .inl (cI, 98816, .inl (nF gz))), (mo, .inr (7, mFs thr a1 a2 a3 (nI lt) (nI lb) (nI lz) ci a4 a5 a6 nu bk se op fa a7 a8 a9 a10 a11 (nI rn) kh kl sh sl a12 a13 a14 a15 a16 a17 a18 a19 a20)), (a15, .inl (cI, 17, .inl (nF ((plx fb gt nn (q1.1, q1.2.1, q1.2.2)).1)))), (a16, .inl (cI, 17, .inl (nF fb))), (a17, .inl (cI, 40, .inl (nF ((plx fb gt nn (q1.1, q1.2.1, q1.2.2)).2.1)))), (a18, .inl (cI, 17, .inl (nF ((plx fb gt nn (q1.1, q1.2.1, q1.2.2)).2.2)))), (tx, .inl (cI, 98816, .inl (nF gt)))] H := hP
      have hD : va_D A [(a19, .inl (cI, 16, .inl (nF gg))), (a20, .inl (cI, 16, .inl (nF mw))), (a4, .inl (cI, 32, .inl (nF gk))), (a6, .inl (cI, 12, .inl (nF gn))), (a12, .inl (cI, 16, .inl wq)), (a13, .inl (cI, 16, .inl tq)), (a14, .inl (cI, 64, .inl (nF su))), (a3, .inl (cI, 98816, .inl (nF gz))), (mo, .inr (7, mFs thr a1 a2 a3 (nI lt) (nI lb) (nI lz) ci a4 a5 a6 nu bk se op fa a7 a8 a9 a10 a11 (nI rn) kh kl sh sl a12 a13 a14 a15 a16 a17 a18 a19 a20)), (a15, .inl (cI, 17, .inl (nF ((plx fb gt nn (q1.1, q1.2.1, q1.2.2)).1)))), (a16, .inl (cI, 17, .inl (nF fb))), (a17, .inl (cI, 40, .inl (nF ((plx fb gt nn (q1.1, q1.2.1, q1.2.2)).2.1)))), (a18, .inl (cI, 17, .inl (nF ((plx fb gt nn (q1.1, q1.2.1, q1.2.2)).2.2)))), (tx, .inl (cI, 98816, .inl (nF gt)))] := hD
      obtain ⟨q2, hq2⟩ : ∃ x : N3, x = plx fb gt nn (q1.1, q1.2.1, q1.2.2) := ⟨_, rfl⟩
      rw [← hq2] at hP hD
      have hq2 : q2 = tcQ2 su gb gz lz ga gd gc gt nn := by rw [hq2, hfb, hq1]; rfl
      have hP : va_P D vwCl [(a19, .inl (cI, 16, .inl (nF gg))), (a20, .inl (cI, 16, .inl (nF mw))), (a4, .inl (cI, 32, .inl (nF gk))), (a6, .inl (cI, 12, .inl (nF gn))), (a12, .inl (cI, 16, .inl wq)), (a13, .inl (cI, 16, .inl tq)), (a14, .inl (cI, 64, .inl (nF su))), (a3, .inl (cI, 98816, .inl (nF gz))), (mo, .inr (7, mFs thr a1 a2 a3 (nI lt) (nI lb) (nI lz) ci a4 a5 a6 nu bk se op fa a7 a8 a9 a10 a11 (nI rn) kh kl sh sl a12 a13 a14 a15 a16 a17 a18 a19 a20)), (a15, .inl (cI, 17, .inl (nF q2.1))), (a16, .inl (cI, 17, .inl (nF fb))), (a17, .inl (cI, 40, .inl (nF q2.2.1))), (a18, .inl (cI, 17, .inl (nF q2.2.2))), (tx, .inl (cI, 98816, .inl (nF gt)))] H := hP
      have hD : va_D A [(a19, .inl (cI, 16, .inl (nF gg))), (a20, .inl (cI, 16, .inl (nF mw))), (a4, .inl (cI, 32, .inl (nF gk))), (a6, .inl (cI, 12, .inl (nF gn))), (a12, .inl (cI, 16, .inl wq)), (a13, .inl (cI, 16, .inl tq)), (a14, .inl (cI, 64, .inl (nF su))), (a3, .inl (cI, 98816, .inl (nF gz))), (mo, .inr (7, mFs thr a1 a2 a3 (nI lt) (nI lb) (nI lz) ci a4 a5 a6 nu bk se op fa a7 a8 a9 a10 a11 (nI rn) kh kl sh sl a12 a13 a14 a15 a16 a17 a18 a19 a20)), (a15, .inl (cI, 17, .inl (nF q2.1))), (a16, .inl (cI, 17, .inl (nF fb))), (a17, .inl (cI, 40, .inl (nF q2.2.1))), (a18, .inl (cI, 17, .inl (nF q2.2.2))), (tx, .inl (cI, 98816, .inl (nF gt)))] := hD
      have b2 : B3 q2 := by rw [hq2]; exact tcQ2_B bsu hgb hgz hga hgd hgc hgt lz nn
      refine lv_iconst (v := 0) hx hb d_M_tagChacha_119 (by decide) ?_
      refine lv_istore_n (lv' := [(3, .int 0), (0, .ref mo), (1, .ref tx), (2, .int (nI nn))]) hx hb d_M_tagChacha_120 rfl hl (by decide) rfl (fun ls hl => ?_)
      have lp2 : ∀ (d2 i : Nat), i + d2 = 16 → ∀ (H : Heap) (locs : List Loc) (ls : Array Slot), va_P D vwCl [(a19, .inl (cI, 16, .inl (nF gg))), (a20, .inl (cI, 16, .inl (nF mw))), (a4, .inl (cI, 32, .inl (nF gk))), (a6, .inl (cI, 12, .inl (nF gn))), (a12, .inl (cI, 16, .inl wq)), (a13, .inl (cI, 16, .inl tq)), (a14, .inl (cI, 64, .inl (nF su))), (a3, .inl (cI, 98816, .inl (nF gz))), (mo, .inr (7, mFs thr a1 a2 a3 (nI lt) (nI lb) (nI lz) ci a4 a5 a6 nu bk se op fa a7 a8 a9 a10 a11 (nI rn) kh kl sh sl a12 a13 a14 a15 a16 a17 a18 a19 a20)), (a15, .inl (cI, 17, .inl (nF q2.1))), (a16, .inl (cI, 17, .inl (nF fb))), (a17, .inl (cI, 40, .inl (nF q2.2.1))), (a18, .inl (cI, 17, .inl (nF (iter (lnS lz nn) i q2.2.2)))), (tx, .inl (cI, 98816, .inl (nF gt)))] H → va_D A [(a19, .inl (cI, 16, .inl (nF gg))), (a20, .inl (cI, 16, .inl (nF mw))), (a4, .inl (cI, 32, .inl (nF gk))), (a6, .inl (cI, 12, .inl (nF gn))), (a12, .inl (cI, 16, .inl wq)), (a13, .inl (cI, 16, .inl tq)), (a14, .inl (cI, 64, .inl (nF su))), (a3, .inl (cI, 98816, .inl (nF gz))), (mo, .inr (7, mFs thr a1 a2 a3 (nI lt) (nI lb) (nI lz) ci a4 a5 a6 nu bk se op fa a7 a8 a9 a10 a11 (nI rn) kh kl sh sl a12 a13 a14 a15 a16 a17 a18 a19 a20)), (a15, .inl (cI, 17, .inl (nF q2.1))), (a16, .inl (cI, 17, .inl (nF fb))), (a17, .inl (cI, 40, .inl (nF q2.2.1))), (a18, .inl (cI, 17, .inl (nF (iter (lnS lz nn) i q2.2.2)))), (tx, .inl (cI, 98816, .inl (nF gt)))] → va_S A s.heap H locs → lv_has ls 5 [(3, .int (nI i)), (0, .ref mo), (1, .ref tx), (2, .int (nI nn))] → W p l e rm_M_tagChacha s m args below meth c H locs 0 0 (MQ below (sbQv D (fun (_ : Unit) => True) (fun (_ : Unit) => [(mo, .inr (7, mFs thr a1 a2 a3 (nI lt) (nI lb) (nI lz) ci a4 a5 a6 nu bk se op fa a7 a8 a9 a10 a11 (nI rn) kh kl sh sl a12 a13 a14 a15 a16 a17 a18 a19 a20)), (a4, .inl (cI, 32, .inl (nF gk))), (a6, .inl (cI, 12, .inl (nF gn))), (a12, .inl (cI, 16, .inl (cWord gk gn 0 wd))), (a13, .inl (cI, 16, .inl (cTurn (cWord gk gn 0 wd) td))), (a14, .inl (cI, 64, .inl (nF (ccN gk gn 0 wd td gu)))), (a15, .inl (cI, 17, .inl (nF (tcT (ccN gk gn 0 wd td gu) gb gz lz ga gd gc gt nn)))), (a16, .inl (cI, 17, .inl (nF (tcF (ccN gk gn 0 wd td gu) gb)))), (a17, .inl (cI, 40, .inl (nF (tcD (ccN gk gn 0 wd td gu) gb gz lz ga gd gc gt nn)))), (a18, .inl (cI, 17, .inl (nF (tcC (ccN gk gn 0 wd td gu) gb gz lz ga gd gc gt nn)))), (a19, .inl (cI, 16, .inl (nF (tcG (tcT (ccN gk gn 0 wd td gu) gb gz lz ga gd gc gt nn) (ccN gk gn 0 wd td gu) gw gg)))), (a20, .inl (cI, 16, .inl (nF (iter (mkS (ccN gk gn 0 wd td gu)) 17 gw)))), (a3, .inl (cI, 98816, .inl (nF gz))), (tx, .inl (cI, 98816, .inl (nF gt)))]) A) args s 0 0 A) (F0 m 121 ls []) := by
        intro d2
        induction d2 with
        | zero =>
          intro i hi2 H locs ls hP hD hS hl
          obtain rfl : 16 = i := by omega
          refine lv_iload_n hx hb d_M_tagChacha_121 rfl (lv_at hl 0 rfl) ?_
          refine lv_bipush (v := 16) hx hb d_M_tagChacha_122 (by decide) ?_
          refine lv_icmp_ge (tgt := 177) hx hb d_M_tagChacha_124 (by decide) (fun c_5 => ?_) (fun c_5 => absurd (sb_geT (a := 16) (b := 16) rfl rfl (by omega) (by omega) (by omega)) c_5)
          refine lv_aload_n hx hb d_M_tagChacha_177 rfl (lv_at hl 1 rfl) ?_
          refine va_get (D := D) (ci := 7) (v := .ref a18) (C := R_M) (T := F_M) (N := 35) hx hb hts in_M hown hG.1 hP 8 rfl rfl 32 (by decide) (hts _ k_729) (fun _ h9 => h9) rfl d_M_tagChacha_178 ?_
          refine lv_bipush (v := 16) hx hb d_M_tagChacha_181 (by decide) ?_
          refine lv_iconst (v := 1) hx hb d_M_tagChacha_183 (by decide) ?_
          refine sb_ist hx hb hG.1 hP hD hS 12 rfl 16 rfl (by omega) (by omega) d_M_tagChacha_184 (fun f_6 H locs ef_6 hP hD hS => ?_)
          have hP : va_P D vwCl [(a19, .inl (cI, 16, .inl (nF gg))), (a20, .inl (cI, 16, .inl (nF mw))), (a4, .inl (cI, 32, .inl (nF gk))), (a6, .inl (cI, 12, .inl (nF gn))), (a12, .inl (cI, 16, .inl wq)), (a13, .inl (cI, 16, .inl tq)), (a14, .inl (cI, 64, .inl (nF su))), (a3, .inl (cI, 98816, .inl (nF gz))), (mo, .inr (7, mFs thr a1 a2 a3 (nI lt) (nI lb) (nI lz) ci a4 a5 a6 nu bk se op fa a7 a8 a9 a10 a11 (nI rn) kh kl sh sl a12 a13 a14 a15 a16 a17 a18 a19 a20)), (a15, .inl (cI, 17, .inl (nF q2.1))), (a16, .inl (cI, 17, .inl (nF fb))), (a17, .inl (cI, 40, .inl (nF q2.2.1))), (a18, .inl (cI, 17, .inl f_6)), (tx, .inl (cI, 98816, .inl (nF gt)))] H := hP
          have hD : va_D A [(a19, .inl (cI, 16, .inl (nF gg))), (a20, .inl (cI, 16, .inl (nF mw))), (a4, .inl (cI, 32, .inl (nF gk))), (a6, .inl (cI, 12, .inl (nF gn))), (a12, .inl (cI, 16, .inl wq)), (a13, .inl (cI, 16, .inl tq)), (a14, .inl (cI, 64, .inl (nF su))), (a3, .inl (cI, 98816, .inl (nF gz))), (mo, .inr (7, mFs thr a1 a2 a3 (nI lt) (nI lb) (nI lz) ci a4 a5 a6 nu bk se op fa a7 a8 a9 a10 a11 (nI rn) kh kl sh sl a12 a13 a14 a15 a16 a17 a18 a19 a20)), (a15, .inl (cI, 17, .inl (nF q2.1))), (a16, .inl (cI, 17, .inl (nF fb))), (a17, .inl (cI, 40, .inl (nF q2.2.1))), (a18, .inl (cI, 17, .inl f_6)), (tx, .inl (cI, 98816, .inl (nF gt)))] := hD
          obtain rfl : f_6 = nF (updN (iter (lnS lz nn) 16 q2.2.2) 16 1) := ef_6.trans (nF_set _ _ _)
          have hP : va_P D vwCl [(a19, .inl (cI, 16, .inl (nF gg))), (a20, .inl (cI, 16, .inl (nF mw))), (a4, .inl (cI, 32, .inl (nF gk))), (a6, .inl (cI, 12, .inl (nF gn))), (a12, .inl (cI, 16, .inl wq)), (a13, .inl (cI, 16, .inl tq)), (a14, .inl (cI, 64, .inl (nF su))), (a3, .inl (cI, 98816, .inl (nF gz))), (mo, .inr (7, mFs thr a1 a2 a3 (nI lt) (nI lb) (nI lz) ci a4 a5 a6 nu bk se op fa a7 a8 a9 a10 a11 (nI rn) kh kl sh sl a12 a13 a14 a15 a16 a17 a18 a19 a20)), (a15, .inl (cI, 17, .inl (nF q2.1))), (a16, .inl (cI, 17, .inl (nF fb))), (a17, .inl (cI, 40, .inl (nF q2.2.1))), (a18, .inl (cI, 17, .inl (nF (lnN lz nn q2.2.2)))), (tx, .inl (cI, 98816, .inl (nF gt)))] H := hP
          have hD : va_D A [(a19, .inl (cI, 16, .inl (nF gg))), (a20, .inl (cI, 16, .inl (nF mw))), (a4, .inl (cI, 32, .inl (nF gk))), (a6, .inl (cI, 12, .inl (nF gn))), (a12, .inl (cI, 16, .inl wq)), (a13, .inl (cI, 16, .inl tq)), (a14, .inl (cI, 64, .inl (nF su))), (a3, .inl (cI, 98816, .inl (nF gz))), (mo, .inr (7, mFs thr a1 a2 a3 (nI lt) (nI lb) (nI lz) ci a4 a5 a6 nu bk se op fa a7 a8 a9 a10 a11 (nI rn) kh kl sh sl a12 a13 a14 a15 a16 a17 a18 a19 a20)), (a15, .inl (cI, 17, .inl (nF q2.1))), (a16, .inl (cI, 17, .inl (nF fb))), (a17, .inl (cI, 40, .inl (nF q2.2.1))), (a18, .inl (cI, 17, .inl (nF (lnN lz nn q2.2.2)))), (tx, .inl (cI, 98816, .inl (nF gt)))] := hD
          refine lv_aload_n hx hb d_M_tagChacha_185 rfl (lv_at hl 1 rfl) ?_
          refine sb_callv (wr := [(a19, .inl (cI, 16, .inl (nF gg))), (a20, .inl (cI, 16, .inl (nF mw))), (a4, .inl (cI, 32, .inl (nF gk))), (a6, .inl (cI, 12, .inl (nF gn))), (a12, .inl (cI, 16, .inl wq)), (a13, .inl (cI, 16, .inl tq)), (a14, .inl (cI, 64, .inl (nF su))), (a3, .inl (cI, 98816, .inl (nF gz))), (tx, .inl (cI, 98816, .inl (nF gt)))]) (va_runV (As := []) (rest := []) ⟨hx, hb, hml, hown, hts⟩ (c_M_poly l D cI cL cB tS tF mo a1 a2 a3 a4 a5 a6 a7 a8 a9 a10 a11 a12 a13 a14 a15 a16 a17 a18 a19 a20 thr ci bk se op fa lt lb lz rn nu kh kl sh sl q2.1 fb q2.2.1 (lnN lz nn q2.2.2) _ b2.1 bfb b2.2.1 (lnN_B lz nn b2.2.2)) (cwV 0 hts (sb_gV k_891 k_893 k_18 k_30 k_894) rfl rfl rfl (by decide +kernel) ⟨Nat.le_of_ble_eq_true rfl, Nat.le_of_ble_eq_true rfl⟩) (sb_pV hG hP hD hS hA [8, 9, 10, 11, 12] (by decide) rfl (ci := 7) (q0 := 8) rfl rfl) rfl rfl hl.1 rfl (lv_room (Nat.le_of_ble_eq_true rfl)) d_M_tagChacha_186 ⟨Nat.le_of_ble_eq_true rfl, Nat.le_of_ble_eq_true rfl⟩) hP hD hS hA [8, 9, 10, 11, 12] [0, 1, 2, 3, 4, 5, 6, 7, 13] rfl rfl (by decide) (by decide) (fun u H locs hw_7 hP hD hS => ?_)
          have hP : va_P D vwCl [(a19, .inl (cI, 16, .inl (nF gg))), (a20, .inl (cI, 16, .inl (nF mw))), (a4, .inl (cI, 32, .inl (nF gk))), (a6, .inl (cI, 12, .inl (nF gn))), (a12, .inl (cI, 16, .inl wq)), (a13, .inl (cI, 16, .inl tq)), (a14, .inl (cI, 64, .inl (nF su))), (a3, .inl (cI, 98816, .inl (nF gz))), (tx, .inl (cI, 98816, .inl (nF gt))), (mo, .inr (7, mFs thr a1 a2 a3 (nI lt) (nI lb) (nI lz) ci a4 a5 a6 nu bk se op fa a7 a8 a9 a10 a11 (nI rn) kh kl sh sl a12 a13 a14 a15 a16 a17 a18 a19 a20)), (a15, .inl (cI, 17, .inl (nF (polyT q2.1 fb q2.2.1 (lnN lz nn q2.2.2))))), (a16, .inl (cI, 17, .inl (nF fb))), (a17, .inl (cI, 40, .inl (nF (polyD q2.1 fb q2.2.1 (lnN lz nn q2.2.2))))), (a18, .inl (cI, 17, .inl (nF (lnN lz nn q2.2.2))))] H := hP
          have hD : va_D A [(a19, .inl (cI, 16, .inl (nF gg))), (a20, .inl (cI, 16, .inl (nF mw))), (a4, .inl (cI, 32, .inl (nF gk))), (a6, .inl (cI, 12, .inl (nF gn))), (a12, .inl (cI, 16, .inl wq)), (a13, .inl (cI, 16, .inl tq)), (a14, .inl (cI, 64, .inl (nF su))), (a3, .inl (cI, 98816, .inl (nF gz))), (tx, .inl (cI, 98816, .inl (nF gt))), (mo, .inr (7, mFs thr a1 a2 a3 (nI lt) (nI lb) (nI lz) ci a4 a5 a6 nu bk se op fa a7 a8 a9 a10 a11 (nI rn) kh kl sh sl a12 a13 a14 a15 a16 a17 a18 a19 a20)), (a15, .inl (cI, 17, .inl (nF (polyT q2.1 fb q2.2.1 (lnN lz nn q2.2.2))))), (a16, .inl (cI, 17, .inl (nF fb))), (a17, .inl (cI, 40, .inl (nF (polyD q2.1 fb q2.2.1 (lnN lz nn q2.2.2))))), (a18, .inl (cI, 17, .inl (nF (lnN lz nn q2.2.2))))] := hD
          obtain ⟨tt, htt⟩ : ∃ x : Nat → Nat, x = polyT q2.1 fb q2.2.1 (lnN lz nn q2.2.2) := ⟨_, rfl⟩
          rw [← htt] at hP hD
          have htt : tt = tcT su gb gz lz ga gd gc gt nn := by rw [htt, hq2, hfb]; rfl
          have hP : va_P D vwCl [(a19, .inl (cI, 16, .inl (nF gg))), (a20, .inl (cI, 16, .inl (nF mw))), (a4, .inl (cI, 32, .inl (nF gk))), (a6, .inl (cI, 12, .inl (nF gn))), (a12, .inl (cI, 16, .inl wq)), (a13, .inl (cI, 16, .inl tq)), (a14, .inl (cI, 64, .inl (nF su))), (a3, .inl (cI, 98816, .inl (nF gz))), (tx, .inl (cI, 98816, .inl (nF gt))), (mo, .inr (7, mFs thr a1 a2 a3 (nI lt) (nI lb) (nI lz) ci a4 a5 a6 nu bk se op fa a7 a8 a9 a10 a11 (nI rn) kh kl sh sl a12 a13 a14 a15 a16 a17 a18 a19 a20)), (a15, .inl (cI, 17, .inl (nF tt))), (a16, .inl (cI, 17, .inl (nF fb))), (a17, .inl (cI, 40, .inl (nF (polyD q2.1 fb q2.2.1 (lnN lz nn q2.2.2))))), (a18, .inl (cI, 17, .inl (nF (lnN lz nn q2.2.2))))] H := hP
          have hD : va_D A [(a19, .inl (cI, 16, .inl (nF gg))), (a20, .inl (cI, 16, .inl (nF mw))), (a4, .inl (cI, 32, .inl (nF gk))), (a6, .inl (cI, 12, .inl (nF gn))), (a12, .inl (cI, 16, .inl wq)), (a13, .inl (cI, 16, .inl tq)), (a14, .inl (cI, 64, .inl (nF su))), (a3, .inl (cI, 98816, .inl (nF gz))), (tx, .inl (cI, 98816, .inl (nF gt))), (mo, .inr (7, mFs thr a1 a2 a3 (nI lt) (nI lb) (nI lz) ci a4 a5 a6 nu bk se op fa a7 a8 a9 a10 a11 (nI rn) kh kl sh sl a12 a13 a14 a15 a16 a17 a18 a19 a20)), (a15, .inl (cI, 17, .inl (nF tt))), (a16, .inl (cI, 17, .inl (nF fb))), (a17, .inl (cI, 40, .inl (nF (polyD q2.1 fb q2.2.1 (lnN lz nn q2.2.2))))), (a18, .inl (cI, 17, .inl (nF (lnN lz nn q2.2.2))))] := hD
          have btt : By tt := by rw [htt]; exact tcT_B bsu hgb hgz hga hgd hgc hgt lz nn
          obtain ⟨pd, hpd⟩ : ∃ x : Nat → Nat, x = polyD q2.1 fb q2.2.1 (lnN lz nn q2.2.2) := ⟨_, rfl⟩
          rw [← hpd] at hP hD
          have hpd : pd = tcD su gb gz lz ga gd gc gt nn := by rw [hpd, hq2, hfb]; rfl
          have hP : va_P D vwCl [(a19, .inl (cI, 16, .inl (nF gg))), (a20, .inl (cI, 16, .inl (nF mw))), (a4, .inl (cI, 32, .inl (nF gk))), (a6, .inl (cI, 12, .inl (nF gn))), (a12, .inl (cI, 16, .inl wq)), (a13, .inl (cI, 16, .inl tq)), (a14, .inl (cI, 64, .inl (nF su))), (a3, .inl (cI, 98816, .inl (nF gz))), (tx, .inl (cI, 98816, .inl (nF gt))), (mo, .inr (7, mFs thr a1 a2 a3 (nI lt) (nI lb) (nI lz) ci a4 a5 a6 nu bk se op fa a7 a8 a9 a10 a11 (nI rn) kh kl sh sl a12 a13 a14 a15 a16 a17 a18 a19 a20)), (a15, .inl (cI, 17, .inl (nF tt))), (a16, .inl (cI, 17, .inl (nF fb))), (a17, .inl (cI, 40, .inl (nF pd))), (a18, .inl (cI, 17, .inl (nF (lnN lz nn q2.2.2))))] H := hP
          have hD : va_D A [(a19, .inl (cI, 16, .inl (nF gg))), (a20, .inl (cI, 16, .inl (nF mw))), (a4, .inl (cI, 32, .inl (nF gk))), (a6, .inl (cI, 12, .inl (nF gn))), (a12, .inl (cI, 16, .inl wq)), (a13, .inl (cI, 16, .inl tq)), (a14, .inl (cI, 64, .inl (nF su))), (a3, .inl (cI, 98816, .inl (nF gz))), (tx, .inl (cI, 98816, .inl (nF gt))), (mo, .inr (7, mFs thr a1 a2 a3 (nI lt) (nI lb) (nI lz) ci a4 a5 a6 nu bk se op fa a7 a8 a9 a10 a11 (nI rn) kh kl sh sl a12 a13 a14 a15 a16 a17 a18 a19 a20)), (a15, .inl (cI, 17, .inl (nF tt))), (a16, .inl (cI, 17, .inl (nF fb))), (a17, .inl (cI, 40, .inl (nF pd))), (a18, .inl (cI, 17, .inl (nF (lnN lz nn q2.2.2))))] := hD
          obtain ⟨lc, hlc⟩ : ∃ x : Nat → Nat, x = lnN lz nn q2.2.2 := ⟨_, rfl⟩
          rw [← hlc] at hP hD
          have hlc : lc = tcC su gb gz lz ga gd gc gt nn := by rw [hlc, hq2]; rfl
          have hP : va_P D vwCl [(a19, .inl (cI, 16, .inl (nF gg))), (a20, .inl (cI, 16, .inl (nF mw))), (a4, .inl (cI, 32, .inl (nF gk))), (a6, .inl (cI, 12, .inl (nF gn))), (a12, .inl (cI, 16, .inl wq)), (a13, .inl (cI, 16, .inl tq)), (a14, .inl (cI, 64, .inl (nF su))), (a3, .inl (cI, 98816, .inl (nF gz))), (tx, .inl (cI, 98816, .inl (nF gt))), (mo, .inr (7, mFs thr a1 a2 a3 (nI lt) (nI lb) (nI lz) ci a4 a5 a6 nu bk se op fa a7 a8 a9 a10 a11 (nI rn) kh kl sh sl a12 a13 a14 a15 a16 a17 a18 a19 a20)), (a15, .inl (cI, 17, .inl (nF tt))), (a16, .inl (cI, 17, .inl (nF fb))), (a17, .inl (cI, 40, .inl (nF pd))), (a18, .inl (cI, 17, .inl (nF lc)))] H := hP
          have hD : va_D A [(a19, .inl (cI, 16, .inl (nF gg))), (a20, .inl (cI, 16, .inl (nF mw))), (a4, .inl (cI, 32, .inl (nF gk))), (a6, .inl (cI, 12, .inl (nF gn))), (a12, .inl (cI, 16, .inl wq)), (a13, .inl (cI, 16, .inl tq)), (a14, .inl (cI, 64, .inl (nF su))), (a3, .inl (cI, 98816, .inl (nF gz))), (tx, .inl (cI, 98816, .inl (nF gt))), (mo, .inr (7, mFs thr a1 a2 a3 (nI lt) (nI lb) (nI lz) ci a4 a5 a6 nu bk se op fa a7 a8 a9 a10 a11 (nI rn) kh kl sh sl a12 a13 a14 a15 a16 a17 a18 a19 a20)), (a15, .inl (cI, 17, .inl (nF tt))), (a16, .inl (cI, 17, .inl (nF fb))), (a17, .inl (cI, 40, .inl (nF pd))), (a18, .inl (cI, 17, .inl (nF lc)))] := hD
          refine lv_iconst (v := 0) hx hb d_M_tagChacha_189 (by decide) ?_
          refine lv_istore_n (lv' := [(3, .int 0), (0, .ref mo), (1, .ref tx), (2, .int (nI nn))]) hx hb d_M_tagChacha_190 rfl hl (by decide) rfl (fun ls hl => ?_)
          refine lv_iconst (v := 0) hx hb d_M_tagChacha_191 (by decide) ?_
          refine lv_istore (lv' := [(4, .int 0), (3, .int 0), (0, .ref mo), (1, .ref tx), (2, .int (nI nn))]) hx hb d_M_tagChacha_192 hl (by decide) rfl (fun ls hl => ?_)
          have lp3 : ∀ (d3 i : Nat), i + d3 = 16 → ∀ (H : Heap) (locs : List Loc) (ls : Array Slot), va_P D vwCl [(a19, .inl (cI, 16, .inl (nF ((tgI tt mw gg i).2)))), (a20, .inl (cI, 16, .inl (nF mw))), (a4, .inl (cI, 32, .inl (nF gk))), (a6, .inl (cI, 12, .inl (nF gn))), (a12, .inl (cI, 16, .inl wq)), (a13, .inl (cI, 16, .inl tq)), (a14, .inl (cI, 64, .inl (nF su))), (a3, .inl (cI, 98816, .inl (nF gz))), (tx, .inl (cI, 98816, .inl (nF gt))), (mo, .inr (7, mFs thr a1 a2 a3 (nI lt) (nI lb) (nI lz) ci a4 a5 a6 nu bk se op fa a7 a8 a9 a10 a11 (nI rn) kh kl sh sl a12 a13 a14 a15 a16 a17 a18 a19 a20)), (a15, .inl (cI, 17, .inl (nF tt))), (a16, .inl (cI, 17, .inl (nF fb))), (a17, .inl (cI, 40, .inl (nF pd))), (a18, .inl (cI, 17, .inl (nF lc)))] H → va_D A [(a19, .inl (cI, 16, .inl (nF ((tgI tt mw gg i).2)))), (a20, .inl (cI, 16, .inl (nF mw))), (a4, .inl (cI, 32, .inl (nF gk))), (a6, .inl (cI, 12, .inl (nF gn))), (a12, .inl (cI, 16, .inl wq)), (a13, .inl (cI, 16, .inl tq)), (a14, .inl (cI, 64, .inl (nF su))), (a3, .inl (cI, 98816, .inl (nF gz))), (tx, .inl (cI, 98816, .inl (nF gt))), (mo, .inr (7, mFs thr a1 a2 a3 (nI lt) (nI lb) (nI lz) ci a4 a5 a6 nu bk se op fa a7 a8 a9 a10 a11 (nI rn) kh kl sh sl a12 a13 a14 a15 a16 a17 a18 a19 a20)), (a15, .inl (cI, 17, .inl (nF tt))), (a16, .inl (cI, 17, .inl (nF fb))), (a17, .inl (cI, 40, .inl (nF pd))), (a18, .inl (cI, 17, .inl (nF lc)))] → va_S A s.heap H locs → lv_has ls 5 [(3, .int (nI ((tgI tt mw gg i).1))), (4, .int (nI i)), (0, .ref mo), (1, .ref tx), (2, .int (nI nn))] → W p l e rm_M_tagChacha s m args below meth c H locs 0 0 (MQ below (sbQv D (fun (_ : Unit) => True) (fun (_ : Unit) => [(mo, .inr (7, mFs thr a1 a2 a3 (nI lt) (nI lb) (nI lz) ci a4 a5 a6 nu bk se op fa a7 a8 a9 a10 a11 (nI rn) kh kl sh sl a12 a13 a14 a15 a16 a17 a18 a19 a20)), (a4, .inl (cI, 32, .inl (nF gk))), (a6, .inl (cI, 12, .inl (nF gn))), (a12, .inl (cI, 16, .inl (cWord gk gn 0 wd))), (a13, .inl (cI, 16, .inl (cTurn (cWord gk gn 0 wd) td))), (a14, .inl (cI, 64, .inl (nF (ccN gk gn 0 wd td gu)))), (a15, .inl (cI, 17, .inl (nF (tcT (ccN gk gn 0 wd td gu) gb gz lz ga gd gc gt nn)))), (a16, .inl (cI, 17, .inl (nF (tcF (ccN gk gn 0 wd td gu) gb)))), (a17, .inl (cI, 40, .inl (nF (tcD (ccN gk gn 0 wd td gu) gb gz lz ga gd gc gt nn)))), (a18, .inl (cI, 17, .inl (nF (tcC (ccN gk gn 0 wd td gu) gb gz lz ga gd gc gt nn)))), (a19, .inl (cI, 16, .inl (nF (tcG (tcT (ccN gk gn 0 wd td gu) gb gz lz ga gd gc gt nn) (ccN gk gn 0 wd td gu) gw gg)))), (a20, .inl (cI, 16, .inl (nF (iter (mkS (ccN gk gn 0 wd td gu)) 17 gw)))), (a3, .inl (cI, 98816, .inl (nF gz))), (tx, .inl (cI, 98816, .inl (nF gt)))]) A) args s 0 0 A) (F0 m 194 ls []) := by
            intro d3
            induction d3 with
            | zero =>
              intro i hi3 H locs ls hP hD hS hl
              obtain rfl : 16 = i := by omega
              have hB := tgI_B btt bmw hgg 16
              have hb1 := hB.1
              have hb2 := btt 16
              have hb3 := bmw 16
              refine lv_iload hx hb d_M_tagChacha_194 (lv_at hl 1 rfl) ?_
              refine lv_bipush (v := 16) hx hb d_M_tagChacha_196 (by decide) ?_
              refine lv_icmp_ge (tgt := 242) hx hb d_M_tagChacha_198 (by decide) (fun c_8 => ?_) (fun c_8 => absurd (sb_geT (a := 16) (b := 16) rfl rfl (by omega) (by omega) (by omega)) c_8)
              have hPz := hP
              have hDz := hD
              subst hlc
              subst hpd
              subst htt
              subst hq2
              subst hq1
              subst hmw
              subst htz
              subst hfb
              subst hsu
              subst htq
              subst hwq
              have hP := hPz
              have hD := hDz
              have hP9 := hP.sub (ws' := [(mo, .inr (7, mFs thr a1 a2 a3 (nI lt) (nI lb) (nI lz) ci a4 a5 a6 nu bk se op fa a7 a8 a9 a10 a11 (nI rn) kh kl sh sl a12 a13 a14 a15 a16 a17 a18 a19 a20)), (a4, .inl (cI, 32, .inl (nF gk))), (a6, .inl (cI, 12, .inl (nF gn))), (a12, .inl (cI, 16, .inl (cWord gk gn 0 wd))), (a13, .inl (cI, 16, .inl (cTurn (cWord gk gn 0 wd) td))), (a14, .inl (cI, 64, .inl (nF (ccN gk gn 0 wd td gu)))), (a15, .inl (cI, 17, .inl (nF (tcT (ccN gk gn 0 wd td gu) gb gz lz ga gd gc gt nn)))), (a16, .inl (cI, 17, .inl (nF (tcF (ccN gk gn 0 wd td gu) gb)))), (a17, .inl (cI, 40, .inl (nF (tcD (ccN gk gn 0 wd td gu) gb gz lz ga gd gc gt nn)))), (a18, .inl (cI, 17, .inl (nF (tcC (ccN gk gn 0 wd td gu) gb gz lz ga gd gc gt nn)))), (a19, .inl (cI, 16, .inl (nF ((tgI (tcT (ccN gk gn 0 wd td gu) gb gz lz ga gd gc gt nn) (iter (mkS (ccN gk gn 0 wd td gu)) 17 gw) gg 16).2)))), (a20, .inl (cI, 16, .inl (nF (iter (mkS (ccN gk gn 0 wd td gu)) 17 gw)))), (a3, .inl (cI, 98816, .inl (nF gz))), (tx, .inl (cI, 98816, .inl (nF gt)))]) [9, 2, 3, 4, 5, 6, 10, 11, 12, 13, 0, 1, 7, 8] rfl
              have hD9 := hD.sub (ws' := [(mo, .inr (7, mFs thr a1 a2 a3 (nI lt) (nI lb) (nI lz) ci a4 a5 a6 nu bk se op fa a7 a8 a9 a10 a11 (nI rn) kh kl sh sl a12 a13 a14 a15 a16 a17 a18 a19 a20)), (a4, .inl (cI, 32, .inl (nF gk))), (a6, .inl (cI, 12, .inl (nF gn))), (a12, .inl (cI, 16, .inl (cWord gk gn 0 wd))), (a13, .inl (cI, 16, .inl (cTurn (cWord gk gn 0 wd) td))), (a14, .inl (cI, 64, .inl (nF (ccN gk gn 0 wd td gu)))), (a15, .inl (cI, 17, .inl (nF (tcT (ccN gk gn 0 wd td gu) gb gz lz ga gd gc gt nn)))), (a16, .inl (cI, 17, .inl (nF (tcF (ccN gk gn 0 wd td gu) gb)))), (a17, .inl (cI, 40, .inl (nF (tcD (ccN gk gn 0 wd td gu) gb gz lz ga gd gc gt nn)))), (a18, .inl (cI, 17, .inl (nF (tcC (ccN gk gn 0 wd td gu) gb gz lz ga gd gc gt nn)))), (a19, .inl (cI, 16, .inl (nF ((tgI (tcT (ccN gk gn 0 wd td gu) gb gz lz ga gd gc gt nn) (iter (mkS (ccN gk gn 0 wd td gu)) 17 gw) gg 16).2)))), (a20, .inl (cI, 16, .inl (nF (iter (mkS (ccN gk gn 0 wd td gu)) 17 gw)))), (a3, .inl (cI, 98816, .inl (nF gz))), (tx, .inl (cI, 98816, .inl (nF gt)))]) [9, 2, 3, 4, 5, 6, 10, 11, 12, 13, 0, 1, 7, 8] (by decide) rfl
              exact W.vret hx hb hr (fun t ht hW => ⟨⟨(), rfl, trivial, by rw [ht]; exact hP9, hD9⟩, hS.F ht⟩) hS.2.2 d_M_tagChacha_242
            | succ d3 ih3 =>
              intro i hi3 H locs ls hP hD hS hl
              have hB := tgI_B btt bmw hgg i
              have hb1 := hB.1
              have hb2 := btt i
              have hb3 := bmw i
              refine lv_iload hx hb d_M_tagChacha_194 (lv_at hl 1 rfl) ?_
              refine lv_bipush (v := 16) hx hb d_M_tagChacha_196 (by decide) ?_
              refine lv_icmp_ge (tgt := 242) hx hb d_M_tagChacha_198 (by decide) (fun c_9 => absurd c_9 (sb_geF (a := i) (b := 16) rfl rfl (by omega) (by omega) (by omega))) (fun c_9 => ?_)
              refine lv_iload_n hx hb d_M_tagChacha_201 rfl (lv_at hl 0 rfl) ?_
              refine lv_aload_n hx hb d_M_tagChacha_202 rfl (lv_at hl 2 rfl) ?_
              refine va_get (D := D) (ci := 7) (v := .ref a15) (C := R_M) (T := F_M) (N := 35) hx hb hts in_M hown hG.1 hP 9 rfl rfl 29 (by decide) (hts _ k_726) (fun _ h9 => h9) rfl d_M_tagChacha_203 ?_
              refine lv_iload hx hb d_M_tagChacha_206 (lv_at hl 1 rfl) ?_
              refine sb_ild hx hb hG.1 hP 10 rfl i rfl (by omega) (by omega) d_M_tagChacha_208 ?_
              refine lv_aload_n hx hb d_M_tagChacha_209 rfl (lv_at hl 2 rfl) ?_
              refine va_get (D := D) (ci := 7) (v := .ref a20) (C := R_M) (T := F_M) (N := 35) hx hb hts in_M hown hG.1 hP 9 rfl rfl 34 (by decide) (hts _ k_731) (fun _ h9 => h9) rfl d_M_tagChacha_210 ?_
              refine lv_iload hx hb d_M_tagChacha_213 (lv_at hl 1 rfl) ?_
              refine sb_ild hx hb hG.1 hP 1 rfl i rfl (by omega) (by omega) d_M_tagChacha_215 ?_
              refine lv_iadd hx hb d_M_tagChacha_216 ?_
              refine sb_topn ((tt i) + (mw i)) (nI_add (tt i) (mw i)) ?_
              refine lv_iadd hx hb d_M_tagChacha_217 ?_
              refine sb_topn (((tgI tt mw gg i).1) + ((tt i) + (mw i))) (nI_add ((tgI tt mw gg i).1) ((tt i) + (mw i))) ?_
              refine sb_topn (((tgI tt mw gg i).1) + ((tt i) + (mw i))) rfl ?_
              refine lv_istore_n (lv' := [(3, .int (nI (((tgI tt mw gg i).1) + ((tt i) + (mw i))))), (4, .int (nI i)), (0, .ref mo), (1, .ref tx), (2, .int (nI nn))]) hx hb d_M_tagChacha_218 rfl hl (by decide) rfl (fun ls hl => ?_)
              refine lv_aload_n hx hb d_M_tagChacha_219 rfl (lv_at hl 2 rfl) ?_
              refine va_get (D := D) (ci := 7) (v := .ref a19) (C := R_M) (T := F_M) (N := 35) hx hb hts in_M hown hG.1 hP 9 rfl rfl 33 (by decide) (hts _ k_730) (fun _ h9 => h9) rfl d_M_tagChacha_220 ?_
              refine lv_iload hx hb d_M_tagChacha_223 (lv_at hl 1 rfl) ?_
              refine lv_iload_n hx hb d_M_tagChacha_225 rfl (lv_at hl 0 rfl) ?_
              refine lv_sipush (v := 255) hx hb d_M_tagChacha_226 (by decide) ?_
              refine lv_iand hx hb d_M_tagChacha_229 ?_
              refine sb_topn ((((tgI tt mw gg i).1) + ((tt i) + (mw i))) % 256) (sb_and (a := ((tgI tt mw gg i).1) + ((tt i) + (mw i))) 8 rfl (by omega) (by decide)) ?_
              refine sb_topn ((((tgI tt mw gg i).1) + ((tt i) + (mw i))) % 256) rfl ?_
              refine sb_ist hx hb hG.1 hP hD hS 0 rfl i rfl (by omega) (by omega) d_M_tagChacha_230 (fun f_10 H locs ef_10 hP hD hS => ?_)
              have hP : va_P D vwCl [(a19, .inl (cI, 16, .inl f_10)), (a20, .inl (cI, 16, .inl (nF mw))), (a4, .inl (cI, 32, .inl (nF gk))), (a6, .inl (cI, 12, .inl (nF gn))), (a12, .inl (cI, 16, .inl wq)), (a13, .inl (cI, 16, .inl tq)), (a14, .inl (cI, 64, .inl (nF su))), (a3, .inl (cI, 98816, .inl (nF gz))), (tx, .inl (cI, 98816, .inl (nF gt))), (mo, .inr (7, mFs thr a1 a2 a3 (nI lt) (nI lb) (nI lz) ci a4 a5 a6 nu bk se op fa a7 a8 a9 a10 a11 (nI rn) kh kl sh sl a12 a13 a14 a15 a16 a17 a18 a19 a20)), (a15, .inl (cI, 17, .inl (nF tt))), (a16, .inl (cI, 17, .inl (nF fb))), (a17, .inl (cI, 40, .inl (nF pd))), (a18, .inl (cI, 17, .inl (nF lc)))] H := hP
              have hD : va_D A [(a19, .inl (cI, 16, .inl f_10)), (a20, .inl (cI, 16, .inl (nF mw))), (a4, .inl (cI, 32, .inl (nF gk))), (a6, .inl (cI, 12, .inl (nF gn))), (a12, .inl (cI, 16, .inl wq)), (a13, .inl (cI, 16, .inl tq)), (a14, .inl (cI, 64, .inl (nF su))), (a3, .inl (cI, 98816, .inl (nF gz))), (tx, .inl (cI, 98816, .inl (nF gt))), (mo, .inr (7, mFs thr a1 a2 a3 (nI lt) (nI lb) (nI lz) ci a4 a5 a6 nu bk se op fa a7 a8 a9 a10 a11 (nI rn) kh kl sh sl a12 a13 a14 a15 a16 a17 a18 a19 a20)), (a15, .inl (cI, 17, .inl (nF tt))), (a16, .inl (cI, 17, .inl (nF fb))), (a17, .inl (cI, 40, .inl (nF pd))), (a18, .inl (cI, 17, .inl (nF lc)))] := hD
              obtain rfl : f_10 = nF (updN ((tgI tt mw gg i).2) i ((((tgI tt mw gg i).1) + ((tt i) + (mw i))) % 256)) := ef_10.trans (nF_set _ _ _)
              have hP : va_P D vwCl [(a19, .inl (cI, 16, .inl (nF (updN ((tgI tt mw gg i).2) i ((((tgI tt mw gg i).1) + ((tt i) + (mw i))) % 256))))), (a20, .inl (cI, 16, .inl (nF mw))), (a4, .inl (cI, 32, .inl (nF gk))), (a6, .inl (cI, 12, .inl (nF gn))), (a12, .inl (cI, 16, .inl wq)), (a13, .inl (cI, 16, .inl tq)), (a14, .inl (cI, 64, .inl (nF su))), (a3, .inl (cI, 98816, .inl (nF gz))), (tx, .inl (cI, 98816, .inl (nF gt))), (mo, .inr (7, mFs thr a1 a2 a3 (nI lt) (nI lb) (nI lz) ci a4 a5 a6 nu bk se op fa a7 a8 a9 a10 a11 (nI rn) kh kl sh sl a12 a13 a14 a15 a16 a17 a18 a19 a20)), (a15, .inl (cI, 17, .inl (nF tt))), (a16, .inl (cI, 17, .inl (nF fb))), (a17, .inl (cI, 40, .inl (nF pd))), (a18, .inl (cI, 17, .inl (nF lc)))] H := hP
              have hD : va_D A [(a19, .inl (cI, 16, .inl (nF (updN ((tgI tt mw gg i).2) i ((((tgI tt mw gg i).1) + ((tt i) + (mw i))) % 256))))), (a20, .inl (cI, 16, .inl (nF mw))), (a4, .inl (cI, 32, .inl (nF gk))), (a6, .inl (cI, 12, .inl (nF gn))), (a12, .inl (cI, 16, .inl wq)), (a13, .inl (cI, 16, .inl tq)), (a14, .inl (cI, 64, .inl (nF su))), (a3, .inl (cI, 98816, .inl (nF gz))), (tx, .inl (cI, 98816, .inl (nF gt))), (mo, .inr (7, mFs thr a1 a2 a3 (nI lt) (nI lb) (nI lz) ci a4 a5 a6 nu bk se op fa a7 a8 a9 a10 a11 (nI rn) kh kl sh sl a12 a13 a14 a15 a16 a17 a18 a19 a20)), (a15, .inl (cI, 17, .inl (nF tt))), (a16, .inl (cI, 17, .inl (nF fb))), (a17, .inl (cI, 40, .inl (nF pd))), (a18, .inl (cI, 17, .inl (nF lc)))] := hD
              refine lv_iload_n hx hb d_M_tagChacha_231 rfl (lv_at hl 0 rfl) ?_
              refine lv_bipush (v := 8) hx hb d_M_tagChacha_232 (by decide) ?_
              refine lv_ishr hx hb d_M_tagChacha_234 ?_
              refine sb_topn ((((tgI tt mw gg i).1) + ((tt i) + (mw i))) / 256) (sb_shr (a := ((tgI tt mw gg i).1) + ((tt i) + (mw i))) 8 rfl (by omega) (by decide)) ?_
              refine sb_topn ((((tgI tt mw gg i).1) + ((tt i) + (mw i))) / 256) rfl ?_
              refine lv_istore_n (lv' := [(3, .int (nI ((((tgI tt mw gg i).1) + ((tt i) + (mw i))) / 256))), (4, .int (nI i)), (0, .ref mo), (1, .ref tx), (2, .int (nI nn))]) hx hb d_M_tagChacha_235 rfl hl (by decide) rfl (fun ls hl => ?_)
              refine lv_iinc (v := nI (i + 1)) (lv' := [(4, .int (nI (i + 1))), (3, .int (nI ((((tgI tt mw gg i).1) + ((tt i) + (mw i))) / 256))), (0, .ref mo), (1, .ref tx), (2, .int (nI nn))]) hx hb d_M_tagChacha_236 hl (k := 1) rfl (sb_inc (a := i) (b := i + 1) (d := 1) rfl (by decide) (by omega)) (by decide) rfl (fun ls hl => ?_)
              refine lv_goto (tgt := 194) hx hb d_M_tagChacha_239 (by decide) ?_
              have hE : (tgI tt mw gg (i + 1)) = ((((tgI tt mw gg i).1) + ((tt i) + (mw i))) / 256, updN ((tgI tt mw gg i).2) i ((((tgI tt mw gg i).1) + ((tt i) + (mw i))) % 256)) := rfl
              have ih' := ih3 (i + 1) (by omega)
              rw [hE] at ih'
              exact ih' _ _ ls (hP.sub [0, 1, 2, 3, 4, 5, 6, 7, 8, 9, 10, 11, 12, 13] rfl) (hD.sub [0, 1, 2, 3, 4, 5, 6, 7, 8, 9, 10, 11, 12, 13] (by decide) rfl) hS (lv_sub hl [1, 0, 2, 3, 4] rfl)
          exact lp3 16 0 (by omega) _ _ ls (hP.sub [0, 1, 2, 3, 4, 5, 6, 7, 8, 9, 10, 11, 12, 13] rfl) (hD.sub [0, 1, 2, 3, 4, 5, 6, 7, 8, 9, 10, 11, 12, 13] (by decide) rfl) hS (lv_sub hl [1, 0, 2, 3, 4] rfl)
        | succ d2 ih2 =>
          intro i hi2 H locs ls hP hD hS hl
          refine lv_iload_n hx hb d_M_tagChacha_121 rfl (lv_at hl 0 rfl) ?_
          refine lv_bipush (v := 16) hx hb d_M_tagChacha_122 (by decide) ?_
          refine lv_icmp_ge (tgt := 177) hx hb d_M_tagChacha_124 (by decide) (fun c_11 => absurd c_11 (sb_geF (a := i) (b := 16) rfl rfl (by omega) (by omega) (by omega))) (fun c_11 => ?_)
          refine lv_aload_n hx hb d_M_tagChacha_127 rfl (lv_at hl 1 rfl) ?_
          refine va_get (D := D) (ci := 7) (v := .ref a18) (C := R_M) (T := F_M) (N := 35) hx hb hts in_M hown hG.1 hP 8 rfl rfl 32 (by decide) (hts _ k_729) (fun _ h9 => h9) rfl d_M_tagChacha_128 ?_
          refine lv_iload_n hx hb d_M_tagChacha_131 rfl (lv_at hl 0 rfl) ?_
          refine lv_iload_n hx hb d_M_tagChacha_132 rfl (lv_at hl 0 rfl) ?_
          refine lv_bipush (v := 8) hx hb d_M_tagChacha_133 (by decide) ?_
          refine lv_icmp_ge (tgt := 155) hx hb d_M_tagChacha_135 (by decide) (fun c_12 => ?_) (fun c_12 => ?_)
          · have c_12 := (sb_geI (a := i) (b := 8) rfl rfl (by omega) (by omega)).mp c_12
            refine lv_iload_n hx hb d_M_tagChacha_155 rfl (lv_at hl 3 rfl) ?_
            refine lv_i2l (v := (nI nn).toInt64) hx hb d_M_tagChacha_156 rfl ?_
            refine lv_bipush (v := 8) hx hb d_M_tagChacha_157 (by decide) ?_
            refine lv_iload_n hx hb d_M_tagChacha_159 rfl (lv_at hl 0 rfl) ?_
            refine lv_bipush (v := 8) hx hb d_M_tagChacha_160 (by decide) ?_
            refine lv_isub hx hb d_M_tagChacha_162 ?_
            refine sb_topn (i - 8) (sb_sub (a := i) (b := 8) (by omega) rfl rfl) ?_
            refine lv_imul hx hb d_M_tagChacha_163 ?_
            refine sb_topn (8 * (i - 8)) (sb_mul (a := 8) (b := i - 8) rfl rfl) ?_
            refine lv_lushr (v := uL ((nI nn).toInt64) (nI (8 * (i - 8)))) hx hb d_M_tagChacha_164 rfl ?_
            refine lv_ldc2 (v := 255) hx hb hown (hts (.constantLong R_M 120 255) (by decide +kernel)) d_M_tagChacha_165 ?_
            refine lv_land hx hb d_M_tagChacha_168 ?_
            refine lv_l2i (v := ((uL ((nI nn).toInt64) (nI (8 * (i - 8)))) &&& 255).toInt32) hx hb d_M_tagChacha_169 rfl ?_
            refine sb_topn (byL ((nI nn).toInt64) (8 * (i - 8))) (sb_byL (x := (nI nn).toInt64) (k := 8 * (i - 8)) rfl (by omega)) ?_
            refine sb_topn (byL ((nI nn).toInt64) (8 * (i - 8))) rfl ?_
            refine sb_ist hx hb hG.1 hP hD hS 12 rfl i rfl (by omega) (by omega) d_M_tagChacha_170 (fun f_13 H locs ef_13 hP hD hS => ?_)
            have hP : va_P D vwCl [(a19, .inl (cI, 16, .inl (nF gg))), (a20, .inl (cI, 16, .inl (nF mw))), (a4, .inl (cI, 32, .inl (nF gk))), (a6, .inl (cI, 12, .inl (nF gn))), (a12, .inl (cI, 16, .inl wq)), (a13, .inl (cI, 16, .inl tq)), (a14, .inl (cI, 64, .inl (nF su))), (a3, .inl (cI, 98816, .inl (nF gz))), (mo, .inr (7, mFs thr a1 a2 a3 (nI lt) (nI lb) (nI lz) ci a4 a5 a6 nu bk se op fa a7 a8 a9 a10 a11 (nI rn) kh kl sh sl a12 a13 a14 a15 a16 a17 a18 a19 a20)), (a15, .inl (cI, 17, .inl (nF q2.1))), (a16, .inl (cI, 17, .inl (nF fb))), (a17, .inl (cI, 40, .inl (nF q2.2.1))), (a18, .inl (cI, 17, .inl f_13)), (tx, .inl (cI, 98816, .inl (nF gt)))] H := hP
            have hD : va_D A [(a19, .inl (cI, 16, .inl (nF gg))), (a20, .inl (cI, 16, .inl (nF mw))), (a4, .inl (cI, 32, .inl (nF gk))), (a6, .inl (cI, 12, .inl (nF gn))), (a12, .inl (cI, 16, .inl wq)), (a13, .inl (cI, 16, .inl tq)), (a14, .inl (cI, 64, .inl (nF su))), (a3, .inl (cI, 98816, .inl (nF gz))), (mo, .inr (7, mFs thr a1 a2 a3 (nI lt) (nI lb) (nI lz) ci a4 a5 a6 nu bk se op fa a7 a8 a9 a10 a11 (nI rn) kh kl sh sl a12 a13 a14 a15 a16 a17 a18 a19 a20)), (a15, .inl (cI, 17, .inl (nF q2.1))), (a16, .inl (cI, 17, .inl (nF fb))), (a17, .inl (cI, 40, .inl (nF q2.2.1))), (a18, .inl (cI, 17, .inl f_13)), (tx, .inl (cI, 98816, .inl (nF gt)))] := hD
            obtain rfl : f_13 = nF (updN (iter (lnS lz nn) i q2.2.2) i (byL ((nI nn).toInt64) (8 * (i - 8)))) := ef_13.trans (nF_set _ _ _)
            have hP : va_P D vwCl [(a19, .inl (cI, 16, .inl (nF gg))), (a20, .inl (cI, 16, .inl (nF mw))), (a4, .inl (cI, 32, .inl (nF gk))), (a6, .inl (cI, 12, .inl (nF gn))), (a12, .inl (cI, 16, .inl wq)), (a13, .inl (cI, 16, .inl tq)), (a14, .inl (cI, 64, .inl (nF su))), (a3, .inl (cI, 98816, .inl (nF gz))), (mo, .inr (7, mFs thr a1 a2 a3 (nI lt) (nI lb) (nI lz) ci a4 a5 a6 nu bk se op fa a7 a8 a9 a10 a11 (nI rn) kh kl sh sl a12 a13 a14 a15 a16 a17 a18 a19 a20)), (a15, .inl (cI, 17, .inl (nF q2.1))), (a16, .inl (cI, 17, .inl (nF fb))), (a17, .inl (cI, 40, .inl (nF q2.2.1))), (a18, .inl (cI, 17, .inl (nF (updN (iter (lnS lz nn) i q2.2.2) i (byL ((nI nn).toInt64) (8 * (i - 8))))))), (tx, .inl (cI, 98816, .inl (nF gt)))] H := hP
            have hD : va_D A [(a19, .inl (cI, 16, .inl (nF gg))), (a20, .inl (cI, 16, .inl (nF mw))), (a4, .inl (cI, 32, .inl (nF gk))), (a6, .inl (cI, 12, .inl (nF gn))), (a12, .inl (cI, 16, .inl wq)), (a13, .inl (cI, 16, .inl tq)), (a14, .inl (cI, 64, .inl (nF su))), (a3, .inl (cI, 98816, .inl (nF gz))), (mo, .inr (7, mFs thr a1 a2 a3 (nI lt) (nI lb) (nI lz) ci a4 a5 a6 nu bk se op fa a7 a8 a9 a10 a11 (nI rn) kh kl sh sl a12 a13 a14 a15 a16 a17 a18 a19 a20)), (a15, .inl (cI, 17, .inl (nF q2.1))), (a16, .inl (cI, 17, .inl (nF fb))), (a17, .inl (cI, 40, .inl (nF q2.2.1))), (a18, .inl (cI, 17, .inl (nF (updN (iter (lnS lz nn) i q2.2.2) i (byL ((nI nn).toInt64) (8 * (i - 8))))))), (tx, .inl (cI, 98816, .inl (nF gt)))] := hD
            refine lv_iinc (v := nI (i + 1)) (lv' := [(3, .int (nI (i + 1))), (0, .ref mo), (1, .ref tx), (2, .int (nI nn))]) hx hb d_M_tagChacha_171 hl (k := 0) rfl (sb_inc (a := i) (b := i + 1) (d := 1) rfl (by decide) (by omega)) (by decide) rfl (fun ls hl => ?_)
            refine lv_goto (tgt := 121) hx hb d_M_tagChacha_174 (by decide) ?_
            rw [show nF (updN (iter (lnS lz nn) i q2.2.2) i (byL ((nI nn).toInt64) (8 * (i - 8)))) = nF (iter (lnS lz nn) (i + 1) q2.2.2) from (congrArg nF (Eq.trans (by simp only [lnS, if_pos c_12]) (iter_s _ _ _).symm))] at hP hD
            exact ih2 (i + 1) (by omega) _ _ ls (hP.sub [0, 1, 2, 3, 4, 5, 6, 7, 8, 9, 10, 11, 12, 13] rfl) (hD.sub [0, 1, 2, 3, 4, 5, 6, 7, 8, 9, 10, 11, 12, 13] (by decide) rfl) hS (lv_sub hl [0, 1, 2, 3] rfl)
          · have c_12 := mt (sb_geI (a := i) (b := 8) rfl rfl (by omega) (by omega)).mpr c_12
            refine lv_aload_n hx hb d_M_tagChacha_138 rfl (lv_at hl 1 rfl) ?_
            refine va_get (D := D) (ci := 7) (v := .int (nI lz)) (C := R_M) (T := F_M) (N := 35) hx hb hts in_M hown hG.1 hP 8 rfl rfl 6 (by decide) (hts _ k_703) (fun _ h9 => h9) rfl d_M_tagChacha_139 ?_
            refine lv_i2l (v := (nI lz).toInt64) hx hb d_M_tagChacha_142 rfl ?_
            refine lv_bipush (v := 8) hx hb d_M_tagChacha_143 (by decide) ?_
            refine lv_iload_n hx hb d_M_tagChacha_145 rfl (lv_at hl 0 rfl) ?_
            refine lv_imul hx hb d_M_tagChacha_146 ?_
            refine sb_topn (8 * i) (sb_mul (a := 8) (b := i) rfl rfl) ?_
            refine lv_lushr (v := uL ((nI lz).toInt64) (nI (8 * i))) hx hb d_M_tagChacha_147 rfl ?_
            refine lv_ldc2 (v := 255) hx hb hown (hts (.constantLong R_M 120 255) (by decide +kernel)) d_M_tagChacha_148 ?_
            refine lv_land hx hb d_M_tagChacha_151 ?_
            refine lv_goto (tgt := 169) hx hb d_M_tagChacha_152 (by decide) ?_
            refine lv_l2i (v := ((uL ((nI lz).toInt64) (nI (8 * i))) &&& 255).toInt32) hx hb d_M_tagChacha_169 rfl ?_
            refine sb_topn (byL ((nI lz).toInt64) (8 * i)) (sb_byL (x := (nI lz).toInt64) (k := 8 * i) rfl (by omega)) ?_
            refine sb_topn (byL ((nI lz).toInt64) (8 * i)) rfl ?_
            refine sb_ist hx hb hG.1 hP hD hS 12 rfl i rfl (by omega) (by omega) d_M_tagChacha_170 (fun f_14 H locs ef_14 hP hD hS => ?_)
            have hP : va_P D vwCl [(a19, .inl (cI, 16, .inl (nF gg))), (a20, .inl (cI, 16, .inl (nF mw))), (a4, .inl (cI, 32, .inl (nF gk))), (a6, .inl (cI, 12, .inl (nF gn))), (a12, .inl (cI, 16, .inl wq)), (a13, .inl (cI, 16, .inl tq)), (a14, .inl (cI, 64, .inl (nF su))), (a3, .inl (cI, 98816, .inl (nF gz))), (mo, .inr (7, mFs thr a1 a2 a3 (nI lt) (nI lb) (nI lz) ci a4 a5 a6 nu bk se op fa a7 a8 a9 a10 a11 (nI rn) kh kl sh sl a12 a13 a14 a15 a16 a17 a18 a19 a20)), (a15, .inl (cI, 17, .inl (nF q2.1))), (a16, .inl (cI, 17, .inl (nF fb))), (a17, .inl (cI, 40, .inl (nF q2.2.1))), (a18, .inl (cI, 17, .inl f_14)), (tx, .inl (cI, 98816, .inl (nF gt)))] H := hP
            have hD : va_D A [(a19, .inl (cI, 16, .inl (nF gg))), (a20, .inl (cI, 16, .inl (nF mw))), (a4, .inl (cI, 32, .inl (nF gk))), (a6, .inl (cI, 12, .inl (nF gn))), (a12, .inl (cI, 16, .inl wq)), (a13, .inl (cI, 16, .inl tq)), (a14, .inl (cI, 64, .inl (nF su))), (a3, .inl (cI, 98816, .inl (nF gz))), (mo, .inr (7, mFs thr a1 a2 a3 (nI lt) (nI lb) (nI lz) ci a4 a5 a6 nu bk se op fa a7 a8 a9 a10 a11 (nI rn) kh kl sh sl a12 a13 a14 a15 a16 a17 a18 a19 a20)), (a15, .inl (cI, 17, .inl (nF q2.1))), (a16, .inl (cI, 17, .inl (nF fb))), (a17, .inl (cI, 40, .inl (nF q2.2.1))), (a18, .inl (cI, 17, .inl f_14)), (tx, .inl (cI, 98816, .inl (nF gt)))] := hD
            obtain rfl : f_14 = nF (updN (iter (lnS lz nn) i q2.2.2) i (byL ((nI lz).toInt64) (8 * i))) := ef_14.trans (nF_set _ _ _)
            have hP : va_P D vwCl [(a19, .inl (cI, 16, .inl (nF gg))), (a20, .inl (cI, 16, .inl (nF mw))), (a4, .inl (cI, 32, .inl (nF gk))), (a6, .inl (cI, 12, .inl (nF gn))), (a12, .inl (cI, 16, .inl wq)), (a13, .inl (cI, 16, .inl tq)), (a14, .inl (cI, 64, .inl (nF su))), (a3, .inl (cI, 98816, .inl (nF gz))), (mo, .inr (7, mFs thr a1 a2 a3 (nI lt) (nI lb) (nI lz) ci a4 a5 a6 nu bk se op fa a7 a8 a9 a10 a11 (nI rn) kh kl sh sl a12 a13 a14 a15 a16 a17 a18 a19 a20)), (a15, .inl (cI, 17, .inl (nF q2.1))), (a16, .inl (cI, 17, .inl (nF fb))), (a17, .inl (cI, 40, .inl (nF q2.2.1))), (a18, .inl (cI, 17, .inl (nF (updN (iter (lnS lz nn) i q2.2.2) i (byL ((nI lz).toInt64) (8 * i)))))), (tx, .inl (cI, 98816, .inl (nF gt)))] H := hP
            have hD : va_D A [(a19, .inl (cI, 16, .inl (nF gg))), (a20, .inl (cI, 16, .inl (nF mw))), (a4, .inl (cI, 32, .inl (nF gk))), (a6, .inl (cI, 12, .inl (nF gn))), (a12, .inl (cI, 16, .inl wq)), (a13, .inl (cI, 16, .inl tq)), (a14, .inl (cI, 64, .inl (nF su))), (a3, .inl (cI, 98816, .inl (nF gz))), (mo, .inr (7, mFs thr a1 a2 a3 (nI lt) (nI lb) (nI lz) ci a4 a5 a6 nu bk se op fa a7 a8 a9 a10 a11 (nI rn) kh kl sh sl a12 a13 a14 a15 a16 a17 a18 a19 a20)), (a15, .inl (cI, 17, .inl (nF q2.1))), (a16, .inl (cI, 17, .inl (nF fb))), (a17, .inl (cI, 40, .inl (nF q2.2.1))), (a18, .inl (cI, 17, .inl (nF (updN (iter (lnS lz nn) i q2.2.2) i (byL ((nI lz).toInt64) (8 * i)))))), (tx, .inl (cI, 98816, .inl (nF gt)))] := hD
            refine lv_iinc (v := nI (i + 1)) (lv' := [(3, .int (nI (i + 1))), (0, .ref mo), (1, .ref tx), (2, .int (nI nn))]) hx hb d_M_tagChacha_171 hl (k := 0) rfl (sb_inc (a := i) (b := i + 1) (d := 1) rfl (by decide) (by omega)) (by decide) rfl (fun ls hl => ?_)
            refine lv_goto (tgt := 121) hx hb d_M_tagChacha_174 (by decide) ?_
            rw [show nF (updN (iter (lnS lz nn) i q2.2.2) i (byL ((nI lz).toInt64) (8 * i))) = nF (iter (lnS lz nn) (i + 1) q2.2.2) from (congrArg nF (Eq.trans (by simp only [lnS, if_neg c_12]) (iter_s _ _ _).symm))] at hP hD
            exact ih2 (i + 1) (by omega) _ _ ls (hP.sub [0, 1, 2, 3, 4, 5, 6, 7, 8, 9, 10, 11, 12, 13] rfl) (hD.sub [0, 1, 2, 3, 4, 5, 6, 7, 8, 9, 10, 11, 12, 13] (by decide) rfl) hS (lv_sub hl [0, 1, 2, 3] rfl)
      exact lp2 16 0 (by omega) _ _ ls (hP.sub [0, 1, 2, 3, 4, 5, 6, 7, 8, 9, 10, 11, 12, 13] rfl) (hD.sub [0, 1, 2, 3, 4, 5, 6, 7, 8, 9, 10, 11, 12, 13] (by decide) rfl) hS (lv_sub hl [0, 1, 2, 3] rfl)
    | succ d1 ih1 =>
      intro i hi1 H locs ls hP hD hS hl
      have hsb := bsu i
      refine lv_iload_n hx hb d_M_tagChacha_7 rfl (lv_at hl 0 rfl) ?_
      refine lv_bipush (v := 17) hx hb d_M_tagChacha_8 (by decide) ?_
      refine lv_icmp_ge (tgt := 101) hx hb d_M_tagChacha_10 (by decide) (fun c_15 => absurd c_15 (sb_geF (a := i) (b := 17) rfl rfl (by omega) (by omega) (by omega))) (fun c_15 => ?_)
      refine lv_aload_n hx hb d_M_tagChacha_13 rfl (lv_at hl 1 rfl) ?_
      refine va_get (D := D) (ci := 7) (v := .ref a15) (C := R_M) (T := F_M) (N := 35) hx hb hts in_M hown hG.1 hP 8 rfl rfl 29 (by decide) (hts _ k_726) (fun _ h9 => h9) rfl d_M_tagChacha_14 ?_
      refine lv_iload_n hx hb d_M_tagChacha_17 rfl (lv_at hl 0 rfl) ?_
      refine lv_iconst (v := 0) hx hb d_M_tagChacha_18 (by decide) ?_
      refine sb_ist hx hb hG.1 hP hD hS 0 rfl i rfl (by omega) (by omega) d_M_tagChacha_19 (fun f_16 H locs ef_16 hP hD hS => ?_)
      have hP : va_P D vwCl [(a15, .inl (cI, 17, .inl f_16)), (a16, .inl (cI, 17, .inl (nF (iter (fS su) i gb)))), (a17, .inl (cI, 40, .inl (nF gd))), (a18, .inl (cI, 17, .inl (nF gc))), (a19, .inl (cI, 16, .inl (nF gg))), (a20, .inl (cI, 16, .inl (nF (iter (mkS su) i gw)))), (a3, .inl (cI, 98816, .inl (nF gz))), (tx, .inl (cI, 98816, .inl (nF gt))), (mo, .inr (7, mFs thr a1 a2 a3 (nI lt) (nI lb) (nI lz) ci a4 a5 a6 nu bk se op fa a7 a8 a9 a10 a11 (nI rn) kh kl sh sl a12 a13 a14 a15 a16 a17 a18 a19 a20)), (a4, .inl (cI, 32, .inl (nF gk))), (a6, .inl (cI, 12, .inl (nF gn))), (a12, .inl (cI, 16, .inl wq)), (a13, .inl (cI, 16, .inl tq)), (a14, .inl (cI, 64, .inl (nF su)))] H := hP
      have hD : va_D A [(a15, .inl (cI, 17, .inl f_16)), (a16, .inl (cI, 17, .inl (nF (iter (fS su) i gb)))), (a17, .inl (cI, 40, .inl (nF gd))), (a18, .inl (cI, 17, .inl (nF gc))), (a19, .inl (cI, 16, .inl (nF gg))), (a20, .inl (cI, 16, .inl (nF (iter (mkS su) i gw)))), (a3, .inl (cI, 98816, .inl (nF gz))), (tx, .inl (cI, 98816, .inl (nF gt))), (mo, .inr (7, mFs thr a1 a2 a3 (nI lt) (nI lb) (nI lz) ci a4 a5 a6 nu bk se op fa a7 a8 a9 a10 a11 (nI rn) kh kl sh sl a12 a13 a14 a15 a16 a17 a18 a19 a20)), (a4, .inl (cI, 32, .inl (nF gk))), (a6, .inl (cI, 12, .inl (nF gn))), (a12, .inl (cI, 16, .inl wq)), (a13, .inl (cI, 16, .inl tq)), (a14, .inl (cI, 64, .inl (nF su)))] := hD
      obtain rfl : f_16 = nF (updN (iter nZero i ga) i 0) := ef_16.trans (nF_set _ _ _)
      have hP : va_P D vwCl [(a15, .inl (cI, 17, .inl (nF (updN (iter nZero i ga) i 0)))), (a16, .inl (cI, 17, .inl (nF (iter (fS su) i gb)))), (a17, .inl (cI, 40, .inl (nF gd))), (a18, .inl (cI, 17, .inl (nF gc))), (a19, .inl (cI, 16, .inl (nF gg))), (a20, .inl (cI, 16, .inl (nF (iter (mkS su) i gw)))), (a3, .inl (cI, 98816, .inl (nF gz))), (tx, .inl (cI, 98816, .inl (nF gt))), (mo, .inr (7, mFs thr a1 a2 a3 (nI lt) (nI lb) (nI lz) ci a4 a5 a6 nu bk se op fa a7 a8 a9 a10 a11 (nI rn) kh kl sh sl a12 a13 a14 a15 a16 a17 a18 a19 a20)), (a4, .inl (cI, 32, .inl (nF gk))), (a6, .inl (cI, 12, .inl (nF gn))), (a12, .inl (cI, 16, .inl wq)), (a13, .inl (cI, 16, .inl tq)), (a14, .inl (cI, 64, .inl (nF su)))] H := hP
      have hD : va_D A [(a15, .inl (cI, 17, .inl (nF (updN (iter nZero i ga) i 0)))), (a16, .inl (cI, 17, .inl (nF (iter (fS su) i gb)))), (a17, .inl (cI, 40, .inl (nF gd))), (a18, .inl (cI, 17, .inl (nF gc))), (a19, .inl (cI, 16, .inl (nF gg))), (a20, .inl (cI, 16, .inl (nF (iter (mkS su) i gw)))), (a3, .inl (cI, 98816, .inl (nF gz))), (tx, .inl (cI, 98816, .inl (nF gt))), (mo, .inr (7, mFs thr a1 a2 a3 (nI lt) (nI lb) (nI lz) ci a4 a5 a6 nu bk se op fa a7 a8 a9 a10 a11 (nI rn) kh kl sh sl a12 a13 a14 a15 a16 a17 a18 a19 a20)), (a4, .inl (cI, 32, .inl (nF gk))), (a6, .inl (cI, 12, .inl (nF gn))), (a12, .inl (cI, 16, .inl wq)), (a13, .inl (cI, 16, .inl tq)), (a14, .inl (cI, 64, .inl (nF su)))] := hD
      refine lv_aload_n hx hb d_M_tagChacha_20 rfl (lv_at hl 1 rfl) ?_
      refine va_get (D := D) (ci := 7) (v := .ref a16) (C := R_M) (T := F_M) (N := 35) hx hb hts in_M hown hG.1 hP 8 rfl rfl 30 (by decide) (hts _ k_727) (fun _ h9 => h9) rfl d_M_tagChacha_21 ?_
      refine lv_iload_n hx hb d_M_tagChacha_24 rfl (lv_at hl 0 rfl) ?_
      refine lv_iload_n hx hb d_M_tagChacha_25 rfl (lv_at hl 0 rfl) ?_
      refine lv_bipush (v := 16) hx hb d_M_tagChacha_26 (by decide) ?_
      refine lv_icmp_ne (tgt := 35) hx hb d_M_tagChacha_28 (by decide) (fun c_17 => ?_) (fun c_17 => ?_)
      · have c_17 := mt (sb_eqI (a := i) (b := 16) rfl rfl (by omega) (by omega)).mpr c_17
        refine lv_aload_n hx hb d_M_tagChacha_35 rfl (lv_at hl 1 rfl) ?_
        refine va_get (D := D) (ci := 7) (v := .ref a14) (C := R_M) (T := F_M) (N := 35) hx hb hts in_M hown hG.1 hP 8 rfl rfl 28 (by decide) (hts _ k_725) (fun _ h9 => h9) rfl d_M_tagChacha_36 ?_
        refine lv_iload_n hx hb d_M_tagChacha_39 rfl (lv_at hl 0 rfl) ?_
        refine sb_ild hx hb hG.1 hP 13 rfl i rfl (by omega) (by omega) d_M_tagChacha_40 ?_
        refine lv_iload_n hx hb d_M_tagChacha_41 rfl (lv_at hl 0 rfl) ?_
        refine lv_iconst (v := 4) hx hb d_M_tagChacha_42 (by decide) ?_
        refine lv_irem hx hb d_M_tagChacha_43 (by decide) ?_
        refine sb_topn (i % 4) (sb_rem (a := i) (b := 4) (by omega) (by omega) (by omega) rfl rfl) ?_
        refine lv_iconst (v := 3) hx hb d_M_tagChacha_44 (by decide) ?_
        refine lv_icmp_ne (tgt := 53) hx hb d_M_tagChacha_45 (by decide) (fun c_18 => ?_) (fun c_18 => ?_)
        · have c_18 := mt (sb_eqI (a := i % 4) (b := 3) rfl rfl (by omega) (by omega)).mpr c_18
          refine lv_iload_n hx hb d_M_tagChacha_53 rfl (lv_at hl 0 rfl) ?_
          refine lv_iconst (v := 4) hx hb d_M_tagChacha_54 (by decide) ?_
          refine lv_irem hx hb d_M_tagChacha_55 (by decide) ?_
          refine sb_topn (i % 4) (sb_rem (a := i) (b := 4) (by omega) (by omega) (by omega) rfl rfl) ?_
          refine lv_if_ne (tgt := 69) hx hb d_M_tagChacha_56 (by decide) (fun c_19 => ?_) (fun c_19 => ?_)
          · have c_19 := mt (sb_eqI (a := i % 4) (b := 0) rfl rfl (by omega) (by omega)).mpr c_19
            refine lv_sipush (v := 255) hx hb d_M_tagChacha_69 (by decide) ?_
            refine lv_iand hx hb d_M_tagChacha_72 ?_
            refine sb_topn ((su i) % 256) (sb_and (a := su i) 8 rfl (by omega) (by decide)) ?_
            refine sb_topn ((su i) % 256) rfl ?_
            refine sb_ist hx hb hG.1 hP hD hS 1 rfl i rfl (by omega) (by omega) d_M_tagChacha_73 (fun f_20 H locs ef_20 hP hD hS => ?_)
            have hP : va_P D vwCl [(a15, .inl (cI, 17, .inl (nF (updN (iter nZero i ga) i 0)))), (a16, .inl (cI, 17, .inl f_20)), (a17, .inl (cI, 40, .inl (nF gd))), (a18, .inl (cI, 17, .inl (nF gc))), (a19, .inl (cI, 16, .inl (nF gg))), (a20, .inl (cI, 16, .inl (nF (iter (mkS su) i gw)))), (a3, .inl (cI, 98816, .inl (nF gz))), (tx, .inl (cI, 98816, .inl (nF gt))), (mo, .inr (7, mFs thr a1 a2 a3 (nI lt) (nI lb) (nI lz) ci a4 a5 a6 nu bk se op fa a7 a8 a9 a10 a11 (nI rn) kh kl sh sl a12 a13 a14 a15 a16 a17 a18 a19 a20)), (a4, .inl (cI, 32, .inl (nF gk))), (a6, .inl (cI, 12, .inl (nF gn))), (a12, .inl (cI, 16, .inl wq)), (a13, .inl (cI, 16, .inl tq)), (a14, .inl (cI, 64, .inl (nF su)))] H := hP
            have hD : va_D A [(a15, .inl (cI, 17, .inl (nF (updN (iter nZero i ga) i 0)))), (a16, .inl (cI, 17, .inl f_20)), (a17, .inl (cI, 40, .inl (nF gd))), (a18, .inl (cI, 17, .inl (nF gc))), (a19, .inl (cI, 16, .inl (nF gg))), (a20, .inl (cI, 16, .inl (nF (iter (mkS su) i gw)))), (a3, .inl (cI, 98816, .inl (nF gz))), (tx, .inl (cI, 98816, .inl (nF gt))), (mo, .inr (7, mFs thr a1 a2 a3 (nI lt) (nI lb) (nI lz) ci a4 a5 a6 nu bk se op fa a7 a8 a9 a10 a11 (nI rn) kh kl sh sl a12 a13 a14 a15 a16 a17 a18 a19 a20)), (a4, .inl (cI, 32, .inl (nF gk))), (a6, .inl (cI, 12, .inl (nF gn))), (a12, .inl (cI, 16, .inl wq)), (a13, .inl (cI, 16, .inl tq)), (a14, .inl (cI, 64, .inl (nF su)))] := hD
            obtain rfl : f_20 = nF (updN (iter (fS su) i gb) i ((su i) % 256)) := ef_20.trans (nF_set _ _ _)
            have hP : va_P D vwCl [(a15, .inl (cI, 17, .inl (nF (updN (iter nZero i ga) i 0)))), (a16, .inl (cI, 17, .inl (nF (updN (iter (fS su) i gb) i ((su i) % 256))))), (a17, .inl (cI, 40, .inl (nF gd))), (a18, .inl (cI, 17, .inl (nF gc))), (a19, .inl (cI, 16, .inl (nF gg))), (a20, .inl (cI, 16, .inl (nF (iter (mkS su) i gw)))), (a3, .inl (cI, 98816, .inl (nF gz))), (tx, .inl (cI, 98816, .inl (nF gt))), (mo, .inr (7, mFs thr a1 a2 a3 (nI lt) (nI lb) (nI lz) ci a4 a5 a6 nu bk se op fa a7 a8 a9 a10 a11 (nI rn) kh kl sh sl a12 a13 a14 a15 a16 a17 a18 a19 a20)), (a4, .inl (cI, 32, .inl (nF gk))), (a6, .inl (cI, 12, .inl (nF gn))), (a12, .inl (cI, 16, .inl wq)), (a13, .inl (cI, 16, .inl tq)), (a14, .inl (cI, 64, .inl (nF su)))] H := hP
            have hD : va_D A [(a15, .inl (cI, 17, .inl (nF (updN (iter nZero i ga) i 0)))), (a16, .inl (cI, 17, .inl (nF (updN (iter (fS su) i gb) i ((su i) % 256))))), (a17, .inl (cI, 40, .inl (nF gd))), (a18, .inl (cI, 17, .inl (nF gc))), (a19, .inl (cI, 16, .inl (nF gg))), (a20, .inl (cI, 16, .inl (nF (iter (mkS su) i gw)))), (a3, .inl (cI, 98816, .inl (nF gz))), (tx, .inl (cI, 98816, .inl (nF gt))), (mo, .inr (7, mFs thr a1 a2 a3 (nI lt) (nI lb) (nI lz) ci a4 a5 a6 nu bk se op fa a7 a8 a9 a10 a11 (nI rn) kh kl sh sl a12 a13 a14 a15 a16 a17 a18 a19 a20)), (a4, .inl (cI, 32, .inl (nF gk))), (a6, .inl (cI, 12, .inl (nF gn))), (a12, .inl (cI, 16, .inl wq)), (a13, .inl (cI, 16, .inl tq)), (a14, .inl (cI, 64, .inl (nF su)))] := hD
            refine lv_iload_n hx hb d_M_tagChacha_74 rfl (lv_at hl 0 rfl) ?_
            refine lv_bipush (v := 16) hx hb d_M_tagChacha_75 (by decide) ?_
            refine lv_icmp_ge (tgt := 95) hx hb d_M_tagChacha_77 (by decide) (fun c_21 => absurd c_21 (sb_geF (a := i) (b := 16) rfl rfl (by omega) (by omega) (by omega))) (fun c_21 => ?_)
            refine lv_aload_n hx hb d_M_tagChacha_80 rfl (lv_at hl 1 rfl) ?_
            refine va_get (D := D) (ci := 7) (v := .ref a20) (C := R_M) (T := F_M) (N := 35) hx hb hts in_M hown hG.1 hP 8 rfl rfl 34 (by decide) (hts _ k_731) (fun _ h9 => h9) rfl d_M_tagChacha_81 ?_
            refine lv_iload_n hx hb d_M_tagChacha_84 rfl (lv_at hl 0 rfl) ?_
            refine lv_aload_n hx hb d_M_tagChacha_85 rfl (lv_at hl 1 rfl) ?_
            refine va_get (D := D) (ci := 7) (v := .ref a14) (C := R_M) (T := F_M) (N := 35) hx hb hts in_M hown hG.1 hP 8 rfl rfl 28 (by decide) (hts _ k_725) (fun _ h9 => h9) rfl d_M_tagChacha_86 ?_
            refine lv_bipush (v := 16) hx hb d_M_tagChacha_89 (by decide) ?_
            refine lv_iload_n hx hb d_M_tagChacha_91 rfl (lv_at hl 0 rfl) ?_
            refine lv_iadd hx hb d_M_tagChacha_92 ?_
            refine sb_topn (16 + i) (nI_add 16 i) ?_
            refine sb_ild hx hb hG.1 hP 13 rfl (16 + i) rfl (by omega) (by omega) d_M_tagChacha_93 ?_
            refine sb_topn (su (16 + i)) rfl ?_
            refine sb_ist hx hb hG.1 hP hD hS 5 rfl i rfl (by omega) (by omega) d_M_tagChacha_94 (fun f_22 H locs ef_22 hP hD hS => ?_)
            have hP : va_P D vwCl [(a15, .inl (cI, 17, .inl (nF (updN (iter nZero i ga) i 0)))), (a16, .inl (cI, 17, .inl (nF (updN (iter (fS su) i gb) i ((su i) % 256))))), (a17, .inl (cI, 40, .inl (nF gd))), (a18, .inl (cI, 17, .inl (nF gc))), (a19, .inl (cI, 16, .inl (nF gg))), (a20, .inl (cI, 16, .inl f_22)), (a3, .inl (cI, 98816, .inl (nF gz))), (tx, .inl (cI, 98816, .inl (nF gt))), (mo, .inr (7, mFs thr a1 a2 a3 (nI lt) (nI lb) (nI lz) ci a4 a5 a6 nu bk se op fa a7 a8 a9 a10 a11 (nI rn) kh kl sh sl a12 a13 a14 a15 a16 a17 a18 a19 a20)), (a4, .inl (cI, 32, .inl (nF gk))), (a6, .inl (cI, 12, .inl (nF gn))), (a12, .inl (cI, 16, .inl wq)), (a13, .inl (cI, 16, .inl tq)), (a14, .inl (cI, 64, .inl (nF su)))] H := hP
            have hD : va_D A [(a15, .inl (cI, 17, .inl (nF (updN (iter nZero i ga) i 0)))), (a16, .inl (cI, 17, .inl (nF (updN (iter (fS su) i gb) i ((su i) % 256))))), (a17, .inl (cI, 40, .inl (nF gd))), (a18, .inl (cI, 17, .inl (nF gc))), (a19, .inl (cI, 16, .inl (nF gg))), (a20, .inl (cI, 16, .inl f_22)), (a3, .inl (cI, 98816, .inl (nF gz))), (tx, .inl (cI, 98816, .inl (nF gt))), (mo, .inr (7, mFs thr a1 a2 a3 (nI lt) (nI lb) (nI lz) ci a4 a5 a6 nu bk se op fa a7 a8 a9 a10 a11 (nI rn) kh kl sh sl a12 a13 a14 a15 a16 a17 a18 a19 a20)), (a4, .inl (cI, 32, .inl (nF gk))), (a6, .inl (cI, 12, .inl (nF gn))), (a12, .inl (cI, 16, .inl wq)), (a13, .inl (cI, 16, .inl tq)), (a14, .inl (cI, 64, .inl (nF su)))] := hD
            obtain rfl : f_22 = nF (updN (iter (mkS su) i gw) i (su (16 + i))) := ef_22.trans (nF_set _ _ _)
            have hP : va_P D vwCl [(a15, .inl (cI, 17, .inl (nF (updN (iter nZero i ga) i 0)))), (a16, .inl (cI, 17, .inl (nF (updN (iter (fS su) i gb) i ((su i) % 256))))), (a17, .inl (cI, 40, .inl (nF gd))), (a18, .inl (cI, 17, .inl (nF gc))), (a19, .inl (cI, 16, .inl (nF gg))), (a20, .inl (cI, 16, .inl (nF (updN (iter (mkS su) i gw) i (su (16 + i)))))), (a3, .inl (cI, 98816, .inl (nF gz))), (tx, .inl (cI, 98816, .inl (nF gt))), (mo, .inr (7, mFs thr a1 a2 a3 (nI lt) (nI lb) (nI lz) ci a4 a5 a6 nu bk se op fa a7 a8 a9 a10 a11 (nI rn) kh kl sh sl a12 a13 a14 a15 a16 a17 a18 a19 a20)), (a4, .inl (cI, 32, .inl (nF gk))), (a6, .inl (cI, 12, .inl (nF gn))), (a12, .inl (cI, 16, .inl wq)), (a13, .inl (cI, 16, .inl tq)), (a14, .inl (cI, 64, .inl (nF su)))] H := hP
            have hD : va_D A [(a15, .inl (cI, 17, .inl (nF (updN (iter nZero i ga) i 0)))), (a16, .inl (cI, 17, .inl (nF (updN (iter (fS su) i gb) i ((su i) % 256))))), (a17, .inl (cI, 40, .inl (nF gd))), (a18, .inl (cI, 17, .inl (nF gc))), (a19, .inl (cI, 16, .inl (nF gg))), (a20, .inl (cI, 16, .inl (nF (updN (iter (mkS su) i gw) i (su (16 + i)))))), (a3, .inl (cI, 98816, .inl (nF gz))), (tx, .inl (cI, 98816, .inl (nF gt))), (mo, .inr (7, mFs thr a1 a2 a3 (nI lt) (nI lb) (nI lz) ci a4 a5 a6 nu bk se op fa a7 a8 a9 a10 a11 (nI rn) kh kl sh sl a12 a13 a14 a15 a16 a17 a18 a19 a20)), (a4, .inl (cI, 32, .inl (nF gk))), (a6, .inl (cI, 12, .inl (nF gn))), (a12, .inl (cI, 16, .inl wq)), (a13, .inl (cI, 16, .inl tq)), (a14, .inl (cI, 64, .inl (nF su)))] := hD
            refine lv_iinc (v := nI (i + 1)) (lv' := [(3, .int (nI (i + 1))), (0, .ref mo), (1, .ref tx), (2, .int (nI nn))]) hx hb d_M_tagChacha_95 hl (k := 0) rfl (sb_inc (a := i) (b := i + 1) (d := 1) rfl (by decide) (by omega)) (by decide) rfl (fun ls hl => ?_)
            refine lv_goto (tgt := 7) hx hb d_M_tagChacha_98 (by decide) ?_
            rw [show nF (updN (iter nZero i ga) i 0) = nF (iter nZero (i + 1) ga) from (congrArg nF (Eq.trans (by first | (simp only [fS, if_neg c_17, if_neg c_18, if_neg c_19]; done) | (simp only [mkS, if_neg (show ¬ 16 ≤ i by omega)]; done) | rfl) (iter_s _ _ _).symm))] at hP hD
            rw [show nF (updN (iter (fS su) i gb) i ((su i) % 256)) = nF (iter (fS su) (i + 1) gb) from (congrArg nF (Eq.trans (by first | (simp only [fS, if_neg c_17, if_neg c_18, if_neg c_19]; done) | (simp only [mkS, if_neg (show ¬ 16 ≤ i by omega)]; done) | rfl) (iter_s _ _ _).symm))] at hP hD
            rw [show nF (updN (iter (mkS su) i gw) i (su (16 + i))) = nF (iter (mkS su) (i + 1) gw) from (congrArg nF (Eq.trans (by first | (simp only [fS, if_neg c_17, if_neg c_18, if_neg c_19]; done) | (simp only [mkS, if_neg (show ¬ 16 ≤ i by omega)]; done) | rfl) (iter_s _ _ _).symm))] at hP hD
            exact ih1 (i + 1) (by omega) _ _ ls (hP.sub [0, 1, 2, 3, 4, 5, 6, 7, 8, 9, 10, 11, 12, 13] rfl) (hD.sub [0, 1, 2, 3, 4, 5, 6, 7, 8, 9, 10, 11, 12, 13] (by decide) rfl) hS (lv_sub hl [0, 1, 2, 3] rfl)
          · have c_19 := (sb_eqI (a := i % 4) (b := 0) rfl rfl (by omega) (by omega)).mp c_19
            refine lv_iload_n hx hb d_M_tagChacha_59 rfl (lv_at hl 0 rfl) ?_
            refine lv_if_le (tgt := 69) hx hb d_M_tagChacha_60 (by decide) (fun c_23 => ?_) (fun c_23 => ?_)
            · have c_23 := (sb_leI (a := i) (b := 0) rfl rfl (by omega) (by omega)).mp c_23
              refine lv_sipush (v := 255) hx hb d_M_tagChacha_69 (by decide) ?_
              refine lv_iand hx hb d_M_tagChacha_72 ?_
              refine sb_topn ((su i) % 256) (sb_and (a := su i) 8 rfl (by omega) (by decide)) ?_
              refine sb_topn ((su i) % 256) rfl ?_
              refine sb_ist hx hb hG.1 hP hD hS 1 rfl i rfl (by omega) (by omega) d_M_tagChacha_73 (fun f_24 H locs ef_24 hP hD hS => ?_)
              have hP : va_P D vwCl [(a15, .inl (cI, 17, .inl (nF (updN (iter nZero i ga) i 0)))), (a16, .inl (cI, 17, .inl f_24)), (a17, .inl (cI, 40, .inl (nF gd))), (a18, .inl (cI, 17, .inl (nF gc))), (a19, .inl (cI, 16, .inl (nF gg))), (a20, .inl (cI, 16, .inl (nF (iter (mkS su) i gw)))), (a3, .inl (cI, 98816, .inl (nF gz))), (tx, .inl (cI, 98816, .inl (nF gt))), (mo, .inr (7, mFs thr a1 a2 a3 (nI lt) (nI lb) (nI lz) ci a4 a5 a6 nu bk se op fa a7 a8 a9 a10 a11 (nI rn) kh kl sh sl a12 a13 a14 a15 a16 a17 a18 a19 a20)), (a4, .inl (cI, 32, .inl (nF gk))), (a6, .inl (cI, 12, .inl (nF gn))), (a12, .inl (cI, 16, .inl wq)), (a13, .inl (cI, 16, .inl tq)), (a14, .inl (cI, 64, .inl (nF su)))] H := hP
              have hD : va_D A [(a15, .inl (cI, 17, .inl (nF (updN (iter nZero i ga) i 0)))), (a16, .inl (cI, 17, .inl f_24)), (a17, .inl (cI, 40, .inl (nF gd))), (a18, .inl (cI, 17, .inl (nF gc))), (a19, .inl (cI, 16, .inl (nF gg))), (a20, .inl (cI, 16, .inl (nF (iter (mkS su) i gw)))), (a3, .inl (cI, 98816, .inl (nF gz))), (tx, .inl (cI, 98816, .inl (nF gt))), (mo, .inr (7, mFs thr a1 a2 a3 (nI lt) (nI lb) (nI lz) ci a4 a5 a6 nu bk se op fa a7 a8 a9 a10 a11 (nI rn) kh kl sh sl a12 a13 a14 a15 a16 a17 a18 a19 a20)), (a4, .inl (cI, 32, .inl (nF gk))), (a6, .inl (cI, 12, .inl (nF gn))), (a12, .inl (cI, 16, .inl wq)), (a13, .inl (cI, 16, .inl tq)), (a14, .inl (cI, 64, .inl (nF su)))] := hD
              obtain rfl : f_24 = nF (updN (iter (fS su) i gb) i ((su i) % 256)) := ef_24.trans (nF_set _ _ _)
              have hP : va_P D vwCl [(a15, .inl (cI, 17, .inl (nF (updN (iter nZero i ga) i 0)))), (a16, .inl (cI, 17, .inl (nF (updN (iter (fS su) i gb) i ((su i) % 256))))), (a17, .inl (cI, 40, .inl (nF gd))), (a18, .inl (cI, 17, .inl (nF gc))), (a19, .inl (cI, 16, .inl (nF gg))), (a20, .inl (cI, 16, .inl (nF (iter (mkS su) i gw)))), (a3, .inl (cI, 98816, .inl (nF gz))), (tx, .inl (cI, 98816, .inl (nF gt))), (mo, .inr (7, mFs thr a1 a2 a3 (nI lt) (nI lb) (nI lz) ci a4 a5 a6 nu bk se op fa a7 a8 a9 a10 a11 (nI rn) kh kl sh sl a12 a13 a14 a15 a16 a17 a18 a19 a20)), (a4, .inl (cI, 32, .inl (nF gk))), (a6, .inl (cI, 12, .inl (nF gn))), (a12, .inl (cI, 16, .inl wq)), (a13, .inl (cI, 16, .inl tq)), (a14, .inl (cI, 64, .inl (nF su)))] H := hP
              have hD : va_D A [(a15, .inl (cI, 17, .inl (nF (updN (iter nZero i ga) i 0)))), (a16, .inl (cI, 17, .inl (nF (updN (iter (fS su) i gb) i ((su i) % 256))))), (a17, .inl (cI, 40, .inl (nF gd))), (a18, .inl (cI, 17, .inl (nF gc))), (a19, .inl (cI, 16, .inl (nF gg))), (a20, .inl (cI, 16, .inl (nF (iter (mkS su) i gw)))), (a3, .inl (cI, 98816, .inl (nF gz))), (tx, .inl (cI, 98816, .inl (nF gt))), (mo, .inr (7, mFs thr a1 a2 a3 (nI lt) (nI lb) (nI lz) ci a4 a5 a6 nu bk se op fa a7 a8 a9 a10 a11 (nI rn) kh kl sh sl a12 a13 a14 a15 a16 a17 a18 a19 a20)), (a4, .inl (cI, 32, .inl (nF gk))), (a6, .inl (cI, 12, .inl (nF gn))), (a12, .inl (cI, 16, .inl wq)), (a13, .inl (cI, 16, .inl tq)), (a14, .inl (cI, 64, .inl (nF su)))] := hD
              refine lv_iload_n hx hb d_M_tagChacha_74 rfl (lv_at hl 0 rfl) ?_
              refine lv_bipush (v := 16) hx hb d_M_tagChacha_75 (by decide) ?_
              refine lv_icmp_ge (tgt := 95) hx hb d_M_tagChacha_77 (by decide) (fun c_25 => absurd c_25 (sb_geF (a := i) (b := 16) rfl rfl (by omega) (by omega) (by omega))) (fun c_25 => ?_)
              refine lv_aload_n hx hb d_M_tagChacha_80 rfl (lv_at hl 1 rfl) ?_
              refine va_get (D := D) (ci := 7) (v := .ref a20) (C := R_M) (T := F_M) (N := 35) hx hb hts in_M hown hG.1 hP 8 rfl rfl 34 (by decide) (hts _ k_731) (fun _ h9 => h9) rfl d_M_tagChacha_81 ?_
              refine lv_iload_n hx hb d_M_tagChacha_84 rfl (lv_at hl 0 rfl) ?_
              refine lv_aload_n hx hb d_M_tagChacha_85 rfl (lv_at hl 1 rfl) ?_
              refine va_get (D := D) (ci := 7) (v := .ref a14) (C := R_M) (T := F_M) (N := 35) hx hb hts in_M hown hG.1 hP 8 rfl rfl 28 (by decide) (hts _ k_725) (fun _ h9 => h9) rfl d_M_tagChacha_86 ?_
              refine lv_bipush (v := 16) hx hb d_M_tagChacha_89 (by decide) ?_
              refine lv_iload_n hx hb d_M_tagChacha_91 rfl (lv_at hl 0 rfl) ?_
              refine lv_iadd hx hb d_M_tagChacha_92 ?_
              refine sb_topn (16 + i) (nI_add 16 i) ?_
              refine sb_ild hx hb hG.1 hP 13 rfl (16 + i) rfl (by omega) (by omega) d_M_tagChacha_93 ?_
              refine sb_topn (su (16 + i)) rfl ?_
              refine sb_ist hx hb hG.1 hP hD hS 5 rfl i rfl (by omega) (by omega) d_M_tagChacha_94 (fun f_26 H locs ef_26 hP hD hS => ?_)
              have hP : va_P D vwCl [(a15, .inl (cI, 17, .inl (nF (updN (iter nZero i ga) i 0)))), (a16, .inl (cI, 17, .inl (nF (updN (iter (fS su) i gb) i ((su i) % 256))))), (a17, .inl (cI, 40, .inl (nF gd))), (a18, .inl (cI, 17, .inl (nF gc))), (a19, .inl (cI, 16, .inl (nF gg))), (a20, .inl (cI, 16, .inl f_26)), (a3, .inl (cI, 98816, .inl (nF gz))), (tx, .inl (cI, 98816, .inl (nF gt))), (mo, .inr (7, mFs thr a1 a2 a3 (nI lt) (nI lb) (nI lz) ci a4 a5 a6 nu bk se op fa a7 a8 a9 a10 a11 (nI rn) kh kl sh sl a12 a13 a14 a15 a16 a17 a18 a19 a20)), (a4, .inl (cI, 32, .inl (nF gk))), (a6, .inl (cI, 12, .inl (nF gn))), (a12, .inl (cI, 16, .inl wq)), (a13, .inl (cI, 16, .inl tq)), (a14, .inl (cI, 64, .inl (nF su)))] H := hP
              have hD : va_D A [(a15, .inl (cI, 17, .inl (nF (updN (iter nZero i ga) i 0)))), (a16, .inl (cI, 17, .inl (nF (updN (iter (fS su) i gb) i ((su i) % 256))))), (a17, .inl (cI, 40, .inl (nF gd))), (a18, .inl (cI, 17, .inl (nF gc))), (a19, .inl (cI, 16, .inl (nF gg))), (a20, .inl (cI, 16, .inl f_26)), (a3, .inl (cI, 98816, .inl (nF gz))), (tx, .inl (cI, 98816, .inl (nF gt))), (mo, .inr (7, mFs thr a1 a2 a3 (nI lt) (nI lb) (nI lz) ci a4 a5 a6 nu bk se op fa a7 a8 a9 a10 a11 (nI rn) kh kl sh sl a12 a13 a14 a15 a16 a17 a18 a19 a20)), (a4, .inl (cI, 32, .inl (nF gk))), (a6, .inl (cI, 12, .inl (nF gn))), (a12, .inl (cI, 16, .inl wq)), (a13, .inl (cI, 16, .inl tq)), (a14, .inl (cI, 64, .inl (nF su)))] := hD
              obtain rfl : f_26 = nF (updN (iter (mkS su) i gw) i (su (16 + i))) := ef_26.trans (nF_set _ _ _)
              have hP : va_P D vwCl [(a15, .inl (cI, 17, .inl (nF (updN (iter nZero i ga) i 0)))), (a16, .inl (cI, 17, .inl (nF (updN (iter (fS su) i gb) i ((su i) % 256))))), (a17, .inl (cI, 40, .inl (nF gd))), (a18, .inl (cI, 17, .inl (nF gc))), (a19, .inl (cI, 16, .inl (nF gg))), (a20, .inl (cI, 16, .inl (nF (updN (iter (mkS su) i gw) i (su (16 + i)))))), (a3, .inl (cI, 98816, .inl (nF gz))), (tx, .inl (cI, 98816, .inl (nF gt))), (mo, .inr (7, mFs thr a1 a2 a3 (nI lt) (nI lb) (nI lz) ci a4 a5 a6 nu bk se op fa a7 a8 a9 a10 a11 (nI rn) kh kl sh sl a12 a13 a14 a15 a16 a17 a18 a19 a20)), (a4, .inl (cI, 32, .inl (nF gk))), (a6, .inl (cI, 12, .inl (nF gn))), (a12, .inl (cI, 16, .inl wq)), (a13, .inl (cI, 16, .inl tq)), (a14, .inl (cI, 64, .inl (nF su)))] H := hP
              have hD : va_D A [(a15, .inl (cI, 17, .inl (nF (updN (iter nZero i ga) i 0)))), (a16, .inl (cI, 17, .inl (nF (updN (iter (fS su) i gb) i ((su i) % 256))))), (a17, .inl (cI, 40, .inl (nF gd))), (a18, .inl (cI, 17, .inl (nF gc))), (a19, .inl (cI, 16, .inl (nF gg))), (a20, .inl (cI, 16, .inl (nF (updN (iter (mkS su) i gw) i (su (16 + i)))))), (a3, .inl (cI, 98816, .inl (nF gz))), (tx, .inl (cI, 98816, .inl (nF gt))), (mo, .inr (7, mFs thr a1 a2 a3 (nI lt) (nI lb) (nI lz) ci a4 a5 a6 nu bk se op fa a7 a8 a9 a10 a11 (nI rn) kh kl sh sl a12 a13 a14 a15 a16 a17 a18 a19 a20)), (a4, .inl (cI, 32, .inl (nF gk))), (a6, .inl (cI, 12, .inl (nF gn))), (a12, .inl (cI, 16, .inl wq)), (a13, .inl (cI, 16, .inl tq)), (a14, .inl (cI, 64, .inl (nF su)))] := hD
              refine lv_iinc (v := nI (i + 1)) (lv' := [(3, .int (nI (i + 1))), (0, .ref mo), (1, .ref tx), (2, .int (nI nn))]) hx hb d_M_tagChacha_95 hl (k := 0) rfl (sb_inc (a := i) (b := i + 1) (d := 1) rfl (by decide) (by omega)) (by decide) rfl (fun ls hl => ?_)
              refine lv_goto (tgt := 7) hx hb d_M_tagChacha_98 (by decide) ?_
              rw [show nF (updN (iter nZero i ga) i 0) = nF (iter nZero (i + 1) ga) from (congrArg nF (Eq.trans (by first | (simp only [fS, if_neg c_17, if_neg c_18, if_pos c_19, if_pos c_23]; done) | (simp only [mkS, if_neg (show ¬ 16 ≤ i by omega)]; done) | rfl) (iter_s _ _ _).symm))] at hP hD
              rw [show nF (updN (iter (fS su) i gb) i ((su i) % 256)) = nF (iter (fS su) (i + 1) gb) from (congrArg nF (Eq.trans (by first | (simp only [fS, if_neg c_17, if_neg c_18, if_pos c_19, if_pos c_23]; done) | (simp only [mkS, if_neg (show ¬ 16 ≤ i by omega)]; done) | rfl) (iter_s _ _ _).symm))] at hP hD
              rw [show nF (updN (iter (mkS su) i gw) i (su (16 + i))) = nF (iter (mkS su) (i + 1) gw) from (congrArg nF (Eq.trans (by first | (simp only [fS, if_neg c_17, if_neg c_18, if_pos c_19, if_pos c_23]; done) | (simp only [mkS, if_neg (show ¬ 16 ≤ i by omega)]; done) | rfl) (iter_s _ _ _).symm))] at hP hD
              exact ih1 (i + 1) (by omega) _ _ ls (hP.sub [0, 1, 2, 3, 4, 5, 6, 7, 8, 9, 10, 11, 12, 13] rfl) (hD.sub [0, 1, 2, 3, 4, 5, 6, 7, 8, 9, 10, 11, 12, 13] (by decide) rfl) hS (lv_sub hl [0, 1, 2, 3] rfl)
            · have c_23 := mt (sb_leI (a := i) (b := 0) rfl rfl (by omega) (by omega)).mpr c_23
              refine lv_sipush (v := 252) hx hb d_M_tagChacha_63 (by decide) ?_
              refine lv_goto (tgt := 72) hx hb d_M_tagChacha_66 (by decide) ?_
              refine lv_iand hx hb d_M_tagChacha_72 ?_
              refine sb_topn ((su i) / 4 * 4) (sb_and252 (a := su i) rfl (by omega)) ?_
              refine sb_topn ((su i) / 4 * 4) rfl ?_
              refine sb_ist hx hb hG.1 hP hD hS 1 rfl i rfl (by omega) (by omega) d_M_tagChacha_73 (fun f_27 H locs ef_27 hP hD hS => ?_)
              have hP : va_P D vwCl [(a15, .inl (cI, 17, .inl (nF (updN (iter nZero i ga) i 0)))), (a16, .inl (cI, 17, .inl f_27)), (a17, .inl (cI, 40, .inl (nF gd))), (a18, .inl (cI, 17, .inl (nF gc))), (a19, .inl (cI, 16, .inl (nF gg))), (a20, .inl (cI, 16, .inl (nF (iter (mkS su) i gw)))), (a3, .inl (cI, 98816, .inl (nF gz))), (tx, .inl (cI, 98816, .inl (nF gt))), (mo, .inr (7, mFs thr a1 a2 a3 (nI lt) (nI lb) (nI lz) ci a4 a5 a6 nu bk se op fa a7 a8 a9 a10 a11 (nI rn) kh kl sh sl a12 a13 a14 a15 a16 a17 a18 a19 a20)), (a4, .inl (cI, 32, .inl (nF gk))), (a6, .inl (cI, 12, .inl (nF gn))), (a12, .inl (cI, 16, .inl wq)), (a13, .inl (cI, 16, .inl tq)), (a14, .inl (cI, 64, .inl (nF su)))] H := hP
              have hD : va_D A [(a15, .inl (cI, 17, .inl (nF (updN (iter nZero i ga) i 0)))), (a16, .inl (cI, 17, .inl f_27)), (a17, .inl (cI, 40, .inl (nF gd))), (a18, .inl (cI, 17, .inl (nF gc))), (a19, .inl (cI, 16, .inl (nF gg))), (a20, .inl (cI, 16, .inl (nF (iter (mkS su) i gw)))), (a3, .inl (cI, 98816, .inl (nF gz))), (tx, .inl (cI, 98816, .inl (nF gt))), (mo, .inr (7, mFs thr a1 a2 a3 (nI lt) (nI lb) (nI lz) ci a4 a5 a6 nu bk se op fa a7 a8 a9 a10 a11 (nI rn) kh kl sh sl a12 a13 a14 a15 a16 a17 a18 a19 a20)), (a4, .inl (cI, 32, .inl (nF gk))), (a6, .inl (cI, 12, .inl (nF gn))), (a12, .inl (cI, 16, .inl wq)), (a13, .inl (cI, 16, .inl tq)), (a14, .inl (cI, 64, .inl (nF su)))] := hD
              obtain rfl : f_27 = nF (updN (iter (fS su) i gb) i ((su i) / 4 * 4)) := ef_27.trans (nF_set _ _ _)
              have hP : va_P D vwCl [(a15, .inl (cI, 17, .inl (nF (updN (iter nZero i ga) i 0)))), (a16, .inl (cI, 17, .inl (nF (updN (iter (fS su) i gb) i ((su i) / 4 * 4))))), (a17, .inl (cI, 40, .inl (nF gd))), (a18, .inl (cI, 17, .inl (nF gc))), (a19, .inl (cI, 16, .inl (nF gg))), (a20, .inl (cI, 16, .inl (nF (iter (mkS su) i gw)))), (a3, .inl (cI, 98816, .inl (nF gz))), (tx, .inl (cI, 98816, .inl (nF gt))), (mo, .inr (7, mFs thr a1 a2 a3 (nI lt) (nI lb) (nI lz) ci a4 a5 a6 nu bk se op fa a7 a8 a9 a10 a11 (nI rn) kh kl sh sl a12 a13 a14 a15 a16 a17 a18 a19 a20)), (a4, .inl (cI, 32, .inl (nF gk))), (a6, .inl (cI, 12, .inl (nF gn))), (a12, .inl (cI, 16, .inl wq)), (a13, .inl (cI, 16, .inl tq)), (a14, .inl (cI, 64, .inl (nF su)))] H := hP
              have hD : va_D A [(a15, .inl (cI, 17, .inl (nF (updN (iter nZero i ga) i 0)))), (a16, .inl (cI, 17, .inl (nF (updN (iter (fS su) i gb) i ((su i) / 4 * 4))))), (a17, .inl (cI, 40, .inl (nF gd))), (a18, .inl (cI, 17, .inl (nF gc))), (a19, .inl (cI, 16, .inl (nF gg))), (a20, .inl (cI, 16, .inl (nF (iter (mkS su) i gw)))), (a3, .inl (cI, 98816, .inl (nF gz))), (tx, .inl (cI, 98816, .inl (nF gt))), (mo, .inr (7, mFs thr a1 a2 a3 (nI lt) (nI lb) (nI lz) ci a4 a5 a6 nu bk se op fa a7 a8 a9 a10 a11 (nI rn) kh kl sh sl a12 a13 a14 a15 a16 a17 a18 a19 a20)), (a4, .inl (cI, 32, .inl (nF gk))), (a6, .inl (cI, 12, .inl (nF gn))), (a12, .inl (cI, 16, .inl wq)), (a13, .inl (cI, 16, .inl tq)), (a14, .inl (cI, 64, .inl (nF su)))] := hD
              refine lv_iload_n hx hb d_M_tagChacha_74 rfl (lv_at hl 0 rfl) ?_
              refine lv_bipush (v := 16) hx hb d_M_tagChacha_75 (by decide) ?_
              refine lv_icmp_ge (tgt := 95) hx hb d_M_tagChacha_77 (by decide) (fun c_28 => absurd c_28 (sb_geF (a := i) (b := 16) rfl rfl (by omega) (by omega) (by omega))) (fun c_28 => ?_)
              refine lv_aload_n hx hb d_M_tagChacha_80 rfl (lv_at hl 1 rfl) ?_
              refine va_get (D := D) (ci := 7) (v := .ref a20) (C := R_M) (T := F_M) (N := 35) hx hb hts in_M hown hG.1 hP 8 rfl rfl 34 (by decide) (hts _ k_731) (fun _ h9 => h9) rfl d_M_tagChacha_81 ?_
              refine lv_iload_n hx hb d_M_tagChacha_84 rfl (lv_at hl 0 rfl) ?_
              refine lv_aload_n hx hb d_M_tagChacha_85 rfl (lv_at hl 1 rfl) ?_
              refine va_get (D := D) (ci := 7) (v := .ref a14) (C := R_M) (T := F_M) (N := 35) hx hb hts in_M hown hG.1 hP 8 rfl rfl 28 (by decide) (hts _ k_725) (fun _ h9 => h9) rfl d_M_tagChacha_86 ?_
              refine lv_bipush (v := 16) hx hb d_M_tagChacha_89 (by decide) ?_
              refine lv_iload_n hx hb d_M_tagChacha_91 rfl (lv_at hl 0 rfl) ?_
              refine lv_iadd hx hb d_M_tagChacha_92 ?_
              refine sb_topn (16 + i) (nI_add 16 i) ?_
              refine sb_ild hx hb hG.1 hP 13 rfl (16 + i) rfl (by omega) (by omega) d_M_tagChacha_93 ?_
              refine sb_topn (su (16 + i)) rfl ?_
              refine sb_ist hx hb hG.1 hP hD hS 5 rfl i rfl (by omega) (by omega) d_M_tagChacha_94 (fun f_29 H locs ef_29 hP hD hS => ?_)
              have hP : va_P D vwCl [(a15, .inl (cI, 17, .inl (nF (updN (iter nZero i ga) i 0)))), (a16, .inl (cI, 17, .inl (nF (updN (iter (fS su) i gb) i ((su i) / 4 * 4))))), (a17, .inl (cI, 40, .inl (nF gd))), (a18, .inl (cI, 17, .inl (nF gc))), (a19, .inl (cI, 16, .inl (nF gg))), (a20, .inl (cI, 16, .inl f_29)), (a3, .inl (cI, 98816, .inl (nF gz))), (tx, .inl (cI, 98816, .inl (nF gt))), (mo, .inr (7, mFs thr a1 a2 a3 (nI lt) (nI lb) (nI lz) ci a4 a5 a6 nu bk se op fa a7 a8 a9 a10 a11 (nI rn) kh kl sh sl a12 a13 a14 a15 a16 a17 a18 a19 a20)), (a4, .inl (cI, 32, .inl (nF gk))), (a6, .inl (cI, 12, .inl (nF gn))), (a12, .inl (cI, 16, .inl wq)), (a13, .inl (cI, 16, .inl tq)), (a14, .inl (cI, 64, .inl (nF su)))] H := hP
              have hD : va_D A [(a15, .inl (cI, 17, .inl (nF (updN (iter nZero i ga) i 0)))), (a16, .inl (cI, 17, .inl (nF (updN (iter (fS su) i gb) i ((su i) / 4 * 4))))), (a17, .inl (cI, 40, .inl (nF gd))), (a18, .inl (cI, 17, .inl (nF gc))), (a19, .inl (cI, 16, .inl (nF gg))), (a20, .inl (cI, 16, .inl f_29)), (a3, .inl (cI, 98816, .inl (nF gz))), (tx, .inl (cI, 98816, .inl (nF gt))), (mo, .inr (7, mFs thr a1 a2 a3 (nI lt) (nI lb) (nI lz) ci a4 a5 a6 nu bk se op fa a7 a8 a9 a10 a11 (nI rn) kh kl sh sl a12 a13 a14 a15 a16 a17 a18 a19 a20)), (a4, .inl (cI, 32, .inl (nF gk))), (a6, .inl (cI, 12, .inl (nF gn))), (a12, .inl (cI, 16, .inl wq)), (a13, .inl (cI, 16, .inl tq)), (a14, .inl (cI, 64, .inl (nF su)))] := hD
              obtain rfl : f_29 = nF (updN (iter (mkS su) i gw) i (su (16 + i))) := ef_29.trans (nF_set _ _ _)
              have hP : va_P D vwCl [(a15, .inl (cI, 17, .inl (nF (updN (iter nZero i ga) i 0)))), (a16, .inl (cI, 17, .inl (nF (updN (iter (fS su) i gb) i ((su i) / 4 * 4))))), (a17, .inl (cI, 40, .inl (nF gd))), (a18, .inl (cI, 17, .inl (nF gc))), (a19, .inl (cI, 16, .inl (nF gg))), (a20, .inl (cI, 16, .inl (nF (updN (iter (mkS su) i gw) i (su (16 + i)))))), (a3, .inl (cI, 98816, .inl (nF gz))), (tx, .inl (cI, 98816, .inl (nF gt))), (mo, .inr (7, mFs thr a1 a2 a3 (nI lt) (nI lb) (nI lz) ci a4 a5 a6 nu bk se op fa a7 a8 a9 a10 a11 (nI rn) kh kl sh sl a12 a13 a14 a15 a16 a17 a18 a19 a20)), (a4, .inl (cI, 32, .inl (nF gk))), (a6, .inl (cI, 12, .inl (nF gn))), (a12, .inl (cI, 16, .inl wq)), (a13, .inl (cI, 16, .inl tq)), (a14, .inl (cI, 64, .inl (nF su)))] H := hP
              have hD : va_D A [(a15, .inl (cI, 17, .inl (nF (updN (iter nZero i ga) i 0)))), (a16, .inl (cI, 17, .inl (nF (updN (iter (fS su) i gb) i ((su i) / 4 * 4))))), (a17, .inl (cI, 40, .inl (nF gd))), (a18, .inl (cI, 17, .inl (nF gc))), (a19, .inl (cI, 16, .inl (nF gg))), (a20, .inl (cI, 16, .inl (nF (updN (iter (mkS su) i gw) i (su (16 + i)))))), (a3, .inl (cI, 98816, .inl (nF gz))), (tx, .inl (cI, 98816, .inl (nF gt))), (mo, .inr (7, mFs thr a1 a2 a3 (nI lt) (nI lb) (nI lz) ci a4 a5 a6 nu bk se op fa a7 a8 a9 a10 a11 (nI rn) kh kl sh sl a12 a13 a14 a15 a16 a17 a18 a19 a20)), (a4, .inl (cI, 32, .inl (nF gk))), (a6, .inl (cI, 12, .inl (nF gn))), (a12, .inl (cI, 16, .inl wq)), (a13, .inl (cI, 16, .inl tq)), (a14, .inl (cI, 64, .inl (nF su)))] := hD
              refine lv_iinc (v := nI (i + 1)) (lv' := [(3, .int (nI (i + 1))), (0, .ref mo), (1, .ref tx), (2, .int (nI nn))]) hx hb d_M_tagChacha_95 hl (k := 0) rfl (sb_inc (a := i) (b := i + 1) (d := 1) rfl (by decide) (by omega)) (by decide) rfl (fun ls hl => ?_)
              refine lv_goto (tgt := 7) hx hb d_M_tagChacha_98 (by decide) ?_
              rw [show nF (updN (iter nZero i ga) i 0) = nF (iter nZero (i + 1) ga) from (congrArg nF (Eq.trans (by first | (simp only [fS, if_neg c_17, if_neg c_18, if_pos c_19, if_neg c_23]; done) | (simp only [mkS, if_neg (show ¬ 16 ≤ i by omega)]; done) | rfl) (iter_s _ _ _).symm))] at hP hD
              rw [show nF (updN (iter (fS su) i gb) i ((su i) / 4 * 4)) = nF (iter (fS su) (i + 1) gb) from (congrArg nF (Eq.trans (by first | (simp only [fS, if_neg c_17, if_neg c_18, if_pos c_19, if_neg c_23]; done) | (simp only [mkS, if_neg (show ¬ 16 ≤ i by omega)]; done) | rfl) (iter_s _ _ _).symm))] at hP hD
              rw [show nF (updN (iter (mkS su) i gw) i (su (16 + i))) = nF (iter (mkS su) (i + 1) gw) from (congrArg nF (Eq.trans (by first | (simp only [fS, if_neg c_17, if_neg c_18, if_pos c_19, if_neg c_23]; done) | (simp only [mkS, if_neg (show ¬ 16 ≤ i by omega)]; done) | rfl) (iter_s _ _ _).symm))] at hP hD
              exact ih1 (i + 1) (by omega) _ _ ls (hP.sub [0, 1, 2, 3, 4, 5, 6, 7, 8, 9, 10, 11, 12, 13] rfl) (hD.sub [0, 1, 2, 3, 4, 5, 6, 7, 8, 9, 10, 11, 12, 13] (by decide) rfl) hS (lv_sub hl [0, 1, 2, 3] rfl)
        · have c_18 := (sb_eqI (a := i % 4) (b := 3) rfl rfl (by omega) (by omega)).mp c_18
          refine lv_bipush (v := 15) hx hb d_M_tagChacha_48 (by decide) ?_
          refine lv_goto (tgt := 72) hx hb d_M_tagChacha_50 (by decide) ?_
          refine lv_iand hx hb d_M_tagChacha_72 ?_
          refine sb_topn ((su i) % 16) (sb_and (a := su i) 4 rfl (by omega) (by decide)) ?_
          refine sb_topn ((su i) % 16) rfl ?_
          refine sb_ist hx hb hG.1 hP hD hS 1 rfl i rfl (by omega) (by omega) d_M_tagChacha_73 (fun f_30 H locs ef_30 hP hD hS => ?_)
          have hP : va_P D vwCl [(a15, .inl (cI, 17, .inl (nF (updN (iter nZero i ga) i 0)))), (a16, .inl (cI, 17, .inl f_30)), (a17, .inl (cI, 40, .inl (nF gd))), (a18, .inl (cI, 17, .inl (nF gc))), (a19, .inl (cI, 16, .inl (nF gg))), (a20, .inl (cI, 16, .inl (nF (iter (mkS su) i gw)))), (a3, .inl (cI, 98816, .inl (nF gz))), (tx, .inl (cI, 98816, .inl (nF gt))), (mo, .inr (7, mFs thr a1 a2 a3 (nI lt) (nI lb) (nI lz) ci a4 a5 a6 nu bk se op fa a7 a8 a9 a10 a11 (nI rn) kh kl sh sl a12 a13 a14 a15 a16 a17 a18 a19 a20)), (a4, .inl (cI, 32, .inl (nF gk))), (a6, .inl (cI, 12, .inl (nF gn))), (a12, .inl (cI, 16, .inl wq)), (a13, .inl (cI, 16, .inl tq)), (a14, .inl (cI, 64, .inl (nF su)))] H := hP
          have hD : va_D A [(a15, .inl (cI, 17, .inl (nF (updN (iter nZero i ga) i 0)))), (a16, .inl (cI, 17, .inl f_30)), (a17, .inl (cI, 40, .inl (nF gd))), (a18, .inl (cI, 17, .inl (nF gc))), (a19, .inl (cI, 16, .inl (nF gg))), (a20, .inl (cI, 16, .inl (nF (iter (mkS su) i gw)))), (a3, .inl (cI, 98816, .inl (nF gz))), (tx, .inl (cI, 98816, .inl (nF gt))), (mo, .inr (7, mFs thr a1 a2 a3 (nI lt) (nI lb) (nI lz) ci a4 a5 a6 nu bk se op fa a7 a8 a9 a10 a11 (nI rn) kh kl sh sl a12 a13 a14 a15 a16 a17 a18 a19 a20)), (a4, .inl (cI, 32, .inl (nF gk))), (a6, .inl (cI, 12, .inl (nF gn))), (a12, .inl (cI, 16, .inl wq)), (a13, .inl (cI, 16, .inl tq)), (a14, .inl (cI, 64, .inl (nF su)))] := hD
          obtain rfl : f_30 = nF (updN (iter (fS su) i gb) i ((su i) % 16)) := ef_30.trans (nF_set _ _ _)
          have hP : va_P D vwCl [(a15, .inl (cI, 17, .inl (nF (updN (iter nZero i ga) i 0)))), (a16, .inl (cI, 17, .inl (nF (updN (iter (fS su) i gb) i ((su i) % 16))))), (a17, .inl (cI, 40, .inl (nF gd))), (a18, .inl (cI, 17, .inl (nF gc))), (a19, .inl (cI, 16, .inl (nF gg))), (a20, .inl (cI, 16, .inl (nF (iter (mkS su) i gw)))), (a3, .inl (cI, 98816, .inl (nF gz))), (tx, .inl (cI, 98816, .inl (nF gt))), (mo, .inr (7, mFs thr a1 a2 a3 (nI lt) (nI lb) (nI lz) ci a4 a5 a6 nu bk se op fa a7 a8 a9 a10 a11 (nI rn) kh kl sh sl a12 a13 a14 a15 a16 a17 a18 a19 a20)), (a4, .inl (cI, 32, .inl (nF gk))), (a6, .inl (cI, 12, .inl (nF gn))), (a12, .inl (cI, 16, .inl wq)), (a13, .inl (cI, 16, .inl tq)), (a14, .inl (cI, 64, .inl (nF su)))] H := hP
          have hD : va_D A [(a15, .inl (cI, 17, .inl (nF (updN (iter nZero i ga) i 0)))), (a16, .inl (cI, 17, .inl (nF (updN (iter (fS su) i gb) i ((su i) % 16))))), (a17, .inl (cI, 40, .inl (nF gd))), (a18, .inl (cI, 17, .inl (nF gc))), (a19, .inl (cI, 16, .inl (nF gg))), (a20, .inl (cI, 16, .inl (nF (iter (mkS su) i gw)))), (a3, .inl (cI, 98816, .inl (nF gz))), (tx, .inl (cI, 98816, .inl (nF gt))), (mo, .inr (7, mFs thr a1 a2 a3 (nI lt) (nI lb) (nI lz) ci a4 a5 a6 nu bk se op fa a7 a8 a9 a10 a11 (nI rn) kh kl sh sl a12 a13 a14 a15 a16 a17 a18 a19 a20)), (a4, .inl (cI, 32, .inl (nF gk))), (a6, .inl (cI, 12, .inl (nF gn))), (a12, .inl (cI, 16, .inl wq)), (a13, .inl (cI, 16, .inl tq)), (a14, .inl (cI, 64, .inl (nF su)))] := hD
          refine lv_iload_n hx hb d_M_tagChacha_74 rfl (lv_at hl 0 rfl) ?_
          refine lv_bipush (v := 16) hx hb d_M_tagChacha_75 (by decide) ?_
          refine lv_icmp_ge (tgt := 95) hx hb d_M_tagChacha_77 (by decide) (fun c_31 => absurd c_31 (sb_geF (a := i) (b := 16) rfl rfl (by omega) (by omega) (by omega))) (fun c_31 => ?_)
          refine lv_aload_n hx hb d_M_tagChacha_80 rfl (lv_at hl 1 rfl) ?_
          refine va_get (D := D) (ci := 7) (v := .ref a20) (C := R_M) (T := F_M) (N := 35) hx hb hts in_M hown hG.1 hP 8 rfl rfl 34 (by decide) (hts _ k_731) (fun _ h9 => h9) rfl d_M_tagChacha_81 ?_
          refine lv_iload_n hx hb d_M_tagChacha_84 rfl (lv_at hl 0 rfl) ?_
          refine lv_aload_n hx hb d_M_tagChacha_85 rfl (lv_at hl 1 rfl) ?_
          refine va_get (D := D) (ci := 7) (v := .ref a14) (C := R_M) (T := F_M) (N := 35) hx hb hts in_M hown hG.1 hP 8 rfl rfl 28 (by decide) (hts _ k_725) (fun _ h9 => h9) rfl d_M_tagChacha_86 ?_
          refine lv_bipush (v := 16) hx hb d_M_tagChacha_89 (by decide) ?_
          refine lv_iload_n hx hb d_M_tagChacha_91 rfl (lv_at hl 0 rfl) ?_
          refine lv_iadd hx hb d_M_tagChacha_92 ?_
          refine sb_topn (16 + i) (nI_add 16 i) ?_
          refine sb_ild hx hb hG.1 hP 13 rfl (16 + i) rfl (by omega) (by omega) d_M_tagChacha_93 ?_
          refine sb_topn (su (16 + i)) rfl ?_
          refine sb_ist hx hb hG.1 hP hD hS 5 rfl i rfl (by omega) (by omega) d_M_tagChacha_94 (fun f_32 H locs ef_32 hP hD hS => ?_)
          have hP : va_P D vwCl [(a15, .inl (cI, 17, .inl (nF (updN (iter nZero i ga) i 0)))), (a16, .inl (cI, 17, .inl (nF (updN (iter (fS su) i gb) i ((su i) % 16))))), (a17, .inl (cI, 40, .inl (nF gd))), (a18, .inl (cI, 17, .inl (nF gc))), (a19, .inl (cI, 16, .inl (nF gg))), (a20, .inl (cI, 16, .inl f_32)), (a3, .inl (cI, 98816, .inl (nF gz))), (tx, .inl (cI, 98816, .inl (nF gt))), (mo, .inr (7, mFs thr a1 a2 a3 (nI lt) (nI lb) (nI lz) ci a4 a5 a6 nu bk se op fa a7 a8 a9 a10 a11 (nI rn) kh kl sh sl a12 a13 a14 a15 a16 a17 a18 a19 a20)), (a4, .inl (cI, 32, .inl (nF gk))), (a6, .inl (cI, 12, .inl (nF gn))), (a12, .inl (cI, 16, .inl wq)), (a13, .inl (cI, 16, .inl tq)), (a14, .inl (cI, 64, .inl (nF su)))] H := hP
          have hD : va_D A [(a15, .inl (cI, 17, .inl (nF (updN (iter nZero i ga) i 0)))), (a16, .inl (cI, 17, .inl (nF (updN (iter (fS su) i gb) i ((su i) % 16))))), (a17, .inl (cI, 40, .inl (nF gd))), (a18, .inl (cI, 17, .inl (nF gc))), (a19, .inl (cI, 16, .inl (nF gg))), (a20, .inl (cI, 16, .inl f_32)), (a3, .inl (cI, 98816, .inl (nF gz))), (tx, .inl (cI, 98816, .inl (nF gt))), (mo, .inr (7, mFs thr a1 a2 a3 (nI lt) (nI lb) (nI lz) ci a4 a5 a6 nu bk se op fa a7 a8 a9 a10 a11 (nI rn) kh kl sh sl a12 a13 a14 a15 a16 a17 a18 a19 a20)), (a4, .inl (cI, 32, .inl (nF gk))), (a6, .inl (cI, 12, .inl (nF gn))), (a12, .inl (cI, 16, .inl wq)), (a13, .inl (cI, 16, .inl tq)), (a14, .inl (cI, 64, .inl (nF su)))] := hD
          obtain rfl : f_32 = nF (updN (iter (mkS su) i gw) i (su (16 + i))) := ef_32.trans (nF_set _ _ _)
          have hP : va_P D vwCl [(a15, .inl (cI, 17, .inl (nF (updN (iter nZero i ga) i 0)))), (a16, .inl (cI, 17, .inl (nF (updN (iter (fS su) i gb) i ((su i) % 16))))), (a17, .inl (cI, 40, .inl (nF gd))), (a18, .inl (cI, 17, .inl (nF gc))), (a19, .inl (cI, 16, .inl (nF gg))), (a20, .inl (cI, 16, .inl (nF (updN (iter (mkS su) i gw) i (su (16 + i)))))), (a3, .inl (cI, 98816, .inl (nF gz))), (tx, .inl (cI, 98816, .inl (nF gt))), (mo, .inr (7, mFs thr a1 a2 a3 (nI lt) (nI lb) (nI lz) ci a4 a5 a6 nu bk se op fa a7 a8 a9 a10 a11 (nI rn) kh kl sh sl a12 a13 a14 a15 a16 a17 a18 a19 a20)), (a4, .inl (cI, 32, .inl (nF gk))), (a6, .inl (cI, 12, .inl (nF gn))), (a12, .inl (cI, 16, .inl wq)), (a13, .inl (cI, 16, .inl tq)), (a14, .inl (cI, 64, .inl (nF su)))] H := hP
          have hD : va_D A [(a15, .inl (cI, 17, .inl (nF (updN (iter nZero i ga) i 0)))), (a16, .inl (cI, 17, .inl (nF (updN (iter (fS su) i gb) i ((su i) % 16))))), (a17, .inl (cI, 40, .inl (nF gd))), (a18, .inl (cI, 17, .inl (nF gc))), (a19, .inl (cI, 16, .inl (nF gg))), (a20, .inl (cI, 16, .inl (nF (updN (iter (mkS su) i gw) i (su (16 + i)))))), (a3, .inl (cI, 98816, .inl (nF gz))), (tx, .inl (cI, 98816, .inl (nF gt))), (mo, .inr (7, mFs thr a1 a2 a3 (nI lt) (nI lb) (nI lz) ci a4 a5 a6 nu bk se op fa a7 a8 a9 a10 a11 (nI rn) kh kl sh sl a12 a13 a14 a15 a16 a17 a18 a19 a20)), (a4, .inl (cI, 32, .inl (nF gk))), (a6, .inl (cI, 12, .inl (nF gn))), (a12, .inl (cI, 16, .inl wq)), (a13, .inl (cI, 16, .inl tq)), (a14, .inl (cI, 64, .inl (nF su)))] := hD
          refine lv_iinc (v := nI (i + 1)) (lv' := [(3, .int (nI (i + 1))), (0, .ref mo), (1, .ref tx), (2, .int (nI nn))]) hx hb d_M_tagChacha_95 hl (k := 0) rfl (sb_inc (a := i) (b := i + 1) (d := 1) rfl (by decide) (by omega)) (by decide) rfl (fun ls hl => ?_)
          refine lv_goto (tgt := 7) hx hb d_M_tagChacha_98 (by decide) ?_
          rw [show nF (updN (iter nZero i ga) i 0) = nF (iter nZero (i + 1) ga) from (congrArg nF (Eq.trans (by first | (simp only [fS, if_neg c_17, if_pos c_18]; done) | (simp only [mkS, if_neg (show ¬ 16 ≤ i by omega)]; done) | rfl) (iter_s _ _ _).symm))] at hP hD
          rw [show nF (updN (iter (fS su) i gb) i ((su i) % 16)) = nF (iter (fS su) (i + 1) gb) from (congrArg nF (Eq.trans (by first | (simp only [fS, if_neg c_17, if_pos c_18]; done) | (simp only [mkS, if_neg (show ¬ 16 ≤ i by omega)]; done) | rfl) (iter_s _ _ _).symm))] at hP hD
          rw [show nF (updN (iter (mkS su) i gw) i (su (16 + i))) = nF (iter (mkS su) (i + 1) gw) from (congrArg nF (Eq.trans (by first | (simp only [fS, if_neg c_17, if_pos c_18]; done) | (simp only [mkS, if_neg (show ¬ 16 ≤ i by omega)]; done) | rfl) (iter_s _ _ _).symm))] at hP hD
          exact ih1 (i + 1) (by omega) _ _ ls (hP.sub [0, 1, 2, 3, 4, 5, 6, 7, 8, 9, 10, 11, 12, 13] rfl) (hD.sub [0, 1, 2, 3, 4, 5, 6, 7, 8, 9, 10, 11, 12, 13] (by decide) rfl) hS (lv_sub hl [0, 1, 2, 3] rfl)
      · have c_17 := (sb_eqI (a := i) (b := 16) rfl rfl (by omega) (by omega)).mp c_17
        refine lv_iconst (v := 0) hx hb d_M_tagChacha_31 (by decide) ?_
        refine lv_goto (tgt := 73) hx hb d_M_tagChacha_32 (by decide) ?_
        refine sb_ist hx hb hG.1 hP hD hS 1 rfl i rfl (by omega) (by omega) d_M_tagChacha_73 (fun f_33 H locs ef_33 hP hD hS => ?_)
        have hP : va_P D vwCl [(a15, .inl (cI, 17, .inl (nF (updN (iter nZero i ga) i 0)))), (a16, .inl (cI, 17, .inl f_33)), (a17, .inl (cI, 40, .inl (nF gd))), (a18, .inl (cI, 17, .inl (nF gc))), (a19, .inl (cI, 16, .inl (nF gg))), (a20, .inl (cI, 16, .inl (nF (iter (mkS su) i gw)))), (a3, .inl (cI, 98816, .inl (nF gz))), (tx, .inl (cI, 98816, .inl (nF gt))), (mo, .inr (7, mFs thr a1 a2 a3 (nI lt) (nI lb) (nI lz) ci a4 a5 a6 nu bk se op fa a7 a8 a9 a10 a11 (nI rn) kh kl sh sl a12 a13 a14 a15 a16 a17 a18 a19 a20)), (a4, .inl (cI, 32, .inl (nF gk))), (a6, .inl (cI, 12, .inl (nF gn))), (a12, .inl (cI, 16, .inl wq)), (a13, .inl (cI, 16, .inl tq)), (a14, .inl (cI, 64, .inl (nF su)))] H := hP
        have hD : va_D A [(a15, .inl (cI, 17, .inl (nF (updN (iter nZero i ga) i 0)))), (a16, .inl (cI, 17, .inl f_33)), (a17, .inl (cI, 40, .inl (nF gd))), (a18, .inl (cI, 17, .inl (nF gc))), (a19, .inl (cI, 16, .inl (nF gg))), (a20, .inl (cI, 16, .inl (nF (iter (mkS su) i gw)))), (a3, .inl (cI, 98816, .inl (nF gz))), (tx, .inl (cI, 98816, .inl (nF gt))), (mo, .inr (7, mFs thr a1 a2 a3 (nI lt) (nI lb) (nI lz) ci a4 a5 a6 nu bk se op fa a7 a8 a9 a10 a11 (nI rn) kh kl sh sl a12 a13 a14 a15 a16 a17 a18 a19 a20)), (a4, .inl (cI, 32, .inl (nF gk))), (a6, .inl (cI, 12, .inl (nF gn))), (a12, .inl (cI, 16, .inl wq)), (a13, .inl (cI, 16, .inl tq)), (a14, .inl (cI, 64, .inl (nF su)))] := hD
        obtain rfl : f_33 = nF (updN (iter (fS su) i gb) i 0) := ef_33.trans (nF_set _ _ _)
        have hP : va_P D vwCl [(a15, .inl (cI, 17, .inl (nF (updN (iter nZero i ga) i 0)))), (a16, .inl (cI, 17, .inl (nF (updN (iter (fS su) i gb) i 0)))), (a17, .inl (cI, 40, .inl (nF gd))), (a18, .inl (cI, 17, .inl (nF gc))), (a19, .inl (cI, 16, .inl (nF gg))), (a20, .inl (cI, 16, .inl (nF (iter (mkS su) i gw)))), (a3, .inl (cI, 98816, .inl (nF gz))), (tx, .inl (cI, 98816, .inl (nF gt))), (mo, .inr (7, mFs thr a1 a2 a3 (nI lt) (nI lb) (nI lz) ci a4 a5 a6 nu bk se op fa a7 a8 a9 a10 a11 (nI rn) kh kl sh sl a12 a13 a14 a15 a16 a17 a18 a19 a20)), (a4, .inl (cI, 32, .inl (nF gk))), (a6, .inl (cI, 12, .inl (nF gn))), (a12, .inl (cI, 16, .inl wq)), (a13, .inl (cI, 16, .inl tq)), (a14, .inl (cI, 64, .inl (nF su)))] H := hP
        have hD : va_D A [(a15, .inl (cI, 17, .inl (nF (updN (iter nZero i ga) i 0)))), (a16, .inl (cI, 17, .inl (nF (updN (iter (fS su) i gb) i 0)))), (a17, .inl (cI, 40, .inl (nF gd))), (a18, .inl (cI, 17, .inl (nF gc))), (a19, .inl (cI, 16, .inl (nF gg))), (a20, .inl (cI, 16, .inl (nF (iter (mkS su) i gw)))), (a3, .inl (cI, 98816, .inl (nF gz))), (tx, .inl (cI, 98816, .inl (nF gt))), (mo, .inr (7, mFs thr a1 a2 a3 (nI lt) (nI lb) (nI lz) ci a4 a5 a6 nu bk se op fa a7 a8 a9 a10 a11 (nI rn) kh kl sh sl a12 a13 a14 a15 a16 a17 a18 a19 a20)), (a4, .inl (cI, 32, .inl (nF gk))), (a6, .inl (cI, 12, .inl (nF gn))), (a12, .inl (cI, 16, .inl wq)), (a13, .inl (cI, 16, .inl tq)), (a14, .inl (cI, 64, .inl (nF su)))] := hD
        refine lv_iload_n hx hb d_M_tagChacha_74 rfl (lv_at hl 0 rfl) ?_
        refine lv_bipush (v := 16) hx hb d_M_tagChacha_75 (by decide) ?_
        refine lv_icmp_ge (tgt := 95) hx hb d_M_tagChacha_77 (by decide) (fun c_34 => ?_) (fun c_34 => absurd (sb_geT (a := i) (b := 16) rfl rfl (by omega) (by omega) (by omega)) c_34)
        refine lv_iinc (v := nI (i + 1)) (lv' := [(3, .int (nI (i + 1))), (0, .ref mo), (1, .ref tx), (2, .int (nI nn))]) hx hb d_M_tagChacha_95 hl (k := 0) rfl (sb_inc (a := i) (b := i + 1) (d := 1) rfl (by decide) (by omega)) (by decide) rfl (fun ls hl => ?_)
        refine lv_goto (tgt := 7) hx hb d_M_tagChacha_98 (by decide) ?_
        rw [show nF (updN (iter nZero i ga) i 0) = nF (iter nZero (i + 1) ga) from (congrArg nF (Eq.trans (by first | (simp only [fS, if_pos c_17]; done) | (simp only [mkS, if_pos (show 16 ≤ i by omega)]; done) | rfl) (iter_s _ _ _).symm))] at hP hD
        rw [show nF (updN (iter (fS su) i gb) i 0) = nF (iter (fS su) (i + 1) gb) from (congrArg nF (Eq.trans (by first | (simp only [fS, if_pos c_17]; done) | (simp only [mkS, if_pos (show 16 ≤ i by omega)]; done) | rfl) (iter_s _ _ _).symm))] at hP hD
        rw [show nF (iter (mkS su) i gw) = nF (iter (mkS su) (i + 1) gw) from (congrArg nF (Eq.trans (by first | (simp only [fS, if_pos c_17]; done) | (simp only [mkS, if_pos (show 16 ≤ i by omega)]; done) | rfl) (iter_s _ _ _).symm))] at hP hD
        exact ih1 (i + 1) (by omega) _ _ ls (hP.sub [0, 1, 2, 3, 4, 5, 6, 7, 8, 9, 10, 11, 12, 13] rfl) (hD.sub [0, 1, 2, 3, 4, 5, 6, 7, 8, 9, 10, 11, 12, 13] (by decide) rfl) hS (lv_sub hl [0, 1, 2, 3] rfl)
  exact lp1 17 0 (by omega) _ _ ls (hP.sub [0, 1, 2, 3, 4, 5, 6, 7, 8, 9, 10, 11, 12, 13] rfl) (hD.sub [0, 1, 2, 3, 4, 5, 6, 7, 8, 9, 10, 11, 12, 13] (by decide) rfl) hS (lv_sub hl [0, 1, 2, 3] rfl)

theorem d_M_prepare_0 : decode b_M_prepare 0 = .ok (.iconst 0, 1) := by decide +kernel
theorem d_M_prepare_1 : decode b_M_prepare 1 = .ok (.istore_n 1, 1) := by decide +kernel
theorem d_M_prepare_2 : decode b_M_prepare 2 = .ok (.iload_n 1, 1) := by decide +kernel
theorem d_M_prepare_3 : decode b_M_prepare 3 = .ok (.bipush 12, 2) := by decide +kernel
theorem d_M_prepare_5 : decode b_M_prepare 5 = .ok (.if_icmp .ge 48, 3) := by decide +kernel
theorem d_M_prepare_8 : decode b_M_prepare 8 = .ok (.aload_n 0, 1) := by decide +kernel
theorem d_M_prepare_9 : decode b_M_prepare 9 = .ok (.getfield 30, 3) := by decide +kernel
theorem d_M_prepare_12 : decode b_M_prepare 12 = .ok (.iload_n 1, 1) := by decide +kernel
theorem d_M_prepare_13 : decode b_M_prepare 13 = .ok (.aload_n 0, 1) := by decide +kernel
theorem d_M_prepare_14 : decode b_M_prepare 14 = .ok (.getfield 27, 3) := by decide +kernel
theorem d_M_prepare_17 : decode b_M_prepare 17 = .ok (.iload_n 1, 1) := by decide +kernel
theorem d_M_prepare_18 : decode b_M_prepare 18 = .ok (.iaload, 1) := by decide +kernel
theorem d_M_prepare_19 : decode b_M_prepare 19 = .ok (.iload_n 1, 1) := by decide +kernel
theorem d_M_prepare_20 : decode b_M_prepare 20 = .ok (.iconst 4, 1) := by decide +kernel
theorem d_M_prepare_21 : decode b_M_prepare 21 = .ok (.if_icmp .ge 7, 3) := by decide +kernel
theorem d_M_prepare_24 : decode b_M_prepare 24 = .ok (.iconst 0, 1) := by decide +kernel
theorem d_M_prepare_25 : decode b_M_prepare 25 = .ok (.goto 20, 3) := by decide +kernel
theorem d_M_prepare_28 : decode b_M_prepare 28 = .ok (.aload_n 0, 1) := by decide +kernel
theorem d_M_prepare_29 : decode b_M_prepare 29 = .ok (.getfield 147, 3) := by decide +kernel
theorem d_M_prepare_32 : decode b_M_prepare 32 = .ok (.bipush 8, 2) := by decide +kernel
theorem d_M_prepare_34 : decode b_M_prepare 34 = .ok (.bipush 11, 2) := by decide +kernel
theorem d_M_prepare_36 : decode b_M_prepare 36 = .ok (.iload_n 1, 1) := by decide +kernel
theorem d_M_prepare_37 : decode b_M_prepare 37 = .ok (.isub, 1) := by decide +kernel
theorem d_M_prepare_38 : decode b_M_prepare 38 = .ok (.imul, 1) := by decide +kernel
theorem d_M_prepare_39 : decode b_M_prepare 39 = .ok (.lushr, 1) := by decide +kernel
theorem d_M_prepare_40 : decode b_M_prepare 40 = .ok (.ldc2_w 120, 3) := by decide +kernel
theorem d_M_prepare_43 : decode b_M_prepare 43 = .ok (.land, 1) := by decide +kernel
theorem d_M_prepare_44 : decode b_M_prepare 44 = .ok (.l2i, 1) := by decide +kernel
theorem d_M_prepare_45 : decode b_M_prepare 45 = .ok (.ixor, 1) := by decide +kernel
theorem d_M_prepare_46 : decode b_M_prepare 46 = .ok (.iastore, 1) := by decide +kernel
theorem d_M_prepare_47 : decode b_M_prepare 47 = .ok (.iinc 1 1, 3) := by decide +kernel
theorem d_M_prepare_50 : decode b_M_prepare 50 = .ok (.goto (-48), 3) := by decide +kernel
theorem d_M_prepare_53 : decode b_M_prepare 53 = .ok (.return_, 1) := by decide +kernel

def rm_M_prepare : Room := { frames := 0, cells := 0, slots := 0, locals := 0 }
set_option maxHeartbeats 4000000 in
set_option maxRecDepth 100000 in
theorem c_M_prepare (l : Launch) (D : va_G) (cI cL cB : ClassId) (tS tF : Nat) (mo : Nat) (a1 : Nat) (a2 : Nat) (a3 : Nat) (a4 : Nat) (a5 : Nat) (a6 : Nat) (a7 : Nat) (a8 : Nat) (a9 : Nat) (a10 : Nat) (a11 : Nat) (a12 : Nat) (a13 : Nat) (a14 : Nat) (a15 : Nat) (a16 : Nat) (a17 : Nat) (a18 : Nat) (a19 : Nat) (a20 : Nat) (thr : Int32) (ci : Int32) (bk : Int32) (se : Int32) (op : Int32) (fa : Int32) (lt : Nat) (lb : Nat) (lz : Nat) (rn : Nat) (nu : Int64) (kh : Int64) (kl : Int64) (sh : Int64) (sl : Int64) (gi : Nat → Nat) (gn : Nat → Nat) (sz : Nat)  : Met l y_M_prepare (sbw y_M_prepare b_M_prepare 2 none) rm_M_prepare (sbPc D cI cL cB tS tF [.ref mo] sz [(mo, .inr (7, mFs thr a1 a2 a3 (nI lt) (nI lb) (nI lz) ci a4 a5 a6 nu bk se op fa a7 a8 a9 a10 a11 (nI rn) kh kl sh sl a12 a13 a14 a15 a16 a17 a18 a19 a20)), (a5, .inl (cI, 12, .inl (nF gi))), (a6, .inl (cI, 12, .inl (nF gn)))]) (sbQv D (fun (_ : Unit) => True) (fun (_ : Unit) => [(mo, .inr (7, mFs thr a1 a2 a3 (nI lt) (nI lb) (nI lz) ci a4 a5 a6 nu bk se op fa a7 a8 a9 a10 a11 (nI rn) kh kl sh sl a12 a13 a14 a15 a16 a17 a18 a19 a20)), (a5, .inl (cI, 12, .inl (nF gi))), (a6, .inl (cI, 12, .inl (nF (prN gi nu gn))))]) (va_A [(mo, .inr (7, mFs thr a1 a2 a3 (nI lt) (nI lb) (nI lz) ci a4 a5 a6 nu bk se op fa a7 a8 a9 a10 a11 (nI rn) kh kl sh sl a12 a13 a14 a15 a16 a17 a18 a19 a20)), (a5, .inl (cI, 12, .inl (nF gi))), (a6, .inl (cI, 12, .inl (nF gn)))] sz)) 0 0 (va_A [(mo, .inr (7, mFs thr a1 a2 a3 (nI lt) (nI lb) (nI lz) ci a4 a5 a6 nu bk se op fa a7 a8 a9 a10 a11 (nI rn) kh kl sh sl a12 a13 a14 a15 a16 a17 a18 a19 a20)), (a5, .inl (cI, 12, .inl (nF gi))), (a6, .inl (cI, 12, .inl (nF gn)))] sz) := by
  refine sb_ofW (y := y_M_prepare) (maxL := 2) (av := [.ref mo]) (Qc := fun A => (sbQv D (fun (_ : Unit) => True) (fun (_ : Unit) => [(mo, .inr (7, mFs thr a1 a2 a3 (nI lt) (nI lb) (nI lz) ci a4 a5 a6 nu bk se op fa a7 a8 a9 a10 a11 (nI rn) kh kl sh sl a12 a13 a14 a15 a16 a17 a18 a19 a20)), (a5, .inl (cI, 12, .inl (nF gi))), (a6, .inl (cI, 12, .inl (nF (prN gi nu gn))))]) A)) (by decide) (Nat.le_of_ble_eq_true rfl) ?_
  intro p e s m args below meth c A ls hx hb hr hml hts hown hlocks hin hsz hP hG hD hA hS hl
  have hl : lv_has ls 2 [(0, .ref mo)] := hl
  refine lv_iconst (v := 0) hx hb d_M_prepare_0 (by decide) ?_
  refine lv_istore_n (lv' := [(1, .int 0), (0, .ref mo)]) hx hb d_M_prepare_1 rfl hl (by decide) rfl (fun ls hl => ?_)
  have lp1 : ∀ (d1 i : Nat), i + d1 = 12 → ∀ (H : Heap) (locs : List Loc) (ls : Array Slot), va_P D vwCl [(mo, .inr (7, mFs thr a1 a2 a3 (nI lt) (nI lb) (nI lz) ci a4 a5 a6 nu bk se op fa a7 a8 a9 a10 a11 (nI rn) kh kl sh sl a12 a13 a14 a15 a16 a17 a18 a19 a20)), (a5, .inl (cI, 12, .inl (nF gi))), (a6, .inl (cI, 12, .inl (nF (iter (prS gi nu) i gn))))] H → va_D A [(mo, .inr (7, mFs thr a1 a2 a3 (nI lt) (nI lb) (nI lz) ci a4 a5 a6 nu bk se op fa a7 a8 a9 a10 a11 (nI rn) kh kl sh sl a12 a13 a14 a15 a16 a17 a18 a19 a20)), (a5, .inl (cI, 12, .inl (nF gi))), (a6, .inl (cI, 12, .inl (nF (iter (prS gi nu) i gn))))] → va_S A s.heap H locs → lv_has ls 2 [(1, .int (nI i)), (0, .ref mo)] → W p l e rm_M_prepare s m args below meth c H locs 0 0 (MQ below (sbQv D (fun (_ : Unit) => True) (fun (_ : Unit) => [(mo, .inr (7, mFs thr a1 a2 a3 (nI lt) (nI lb) (nI lz) ci a4 a5 a6 nu bk se op fa a7 a8 a9 a10 a11 (nI rn) kh kl sh sl a12 a13 a14 a15 a16 a17 a18 a19 a20)), (a5, .inl (cI, 12, .inl (nF gi))), (a6, .inl (cI, 12, .inl (nF (prN gi nu gn))))]) A) args s 0 0 A) (F0 m 2 ls []) := by
    intro d1
    induction d1 with
    | zero =>
      intro i hi1 H locs ls hP hD hS hl
      obtain rfl : 12 = i := by omega
      refine lv_iload_n hx hb d_M_prepare_2 rfl (lv_at hl 0 rfl) ?_
      refine lv_bipush (v := 12) hx hb d_M_prepare_3 (by decide) ?_
      refine lv_icmp_ge (tgt := 53) hx hb d_M_prepare_5 (by decide) (fun c_1 => ?_) (fun c_1 => absurd (sb_geT (a := 12) (b := 12) rfl rfl (by omega) (by omega) (by omega)) c_1)
      have hP9 := hP.sub (ws' := [(mo, .inr (7, mFs thr a1 a2 a3 (nI lt) (nI lb) (nI lz) ci a4 a5 a6 nu bk se op fa a7 a8 a9 a10 a11 (nI rn) kh kl sh sl a12 a13 a14 a15 a16 a17 a18 a19 a20)), (a5, .inl (cI, 12, .inl (nF gi))), (a6, .inl (cI, 12, .inl (nF (iter (prS gi nu) 12 gn))))]) [0, 1, 2] rfl
      have hD9 := hD.sub (ws' := [(mo, .inr (7, mFs thr a1 a2 a3 (nI lt) (nI lb) (nI lz) ci a4 a5 a6 nu bk se op fa a7 a8 a9 a10 a11 (nI rn) kh kl sh sl a12 a13 a14 a15 a16 a17 a18 a19 a20)), (a5, .inl (cI, 12, .inl (nF gi))), (a6, .inl (cI, 12, .inl (nF (iter (prS gi nu) 12 gn))))]) [0, 1, 2] (by decide) rfl
      exact W.vret hx hb hr (fun t ht hW => ⟨⟨(), rfl, trivial, by rw [ht]; exact hP9, hD9⟩, hS.F ht⟩) hS.2.2 d_M_prepare_53
    | succ d1 ih1 =>
      intro i hi1 H locs ls hP hD hS hl
      refine lv_iload_n hx hb d_M_prepare_2 rfl (lv_at hl 0 rfl) ?_
      refine lv_bipush (v := 12) hx hb d_M_prepare_3 (by decide) ?_
      refine lv_icmp_ge (tgt := 53) hx hb d_M_prepare_5 (by decide) (fun c_2 => absurd c_2 (sb_geF (a := i) (b := 12) rfl rfl (by omega) (by omega) (by omega))) (fun c_2 => ?_)
      refine lv_aload_n hx hb d_M_prepare_8 rfl (lv_at hl 1 rfl) ?_
      refine va_get (D := D) (ci := 7) (v := .ref a6) (C := R_M) (T := F_M) (N := 35) hx hb hts in_M hown hG.1 hP 0 rfl rfl 10 (by decide) (hts _ k_707) (fun _ h9 => h9) rfl d_M_prepare_9 ?_
      refine lv_iload_n hx hb d_M_prepare_12 rfl (lv_at hl 0 rfl) ?_
      refine lv_aload_n hx hb d_M_prepare_13 rfl (lv_at hl 1 rfl) ?_
      refine va_get (D := D) (ci := 7) (v := .ref a5) (C := R_M) (T := F_M) (N := 35) hx hb hts in_M hown hG.1 hP 0 rfl rfl 9 (by decide) (hts _ k_706) (fun _ h9 => h9) rfl d_M_prepare_14 ?_
      refine lv_iload_n hx hb d_M_prepare_17 rfl (lv_at hl 0 rfl) ?_
      refine sb_ild hx hb hG.1 hP 1 rfl i rfl (by omega) (by omega) d_M_prepare_18 ?_
      refine lv_iload_n hx hb d_M_prepare_19 rfl (lv_at hl 0 rfl) ?_
      refine lv_iconst (v := 4) hx hb d_M_prepare_20 (by decide) ?_
      refine lv_icmp_ge (tgt := 28) hx hb d_M_prepare_21 (by decide) (fun c_3 => ?_) (fun c_3 => ?_)
      · have c_3 := (sb_geI (a := i) (b := 4) rfl rfl (by omega) (by omega)).mp c_3
        refine lv_aload_n hx hb d_M_prepare_28 rfl (lv_at hl 1 rfl) ?_
        refine va_get (D := D) (ci := 7) (v := .long nu) (C := R_M) (T := F_M) (N := 35) hx hb hts in_M hown hG.1 hP 0 rfl rfl 11 (by decide) (hts _ k_708) (fun _ h9 => h9) rfl d_M_prepare_29 ?_
        refine lv_bipush (v := 8) hx hb d_M_prepare_32 (by decide) ?_
        refine lv_bipush (v := 11) hx hb d_M_prepare_34 (by decide) ?_
        refine lv_iload_n hx hb d_M_prepare_36 rfl (lv_at hl 0 rfl) ?_
        refine lv_isub hx hb d_M_prepare_37 ?_
        refine sb_topn (11 - i) (sb_sub (a := 11) (b := i) (by omega) rfl rfl) ?_
        refine lv_imul hx hb d_M_prepare_38 ?_
        refine sb_topn (8 * (11 - i)) (sb_mul (a := 8) (b := 11 - i) rfl rfl) ?_
        refine lv_lushr (v := uL nu (nI (8 * (11 - i)))) hx hb d_M_prepare_39 rfl ?_
        refine lv_ldc2 (v := 255) hx hb hown (hts (.constantLong R_M 120 255) (by decide +kernel)) d_M_prepare_40 ?_
        refine lv_land hx hb d_M_prepare_43 ?_
        refine lv_l2i (v := ((uL nu (nI (8 * (11 - i)))) &&& 255).toInt32) hx hb d_M_prepare_44 rfl ?_
        refine sb_topn (byL nu (8 * (11 - i))) (sb_byL (x := nu) (k := 8 * (11 - i)) rfl (by omega)) ?_
        refine lv_ixor hx hb d_M_prepare_45 ?_
        refine sb_topn ((gi i) ^^^ (byL nu (8 * (11 - i)))) (sb_xor (a := gi i) (b := byL nu (8 * (11 - i))) rfl rfl) ?_
        refine sb_topn ((gi i) ^^^ (byL nu (8 * (11 - i)))) rfl ?_
        refine sb_ist hx hb hG.1 hP hD hS 2 rfl i rfl (by omega) (by omega) d_M_prepare_46 (fun f_4 H locs ef_4 hP hD hS => ?_)
        have hP : va_P D vwCl [(mo, .inr (7, mFs thr a1 a2 a3 (nI lt) (nI lb) (nI lz) ci a4 a5 a6 nu bk se op fa a7 a8 a9 a10 a11 (nI rn) kh kl sh sl a12 a13 a14 a15 a16 a17 a18 a19 a20)), (a5, .inl (cI, 12, .inl (nF gi))), (a6, .inl (cI, 12, .inl f_4))] H := hP
        have hD : va_D A [(mo, .inr (7, mFs thr a1 a2 a3 (nI lt) (nI lb) (nI lz) ci a4 a5 a6 nu bk se op fa a7 a8 a9 a10 a11 (nI rn) kh kl sh sl a12 a13 a14 a15 a16 a17 a18 a19 a20)), (a5, .inl (cI, 12, .inl (nF gi))), (a6, .inl (cI, 12, .inl f_4))] := hD
        obtain rfl : f_4 = nF (updN (iter (prS gi nu) i gn) i ((gi i) ^^^ (byL nu (8 * (11 - i))))) := ef_4.trans (nF_set _ _ _)
        have hP : va_P D vwCl [(mo, .inr (7, mFs thr a1 a2 a3 (nI lt) (nI lb) (nI lz) ci a4 a5 a6 nu bk se op fa a7 a8 a9 a10 a11 (nI rn) kh kl sh sl a12 a13 a14 a15 a16 a17 a18 a19 a20)), (a5, .inl (cI, 12, .inl (nF gi))), (a6, .inl (cI, 12, .inl (nF (updN (iter (prS gi nu) i gn) i ((gi i) ^^^ (byL nu (8 * (11 - i))))))))] H := hP
        have hD : va_D A [(mo, .inr (7, mFs thr a1 a2 a3 (nI lt) (nI lb) (nI lz) ci a4 a5 a6 nu bk se op fa a7 a8 a9 a10 a11 (nI rn) kh kl sh sl a12 a13 a14 a15 a16 a17 a18 a19 a20)), (a5, .inl (cI, 12, .inl (nF gi))), (a6, .inl (cI, 12, .inl (nF (updN (iter (prS gi nu) i gn) i ((gi i) ^^^ (byL nu (8 * (11 - i))))))))] := hD
        refine lv_iinc (v := nI (i + 1)) (lv' := [(1, .int (nI (i + 1))), (0, .ref mo)]) hx hb d_M_prepare_47 hl (k := 0) rfl (sb_inc (a := i) (b := i + 1) (d := 1) rfl (by decide) (by omega)) (by decide) rfl (fun ls hl => ?_)
        refine lv_goto (tgt := 2) hx hb d_M_prepare_50 (by decide) ?_
        rw [show nF (updN (iter (prS gi nu) i gn) i ((gi i) ^^^ (byL nu (8 * (11 - i))))) = nF (iter (prS gi nu) (i + 1) gn) from (congrArg nF (Eq.trans (by simp only [prS, if_pos c_3]) (iter_s _ _ _).symm))] at hP hD
        exact ih1 (i + 1) (by omega) _ _ ls (hP.sub [0, 1, 2] rfl) (hD.sub [0, 1, 2] (by decide) rfl) hS (lv_sub hl [0, 1] rfl)
      · have c_3 := mt (sb_geI (a := i) (b := 4) rfl rfl (by omega) (by omega)).mpr c_3
        refine lv_iconst (v := 0) hx hb d_M_prepare_24 (by decide) ?_
        refine lv_goto (tgt := 45) hx hb d_M_prepare_25 (by decide) ?_
        refine lv_ixor hx hb d_M_prepare_45 ?_
        refine sb_topn ((gi i) ^^^ 0) (sb_xor (a := gi i) (b := 0) rfl rfl) ?_
        refine sb_topn ((gi i) ^^^ 0) rfl ?_
        refine sb_ist hx hb hG.1 hP hD hS 2 rfl i rfl (by omega) (by omega) d_M_prepare_46 (fun f_5 H locs ef_5 hP hD hS => ?_)
        have hP : va_P D vwCl [(mo, .inr (7, mFs thr a1 a2 a3 (nI lt) (nI lb) (nI lz) ci a4 a5 a6 nu bk se op fa a7 a8 a9 a10 a11 (nI rn) kh kl sh sl a12 a13 a14 a15 a16 a17 a18 a19 a20)), (a5, .inl (cI, 12, .inl (nF gi))), (a6, .inl (cI, 12, .inl f_5))] H := hP
        have hD : va_D A [(mo, .inr (7, mFs thr a1 a2 a3 (nI lt) (nI lb) (nI lz) ci a4 a5 a6 nu bk se op fa a7 a8 a9 a10 a11 (nI rn) kh kl sh sl a12 a13 a14 a15 a16 a17 a18 a19 a20)), (a5, .inl (cI, 12, .inl (nF gi))), (a6, .inl (cI, 12, .inl f_5))] := hD
        obtain rfl : f_5 = nF (updN (iter (prS gi nu) i gn) i ((gi i) ^^^ 0)) := ef_5.trans (nF_set _ _ _)
        have hP : va_P D vwCl [(mo, .inr (7, mFs thr a1 a2 a3 (nI lt) (nI lb) (nI lz) ci a4 a5 a6 nu bk se op fa a7 a8 a9 a10 a11 (nI rn) kh kl sh sl a12 a13 a14 a15 a16 a17 a18 a19 a20)), (a5, .inl (cI, 12, .inl (nF gi))), (a6, .inl (cI, 12, .inl (nF (updN (iter (prS gi nu) i gn) i ((gi i) ^^^ 0)))))] H := hP
        have hD : va_D A [(mo, .inr (7, mFs thr a1 a2 a3 (nI lt) (nI lb) (nI lz) ci a4 a5 a6 nu bk se op fa a7 a8 a9 a10 a11 (nI rn) kh kl sh sl a12 a13 a14 a15 a16 a17 a18 a19 a20)), (a5, .inl (cI, 12, .inl (nF gi))), (a6, .inl (cI, 12, .inl (nF (updN (iter (prS gi nu) i gn) i ((gi i) ^^^ 0)))))] := hD
        refine lv_iinc (v := nI (i + 1)) (lv' := [(1, .int (nI (i + 1))), (0, .ref mo)]) hx hb d_M_prepare_47 hl (k := 0) rfl (sb_inc (a := i) (b := i + 1) (d := 1) rfl (by decide) (by omega)) (by decide) rfl (fun ls hl => ?_)
        refine lv_goto (tgt := 2) hx hb d_M_prepare_50 (by decide) ?_
        rw [show nF (updN (iter (prS gi nu) i gn) i ((gi i) ^^^ 0)) = nF (iter (prS gi nu) (i + 1) gn) from (congrArg nF (Eq.trans (by simp only [prS, if_neg c_3]) (iter_s _ _ _).symm))] at hP hD
        exact ih1 (i + 1) (by omega) _ _ ls (hP.sub [0, 1, 2] rfl) (hD.sub [0, 1, 2] (by decide) rfl) hS (lv_sub hl [0, 1] rfl)
  exact lp1 12 0 (by omega) _ _ ls (hP.sub [0, 1, 2] rfl) (hD.sub [0, 1, 2] (by decide) rfl) hS (lv_sub hl [0, 1] rfl)

theorem d_M_tagged_0 : decode b_M_tagged 0 = .ok (.aload_n 0, 1) := by decide +kernel
theorem d_M_tagged_1 : decode b_M_tagged 1 = .ok (.getfield 20, 3) := by decide +kernel
theorem d_M_tagged_4 : decode b_M_tagged 4 = .ok (.iconst 2, 1) := by decide +kernel
theorem d_M_tagged_5 : decode b_M_tagged 5 = .ok (.if_icmp .ne 12, 3) := by decide +kernel
theorem d_M_tagged_8 : decode b_M_tagged 8 = .ok (.aload_n 0, 1) := by decide +kernel
theorem d_M_tagged_9 : decode b_M_tagged 9 = .ok (.aload_n 1, 1) := by decide +kernel
theorem d_M_tagged_10 : decode b_M_tagged 10 = .ok (.iload_n 2, 1) := by decide +kernel
theorem d_M_tagged_11 : decode b_M_tagged 11 = .ok (.invokevirtual 150, 3) := by decide +kernel
theorem d_M_tagged_14 : decode b_M_tagged 14 = .ok (.goto 9, 3) := by decide +kernel
theorem d_M_tagged_17 : decode b_M_tagged 17 = .ok (.aload_n 0, 1) := by decide +kernel
theorem d_M_tagged_18 : decode b_M_tagged 18 = .ok (.aload_n 1, 1) := by decide +kernel
theorem d_M_tagged_19 : decode b_M_tagged 19 = .ok (.iload_n 2, 1) := by decide +kernel
theorem d_M_tagged_20 : decode b_M_tagged 20 = .ok (.invokevirtual 153, 3) := by decide +kernel
theorem d_M_tagged_23 : decode b_M_tagged 23 = .ok (.return_, 1) := by decide +kernel

def rm_M_taggedA : Room := { frames := 4, cells := 0, slots := 0, locals := 94 }
set_option maxHeartbeats 4000000 in
set_option maxRecDepth 100000 in
theorem c_M_taggedA (l : Launch) (D : va_G) (cI cL cB : ClassId) (tS tF : Nat) (mo : Nat) (a1 : Nat) (a2 : Nat) (a3 : Nat) (a4 : Nat) (a5 : Nat) (a6 : Nat) (a7 : Nat) (a8 : Nat) (a9 : Nat) (a10 : Nat) (a11 : Nat) (a12 : Nat) (a13 : Nat) (a14 : Nat) (a15 : Nat) (a16 : Nat) (a17 : Nat) (a18 : Nat) (a19 : Nat) (a20 : Nat) (thr : Int32) (ci : Int32) (bk : Int32) (se : Int32) (op : Int32) (fa : Int32) (lt : Nat) (lb : Nat) (lz : Nat) (rn : Nat) (nu : Int64) (kh : Int64) (kl : Int64) (sh : Int64) (sl : Int64) (gS : Nat → Nat) (gr : Nat → Nat) (gs : Nat → Nat) (gm : Nat → Nat) (gn : Nat → Nat) (gz : Nat → Nat) (gg : Nat → Nat) (tx : Nat) (gt : Nat → Nat) (nn : Nat) (sz : Nat) (hgS : By gS) (hgr : By gr) (hgs : By gs) (hgm : By gm) (hgn : By gn) (hrn : rn ≤ 14) (hlz : lz ≤ 20000) (hnn : nn ≤ 20000) (hci : ¬ ci = 2) : Met l y_M_tagged (sbw y_M_tagged b_M_tagged 3 none) rm_M_taggedA (sbPc D cI cL cB tS tF [.ref mo, .ref tx, .int (nI nn)] sz [(mo, .inr (7, mFs thr a1 a2 a3 (nI lt) (nI lb) (nI lz) ci a4 a5 a6 nu bk se op fa a7 a8 a9 a10 a11 (nI rn) kh kl sh sl a12 a13 a14 a15 a16 a17 a18 a19 a20)), (a7, .inl (cI, 256, .inl (nF gS))), (a8, .inl (cI, 240, .inl (nF gr))), (a9, .inl (cI, 16, .inl (nF gs))), (a10, .inl (cI, 16, .inl (nF gm))), (a6, .inl (cI, 12, .inl (nF gn))), (a3, .inl (cI, 98816, .inl (nF gz))), (a19, .inl (cI, 16, .inl (nF gg))), (tx, .inl (cI, 98816, .inl (nF gt)))]) (sbQv D (fun (_ : Unit) => True) (fun (_ : Unit) => [(mo, .inr (7, mFs thr a1 a2 a3 (nI lt) (nI lb) (nI lz) ci a4 a5 a6 nu bk se op fa a7 a8 a9 a10 a11 (nI rn) (m8 (agK gS gr rn gs gm).1 0 16) (m8 (agK gS gr rn gs gm).1 8 16) ((agR (m8 (agK gS gr rn gs gm).1 0 16) (m8 (agK gS gr rn gs gm).1 8 16) gz lz gt nn).1) ((agR (m8 (agK gS gr rn gs gm).1 0 16) (m8 (agK gS gr rn gs gm).1 8 16) gz lz gt nn).2) a12 a13 a14 a15 a16 a17 a18 a19 a20)), (a7, .inl (cI, 256, .inl (nF gS))), (a8, .inl (cI, 240, .inl (nF gr))), (a9, .inl (cI, 16, .inl (nF ((agT gS gr rn gn (agK gS gr rn gs gm)).1)))), (a10, .inl (cI, 16, .inl (nF ((agT gS gr rn gn (agK gS gr rn gs gm)).2)))), (a6, .inl (cI, 12, .inl (nF gn))), (a3, .inl (cI, 98816, .inl (nF gz))), (a19, .inl (cI, 16, .inl (nF (iter (tgA (agT gS gr rn gn (agK gS gr rn gs gm)).1 (agR (m8 (agK gS gr rn gs gm).1 0 16) (m8 (agK gS gr rn gs gm).1 8 16) gz lz gt nn).1 (agR (m8 (agK gS gr rn gs gm).1 0 16) (m8 (agK gS gr rn gs gm).1 8 16) gz lz gt nn).2) 16 gg)))), (tx, .inl (cI, 98816, .inl (nF gt)))]) (va_A [(mo, .inr (7, mFs thr a1 a2 a3 (nI lt) (nI lb) (nI lz) ci a4 a5 a6 nu bk se op fa a7 a8 a9 a10 a11 (nI rn) kh kl sh sl a12 a13 a14 a15 a16 a17 a18 a19 a20)), (a7, .inl (cI, 256, .inl (nF gS))), (a8, .inl (cI, 240, .inl (nF gr))), (a9, .inl (cI, 16, .inl (nF gs))), (a10, .inl (cI, 16, .inl (nF gm))), (a6, .inl (cI, 12, .inl (nF gn))), (a3, .inl (cI, 98816, .inl (nF gz))), (a19, .inl (cI, 16, .inl (nF gg))), (tx, .inl (cI, 98816, .inl (nF gt)))] sz)) 0 0 (va_A [(mo, .inr (7, mFs thr a1 a2 a3 (nI lt) (nI lb) (nI lz) ci a4 a5 a6 nu bk se op fa a7 a8 a9 a10 a11 (nI rn) kh kl sh sl a12 a13 a14 a15 a16 a17 a18 a19 a20)), (a7, .inl (cI, 256, .inl (nF gS))), (a8, .inl (cI, 240, .inl (nF gr))), (a9, .inl (cI, 16, .inl (nF gs))), (a10, .inl (cI, 16, .inl (nF gm))), (a6, .inl (cI, 12, .inl (nF gn))), (a3, .inl (cI, 98816, .inl (nF gz))), (a19, .inl (cI, 16, .inl (nF gg))), (tx, .inl (cI, 98816, .inl (nF gt)))] sz) := by
  refine sb_ofW (y := y_M_tagged) (maxL := 3) (av := [.ref mo, .ref tx, .int (nI nn)]) (Qc := fun A => (sbQv D (fun (_ : Unit) => True) (fun (_ : Unit) => [(mo, .inr (7, mFs thr a1 a2 a3 (nI lt) (nI lb) (nI lz) ci a4 a5 a6 nu bk se op fa a7 a8 a9 a10 a11 (nI rn) (m8 (agK gS gr rn gs gm).1 0 16) (m8 (agK gS gr rn gs gm).1 8 16) ((agR (m8 (agK gS gr rn gs gm).1 0 16) (m8 (agK gS gr rn gs gm).1 8 16) gz lz gt nn).1) ((agR (m8 (agK gS gr rn gs gm).1 0 16) (m8 (agK gS gr rn gs gm).1 8 16) gz lz gt nn).2) a12 a13 a14 a15 a16 a17 a18 a19 a20)), (a7, .inl (cI, 256, .inl (nF gS))), (a8, .inl (cI, 240, .inl (nF gr))), (a9, .inl (cI, 16, .inl (nF ((agT gS gr rn gn (agK gS gr rn gs gm)).1)))), (a10, .inl (cI, 16, .inl (nF ((agT gS gr rn gn (agK gS gr rn gs gm)).2)))), (a6, .inl (cI, 12, .inl (nF gn))), (a3, .inl (cI, 98816, .inl (nF gz))), (a19, .inl (cI, 16, .inl (nF (iter (tgA (agT gS gr rn gn (agK gS gr rn gs gm)).1 (agR (m8 (agK gS gr rn gs gm).1 0 16) (m8 (agK gS gr rn gs gm).1 8 16) gz lz gt nn).1 (agR (m8 (agK gS gr rn gs gm).1 0 16) (m8 (agK gS gr rn gs gm).1 8 16) gz lz gt nn).2) 16 gg)))), (tx, .inl (cI, 98816, .inl (nF gt)))]) A)) (by decide) (Nat.le_of_ble_eq_true rfl) ?_
  intro p e s m args below meth c A ls hx hb hr hml hts hown hlocks hin hsz hP hG hD hA hS hl
  have hl : lv_has ls 3 [(0, .ref mo), (1, .ref tx), (2, .int (nI nn))] := hl
  refine lv_aload_n hx hb d_M_tagged_0 rfl (lv_at hl 0 rfl) ?_
  refine va_get (D := D) (ci := 7) (v := .int ci) (C := R_M) (T := F_M) (N := 35) hx hb hts in_M hown hG.1 hP 0 rfl rfl 7 (by decide) (hts _ k_704) (fun _ h9 => h9) rfl d_M_tagged_1 ?_
  refine lv_iconst (v := 2) hx hb d_M_tagged_4 (by decide) ?_
  refine lv_icmp_ne (tgt := 17) hx hb d_M_tagged_5 (by decide) (fun c_1 => ?_) (fun c_1 => absurd c_1 hci)
  refine lv_aload_n hx hb d_M_tagged_17 rfl (lv_at hl 0 rfl) ?_
  refine lv_aload_n hx hb d_M_tagged_18 rfl (lv_at hl 1 rfl) ?_
  refine lv_iload_n hx hb d_M_tagged_19 rfl (lv_at hl 2 rfl) ?_
  refine sb_callv (wr := []) (va_runV (As := [.ref tx, .int (nI nn)]) (rest := []) ⟨hx, hb, hml, hown, hts⟩ (c_M_tagAes l D cI cL cB tS tF mo a1 a2 a3 a4 a5 a6 a7 a8 a9 a10 a11 a12 a13 a14 a15 a16 a17 a18 a19 a20 thr ci bk se op fa lt lb lz rn nu kh kl sh sl gS gr gs gm gn gz gg tx gt nn _ hgS hgr hgs hgm hgn hrn hlz hnn) (cwV 2 hts (sb_gV k_895 k_897 k_19 k_30 k_898) rfl rfl rfl (by decide +kernel) ⟨Nat.le_of_ble_eq_true rfl, Nat.le_of_ble_eq_true rfl⟩) (sb_pV hG hP hD hS hA [0, 1, 2, 3, 4, 5, 6, 7, 8] (by decide) rfl (ci := 7) (q0 := 0) rfl rfl) rfl rfl hl.1 rfl (lv_room (Nat.le_of_ble_eq_true rfl)) d_M_tagged_20 ⟨Nat.le_of_ble_eq_true rfl, Nat.le_of_ble_eq_true rfl⟩) hP hD hS hA [0, 1, 2, 3, 4, 5, 6, 7, 8] [] rfl rfl (by decide) (by decide) (fun u H locs hw_2 hP hD hS => ?_)
  have hP : va_P D vwCl [(mo, .inr (7, mFs thr a1 a2 a3 (nI lt) (nI lb) (nI lz) ci a4 a5 a6 nu bk se op fa a7 a8 a9 a10 a11 (nI rn) (m8 (agK gS gr rn gs gm).1 0 16) (m8 (agK gS gr rn gs gm).1 8 16) ((agR (m8 (agK gS gr rn gs gm).1 0 16) (m8 (agK gS gr rn gs gm).1 8 16) gz lz gt nn).1) ((agR (m8 (agK gS gr rn gs gm).1 0 16) (m8 (agK gS gr rn gs gm).1 8 16) gz lz gt nn).2) a12 a13 a14 a15 a16 a17 a18 a19 a20)), (a7, .inl (cI, 256, .inl (nF gS))), (a8, .inl (cI, 240, .inl (nF gr))), (a9, .inl (cI, 16, .inl (nF ((agT gS gr rn gn (agK gS gr rn gs gm)).1)))), (a10, .inl (cI, 16, .inl (nF ((agT gS gr rn gn (agK gS gr rn gs gm)).2)))), (a6, .inl (cI, 12, .inl (nF gn))), (a3, .inl (cI, 98816, .inl (nF gz))), (a19, .inl (cI, 16, .inl (nF (iter (tgA (agT gS gr rn gn (agK gS gr rn gs gm)).1 (agR (m8 (agK gS gr rn gs gm).1 0 16) (m8 (agK gS gr rn gs gm).1 8 16) gz lz gt nn).1 (agR (m8 (agK gS gr rn gs gm).1 0 16) (m8 (agK gS gr rn gs gm).1 8 16) gz lz gt nn).2) 16 gg)))), (tx, .inl (cI, 98816, .inl (nF gt)))] H := hP
  have hD : va_D A [(mo, .inr (7, mFs thr a1 a2 a3 (nI lt) (nI lb) (nI lz) ci a4 a5 a6 nu bk se op fa a7 a8 a9 a10 a11 (nI rn) (m8 (agK gS gr rn gs gm).1 0 16) (m8 (agK gS gr rn gs gm).1 8 16) ((agR (m8 (agK gS gr rn gs gm).1 0 16) (m8 (agK gS gr rn gs gm).1 8 16) gz lz gt nn).1) ((agR (m8 (agK gS gr rn gs gm).1 0 16) (m8 (agK gS gr rn gs gm).1 8 16) gz lz gt nn).2) a12 a13 a14 a15 a16 a17 a18 a19 a20)), (a7, .inl (cI, 256, .inl (nF gS))), (a8, .inl (cI, 240, .inl (nF gr))), (a9, .inl (cI, 16, .inl (nF ((agT gS gr rn gn (agK gS gr rn gs gm)).1)))), (a10, .inl (cI, 16, .inl (nF ((agT gS gr rn gn (agK gS gr rn gs gm)).2)))), (a6, .inl (cI, 12, .inl (nF gn))), (a3, .inl (cI, 98816, .inl (nF gz))), (a19, .inl (cI, 16, .inl (nF (iter (tgA (agT gS gr rn gn (agK gS gr rn gs gm)).1 (agR (m8 (agK gS gr rn gs gm).1 0 16) (m8 (agK gS gr rn gs gm).1 8 16) gz lz gt nn).1 (agR (m8 (agK gS gr rn gs gm).1 0 16) (m8 (agK gS gr rn gs gm).1 8 16) gz lz gt nn).2) 16 gg)))), (tx, .inl (cI, 98816, .inl (nF gt)))] := hD
  have hP9 := hP.sub (ws' := [(mo, .inr (7, mFs thr a1 a2 a3 (nI lt) (nI lb) (nI lz) ci a4 a5 a6 nu bk se op fa a7 a8 a9 a10 a11 (nI rn) (m8 (agK gS gr rn gs gm).1 0 16) (m8 (agK gS gr rn gs gm).1 8 16) ((agR (m8 (agK gS gr rn gs gm).1 0 16) (m8 (agK gS gr rn gs gm).1 8 16) gz lz gt nn).1) ((agR (m8 (agK gS gr rn gs gm).1 0 16) (m8 (agK gS gr rn gs gm).1 8 16) gz lz gt nn).2) a12 a13 a14 a15 a16 a17 a18 a19 a20)), (a7, .inl (cI, 256, .inl (nF gS))), (a8, .inl (cI, 240, .inl (nF gr))), (a9, .inl (cI, 16, .inl (nF ((agT gS gr rn gn (agK gS gr rn gs gm)).1)))), (a10, .inl (cI, 16, .inl (nF ((agT gS gr rn gn (agK gS gr rn gs gm)).2)))), (a6, .inl (cI, 12, .inl (nF gn))), (a3, .inl (cI, 98816, .inl (nF gz))), (a19, .inl (cI, 16, .inl (nF (iter (tgA (agT gS gr rn gn (agK gS gr rn gs gm)).1 (agR (m8 (agK gS gr rn gs gm).1 0 16) (m8 (agK gS gr rn gs gm).1 8 16) gz lz gt nn).1 (agR (m8 (agK gS gr rn gs gm).1 0 16) (m8 (agK gS gr rn gs gm).1 8 16) gz lz gt nn).2) 16 gg)))), (tx, .inl (cI, 98816, .inl (nF gt)))]) [0, 1, 2, 3, 4, 5, 6, 7, 8] rfl
  have hD9 := hD.sub (ws' := [(mo, .inr (7, mFs thr a1 a2 a3 (nI lt) (nI lb) (nI lz) ci a4 a5 a6 nu bk se op fa a7 a8 a9 a10 a11 (nI rn) (m8 (agK gS gr rn gs gm).1 0 16) (m8 (agK gS gr rn gs gm).1 8 16) ((agR (m8 (agK gS gr rn gs gm).1 0 16) (m8 (agK gS gr rn gs gm).1 8 16) gz lz gt nn).1) ((agR (m8 (agK gS gr rn gs gm).1 0 16) (m8 (agK gS gr rn gs gm).1 8 16) gz lz gt nn).2) a12 a13 a14 a15 a16 a17 a18 a19 a20)), (a7, .inl (cI, 256, .inl (nF gS))), (a8, .inl (cI, 240, .inl (nF gr))), (a9, .inl (cI, 16, .inl (nF ((agT gS gr rn gn (agK gS gr rn gs gm)).1)))), (a10, .inl (cI, 16, .inl (nF ((agT gS gr rn gn (agK gS gr rn gs gm)).2)))), (a6, .inl (cI, 12, .inl (nF gn))), (a3, .inl (cI, 98816, .inl (nF gz))), (a19, .inl (cI, 16, .inl (nF (iter (tgA (agT gS gr rn gn (agK gS gr rn gs gm)).1 (agR (m8 (agK gS gr rn gs gm).1 0 16) (m8 (agK gS gr rn gs gm).1 8 16) gz lz gt nn).1 (agR (m8 (agK gS gr rn gs gm).1 0 16) (m8 (agK gS gr rn gs gm).1 8 16) gz lz gt nn).2) 16 gg)))), (tx, .inl (cI, 98816, .inl (nF gt)))]) [0, 1, 2, 3, 4, 5, 6, 7, 8] (by decide) rfl
  exact W.vret hx hb hr (fun t ht hW => ⟨⟨(), rfl, trivial, by rw [ht]; exact hP9, hD9⟩, hS.F ht⟩) hS.2.2 d_M_tagged_23

def rm_M_taggedC : Room := { frames := 4, cells := 0, slots := 0, locals := 92 }
set_option maxHeartbeats 4000000 in
set_option maxRecDepth 100000 in
theorem c_M_taggedC (l : Launch) (D : va_G) (cI cL cB : ClassId) (tS tF : Nat) (mo : Nat) (a1 : Nat) (a2 : Nat) (a3 : Nat) (a4 : Nat) (a5 : Nat) (a6 : Nat) (a7 : Nat) (a8 : Nat) (a9 : Nat) (a10 : Nat) (a11 : Nat) (a12 : Nat) (a13 : Nat) (a14 : Nat) (a15 : Nat) (a16 : Nat) (a17 : Nat) (a18 : Nat) (a19 : Nat) (a20 : Nat) (thr : Int32) (ci : Int32) (bk : Int32) (se : Int32) (op : Int32) (fa : Int32) (lt : Nat) (lb : Nat) (lz : Nat) (rn : Nat) (nu : Int64) (kh : Int64) (kl : Int64) (sh : Int64) (sl : Int64) (gk : Nat → Nat) (gn : Nat → Nat) (gu : Nat → Nat) (ga : Nat → Nat) (gb : Nat → Nat) (gd : Nat → Nat) (gc : Nat → Nat) (gg : Nat → Nat) (gw : Nat → Nat) (gz : Nat → Nat) (wd : Nat → Int32) (td : Nat → Int32) (tx : Nat) (gt : Nat → Nat) (nn : Nat) (sz : Nat) (hgu : By gu) (hga : By ga) (hgb : By gb) (hgd : By gd) (hgc : By gc) (hgg : By gg) (hgw : By gw) (hgz : By gz) (hgt : By gt) (hlz : lz ≤ 20000) (hnn : nn ≤ 20000) (hci : ci = 2) : Met l y_M_tagged (sbw y_M_tagged b_M_tagged 3 none) rm_M_taggedC (sbPc D cI cL cB tS tF [.ref mo, .ref tx, .int (nI nn)] sz [(mo, .inr (7, mFs thr a1 a2 a3 (nI lt) (nI lb) (nI lz) ci a4 a5 a6 nu bk se op fa a7 a8 a9 a10 a11 (nI rn) kh kl sh sl a12 a13 a14 a15 a16 a17 a18 a19 a20)), (a4, .inl (cI, 32, .inl (nF gk))), (a6, .inl (cI, 12, .inl (nF gn))), (a12, .inl (cI, 16, .inl wd)), (a13, .inl (cI, 16, .inl td)), (a14, .inl (cI, 64, .inl (nF gu))), (a15, .inl (cI, 17, .inl (nF ga))), (a16, .inl (cI, 17, .inl (nF gb))), (a17, .inl (cI, 40, .inl (nF gd))), (a18, .inl (cI, 17, .inl (nF gc))), (a19, .inl (cI, 16, .inl (nF gg))), (a20, .inl (cI, 16, .inl (nF gw))), (a3, .inl (cI, 98816, .inl (nF gz))), (tx, .inl (cI, 98816, .inl (nF gt)))]) (sbQv D (fun (_ : Unit) => True) (fun (_ : Unit) => [(mo, .inr (7, mFs thr a1 a2 a3 (nI lt) (nI lb) (nI lz) ci a4 a5 a6 nu bk se op fa a7 a8 a9 a10 a11 (nI rn) kh kl sh sl a12 a13 a14 a15 a16 a17 a18 a19 a20)), (a4, .inl (cI, 32, .inl (nF gk))), (a6, .inl (cI, 12, .inl (nF gn))), (a12, .inl (cI, 16, .inl (cWord gk gn 0 wd))), (a13, .inl (cI, 16, .inl (cTurn (cWord gk gn 0 wd) td))), (a14, .inl (cI, 64, .inl (nF (ccN gk gn 0 wd td gu)))), (a15, .inl (cI, 17, .inl (nF (tcT (ccN gk gn 0 wd td gu) gb gz lz ga gd gc gt nn)))), (a16, .inl (cI, 17, .inl (nF (tcF (ccN gk gn 0 wd td gu) gb)))), (a17, .inl (cI, 40, .inl (nF (tcD (ccN gk gn 0 wd td gu) gb gz lz ga gd gc gt nn)))), (a18, .inl (cI, 17, .inl (nF (tcC (ccN gk gn 0 wd td gu) gb gz lz ga gd gc gt nn)))), (a19, .inl (cI, 16, .inl (nF (tcG (tcT (ccN gk gn 0 wd td gu) gb gz lz ga gd gc gt nn) (ccN gk gn 0 wd td gu) gw gg)))), (a20, .inl (cI, 16, .inl (nF (iter (mkS (ccN gk gn 0 wd td gu)) 17 gw)))), (a3, .inl (cI, 98816, .inl (nF gz))), (tx, .inl (cI, 98816, .inl (nF gt)))]) (va_A [(mo, .inr (7, mFs thr a1 a2 a3 (nI lt) (nI lb) (nI lz) ci a4 a5 a6 nu bk se op fa a7 a8 a9 a10 a11 (nI rn) kh kl sh sl a12 a13 a14 a15 a16 a17 a18 a19 a20)), (a4, .inl (cI, 32, .inl (nF gk))), (a6, .inl (cI, 12, .inl (nF gn))), (a12, .inl (cI, 16, .inl wd)), (a13, .inl (cI, 16, .inl td)), (a14, .inl (cI, 64, .inl (nF gu))), (a15, .inl (cI, 17, .inl (nF ga))), (a16, .inl (cI, 17, .inl (nF gb))), (a17, .inl (cI, 40, .inl (nF gd))), (a18, .inl (cI, 17, .inl (nF gc))), (a19, .inl (cI, 16, .inl (nF gg))), (a20, .inl (cI, 16, .inl (nF gw))), (a3, .inl (cI, 98816, .inl (nF gz))), (tx, .inl (cI, 98816, .inl (nF gt)))] sz)) 0 0 (va_A [(mo, .inr (7, mFs thr a1 a2 a3 (nI lt) (nI lb) (nI lz) ci a4 a5 a6 nu bk se op fa a7 a8 a9 a10 a11 (nI rn) kh kl sh sl a12 a13 a14 a15 a16 a17 a18 a19 a20)), (a4, .inl (cI, 32, .inl (nF gk))), (a6, .inl (cI, 12, .inl (nF gn))), (a12, .inl (cI, 16, .inl wd)), (a13, .inl (cI, 16, .inl td)), (a14, .inl (cI, 64, .inl (nF gu))), (a15, .inl (cI, 17, .inl (nF ga))), (a16, .inl (cI, 17, .inl (nF gb))), (a17, .inl (cI, 40, .inl (nF gd))), (a18, .inl (cI, 17, .inl (nF gc))), (a19, .inl (cI, 16, .inl (nF gg))), (a20, .inl (cI, 16, .inl (nF gw))), (a3, .inl (cI, 98816, .inl (nF gz))), (tx, .inl (cI, 98816, .inl (nF gt)))] sz) := by
  refine sb_ofW (y := y_M_tagged) (maxL := 3) (av := [.ref mo, .ref tx, .int (nI nn)]) (Qc := fun A => (sbQv D (fun (_ : Unit) => True) (fun (_ : Unit) => [(mo, .inr (7, mFs thr a1 a2 a3 (nI lt) (nI lb) (nI lz) ci a4 a5 a6 nu bk se op fa a7 a8 a9 a10 a11 (nI rn) kh kl sh sl a12 a13 a14 a15 a16 a17 a18 a19 a20)), (a4, .inl (cI, 32, .inl (nF gk))), (a6, .inl (cI, 12, .inl (nF gn))), (a12, .inl (cI, 16, .inl (cWord gk gn 0 wd))), (a13, .inl (cI, 16, .inl (cTurn (cWord gk gn 0 wd) td))), (a14, .inl (cI, 64, .inl (nF (ccN gk gn 0 wd td gu)))), (a15, .inl (cI, 17, .inl (nF (tcT (ccN gk gn 0 wd td gu) gb gz lz ga gd gc gt nn)))), (a16, .inl (cI, 17, .inl (nF (tcF (ccN gk gn 0 wd td gu) gb)))), (a17, .inl (cI, 40, .inl (nF (tcD (ccN gk gn 0 wd td gu) gb gz lz ga gd gc gt nn)))), (a18, .inl (cI, 17, .inl (nF (tcC (ccN gk gn 0 wd td gu) gb gz lz ga gd gc gt nn)))), (a19, .inl (cI, 16, .inl (nF (tcG (tcT (ccN gk gn 0 wd td gu) gb gz lz ga gd gc gt nn) (ccN gk gn 0 wd td gu) gw gg)))), (a20, .inl (cI, 16, .inl (nF (iter (mkS (ccN gk gn 0 wd td gu)) 17 gw)))), (a3, .inl (cI, 98816, .inl (nF gz))), (tx, .inl (cI, 98816, .inl (nF gt)))]) A)) (by decide) (Nat.le_of_ble_eq_true rfl) ?_
  intro p e s m args below meth c A ls hx hb hr hml hts hown hlocks hin hsz hP hG hD hA hS hl
  have hl : lv_has ls 3 [(0, .ref mo), (1, .ref tx), (2, .int (nI nn))] := hl
  refine lv_aload_n hx hb d_M_tagged_0 rfl (lv_at hl 0 rfl) ?_
  refine va_get (D := D) (ci := 7) (v := .int ci) (C := R_M) (T := F_M) (N := 35) hx hb hts in_M hown hG.1 hP 0 rfl rfl 7 (by decide) (hts _ k_704) (fun _ h9 => h9) rfl d_M_tagged_1 ?_
  refine lv_iconst (v := 2) hx hb d_M_tagged_4 (by decide) ?_
  refine lv_icmp_ne (tgt := 17) hx hb d_M_tagged_5 (by decide) (fun c_1 => absurd hci c_1) (fun c_1 => ?_)
  refine lv_aload_n hx hb d_M_tagged_8 rfl (lv_at hl 0 rfl) ?_
  refine lv_aload_n hx hb d_M_tagged_9 rfl (lv_at hl 1 rfl) ?_
  refine lv_iload_n hx hb d_M_tagged_10 rfl (lv_at hl 2 rfl) ?_
  refine sb_callv (wr := []) (va_runV (As := [.ref tx, .int (nI nn)]) (rest := []) ⟨hx, hb, hml, hown, hts⟩ (c_M_tagChacha l D cI cL cB tS tF mo a1 a2 a3 a4 a5 a6 a7 a8 a9 a10 a11 a12 a13 a14 a15 a16 a17 a18 a19 a20 thr ci bk se op fa lt lb lz rn nu kh kl sh sl gk gn gu ga gb gd gc gg gw gz wd td tx gt nn _ hgu hga hgb hgd hgc hgg hgw hgz hgt hlz hnn) (cwV 2 hts (sb_gV k_883 k_885 k_16 k_30 k_886) rfl rfl rfl (by decide +kernel) ⟨Nat.le_of_ble_eq_true rfl, Nat.le_of_ble_eq_true rfl⟩) (sb_pV hG hP hD hS hA [0, 1, 2, 3, 4, 5, 6, 7, 8, 9, 10, 11, 12, 13] (by decide) rfl (ci := 7) (q0 := 0) rfl rfl) rfl rfl hl.1 rfl (lv_room (Nat.le_of_ble_eq_true rfl)) d_M_tagged_11 ⟨Nat.le_of_ble_eq_true rfl, Nat.le_of_ble_eq_true rfl⟩) hP hD hS hA [0, 1, 2, 3, 4, 5, 6, 7, 8, 9, 10, 11, 12, 13] [] rfl rfl (by decide) (by decide) (fun u H locs hw_2 hP hD hS => ?_)
  have hP : va_P D vwCl [(mo, .inr (7, mFs thr a1 a2 a3 (nI lt) (nI lb) (nI lz) ci a4 a5 a6 nu bk se op fa a7 a8 a9 a10 a11 (nI rn) kh kl sh sl a12 a13 a14 a15 a16 a17 a18 a19 a20)), (a4, .inl (cI, 32, .inl (nF gk))), (a6, .inl (cI, 12, .inl (nF gn))), (a12, .inl (cI, 16, .inl (cWord gk gn 0 wd))), (a13, .inl (cI, 16, .inl (cTurn (cWord gk gn 0 wd) td))), (a14, .inl (cI, 64, .inl (nF (ccN gk gn 0 wd td gu)))), (a15, .inl (cI, 17, .inl (nF (tcT (ccN gk gn 0 wd td gu) gb gz lz ga gd gc gt nn)))), (a16, .inl (cI, 17, .inl (nF (tcF (ccN gk gn 0 wd td gu) gb)))), (a17, .inl (cI, 40, .inl (nF (tcD (ccN gk gn 0 wd td gu) gb gz lz ga gd gc gt nn)))), (a18, .inl (cI, 17, .inl (nF (tcC (ccN gk gn 0 wd td gu) gb gz lz ga gd gc gt nn)))), (a19, .inl (cI, 16, .inl (nF (tcG (tcT (ccN gk gn 0 wd td gu) gb gz lz ga gd gc gt nn) (ccN gk gn 0 wd td gu) gw gg)))), (a20, .inl (cI, 16, .inl (nF (iter (mkS (ccN gk gn 0 wd td gu)) 17 gw)))), (a3, .inl (cI, 98816, .inl (nF gz))), (tx, .inl (cI, 98816, .inl (nF gt)))] H := hP
  have hD : va_D A [(mo, .inr (7, mFs thr a1 a2 a3 (nI lt) (nI lb) (nI lz) ci a4 a5 a6 nu bk se op fa a7 a8 a9 a10 a11 (nI rn) kh kl sh sl a12 a13 a14 a15 a16 a17 a18 a19 a20)), (a4, .inl (cI, 32, .inl (nF gk))), (a6, .inl (cI, 12, .inl (nF gn))), (a12, .inl (cI, 16, .inl (cWord gk gn 0 wd))), (a13, .inl (cI, 16, .inl (cTurn (cWord gk gn 0 wd) td))), (a14, .inl (cI, 64, .inl (nF (ccN gk gn 0 wd td gu)))), (a15, .inl (cI, 17, .inl (nF (tcT (ccN gk gn 0 wd td gu) gb gz lz ga gd gc gt nn)))), (a16, .inl (cI, 17, .inl (nF (tcF (ccN gk gn 0 wd td gu) gb)))), (a17, .inl (cI, 40, .inl (nF (tcD (ccN gk gn 0 wd td gu) gb gz lz ga gd gc gt nn)))), (a18, .inl (cI, 17, .inl (nF (tcC (ccN gk gn 0 wd td gu) gb gz lz ga gd gc gt nn)))), (a19, .inl (cI, 16, .inl (nF (tcG (tcT (ccN gk gn 0 wd td gu) gb gz lz ga gd gc gt nn) (ccN gk gn 0 wd td gu) gw gg)))), (a20, .inl (cI, 16, .inl (nF (iter (mkS (ccN gk gn 0 wd td gu)) 17 gw)))), (a3, .inl (cI, 98816, .inl (nF gz))), (tx, .inl (cI, 98816, .inl (nF gt)))] := hD
  refine lv_goto (tgt := 23) hx hb d_M_tagged_14 (by decide) ?_
  have hP9 := hP.sub (ws' := [(mo, .inr (7, mFs thr a1 a2 a3 (nI lt) (nI lb) (nI lz) ci a4 a5 a6 nu bk se op fa a7 a8 a9 a10 a11 (nI rn) kh kl sh sl a12 a13 a14 a15 a16 a17 a18 a19 a20)), (a4, .inl (cI, 32, .inl (nF gk))), (a6, .inl (cI, 12, .inl (nF gn))), (a12, .inl (cI, 16, .inl (cWord gk gn 0 wd))), (a13, .inl (cI, 16, .inl (cTurn (cWord gk gn 0 wd) td))), (a14, .inl (cI, 64, .inl (nF (ccN gk gn 0 wd td gu)))), (a15, .inl (cI, 17, .inl (nF (tcT (ccN gk gn 0 wd td gu) gb gz lz ga gd gc gt nn)))), (a16, .inl (cI, 17, .inl (nF (tcF (ccN gk gn 0 wd td gu) gb)))), (a17, .inl (cI, 40, .inl (nF (tcD (ccN gk gn 0 wd td gu) gb gz lz ga gd gc gt nn)))), (a18, .inl (cI, 17, .inl (nF (tcC (ccN gk gn 0 wd td gu) gb gz lz ga gd gc gt nn)))), (a19, .inl (cI, 16, .inl (nF (tcG (tcT (ccN gk gn 0 wd td gu) gb gz lz ga gd gc gt nn) (ccN gk gn 0 wd td gu) gw gg)))), (a20, .inl (cI, 16, .inl (nF (iter (mkS (ccN gk gn 0 wd td gu)) 17 gw)))), (a3, .inl (cI, 98816, .inl (nF gz))), (tx, .inl (cI, 98816, .inl (nF gt)))]) [0, 1, 2, 3, 4, 5, 6, 7, 8, 9, 10, 11, 12, 13] rfl
  have hD9 := hD.sub (ws' := [(mo, .inr (7, mFs thr a1 a2 a3 (nI lt) (nI lb) (nI lz) ci a4 a5 a6 nu bk se op fa a7 a8 a9 a10 a11 (nI rn) kh kl sh sl a12 a13 a14 a15 a16 a17 a18 a19 a20)), (a4, .inl (cI, 32, .inl (nF gk))), (a6, .inl (cI, 12, .inl (nF gn))), (a12, .inl (cI, 16, .inl (cWord gk gn 0 wd))), (a13, .inl (cI, 16, .inl (cTurn (cWord gk gn 0 wd) td))), (a14, .inl (cI, 64, .inl (nF (ccN gk gn 0 wd td gu)))), (a15, .inl (cI, 17, .inl (nF (tcT (ccN gk gn 0 wd td gu) gb gz lz ga gd gc gt nn)))), (a16, .inl (cI, 17, .inl (nF (tcF (ccN gk gn 0 wd td gu) gb)))), (a17, .inl (cI, 40, .inl (nF (tcD (ccN gk gn 0 wd td gu) gb gz lz ga gd gc gt nn)))), (a18, .inl (cI, 17, .inl (nF (tcC (ccN gk gn 0 wd td gu) gb gz lz ga gd gc gt nn)))), (a19, .inl (cI, 16, .inl (nF (tcG (tcT (ccN gk gn 0 wd td gu) gb gz lz ga gd gc gt nn) (ccN gk gn 0 wd td gu) gw gg)))), (a20, .inl (cI, 16, .inl (nF (iter (mkS (ccN gk gn 0 wd td gu)) 17 gw)))), (a3, .inl (cI, 98816, .inl (nF gz))), (tx, .inl (cI, 98816, .inl (nF gt)))]) [0, 1, 2, 3, 4, 5, 6, 7, 8, 9, 10, 11, 12, 13] (by decide) rfl
  exact W.vret hx hb hr (fun t ht hW => ⟨⟨(), rfl, trivial, by rw [ht]; exact hP9, hD9⟩, hS.F ht⟩) hS.2.2 d_M_tagged_23

theorem d_M_covered_0 : decode b_M_covered 0 = .ok (.aload_n 0, 1) := by decide +kernel
theorem d_M_covered_1 : decode b_M_covered 1 = .ok (.getfield 20, 3) := by decide +kernel
theorem d_M_covered_4 : decode b_M_covered 4 = .ok (.iconst 2, 1) := by decide +kernel
theorem d_M_covered_5 : decode b_M_covered 5 = .ok (.if_icmp .ne 8, 3) := by decide +kernel
theorem d_M_covered_8 : decode b_M_covered 8 = .ok (.bipush 64, 2) := by decide +kernel
theorem d_M_covered_10 : decode b_M_covered 10 = .ok (.goto 5, 3) := by decide +kernel
theorem d_M_covered_13 : decode b_M_covered 13 = .ok (.bipush 16, 2) := by decide +kernel
theorem d_M_covered_15 : decode b_M_covered 15 = .ok (.istore_n 2, 1) := by decide +kernel
theorem d_M_covered_16 : decode b_M_covered 16 = .ok (.iconst 0, 1) := by decide +kernel
theorem d_M_covered_17 : decode b_M_covered 17 = .ok (.istore_n 3, 1) := by decide +kernel
theorem d_M_covered_18 : decode b_M_covered 18 = .ok (.iload_n 3, 1) := by decide +kernel
theorem d_M_covered_19 : decode b_M_covered 19 = .ok (.iload_n 1, 1) := by decide +kernel
theorem d_M_covered_20 : decode b_M_covered 20 = .ok (.if_icmp .ge 108, 3) := by decide +kernel
theorem d_M_covered_23 : decode b_M_covered 23 = .ok (.aload_n 0, 1) := by decide +kernel
theorem d_M_covered_24 : decode b_M_covered 24 = .ok (.getfield 20, 3) := by decide +kernel
theorem d_M_covered_27 : decode b_M_covered 27 = .ok (.iconst 2, 1) := by decide +kernel
theorem d_M_covered_28 : decode b_M_covered 28 = .ok (.if_icmp .ne 16, 3) := by decide +kernel
theorem d_M_covered_31 : decode b_M_covered 31 = .ok (.aload_n 0, 1) := by decide +kernel
theorem d_M_covered_32 : decode b_M_covered 32 = .ok (.iconst 1, 1) := by decide +kernel
theorem d_M_covered_33 : decode b_M_covered 33 = .ok (.iload_n 3, 1) := by decide +kernel
theorem d_M_covered_34 : decode b_M_covered 34 = .ok (.bipush 64, 2) := by decide +kernel
theorem d_M_covered_36 : decode b_M_covered 36 = .ok (.idiv, 1) := by decide +kernel
theorem d_M_covered_37 : decode b_M_covered 37 = .ok (.iadd, 1) := by decide +kernel
theorem d_M_covered_38 : decode b_M_covered 38 = .ok (.invokevirtual 140, 3) := by decide +kernel
theorem d_M_covered_41 : decode b_M_covered 41 = .ok (.goto 13, 3) := by decide +kernel
theorem d_M_covered_44 : decode b_M_covered 44 = .ok (.aload_n 0, 1) := by decide +kernel
theorem d_M_covered_45 : decode b_M_covered 45 = .ok (.iconst 2, 1) := by decide +kernel
theorem d_M_covered_46 : decode b_M_covered 46 = .ok (.iload_n 3, 1) := by decide +kernel
theorem d_M_covered_47 : decode b_M_covered 47 = .ok (.bipush 16, 2) := by decide +kernel
theorem d_M_covered_49 : decode b_M_covered 49 = .ok (.idiv, 1) := by decide +kernel
theorem d_M_covered_50 : decode b_M_covered 50 = .ok (.iadd, 1) := by decide +kernel
theorem d_M_covered_51 : decode b_M_covered 51 = .ok (.invokevirtual 116, 3) := by decide +kernel
theorem d_M_covered_54 : decode b_M_covered 54 = .ok (.iconst 0, 1) := by decide +kernel
theorem d_M_covered_55 : decode b_M_covered 55 = .ok (.istore 4, 2) := by decide +kernel
theorem d_M_covered_57 : decode b_M_covered 57 = .ok (.iload 4, 2) := by decide +kernel
theorem d_M_covered_59 : decode b_M_covered 59 = .ok (.iload_n 2, 1) := by decide +kernel
theorem d_M_covered_60 : decode b_M_covered 60 = .ok (.if_icmp .ge 61, 3) := by decide +kernel
theorem d_M_covered_63 : decode b_M_covered 63 = .ok (.iload_n 3, 1) := by decide +kernel
theorem d_M_covered_64 : decode b_M_covered 64 = .ok (.iload 4, 2) := by decide +kernel
theorem d_M_covered_66 : decode b_M_covered 66 = .ok (.iadd, 1) := by decide +kernel
theorem d_M_covered_67 : decode b_M_covered 67 = .ok (.iload_n 1, 1) := by decide +kernel
theorem d_M_covered_68 : decode b_M_covered 68 = .ok (.if_icmp .ge 53, 3) := by decide +kernel
theorem d_M_covered_71 : decode b_M_covered 71 = .ok (.aload_n 0, 1) := by decide +kernel
theorem d_M_covered_72 : decode b_M_covered 72 = .ok (.getfield 14, 3) := by decide +kernel
theorem d_M_covered_75 : decode b_M_covered 75 = .ok (.iload_n 3, 1) := by decide +kernel
theorem d_M_covered_76 : decode b_M_covered 76 = .ok (.iload 4, 2) := by decide +kernel
theorem d_M_covered_78 : decode b_M_covered 78 = .ok (.iadd, 1) := by decide +kernel
theorem d_M_covered_79 : decode b_M_covered 79 = .ok (.aload_n 0, 1) := by decide +kernel
theorem d_M_covered_80 : decode b_M_covered 80 = .ok (.getfield 8, 3) := by decide +kernel
theorem d_M_covered_83 : decode b_M_covered 83 = .ok (.iload_n 3, 1) := by decide +kernel
theorem d_M_covered_84 : decode b_M_covered 84 = .ok (.iload 4, 2) := by decide +kernel
theorem d_M_covered_86 : decode b_M_covered 86 = .ok (.iadd, 1) := by decide +kernel
theorem d_M_covered_87 : decode b_M_covered 87 = .ok (.iaload, 1) := by decide +kernel
theorem d_M_covered_88 : decode b_M_covered 88 = .ok (.aload_n 0, 1) := by decide +kernel
theorem d_M_covered_89 : decode b_M_covered 89 = .ok (.getfield 20, 3) := by decide +kernel
theorem d_M_covered_92 : decode b_M_covered 92 = .ok (.iconst 2, 1) := by decide +kernel
theorem d_M_covered_93 : decode b_M_covered 93 = .ok (.if_icmp .ne 13, 3) := by decide +kernel
theorem d_M_covered_96 : decode b_M_covered 96 = .ok (.aload_n 0, 1) := by decide +kernel
theorem d_M_covered_97 : decode b_M_covered 97 = .ok (.getfield 54, 3) := by decide +kernel
theorem d_M_covered_100 : decode b_M_covered 100 = .ok (.iload 4, 2) := by decide +kernel
theorem d_M_covered_102 : decode b_M_covered 102 = .ok (.iaload, 1) := by decide +kernel
theorem d_M_covered_103 : decode b_M_covered 103 = .ok (.goto 10, 3) := by decide +kernel
theorem d_M_covered_106 : decode b_M_covered 106 = .ok (.aload_n 0, 1) := by decide +kernel
theorem d_M_covered_107 : decode b_M_covered 107 = .ok (.getfield 39, 3) := by decide +kernel
theorem d_M_covered_110 : decode b_M_covered 110 = .ok (.iload 4, 2) := by decide +kernel
theorem d_M_covered_112 : decode b_M_covered 112 = .ok (.iaload, 1) := by decide +kernel
theorem d_M_covered_113 : decode b_M_covered 113 = .ok (.ixor, 1) := by decide +kernel
theorem d_M_covered_114 : decode b_M_covered 114 = .ok (.iastore, 1) := by decide +kernel
theorem d_M_covered_115 : decode b_M_covered 115 = .ok (.iinc 4 1, 3) := by decide +kernel
theorem d_M_covered_118 : decode b_M_covered 118 = .ok (.goto (-61), 3) := by decide +kernel
theorem d_M_covered_121 : decode b_M_covered 121 = .ok (.iload_n 3, 1) := by decide +kernel
theorem d_M_covered_122 : decode b_M_covered 122 = .ok (.iload_n 2, 1) := by decide +kernel
theorem d_M_covered_123 : decode b_M_covered 123 = .ok (.iadd, 1) := by decide +kernel
theorem d_M_covered_124 : decode b_M_covered 124 = .ok (.istore_n 3, 1) := by decide +kernel
theorem d_M_covered_125 : decode b_M_covered 125 = .ok (.goto (-107), 3) := by decide +kernel
theorem d_M_covered_128 : decode b_M_covered 128 = .ok (.aload_n 0, 1) := by decide +kernel
theorem d_M_covered_129 : decode b_M_covered 129 = .ok (.iload_n 1, 1) := by decide +kernel
theorem d_M_covered_130 : decode b_M_covered 130 = .ok (.putfield 156, 3) := by decide +kernel
theorem d_M_covered_133 : decode b_M_covered 133 = .ok (.aload_n 0, 1) := by decide +kernel
theorem d_M_covered_134 : decode b_M_covered 134 = .ok (.dup, 1) := by decide +kernel
theorem d_M_covered_135 : decode b_M_covered 135 = .ok (.getfield 159, 3) := by decide +kernel
theorem d_M_covered_138 : decode b_M_covered 138 = .ok (.iload_n 1, 1) := by decide +kernel
theorem d_M_covered_139 : decode b_M_covered 139 = .ok (.iload_n 2, 1) := by decide +kernel
theorem d_M_covered_140 : decode b_M_covered 140 = .ok (.iadd, 1) := by decide +kernel
theorem d_M_covered_141 : decode b_M_covered 141 = .ok (.iconst 1, 1) := by decide +kernel
theorem d_M_covered_142 : decode b_M_covered 142 = .ok (.isub, 1) := by decide +kernel
theorem d_M_covered_143 : decode b_M_covered 143 = .ok (.iload_n 2, 1) := by decide +kernel
theorem d_M_covered_144 : decode b_M_covered 144 = .ok (.idiv, 1) := by decide +kernel
theorem d_M_covered_145 : decode b_M_covered 145 = .ok (.iadd, 1) := by decide +kernel
theorem d_M_covered_146 : decode b_M_covered 146 = .ok (.putfield 159, 3) := by decide +kernel
theorem d_M_covered_149 : decode b_M_covered 149 = .ok (.return_, 1) := by decide +kernel

def rm_M_coveredA : Room := { frames := 3, cells := 0, slots := 0, locals := 71 }
set_option maxHeartbeats 4000000 in
set_option maxRecDepth 100000 in
theorem c_M_coveredA (l : Launch) (D : va_G) (cI cL cB : ClassId) (tS tF : Nat) (mo : Nat) (a1 : Nat) (a2 : Nat) (a3 : Nat) (a4 : Nat) (a5 : Nat) (a6 : Nat) (a7 : Nat) (a8 : Nat) (a9 : Nat) (a10 : Nat) (a11 : Nat) (a12 : Nat) (a13 : Nat) (a14 : Nat) (a15 : Nat) (a16 : Nat) (a17 : Nat) (a18 : Nat) (a19 : Nat) (a20 : Nat) (thr : Int32) (ci : Int32) (bk : Int32) (se : Int32) (op : Int32) (fa : Int32) (lt : Nat) (lb : Nat) (lz : Nat) (rn : Nat) (nu : Int64) (kh : Int64) (kl : Int64) (sh : Int64) (sl : Int64) (gS : Nat → Nat) (gr : Nat → Nat) (gs : Nat → Nat) (gm : Nat → Nat) (gn : Nat → Nat) (gt : Nat → Nat) (gx : Nat → Nat) (nn : Nat) (sz : Nat) (hgS : By gS) (hgr : By gr) (hgs : By gs) (hgm : By gm) (hgn : By gn) (hgt : By gt) (hgx : By gx) (hrn : rn ≤ 14) (hnn : nn ≤ 20000) (hci : ¬ ci = 2) : Met l y_M_covered (sbw y_M_covered b_M_covered 5 none) rm_M_coveredA (sbPc D cI cL cB tS tF [.ref mo, .int (nI nn)] sz [(mo, .inr (7, mFs thr a1 a2 a3 (nI lt) (nI lb) (nI lz) ci a4 a5 a6 nu bk se op fa a7 a8 a9 a10 a11 (nI rn) kh kl sh sl a12 a13 a14 a15 a16 a17 a18 a19 a20)), (a7, .inl (cI, 256, .inl (nF gS))), (a8, .inl (cI, 240, .inl (nF gr))), (a9, .inl (cI, 16, .inl (nF gs))), (a10, .inl (cI, 16, .inl (nF gm))), (a6, .inl (cI, 12, .inl (nF gn))), (a1, .inl (cI, 98816, .inl (nF gt))), (a2, .inl (cI, 98816, .inl (nF gx)))]) (sbQv D (fun (_ : Unit) => True) (fun (_ : Unit) => [(mo, .inr (7, mFs thr a1 a2 a3 (nI lt) (nI nn) (nI lz) ci a4 a5 a6 nu (bk + nI ((nn + 16 - 1) / 16)) se op fa a7 a8 a9 a10 a11 (nI rn) kh kl sh sl a12 a13 a14 a15 a16 a17 a18 a19 a20)), (a7, .inl (cI, 256, .inl (nF gS))), (a8, .inl (cI, 240, .inl (nF gr))), (a9, .inl (cI, 16, .inl (nF ((cvAI gS gr rn gn gt nn ((nn + 15) / 16) (gs, gm, gx)).1)))), (a10, .inl (cI, 16, .inl (nF ((cvAI gS gr rn gn gt nn ((nn + 15) / 16) (gs, gm, gx)).2.1)))), (a6, .inl (cI, 12, .inl (nF gn))), (a1, .inl (cI, 98816, .inl (nF gt))), (a2, .inl (cI, 98816, .inl (nF ((cvAI gS gr rn gn gt nn ((nn + 15) / 16) (gs, gm, gx)).2.2))))]) (va_A [(mo, .inr (7, mFs thr a1 a2 a3 (nI lt) (nI lb) (nI lz) ci a4 a5 a6 nu bk se op fa a7 a8 a9 a10 a11 (nI rn) kh kl sh sl a12 a13 a14 a15 a16 a17 a18 a19 a20)), (a7, .inl (cI, 256, .inl (nF gS))), (a8, .inl (cI, 240, .inl (nF gr))), (a9, .inl (cI, 16, .inl (nF gs))), (a10, .inl (cI, 16, .inl (nF gm))), (a6, .inl (cI, 12, .inl (nF gn))), (a1, .inl (cI, 98816, .inl (nF gt))), (a2, .inl (cI, 98816, .inl (nF gx)))] sz)) 0 0 (va_A [(mo, .inr (7, mFs thr a1 a2 a3 (nI lt) (nI lb) (nI lz) ci a4 a5 a6 nu bk se op fa a7 a8 a9 a10 a11 (nI rn) kh kl sh sl a12 a13 a14 a15 a16 a17 a18 a19 a20)), (a7, .inl (cI, 256, .inl (nF gS))), (a8, .inl (cI, 240, .inl (nF gr))), (a9, .inl (cI, 16, .inl (nF gs))), (a10, .inl (cI, 16, .inl (nF gm))), (a6, .inl (cI, 12, .inl (nF gn))), (a1, .inl (cI, 98816, .inl (nF gt))), (a2, .inl (cI, 98816, .inl (nF gx)))] sz) := by
  refine sb_ofW (y := y_M_covered) (maxL := 5) (av := [.ref mo, .int (nI nn)]) (Qc := fun A => (sbQv D (fun (_ : Unit) => True) (fun (_ : Unit) => [(mo, .inr (7, mFs thr a1 a2 a3 (nI lt) (nI nn) (nI lz) ci a4 a5 a6 nu (bk + nI ((nn + 16 - 1) / 16)) se op fa a7 a8 a9 a10 a11 (nI rn) kh kl sh sl a12 a13 a14 a15 a16 a17 a18 a19 a20)), (a7, .inl (cI, 256, .inl (nF gS))), (a8, .inl (cI, 240, .inl (nF gr))), (a9, .inl (cI, 16, .inl (nF ((cvAI gS gr rn gn gt nn ((nn + 15) / 16) (gs, gm, gx)).1)))), (a10, .inl (cI, 16, .inl (nF ((cvAI gS gr rn gn gt nn ((nn + 15) / 16) (gs, gm, gx)).2.1)))), (a6, .inl (cI, 12, .inl (nF gn))), (a1, .inl (cI, 98816, .inl (nF gt))), (a2, .inl (cI, 98816, .inl (nF ((cvAI gS gr rn gn gt nn ((nn + 15) / 16) (gs, gm, gx)).2.2))))]) A)) (by decide) (Nat.le_of_ble_eq_true rfl) ?_
  intro p e s m args below meth c A ls hx hb hr hml hts hown hlocks hin hsz hP hG hD hA hS hl
  have hl : lv_has ls 5 [(0, .ref mo), (1, .int (nI nn))] := hl
  refine lv_aload_n hx hb d_M_covered_0 rfl (lv_at hl 0 rfl) ?_
  refine va_get (D := D) (ci := 7) (v := .int ci) (C := R_M) (T := F_M) (N := 35) hx hb hts in_M hown hG.1 hP 0 rfl rfl 7 (by decide) (hts _ k_704) (fun _ h9 => h9) rfl d_M_covered_1 ?_
  refine lv_iconst (v := 2) hx hb d_M_covered_4 (by decide) ?_
  refine lv_icmp_ne (tgt := 13) hx hb d_M_covered_5 (by decide) (fun c_1 => ?_) (fun c_1 => absurd c_1 hci)
  refine lv_bipush (v := 16) hx hb d_M_covered_13 (by decide) ?_
  refine lv_istore_n (lv' := [(2, .int 16), (0, .ref mo), (1, .int (nI nn))]) hx hb d_M_covered_15 rfl hl (by decide) rfl (fun ls hl => ?_)
  refine lv_iconst (v := 0) hx hb d_M_covered_16 (by decide) ?_
  refine lv_istore_n (lv' := [(3, .int 0), (2, .int 16), (0, .ref mo), (1, .int (nI nn))]) hx hb d_M_covered_17 rfl hl (by decide) rfl (fun ls hl => ?_)
  have lp1 : ∀ (d1 i : Nat), i + d1 = (nn + 15) / 16 → ∀ (H : Heap) (locs : List Loc) (ls : Array Slot), va_P D vwCl [(mo, .inr (7, mFs thr a1 a2 a3 (nI lt) (nI lb) (nI lz) ci a4 a5 a6 nu bk se op fa a7 a8 a9 a10 a11 (nI rn) kh kl sh sl a12 a13 a14 a15 a16 a17 a18 a19 a20)), (a7, .inl (cI, 256, .inl (nF gS))), (a8, .inl (cI, 240, .inl (nF gr))), (a9, .inl (cI, 16, .inl (nF ((cvAI gS gr rn gn gt nn i (gs, gm, gx)).1)))), (a10, .inl (cI, 16, .inl (nF ((cvAI gS gr rn gn gt nn i (gs, gm, gx)).2.1)))), (a6, .inl (cI, 12, .inl (nF gn))), (a1, .inl (cI, 98816, .inl (nF gt))), (a2, .inl (cI, 98816, .inl (nF ((cvAI gS gr rn gn gt nn i (gs, gm, gx)).2.2))))] H → va_D A [(mo, .inr (7, mFs thr a1 a2 a3 (nI lt) (nI lb) (nI lz) ci a4 a5 a6 nu bk se op fa a7 a8 a9 a10 a11 (nI rn) kh kl sh sl a12 a13 a14 a15 a16 a17 a18 a19 a20)), (a7, .inl (cI, 256, .inl (nF gS))), (a8, .inl (cI, 240, .inl (nF gr))), (a9, .inl (cI, 16, .inl (nF ((cvAI gS gr rn gn gt nn i (gs, gm, gx)).1)))), (a10, .inl (cI, 16, .inl (nF ((cvAI gS gr rn gn gt nn i (gs, gm, gx)).2.1)))), (a6, .inl (cI, 12, .inl (nF gn))), (a1, .inl (cI, 98816, .inl (nF gt))), (a2, .inl (cI, 98816, .inl (nF ((cvAI gS gr rn gn gt nn i (gs, gm, gx)).2.2))))] → va_S A s.heap H locs → lv_has ls 5 [(3, .int (nI (16 * i))), (2, .int 16), (0, .ref mo), (1, .int (nI nn))] → W p l e rm_M_coveredA s m args below meth c H locs 0 0 (MQ below (sbQv D (fun (_ : Unit) => True) (fun (_ : Unit) => [(mo, .inr (7, mFs thr a1 a2 a3 (nI lt) (nI nn) (nI lz) ci a4 a5 a6 nu (bk + nI ((nn + 16 - 1) / 16)) se op fa a7 a8 a9 a10 a11 (nI rn) kh kl sh sl a12 a13 a14 a15 a16 a17 a18 a19 a20)), (a7, .inl (cI, 256, .inl (nF gS))), (a8, .inl (cI, 240, .inl (nF gr))), (a9, .inl (cI, 16, .inl (nF ((cvAI gS gr rn gn gt nn ((nn + 15) / 16) (gs, gm, gx)).1)))), (a10, .inl (cI, 16, .inl (nF ((cvAI gS gr rn gn gt nn ((nn + 15) / 16) (gs, gm, gx)).2.1)))), (a6, .inl (cI, 12, .inl (nF gn))), (a1, .inl (cI, 98816, .inl (nF gt))), (a2, .inl (cI, 98816, .inl (nF ((cvAI gS gr rn gn gt nn ((nn + 15) / 16) (gs, gm, gx)).2.2))))]) A) args s 0 0 A) (F0 m 18 ls []) := by
    intro d1
    induction d1 with
    | zero =>
      intro i hi1 H locs ls hP hD hS hl
      obtain rfl : (nn + 15) / 16 = i := by omega
      have hB := cvAI_B hgS hgr hgn hgt rn nn ((nn + 15) / 16) (q := (gs, gm, gx)) ⟨hgs, hgm, hgx⟩
      refine lv_iload_n hx hb d_M_covered_18 rfl (lv_at hl 0 rfl) ?_
      refine lv_iload_n hx hb d_M_covered_19 rfl (lv_at hl 3 rfl) ?_
      refine lv_icmp_ge (tgt := 128) hx hb d_M_covered_20 (by decide) (fun c_2 => ?_) (fun c_2 => absurd (sb_geT (a := 16 * ((nn + 15) / 16)) (b := nn) rfl rfl (by omega) (by omega) (by omega)) c_2)
      refine lv_aload_n hx hb d_M_covered_128 rfl (lv_at hl 2 rfl) ?_
      refine lv_iload_n hx hb d_M_covered_129 rfl (lv_at hl 3 rfl) ?_
      refine va_put (D := D) (ci := 7) (v := .int (nI nn)) (ty := .int) (C := R_M) (T := F_M) (N := 35) hx hb hts in_M tq_M tq_M_ok nq_M hown hG.1 hP hD hS 0 rfl rfl 5 (by decide) (hts _ k_702) (fun _ h9 => h9) rfl (by decide +kernel) rfl rfl (Nat.le_of_ble_eq_true rfl) d_M_covered_130 (fun H locs hP hD hS => ?_)
      have hP : va_P D vwCl [(mo, .inr (7, mFs thr a1 a2 a3 (nI lt) (nI nn) (nI lz) ci a4 a5 a6 nu bk se op fa a7 a8 a9 a10 a11 (nI rn) kh kl sh sl a12 a13 a14 a15 a16 a17 a18 a19 a20)), (a7, .inl (cI, 256, .inl (nF gS))), (a8, .inl (cI, 240, .inl (nF gr))), (a9, .inl (cI, 16, .inl (nF ((cvAI gS gr rn gn gt nn ((nn + 15) / 16) (gs, gm, gx)).1)))), (a10, .inl (cI, 16, .inl (nF ((cvAI gS gr rn gn gt nn ((nn + 15) / 16) (gs, gm, gx)).2.1)))), (a6, .inl (cI, 12, .inl (nF gn))), (a1, .inl (cI, 98816, .inl (nF gt))), (a2, .inl (cI, 98816, .inl (nF ((cvAI gS gr rn gn gt nn ((nn + 15) / 16) (gs, gm, gx)).2.2))))] H := hP
      have hD : va_D A [(mo, .inr (7, mFs thr a1 a2 a3 (nI lt) (nI nn) (nI lz) ci a4 a5 a6 nu bk se op fa a7 a8 a9 a10 a11 (nI rn) kh kl sh sl a12 a13 a14 a15 a16 a17 a18 a19 a20)), (a7, .inl (cI, 256, .inl (nF gS))), (a8, .inl (cI, 240, .inl (nF gr))), (a9, .inl (cI, 16, .inl (nF ((cvAI gS gr rn gn gt nn ((nn + 15) / 16) (gs, gm, gx)).1)))), (a10, .inl (cI, 16, .inl (nF ((cvAI gS gr rn gn gt nn ((nn + 15) / 16) (gs, gm, gx)).2.1)))), (a6, .inl (cI, 12, .inl (nF gn))), (a1, .inl (cI, 98816, .inl (nF gt))), (a2, .inl (cI, 98816, .inl (nF ((cvAI gS gr rn gn gt nn ((nn + 15) / 16) (gs, gm, gx)).2.2))))] := hD
      refine lv_aload_n hx hb d_M_covered_133 rfl (lv_at hl 2 rfl) ?_
      refine lv_dup hx hb d_M_covered_134 rfl ?_
      refine va_get (D := D) (ci := 7) (v := .int bk) (C := R_M) (T := F_M) (N := 35) hx hb hts in_M hown hG.1 hP 0 rfl rfl 12 (by decide) (hts _ k_709) (fun _ h9 => h9) rfl d_M_covered_135 ?_
      refine lv_iload_n hx hb d_M_covered_138 rfl (lv_at hl 3 rfl) ?_
      refine lv_iload_n hx hb d_M_covered_139 rfl (lv_at hl 1 rfl) ?_
      refine lv_iadd hx hb d_M_covered_140 ?_
      refine sb_topn (nn + 16) (nI_add nn 16) ?_
      refine lv_iconst (v := 1) hx hb d_M_covered_141 (by decide) ?_
      refine lv_isub hx hb d_M_covered_142 ?_
      refine sb_topn ((nn + 16) - 1) (sb_sub (a := nn + 16) (b := 1) (by omega) rfl rfl) ?_
      refine lv_iload_n hx hb d_M_covered_143 rfl (lv_at hl 1 rfl) ?_
      refine lv_idiv hx hb d_M_covered_144 (by decide) ?_
      refine sb_topn (((nn + 16) - 1) / 16) (sb_div (a := (nn + 16) - 1) (b := 16) (by omega) (by omega) (by omega) rfl rfl) ?_
      refine lv_iadd hx hb d_M_covered_145 ?_
      refine lv_topi (fun x_3 ex_3 => ?_)
      refine va_put (D := D) (ci := 7) (v := .int x_3) (ty := .int) (C := R_M) (T := F_M) (N := 35) hx hb hts in_M tq_M tq_M_ok nq_M hown hG.1 hP hD hS 0 rfl rfl 12 (by decide) (hts _ k_709) (fun _ h9 => h9) rfl (by decide +kernel) rfl rfl (Nat.le_of_ble_eq_true rfl) d_M_covered_146 (fun H locs hP hD hS => ?_)
      have hP : va_P D vwCl [(mo, .inr (7, mFs thr a1 a2 a3 (nI lt) (nI nn) (nI lz) ci a4 a5 a6 nu x_3 se op fa a7 a8 a9 a10 a11 (nI rn) kh kl sh sl a12 a13 a14 a15 a16 a17 a18 a19 a20)), (a7, .inl (cI, 256, .inl (nF gS))), (a8, .inl (cI, 240, .inl (nF gr))), (a9, .inl (cI, 16, .inl (nF ((cvAI gS gr rn gn gt nn ((nn + 15) / 16) (gs, gm, gx)).1)))), (a10, .inl (cI, 16, .inl (nF ((cvAI gS gr rn gn gt nn ((nn + 15) / 16) (gs, gm, gx)).2.1)))), (a6, .inl (cI, 12, .inl (nF gn))), (a1, .inl (cI, 98816, .inl (nF gt))), (a2, .inl (cI, 98816, .inl (nF ((cvAI gS gr rn gn gt nn ((nn + 15) / 16) (gs, gm, gx)).2.2))))] H := hP
      have hD : va_D A [(mo, .inr (7, mFs thr a1 a2 a3 (nI lt) (nI nn) (nI lz) ci a4 a5 a6 nu x_3 se op fa a7 a8 a9 a10 a11 (nI rn) kh kl sh sl a12 a13 a14 a15 a16 a17 a18 a19 a20)), (a7, .inl (cI, 256, .inl (nF gS))), (a8, .inl (cI, 240, .inl (nF gr))), (a9, .inl (cI, 16, .inl (nF ((cvAI gS gr rn gn gt nn ((nn + 15) / 16) (gs, gm, gx)).1)))), (a10, .inl (cI, 16, .inl (nF ((cvAI gS gr rn gn gt nn ((nn + 15) / 16) (gs, gm, gx)).2.1)))), (a6, .inl (cI, 12, .inl (nF gn))), (a1, .inl (cI, 98816, .inl (nF gt))), (a2, .inl (cI, 98816, .inl (nF ((cvAI gS gr rn gn gt nn ((nn + 15) / 16) (gs, gm, gx)).2.2))))] := hD
      subst ex_3
      have hP9 := hP.sub (ws' := [(mo, .inr (7, mFs thr a1 a2 a3 (nI lt) (nI nn) (nI lz) ci a4 a5 a6 nu (bk + (nI (((nn + 16) - 1) / 16))) se op fa a7 a8 a9 a10 a11 (nI rn) kh kl sh sl a12 a13 a14 a15 a16 a17 a18 a19 a20)), (a7, .inl (cI, 256, .inl (nF gS))), (a8, .inl (cI, 240, .inl (nF gr))), (a9, .inl (cI, 16, .inl (nF ((cvAI gS gr rn gn gt nn ((nn + 15) / 16) (gs, gm, gx)).1)))), (a10, .inl (cI, 16, .inl (nF ((cvAI gS gr rn gn gt nn ((nn + 15) / 16) (gs, gm, gx)).2.1)))), (a6, .inl (cI, 12, .inl (nF gn))), (a1, .inl (cI, 98816, .inl (nF gt))), (a2, .inl (cI, 98816, .inl (nF ((cvAI gS gr rn gn gt nn ((nn + 15) / 16) (gs, gm, gx)).2.2))))]) [0, 1, 2, 3, 4, 5, 6, 7] rfl
      have hD9 := hD.sub (ws' := [(mo, .inr (7, mFs thr a1 a2 a3 (nI lt) (nI nn) (nI lz) ci a4 a5 a6 nu (bk + (nI (((nn + 16) - 1) / 16))) se op fa a7 a8 a9 a10 a11 (nI rn) kh kl sh sl a12 a13 a14 a15 a16 a17 a18 a19 a20)), (a7, .inl (cI, 256, .inl (nF gS))), (a8, .inl (cI, 240, .inl (nF gr))), (a9, .inl (cI, 16, .inl (nF ((cvAI gS gr rn gn gt nn ((nn + 15) / 16) (gs, gm, gx)).1)))), (a10, .inl (cI, 16, .inl (nF ((cvAI gS gr rn gn gt nn ((nn + 15) / 16) (gs, gm, gx)).2.1)))), (a6, .inl (cI, 12, .inl (nF gn))), (a1, .inl (cI, 98816, .inl (nF gt))), (a2, .inl (cI, 98816, .inl (nF ((cvAI gS gr rn gn gt nn ((nn + 15) / 16) (gs, gm, gx)).2.2))))]) [0, 1, 2, 3, 4, 5, 6, 7] (by decide) rfl
      exact W.vret hx hb hr (fun t ht hW => ⟨⟨(), rfl, trivial, by rw [ht]; exact hP9, hD9⟩, hS.F ht⟩) hS.2.2 d_M_covered_149
    | succ d1 ih1 =>
      intro i hi1 H locs ls hP hD hS hl
      have hB := cvAI_B hgS hgr hgn hgt rn nn i (q := (gs, gm, gx)) ⟨hgs, hgm, hgx⟩
      refine lv_iload_n hx hb d_M_covered_18 rfl (lv_at hl 0 rfl) ?_
      refine lv_iload_n hx hb d_M_covered_19 rfl (lv_at hl 3 rfl) ?_
      refine lv_icmp_ge (tgt := 128) hx hb d_M_covered_20 (by decide) (fun c_4 => absurd c_4 (sb_geF (a := 16 * i) (b := nn) rfl rfl (by omega) (by omega) (by omega))) (fun c_4 => ?_)
      refine lv_aload_n hx hb d_M_covered_23 rfl (lv_at hl 2 rfl) ?_
      refine va_get (D := D) (ci := 7) (v := .int ci) (C := R_M) (T := F_M) (N := 35) hx hb hts in_M hown hG.1 hP 0 rfl rfl 7 (by decide) (hts _ k_704) (fun _ h9 => h9) rfl d_M_covered_24 ?_
      refine lv_iconst (v := 2) hx hb d_M_covered_27 (by decide) ?_
      refine lv_icmp_ne (tgt := 44) hx hb d_M_covered_28 (by decide) (fun c_5 => ?_) (fun c_5 => absurd c_5 hci)
      refine lv_aload_n hx hb d_M_covered_44 rfl (lv_at hl 2 rfl) ?_
      refine lv_iconst (v := 2) hx hb d_M_covered_45 (by decide) ?_
      refine lv_iload_n hx hb d_M_covered_46 rfl (lv_at hl 0 rfl) ?_
      refine lv_bipush (v := 16) hx hb d_M_covered_47 (by decide) ?_
      refine lv_idiv hx hb d_M_covered_49 (by decide) ?_
      refine sb_topn ((16 * i) / 16) (sb_div (a := 16 * i) (b := 16) (by omega) (by omega) (by omega) rfl rfl) ?_
      refine lv_iadd hx hb d_M_covered_50 ?_
      refine sb_topn (2 + ((16 * i) / 16)) (nI_add 2 ((16 * i) / 16)) ?_
      refine sb_callv (wr := [(a1, .inl (cI, 98816, .inl (nF gt))), (a2, .inl (cI, 98816, .inl (nF ((cvAI gS gr rn gn gt nn i (gs, gm, gx)).2.2))))]) (va_runV (As := [.int (nI (2 + ((16 * i) / 16)))]) (rest := []) ⟨hx, hb, hml, hown, hts⟩ (c_M_counter l D cI cL cB tS tF mo a1 a2 a3 a4 a5 a6 a7 a8 a9 a10 a11 a12 a13 a14 a15 a16 a17 a18 a19 a20 thr ci bk se op fa lt lb lz rn nu kh kl sh sl gS gr ((cvAI gS gr rn gn gt nn i (gs, gm, gx)).1) ((cvAI gS gr rn gn gt nn i (gs, gm, gx)).2.1) gn (nI (2 + ((16 * i) / 16))) _ hgS hgr hB.1 hB.2.1 hgn hrn) (cwV 1 hts (sb_gV k_871 k_873 k_13 k_30 k_874) rfl rfl rfl (by decide +kernel) ⟨Nat.le_of_ble_eq_true rfl, Nat.le_of_ble_eq_true rfl⟩) (sb_pV hG hP hD hS hA [0, 1, 2, 3, 4, 5] (by decide) rfl (ci := 7) (q0 := 0) rfl rfl) rfl rfl hl.1 rfl (lv_room (Nat.le_of_ble_eq_true rfl)) d_M_covered_51 ⟨Nat.le_of_ble_eq_true rfl, Nat.le_of_ble_eq_true rfl⟩) hP hD hS hA [0, 1, 2, 3, 4, 5] [6, 7] rfl rfl (by decide) (by decide) (fun u H locs hw_6 hP hD hS => ?_)
      have hP : va_P D vwCl [(a1, .inl (cI, 98816, .inl (nF gt))), (a2, .inl (cI, 98816, .inl (nF ((cvAI gS gr rn gn gt nn i (gs, gm, gx)).2.2)))), (mo, .inr (7, mFs thr a1 a2 a3 (nI lt) (nI lb) (nI lz) ci a4 a5 a6 nu bk se op fa a7 a8 a9 a10 a11 (nI rn) kh kl sh sl a12 a13 a14 a15 a16 a17 a18 a19 a20)), (a7, .inl (cI, 256, .inl (nF gS))), (a8, .inl (cI, 240, .inl (nF gr))), (a9, .inl (cI, 16, .inl (nF ((turnN gS gr rn (cntN gn (nI (2 + ((16 * i) / 16))) ((cvAI gS gr rn gn gt nn i (gs, gm, gx)).1)) ((cvAI gS gr rn gn gt nn i (gs, gm, gx)).2.1) rn).1)))), (a10, .inl (cI, 16, .inl (nF ((turnN gS gr rn (cntN gn (nI (2 + ((16 * i) / 16))) ((cvAI gS gr rn gn gt nn i (gs, gm, gx)).1)) ((cvAI gS gr rn gn gt nn i (gs, gm, gx)).2.1) rn).2)))), (a6, .inl (cI, 12, .inl (nF gn)))] H := hP
      have hD : va_D A [(a1, .inl (cI, 98816, .inl (nF gt))), (a2, .inl (cI, 98816, .inl (nF ((cvAI gS gr rn gn gt nn i (gs, gm, gx)).2.2)))), (mo, .inr (7, mFs thr a1 a2 a3 (nI lt) (nI lb) (nI lz) ci a4 a5 a6 nu bk se op fa a7 a8 a9 a10 a11 (nI rn) kh kl sh sl a12 a13 a14 a15 a16 a17 a18 a19 a20)), (a7, .inl (cI, 256, .inl (nF gS))), (a8, .inl (cI, 240, .inl (nF gr))), (a9, .inl (cI, 16, .inl (nF ((turnN gS gr rn (cntN gn (nI (2 + ((16 * i) / 16))) ((cvAI gS gr rn gn gt nn i (gs, gm, gx)).1)) ((cvAI gS gr rn gn gt nn i (gs, gm, gx)).2.1) rn).1)))), (a10, .inl (cI, 16, .inl (nF ((turnN gS gr rn (cntN gn (nI (2 + ((16 * i) / 16))) ((cvAI gS gr rn gn gt nn i (gs, gm, gx)).1)) ((cvAI gS gr rn gn gt nn i (gs, gm, gx)).2.1) rn).2)))), (a6, .inl (cI, 12, .inl (nF gn)))] := hD
      obtain ⟨tv, htv⟩ : ∃ x : N2, x = turnN gS gr rn (cntN gn (nI (2 + (16 * i / 16))) (cvAI gS gr rn gn gt nn i (gs, gm, gx)).1) (cvAI gS gr rn gn gt nn i (gs, gm, gx)).2.1 rn := ⟨_, rfl⟩
      rw [← htv] at hP hD
      have hP : va_P D vwCl [(a1, .inl (cI, 98816, .inl (nF gt))), (a2, .inl (cI, 98816, .inl (nF ((cvAI gS gr rn gn gt nn i (gs, gm, gx)).2.2)))), (mo, .inr (7, mFs thr a1 a2 a3 (nI lt) (nI lb) (nI lz) ci a4 a5 a6 nu bk se op fa a7 a8 a9 a10 a11 (nI rn) kh kl sh sl a12 a13 a14 a15 a16 a17 a18 a19 a20)), (a7, .inl (cI, 256, .inl (nF gS))), (a8, .inl (cI, 240, .inl (nF gr))), (a9, .inl (cI, 16, .inl (nF tv.1))), (a10, .inl (cI, 16, .inl (nF tv.2))), (a6, .inl (cI, 12, .inl (nF gn)))] H := hP
      have hD : va_D A [(a1, .inl (cI, 98816, .inl (nF gt))), (a2, .inl (cI, 98816, .inl (nF ((cvAI gS gr rn gn gt nn i (gs, gm, gx)).2.2)))), (mo, .inr (7, mFs thr a1 a2 a3 (nI lt) (nI lb) (nI lz) ci a4 a5 a6 nu bk se op fa a7 a8 a9 a10 a11 (nI rn) kh kl sh sl a12 a13 a14 a15 a16 a17 a18 a19 a20)), (a7, .inl (cI, 256, .inl (nF gS))), (a8, .inl (cI, 240, .inl (nF gr))), (a9, .inl (cI, 16, .inl (nF tv.1))), (a10, .inl (cI, 16, .inl (nF tv.2))), (a6, .inl (cI, 12, .inl (nF gn)))] := hD
      refine lv_iconst (v := 0) hx hb d_M_covered_54 (by decide) ?_
      refine lv_istore (lv' := [(4, .int 0), (3, .int (nI (16 * i))), (2, .int 16), (0, .ref mo), (1, .int (nI nn))]) hx hb d_M_covered_55 hl (by decide) rfl (fun ls hl => ?_)
      have lp2 : ∀ (d2 k : Nat), k + d2 = min 16 (nn - 16 * i) → ∀ (H : Heap) (locs : List Loc) (ls : Array Slot), va_P D vwCl [(a1, .inl (cI, 98816, .inl (nF gt))), (a2, .inl (cI, 98816, .inl (nF (iter (xS gt tv.1 (16 * i)) k ((cvAI gS gr rn gn gt nn i (gs, gm, gx)).2.2))))), (mo, .inr (7, mFs thr a1 a2 a3 (nI lt) (nI lb) (nI lz) ci a4 a5 a6 nu bk se op fa a7 a8 a9 a10 a11 (nI rn) kh kl sh sl a12 a13 a14 a15 a16 a17 a18 a19 a20)), (a7, .inl (cI, 256, .inl (nF gS))), (a8, .inl (cI, 240, .inl (nF gr))), (a9, .inl (cI, 16, .inl (nF tv.1))), (a10, .inl (cI, 16, .inl (nF tv.2))), (a6, .inl (cI, 12, .inl (nF gn)))] H → va_D A [(a1, .inl (cI, 98816, .inl (nF gt))), (a2, .inl (cI, 98816, .inl (nF (iter (xS gt tv.1 (16 * i)) k ((cvAI gS gr rn gn gt nn i (gs, gm, gx)).2.2))))), (mo, .inr (7, mFs thr a1 a2 a3 (nI lt) (nI lb) (nI lz) ci a4 a5 a6 nu bk se op fa a7 a8 a9 a10 a11 (nI rn) kh kl sh sl a12 a13 a14 a15 a16 a17 a18 a19 a20)), (a7, .inl (cI, 256, .inl (nF gS))), (a8, .inl (cI, 240, .inl (nF gr))), (a9, .inl (cI, 16, .inl (nF tv.1))), (a10, .inl (cI, 16, .inl (nF tv.2))), (a6, .inl (cI, 12, .inl (nF gn)))] → va_S A s.heap H locs → lv_has ls 5 [(4, .int (nI k)), (3, .int (nI (16 * i))), (2, .int 16), (0, .ref mo), (1, .int (nI nn))] → W p l e rm_M_coveredA s m args below meth c H locs 0 0 (MQ below (sbQv D (fun (_ : Unit) => True) (fun (_ : Unit) => [(mo, .inr (7, mFs thr a1 a2 a3 (nI lt) (nI nn) (nI lz) ci a4 a5 a6 nu (bk + nI ((nn + 16 - 1) / 16)) se op fa a7 a8 a9 a10 a11 (nI rn) kh kl sh sl a12 a13 a14 a15 a16 a17 a18 a19 a20)), (a7, .inl (cI, 256, .inl (nF gS))), (a8, .inl (cI, 240, .inl (nF gr))), (a9, .inl (cI, 16, .inl (nF ((cvAI gS gr rn gn gt nn ((nn + 15) / 16) (gs, gm, gx)).1)))), (a10, .inl (cI, 16, .inl (nF ((cvAI gS gr rn gn gt nn ((nn + 15) / 16) (gs, gm, gx)).2.1)))), (a6, .inl (cI, 12, .inl (nF gn))), (a1, .inl (cI, 98816, .inl (nF gt))), (a2, .inl (cI, 98816, .inl (nF ((cvAI gS gr rn gn gt nn ((nn + 15) / 16) (gs, gm, gx)).2.2))))]) A) args s 0 0 A) (F0 m 57 ls []) := by
        intro d2
        induction d2 with
        | zero =>
          intro k hi2 H locs ls hP hD hS hl
          obtain rfl : min 16 (nn - 16 * i) = k := by omega
          have hmn1 : min 16 (nn - 16 * i) ≤ 16 := Nat.min_le_left _ _
          have hmn2 : min 16 (nn - 16 * i) ≤ nn - 16 * i := Nat.min_le_right _ _
          have hmn3 : min 16 (nn - 16 * i) = 16 ∨ min 16 (nn - 16 * i) = nn - 16 * i := by omega
          refine lv_iload hx hb d_M_covered_57 (lv_at hl 0 rfl) ?_
          refine lv_iload_n hx hb d_M_covered_59 rfl (lv_at hl 2 rfl) ?_
          refine lv_icmp_ge (tgt := 121) hx hb d_M_covered_60 (by decide) (fun c_7 => ?_) (fun c_7 => ?_)
          · have c_7 := (sb_geI (a := min 16 (nn - 16 * i)) (b := 16) rfl rfl (by omega) (by omega)).mp c_7
            refine lv_iload_n hx hb d_M_covered_121 rfl (lv_at hl 1 rfl) ?_
            refine lv_iload_n hx hb d_M_covered_122 rfl (lv_at hl 2 rfl) ?_
            refine lv_iadd hx hb d_M_covered_123 ?_
            refine sb_topn ((16 * i) + 16) (nI_add (16 * i) 16) ?_
            refine sb_topn ((16 * i) + 16) rfl ?_
            refine lv_istore_n (lv' := [(3, .int (nI ((16 * i) + 16))), (4, .int (nI (min 16 (nn - 16 * i)))), (2, .int 16), (0, .ref mo), (1, .int (nI nn))]) hx hb d_M_covered_124 rfl hl (by decide) rfl (fun ls hl => ?_)
            refine lv_goto (tgt := 18) hx hb d_M_covered_125 (by decide) ?_
            have hE : (cvAI gS gr rn gn gt nn (i + 1) (gs, gm, gx)) = (tv.1, tv.2, iter (xS gt tv.1 (16 * i)) (min 16 (nn - 16 * i)) ((cvAI gS gr rn gn gt nn i (gs, gm, gx)).2.2)) := (by rw [htv]; rfl)
            have ih' := ih1 (i + 1) (by omega)
            rw [hE] at ih'
            rw [show nI ((16 * i) + 16) = nI (16 * (i + 1)) from congrArg nI (by omega)] at hl
            exact ih' _ _ ls (hP.sub [2, 3, 4, 5, 6, 7, 0, 1] rfl) (hD.sub [2, 3, 4, 5, 6, 7, 0, 1] (by decide) rfl) hS (lv_sub hl [0, 2, 3, 4] rfl)
          · have c_7 := mt (sb_geI (a := min 16 (nn - 16 * i)) (b := 16) rfl rfl (by omega) (by omega)).mpr c_7
            refine lv_iload_n hx hb d_M_covered_63 rfl (lv_at hl 1 rfl) ?_
            refine lv_iload hx hb d_M_covered_64 (lv_at hl 0 rfl) ?_
            refine lv_iadd hx hb d_M_covered_66 ?_
            refine sb_topn ((16 * i) + (min 16 (nn - 16 * i))) (nI_add (16 * i) (min 16 (nn - 16 * i))) ?_
            refine lv_iload_n hx hb d_M_covered_67 rfl (lv_at hl 4 rfl) ?_
            refine lv_icmp_ge (tgt := 121) hx hb d_M_covered_68 (by decide) (fun c_8 => ?_) (fun c_8 => absurd (sb_geT (a := (16 * i) + (min 16 (nn - 16 * i))) (b := nn) rfl rfl (by omega) (by omega) (by omega)) c_8)
            refine lv_iload_n hx hb d_M_covered_121 rfl (lv_at hl 1 rfl) ?_
            refine lv_iload_n hx hb d_M_covered_122 rfl (lv_at hl 2 rfl) ?_
            refine lv_iadd hx hb d_M_covered_123 ?_
            refine sb_topn ((16 * i) + 16) (nI_add (16 * i) 16) ?_
            refine sb_topn ((16 * i) + 16) rfl ?_
            refine lv_istore_n (lv' := [(3, .int (nI ((16 * i) + 16))), (4, .int (nI (min 16 (nn - 16 * i)))), (2, .int 16), (0, .ref mo), (1, .int (nI nn))]) hx hb d_M_covered_124 rfl hl (by decide) rfl (fun ls hl => ?_)
            refine lv_goto (tgt := 18) hx hb d_M_covered_125 (by decide) ?_
            have hE : (cvAI gS gr rn gn gt nn (i + 1) (gs, gm, gx)) = (tv.1, tv.2, iter (xS gt tv.1 (16 * i)) (min 16 (nn - 16 * i)) ((cvAI gS gr rn gn gt nn i (gs, gm, gx)).2.2)) := (by rw [htv]; rfl)
            have ih' := ih1 (i + 1) (by omega)
            rw [hE] at ih'
            rw [show nI ((16 * i) + 16) = nI (16 * (i + 1)) from congrArg nI (by omega)] at hl
            exact ih' _ _ ls (hP.sub [2, 3, 4, 5, 6, 7, 0, 1] rfl) (hD.sub [2, 3, 4, 5, 6, 7, 0, 1] (by decide) rfl) hS (lv_sub hl [0, 2, 3, 4] rfl)
        | succ d2 ih2 =>
          intro k hi2 H locs ls hP hD hS hl
          have hmn1 : min 16 (nn - 16 * i) ≤ 16 := Nat.min_le_left _ _
          have hmn2 : min 16 (nn - 16 * i) ≤ nn - 16 * i := Nat.min_le_right _ _
          have hmn3 : min 16 (nn - 16 * i) = 16 ∨ min 16 (nn - 16 * i) = nn - 16 * i := by omega
          refine lv_iload hx hb d_M_covered_57 (lv_at hl 0 rfl) ?_
          refine lv_iload_n hx hb d_M_covered_59 rfl (lv_at hl 2 rfl) ?_
          refine lv_icmp_ge (tgt := 121) hx hb d_M_covered_60 (by decide) (fun c_9 => absurd c_9 (sb_geF (a := k) (b := 16) rfl rfl (by omega) (by omega) (by omega))) (fun c_9 => ?_)
          refine lv_iload_n hx hb d_M_covered_63 rfl (lv_at hl 1 rfl) ?_
          refine lv_iload hx hb d_M_covered_64 (lv_at hl 0 rfl) ?_
          refine lv_iadd hx hb d_M_covered_66 ?_
          refine sb_topn ((16 * i) + k) (nI_add (16 * i) k) ?_
          refine lv_iload_n hx hb d_M_covered_67 rfl (lv_at hl 4 rfl) ?_
          refine lv_icmp_ge (tgt := 121) hx hb d_M_covered_68 (by decide) (fun c_10 => absurd c_10 (sb_geF (a := (16 * i) + k) (b := nn) rfl rfl (by omega) (by omega) (by omega))) (fun c_10 => ?_)
          refine lv_aload_n hx hb d_M_covered_71 rfl (lv_at hl 3 rfl) ?_
          refine va_get (D := D) (ci := 7) (v := .ref a2) (C := R_M) (T := F_M) (N := 35) hx hb hts in_M hown hG.1 hP 2 rfl rfl 2 (by decide) (hts _ k_699) (fun _ h9 => h9) rfl d_M_covered_72 ?_
          refine lv_iload_n hx hb d_M_covered_75 rfl (lv_at hl 1 rfl) ?_
          refine lv_iload hx hb d_M_covered_76 (lv_at hl 0 rfl) ?_
          refine lv_iadd hx hb d_M_covered_78 ?_
          refine sb_topn ((16 * i) + k) (nI_add (16 * i) k) ?_
          refine lv_aload_n hx hb d_M_covered_79 rfl (lv_at hl 3 rfl) ?_
          refine va_get (D := D) (ci := 7) (v := .ref a1) (C := R_M) (T := F_M) (N := 35) hx hb hts in_M hown hG.1 hP 2 rfl rfl 1 (by decide) (hts _ k_698) (fun _ h9 => h9) rfl d_M_covered_80 ?_
          refine lv_iload_n hx hb d_M_covered_83 rfl (lv_at hl 1 rfl) ?_
          refine lv_iload hx hb d_M_covered_84 (lv_at hl 0 rfl) ?_
          refine lv_iadd hx hb d_M_covered_86 ?_
          refine sb_topn ((16 * i) + k) (nI_add (16 * i) k) ?_
          refine sb_ild hx hb hG.1 hP 0 rfl ((16 * i) + k) rfl (by omega) (by omega) d_M_covered_87 ?_
          refine lv_aload_n hx hb d_M_covered_88 rfl (lv_at hl 3 rfl) ?_
          refine va_get (D := D) (ci := 7) (v := .int ci) (C := R_M) (T := F_M) (N := 35) hx hb hts in_M hown hG.1 hP 2 rfl rfl 7 (by decide) (hts _ k_704) (fun _ h9 => h9) rfl d_M_covered_89 ?_
          refine lv_iconst (v := 2) hx hb d_M_covered_92 (by decide) ?_
          refine lv_icmp_ne (tgt := 106) hx hb d_M_covered_93 (by decide) (fun c_11 => ?_) (fun c_11 => absurd c_11 hci)
          refine lv_aload_n hx hb d_M_covered_106 rfl (lv_at hl 3 rfl) ?_
          refine va_get (D := D) (ci := 7) (v := .ref a9) (C := R_M) (T := F_M) (N := 35) hx hb hts in_M hown hG.1 hP 2 rfl rfl 18 (by decide) (hts _ k_715) (fun _ h9 => h9) rfl d_M_covered_107 ?_
          refine lv_iload hx hb d_M_covered_110 (lv_at hl 0 rfl) ?_
          refine sb_ild hx hb hG.1 hP 5 rfl k rfl (by omega) (by omega) d_M_covered_112 ?_
          refine lv_ixor hx hb d_M_covered_113 ?_
          refine sb_topn ((gt ((16 * i) + k)) ^^^ (tv.1 k)) (sb_xor (a := gt ((16 * i) + k)) (b := tv.1 k) rfl rfl) ?_
          refine sb_topn ((gt ((16 * i) + k)) ^^^ (tv.1 k)) rfl ?_
          refine sb_ist hx hb hG.1 hP hD hS 1 rfl ((16 * i) + k) rfl (by omega) (by omega) d_M_covered_114 (fun f_12 H locs ef_12 hP hD hS => ?_)
          have hP : va_P D vwCl [(a1, .inl (cI, 98816, .inl (nF gt))), (a2, .inl (cI, 98816, .inl f_12)), (mo, .inr (7, mFs thr a1 a2 a3 (nI lt) (nI lb) (nI lz) ci a4 a5 a6 nu bk se op fa a7 a8 a9 a10 a11 (nI rn) kh kl sh sl a12 a13 a14 a15 a16 a17 a18 a19 a20)), (a7, .inl (cI, 256, .inl (nF gS))), (a8, .inl (cI, 240, .inl (nF gr))), (a9, .inl (cI, 16, .inl (nF tv.1))), (a10, .inl (cI, 16, .inl (nF tv.2))), (a6, .inl (cI, 12, .inl (nF gn)))] H := hP
          have hD : va_D A [(a1, .inl (cI, 98816, .inl (nF gt))), (a2, .inl (cI, 98816, .inl f_12)), (mo, .inr (7, mFs thr a1 a2 a3 (nI lt) (nI lb) (nI lz) ci a4 a5 a6 nu bk se op fa a7 a8 a9 a10 a11 (nI rn) kh kl sh sl a12 a13 a14 a15 a16 a17 a18 a19 a20)), (a7, .inl (cI, 256, .inl (nF gS))), (a8, .inl (cI, 240, .inl (nF gr))), (a9, .inl (cI, 16, .inl (nF tv.1))), (a10, .inl (cI, 16, .inl (nF tv.2))), (a6, .inl (cI, 12, .inl (nF gn)))] := hD
          obtain rfl : f_12 = nF (updN (iter (xS gt tv.1 (16 * i)) k ((cvAI gS gr rn gn gt nn i (gs, gm, gx)).2.2)) ((16 * i) + k) ((gt ((16 * i) + k)) ^^^ (tv.1 k))) := ef_12.trans (nF_set _ _ _)
          have hP : va_P D vwCl [(a1, .inl (cI, 98816, .inl (nF gt))), (a2, .inl (cI, 98816, .inl (nF (updN (iter (xS gt tv.1 (16 * i)) k ((cvAI gS gr rn gn gt nn i (gs, gm, gx)).2.2)) ((16 * i) + k) ((gt ((16 * i) + k)) ^^^ (tv.1 k)))))), (mo, .inr (7, mFs thr a1 a2 a3 (nI lt) (nI lb) (nI lz) ci a4 a5 a6 nu bk se op fa a7 a8 a9 a10 a11 (nI rn) kh kl sh sl a12 a13 a14 a15 a16 a17 a18 a19 a20)), (a7, .inl (cI, 256, .inl (nF gS))), (a8, .inl (cI, 240, .inl (nF gr))), (a9, .inl (cI, 16, .inl (nF tv.1))), (a10, .inl (cI, 16, .inl (nF tv.2))), (a6, .inl (cI, 12, .inl (nF gn)))] H := hP
          have hD : va_D A [(a1, .inl (cI, 98816, .inl (nF gt))), (a2, .inl (cI, 98816, .inl (nF (updN (iter (xS gt tv.1 (16 * i)) k ((cvAI gS gr rn gn gt nn i (gs, gm, gx)).2.2)) ((16 * i) + k) ((gt ((16 * i) + k)) ^^^ (tv.1 k)))))), (mo, .inr (7, mFs thr a1 a2 a3 (nI lt) (nI lb) (nI lz) ci a4 a5 a6 nu bk se op fa a7 a8 a9 a10 a11 (nI rn) kh kl sh sl a12 a13 a14 a15 a16 a17 a18 a19 a20)), (a7, .inl (cI, 256, .inl (nF gS))), (a8, .inl (cI, 240, .inl (nF gr))), (a9, .inl (cI, 16, .inl (nF tv.1))), (a10, .inl (cI, 16, .inl (nF tv.2))), (a6, .inl (cI, 12, .inl (nF gn)))] := hD
          refine lv_iinc (v := nI (k + 1)) (lv' := [(4, .int (nI (k + 1))), (3, .int (nI (16 * i))), (2, .int 16), (0, .ref mo), (1, .int (nI nn))]) hx hb d_M_covered_115 hl (k := 0) rfl (sb_inc (a := k) (b := k + 1) (d := 1) rfl (by decide) (by omega)) (by decide) rfl (fun ls hl => ?_)
          refine lv_goto (tgt := 57) hx hb d_M_covered_118 (by decide) ?_
          rw [show nF (updN (iter (xS gt tv.1 (16 * i)) k ((cvAI gS gr rn gn gt nn i (gs, gm, gx)).2.2)) ((16 * i) + k) ((gt ((16 * i) + k)) ^^^ (tv.1 k))) = nF (iter (xS gt tv.1 (16 * i)) (k + 1) ((cvAI gS gr rn gn gt nn i (gs, gm, gx)).2.2)) from rfl] at hP hD
          exact ih2 (k + 1) (by omega) _ _ ls (hP.sub [0, 1, 2, 3, 4, 5, 6, 7] rfl) (hD.sub [0, 1, 2, 3, 4, 5, 6, 7] (by decide) rfl) hS (lv_sub hl [0, 1, 2, 3, 4] rfl)
      exact lp2 (min 16 (nn - 16 * i)) 0 (by omega) _ _ ls (hP.sub [0, 1, 2, 3, 4, 5, 6, 7] rfl) (hD.sub [0, 1, 2, 3, 4, 5, 6, 7] (by decide) rfl) hS (lv_sub hl [0, 1, 2, 3, 4] rfl)
  exact lp1 ((nn + 15) / 16) 0 (by omega) _ _ ls (hP.sub [0, 1, 2, 3, 4, 5, 6, 7] rfl) (hD.sub [0, 1, 2, 3, 4, 5, 6, 7] (by decide) rfl) hS (lv_sub hl [0, 1, 2, 3] rfl)

def rm_M_coveredC : Room := { frames := 3, cells := 0, slots := 0, locals := 68 }
set_option maxHeartbeats 4000000 in
set_option maxRecDepth 100000 in
theorem c_M_coveredC (l : Launch) (D : va_G) (cI cL cB : ClassId) (tS tF : Nat) (mo : Nat) (a1 : Nat) (a2 : Nat) (a3 : Nat) (a4 : Nat) (a5 : Nat) (a6 : Nat) (a7 : Nat) (a8 : Nat) (a9 : Nat) (a10 : Nat) (a11 : Nat) (a12 : Nat) (a13 : Nat) (a14 : Nat) (a15 : Nat) (a16 : Nat) (a17 : Nat) (a18 : Nat) (a19 : Nat) (a20 : Nat) (thr : Int32) (ci : Int32) (bk : Int32) (se : Int32) (op : Int32) (fa : Int32) (lt : Nat) (lb : Nat) (lz : Nat) (rn : Nat) (nu : Int64) (kh : Int64) (kl : Int64) (sh : Int64) (sl : Int64) (gk : Nat → Nat) (gn : Nat → Nat) (gu : Nat → Nat) (gt : Nat → Nat) (gx : Nat → Nat) (wd : Nat → Int32) (td : Nat → Int32) (nn : Nat) (sz : Nat) (hnn : nn ≤ 20000) (hci : ci = 2) : Met l y_M_covered (sbw y_M_covered b_M_covered 5 none) rm_M_coveredC (sbPc D cI cL cB tS tF [.ref mo, .int (nI nn)] sz [(mo, .inr (7, mFs thr a1 a2 a3 (nI lt) (nI lb) (nI lz) ci a4 a5 a6 nu bk se op fa a7 a8 a9 a10 a11 (nI rn) kh kl sh sl a12 a13 a14 a15 a16 a17 a18 a19 a20)), (a4, .inl (cI, 32, .inl (nF gk))), (a6, .inl (cI, 12, .inl (nF gn))), (a12, .inl (cI, 16, .inl wd)), (a13, .inl (cI, 16, .inl td)), (a14, .inl (cI, 64, .inl (nF gu))), (a1, .inl (cI, 98816, .inl (nF gt))), (a2, .inl (cI, 98816, .inl (nF gx)))]) (sbQv D (fun (_ : Unit) => True) (fun (_ : Unit) => [(mo, .inr (7, mFs thr a1 a2 a3 (nI lt) (nI nn) (nI lz) ci a4 a5 a6 nu (bk + nI ((nn + 64 - 1) / 64)) se op fa a7 a8 a9 a10 a11 (nI rn) kh kl sh sl a12 a13 a14 a15 a16 a17 a18 a19 a20)), (a4, .inl (cI, 32, .inl (nF gk))), (a6, .inl (cI, 12, .inl (nF gn))), (a12, .inl (cI, 16, .inl ((cvCI gk gn gt nn ((nn + 63) / 64) (wd, td, gu, gx)).1))), (a13, .inl (cI, 16, .inl ((cvCI gk gn gt nn ((nn + 63) / 64) (wd, td, gu, gx)).2.1))), (a14, .inl (cI, 64, .inl (nF ((cvCI gk gn gt nn ((nn + 63) / 64) (wd, td, gu, gx)).2.2.1)))), (a1, .inl (cI, 98816, .inl (nF gt))), (a2, .inl (cI, 98816, .inl (nF ((cvCI gk gn gt nn ((nn + 63) / 64) (wd, td, gu, gx)).2.2.2))))]) (va_A [(mo, .inr (7, mFs thr a1 a2 a3 (nI lt) (nI lb) (nI lz) ci a4 a5 a6 nu bk se op fa a7 a8 a9 a10 a11 (nI rn) kh kl sh sl a12 a13 a14 a15 a16 a17 a18 a19 a20)), (a4, .inl (cI, 32, .inl (nF gk))), (a6, .inl (cI, 12, .inl (nF gn))), (a12, .inl (cI, 16, .inl wd)), (a13, .inl (cI, 16, .inl td)), (a14, .inl (cI, 64, .inl (nF gu))), (a1, .inl (cI, 98816, .inl (nF gt))), (a2, .inl (cI, 98816, .inl (nF gx)))] sz)) 0 0 (va_A [(mo, .inr (7, mFs thr a1 a2 a3 (nI lt) (nI lb) (nI lz) ci a4 a5 a6 nu bk se op fa a7 a8 a9 a10 a11 (nI rn) kh kl sh sl a12 a13 a14 a15 a16 a17 a18 a19 a20)), (a4, .inl (cI, 32, .inl (nF gk))), (a6, .inl (cI, 12, .inl (nF gn))), (a12, .inl (cI, 16, .inl wd)), (a13, .inl (cI, 16, .inl td)), (a14, .inl (cI, 64, .inl (nF gu))), (a1, .inl (cI, 98816, .inl (nF gt))), (a2, .inl (cI, 98816, .inl (nF gx)))] sz) := by
  refine sb_ofW (y := y_M_covered) (maxL := 5) (av := [.ref mo, .int (nI nn)]) (Qc := fun A => (sbQv D (fun (_ : Unit) => True) (fun (_ : Unit) => [(mo, .inr (7, mFs thr a1 a2 a3 (nI lt) (nI nn) (nI lz) ci a4 a5 a6 nu (bk + nI ((nn + 64 - 1) / 64)) se op fa a7 a8 a9 a10 a11 (nI rn) kh kl sh sl a12 a13 a14 a15 a16 a17 a18 a19 a20)), (a4, .inl (cI, 32, .inl (nF gk))), (a6, .inl (cI, 12, .inl (nF gn))), (a12, .inl (cI, 16, .inl ((cvCI gk gn gt nn ((nn + 63) / 64) (wd, td, gu, gx)).1))), (a13, .inl (cI, 16, .inl ((cvCI gk gn gt nn ((nn + 63) / 64) (wd, td, gu, gx)).2.1))), (a14, .inl (cI, 64, .inl (nF ((cvCI gk gn gt nn ((nn + 63) / 64) (wd, td, gu, gx)).2.2.1)))), (a1, .inl (cI, 98816, .inl (nF gt))), (a2, .inl (cI, 98816, .inl (nF ((cvCI gk gn gt nn ((nn + 63) / 64) (wd, td, gu, gx)).2.2.2))))]) A)) (by decide) (Nat.le_of_ble_eq_true rfl) ?_
  intro p e s m args below meth c A ls hx hb hr hml hts hown hlocks hin hsz hP hG hD hA hS hl
  have hl : lv_has ls 5 [(0, .ref mo), (1, .int (nI nn))] := hl
  refine lv_aload_n hx hb d_M_covered_0 rfl (lv_at hl 0 rfl) ?_
  refine va_get (D := D) (ci := 7) (v := .int ci) (C := R_M) (T := F_M) (N := 35) hx hb hts in_M hown hG.1 hP 0 rfl rfl 7 (by decide) (hts _ k_704) (fun _ h9 => h9) rfl d_M_covered_1 ?_
  refine lv_iconst (v := 2) hx hb d_M_covered_4 (by decide) ?_
  refine lv_icmp_ne (tgt := 13) hx hb d_M_covered_5 (by decide) (fun c_1 => absurd hci c_1) (fun c_1 => ?_)
  refine lv_bipush (v := 64) hx hb d_M_covered_8 (by decide) ?_
  refine lv_goto (tgt := 15) hx hb d_M_covered_10 (by decide) ?_
  refine lv_istore_n (lv' := [(2, .int 64), (0, .ref mo), (1, .int (nI nn))]) hx hb d_M_covered_15 rfl hl (by decide) rfl (fun ls hl => ?_)
  refine lv_iconst (v := 0) hx hb d_M_covered_16 (by decide) ?_
  refine lv_istore_n (lv' := [(3, .int 0), (2, .int 64), (0, .ref mo), (1, .int (nI nn))]) hx hb d_M_covered_17 rfl hl (by decide) rfl (fun ls hl => ?_)
  have lp1 : ∀ (d1 i : Nat), i + d1 = (nn + 63) / 64 → ∀ (H : Heap) (locs : List Loc) (ls : Array Slot), va_P D vwCl [(mo, .inr (7, mFs thr a1 a2 a3 (nI lt) (nI lb) (nI lz) ci a4 a5 a6 nu bk se op fa a7 a8 a9 a10 a11 (nI rn) kh kl sh sl a12 a13 a14 a15 a16 a17 a18 a19 a20)), (a4, .inl (cI, 32, .inl (nF gk))), (a6, .inl (cI, 12, .inl (nF gn))), (a12, .inl (cI, 16, .inl ((cvCI gk gn gt nn i (wd, td, gu, gx)).1))), (a13, .inl (cI, 16, .inl ((cvCI gk gn gt nn i (wd, td, gu, gx)).2.1))), (a14, .inl (cI, 64, .inl (nF ((cvCI gk gn gt nn i (wd, td, gu, gx)).2.2.1)))), (a1, .inl (cI, 98816, .inl (nF gt))), (a2, .inl (cI, 98816, .inl (nF ((cvCI gk gn gt nn i (wd, td, gu, gx)).2.2.2))))] H → va_D A [(mo, .inr (7, mFs thr a1 a2 a3 (nI lt) (nI lb) (nI lz) ci a4 a5 a6 nu bk se op fa a7 a8 a9 a10 a11 (nI rn) kh kl sh sl a12 a13 a14 a15 a16 a17 a18 a19 a20)), (a4, .inl (cI, 32, .inl (nF gk))), (a6, .inl (cI, 12, .inl (nF gn))), (a12, .inl (cI, 16, .inl ((cvCI gk gn gt nn i (wd, td, gu, gx)).1))), (a13, .inl (cI, 16, .inl ((cvCI gk gn gt nn i (wd, td, gu, gx)).2.1))), (a14, .inl (cI, 64, .inl (nF ((cvCI gk gn gt nn i (wd, td, gu, gx)).2.2.1)))), (a1, .inl (cI, 98816, .inl (nF gt))), (a2, .inl (cI, 98816, .inl (nF ((cvCI gk gn gt nn i (wd, td, gu, gx)).2.2.2))))] → va_S A s.heap H locs → lv_has ls 5 [(3, .int (nI (64 * i))), (2, .int 64), (0, .ref mo), (1, .int (nI nn))] → W p l e rm_M_coveredC s m args below meth c H locs 0 0 (MQ below (sbQv D (fun (_ : Unit) => True) (fun (_ : Unit) => [(mo, .inr (7, mFs thr a1 a2 a3 (nI lt) (nI nn) (nI lz) ci a4 a5 a6 nu (bk + nI ((nn + 64 - 1) / 64)) se op fa a7 a8 a9 a10 a11 (nI rn) kh kl sh sl a12 a13 a14 a15 a16 a17 a18 a19 a20)), (a4, .inl (cI, 32, .inl (nF gk))), (a6, .inl (cI, 12, .inl (nF gn))), (a12, .inl (cI, 16, .inl ((cvCI gk gn gt nn ((nn + 63) / 64) (wd, td, gu, gx)).1))), (a13, .inl (cI, 16, .inl ((cvCI gk gn gt nn ((nn + 63) / 64) (wd, td, gu, gx)).2.1))), (a14, .inl (cI, 64, .inl (nF ((cvCI gk gn gt nn ((nn + 63) / 64) (wd, td, gu, gx)).2.2.1)))), (a1, .inl (cI, 98816, .inl (nF gt))), (a2, .inl (cI, 98816, .inl (nF ((cvCI gk gn gt nn ((nn + 63) / 64) (wd, td, gu, gx)).2.2.2))))]) A) args s 0 0 A) (F0 m 18 ls []) := by
    intro d1
    induction d1 with
    | zero =>
      intro i hi1 H locs ls hP hD hS hl
      obtain rfl : (nn + 63) / 64 = i := by omega
      refine lv_iload_n hx hb d_M_covered_18 rfl (lv_at hl 0 rfl) ?_
      refine lv_iload_n hx hb d_M_covered_19 rfl (lv_at hl 3 rfl) ?_
      refine lv_icmp_ge (tgt := 128) hx hb d_M_covered_20 (by decide) (fun c_2 => ?_) (fun c_2 => absurd (sb_geT (a := 64 * ((nn + 63) / 64)) (b := nn) rfl rfl (by omega) (by omega) (by omega)) c_2)
      refine lv_aload_n hx hb d_M_covered_128 rfl (lv_at hl 2 rfl) ?_
      refine lv_iload_n hx hb d_M_covered_129 rfl (lv_at hl 3 rfl) ?_
      refine va_put (D := D) (ci := 7) (v := .int (nI nn)) (ty := .int) (C := R_M) (T := F_M) (N := 35) hx hb hts in_M tq_M tq_M_ok nq_M hown hG.1 hP hD hS 0 rfl rfl 5 (by decide) (hts _ k_702) (fun _ h9 => h9) rfl (by decide +kernel) rfl rfl (Nat.le_of_ble_eq_true rfl) d_M_covered_130 (fun H locs hP hD hS => ?_)
      have hP : va_P D vwCl [(mo, .inr (7, mFs thr a1 a2 a3 (nI lt) (nI nn) (nI lz) ci a4 a5 a6 nu bk se op fa a7 a8 a9 a10 a11 (nI rn) kh kl sh sl a12 a13 a14 a15 a16 a17 a18 a19 a20)), (a4, .inl (cI, 32, .inl (nF gk))), (a6, .inl (cI, 12, .inl (nF gn))), (a12, .inl (cI, 16, .inl ((cvCI gk gn gt nn ((nn + 63) / 64) (wd, td, gu, gx)).1))), (a13, .inl (cI, 16, .inl ((cvCI gk gn gt nn ((nn + 63) / 64) (wd, td, gu, gx)).2.1))), (a14, .inl (cI, 64, .inl (nF ((cvCI gk gn gt nn ((nn + 63) / 64) (wd, td, gu, gx)).2.2.1)))), (a1, .inl (cI, 98816, .inl (nF gt))), (a2, .inl (cI, 98816, .inl (nF ((cvCI gk gn gt nn ((nn + 63) / 64) (wd, td, gu, gx)).2.2.2))))] H := hP
      have hD : va_D A [(mo, .inr (7, mFs thr a1 a2 a3 (nI lt) (nI nn) (nI lz) ci a4 a5 a6 nu bk se op fa a7 a8 a9 a10 a11 (nI rn) kh kl sh sl a12 a13 a14 a15 a16 a17 a18 a19 a20)), (a4, .inl (cI, 32, .inl (nF gk))), (a6, .inl (cI, 12, .inl (nF gn))), (a12, .inl (cI, 16, .inl ((cvCI gk gn gt nn ((nn + 63) / 64) (wd, td, gu, gx)).1))), (a13, .inl (cI, 16, .inl ((cvCI gk gn gt nn ((nn + 63) / 64) (wd, td, gu, gx)).2.1))), (a14, .inl (cI, 64, .inl (nF ((cvCI gk gn gt nn ((nn + 63) / 64) (wd, td, gu, gx)).2.2.1)))), (a1, .inl (cI, 98816, .inl (nF gt))), (a2, .inl (cI, 98816, .inl (nF ((cvCI gk gn gt nn ((nn + 63) / 64) (wd, td, gu, gx)).2.2.2))))] := hD
      refine lv_aload_n hx hb d_M_covered_133 rfl (lv_at hl 2 rfl) ?_
      refine lv_dup hx hb d_M_covered_134 rfl ?_
      refine va_get (D := D) (ci := 7) (v := .int bk) (C := R_M) (T := F_M) (N := 35) hx hb hts in_M hown hG.1 hP 0 rfl rfl 12 (by decide) (hts _ k_709) (fun _ h9 => h9) rfl d_M_covered_135 ?_
      refine lv_iload_n hx hb d_M_covered_138 rfl (lv_at hl 3 rfl) ?_
      refine lv_iload_n hx hb d_M_covered_139 rfl (lv_at hl 1 rfl) ?_
      refine lv_iadd hx hb d_M_covered_140 ?_
      refine sb_topn (nn + 64) (nI_add nn 64) ?_
      refine lv_iconst (v := 1) hx hb d_M_covered_141 (by decide) ?_
      refine lv_isub hx hb d_M_covered_142 ?_
      refine sb_topn ((nn + 64) - 1) (sb_sub (a := nn + 64) (b := 1) (by omega) rfl rfl) ?_
      refine lv_iload_n hx hb d_M_covered_143 rfl (lv_at hl 1 rfl) ?_
      refine lv_idiv hx hb d_M_covered_144 (by decide) ?_
      refine sb_topn (((nn + 64) - 1) / 64) (sb_div (a := (nn + 64) - 1) (b := 64) (by omega) (by omega) (by omega) rfl rfl) ?_
      refine lv_iadd hx hb d_M_covered_145 ?_
      refine lv_topi (fun x_3 ex_3 => ?_)
      refine va_put (D := D) (ci := 7) (v := .int x_3) (ty := .int) (C := R_M) (T := F_M) (N := 35) hx hb hts in_M tq_M tq_M_ok nq_M hown hG.1 hP hD hS 0 rfl rfl 12 (by decide) (hts _ k_709) (fun _ h9 => h9) rfl (by decide +kernel) rfl rfl (Nat.le_of_ble_eq_true rfl) d_M_covered_146 (fun H locs hP hD hS => ?_)
      have hP : va_P D vwCl [(mo, .inr (7, mFs thr a1 a2 a3 (nI lt) (nI nn) (nI lz) ci a4 a5 a6 nu x_3 se op fa a7 a8 a9 a10 a11 (nI rn) kh kl sh sl a12 a13 a14 a15 a16 a17 a18 a19 a20)), (a4, .inl (cI, 32, .inl (nF gk))), (a6, .inl (cI, 12, .inl (nF gn))), (a12, .inl (cI, 16, .inl ((cvCI gk gn gt nn ((nn + 63) / 64) (wd, td, gu, gx)).1))), (a13, .inl (cI, 16, .inl ((cvCI gk gn gt nn ((nn + 63) / 64) (wd, td, gu, gx)).2.1))), (a14, .inl (cI, 64, .inl (nF ((cvCI gk gn gt nn ((nn + 63) / 64) (wd, td, gu, gx)).2.2.1)))), (a1, .inl (cI, 98816, .inl (nF gt))), (a2, .inl (cI, 98816, .inl (nF ((cvCI gk gn gt nn ((nn + 63) / 64) (wd, td, gu, gx)).2.2.2))))] H := hP
      have hD : va_D A [(mo, .inr (7, mFs thr a1 a2 a3 (nI lt) (nI nn) (nI lz) ci a4 a5 a6 nu x_3 se op fa a7 a8 a9 a10 a11 (nI rn) kh kl sh sl a12 a13 a14 a15 a16 a17 a18 a19 a20)), (a4, .inl (cI, 32, .inl (nF gk))), (a6, .inl (cI, 12, .inl (nF gn))), (a12, .inl (cI, 16, .inl ((cvCI gk gn gt nn ((nn + 63) / 64) (wd, td, gu, gx)).1))), (a13, .inl (cI, 16, .inl ((cvCI gk gn gt nn ((nn + 63) / 64) (wd, td, gu, gx)).2.1))), (a14, .inl (cI, 64, .inl (nF ((cvCI gk gn gt nn ((nn + 63) / 64) (wd, td, gu, gx)).2.2.1)))), (a1, .inl (cI, 98816, .inl (nF gt))), (a2, .inl (cI, 98816, .inl (nF ((cvCI gk gn gt nn ((nn + 63) / 64) (wd, td, gu, gx)).2.2.2))))] := hD
      subst ex_3
      have hP9 := hP.sub (ws' := [(mo, .inr (7, mFs thr a1 a2 a3 (nI lt) (nI nn) (nI lz) ci a4 a5 a6 nu (bk + (nI (((nn + 64) - 1) / 64))) se op fa a7 a8 a9 a10 a11 (nI rn) kh kl sh sl a12 a13 a14 a15 a16 a17 a18 a19 a20)), (a4, .inl (cI, 32, .inl (nF gk))), (a6, .inl (cI, 12, .inl (nF gn))), (a12, .inl (cI, 16, .inl ((cvCI gk gn gt nn ((nn + 63) / 64) (wd, td, gu, gx)).1))), (a13, .inl (cI, 16, .inl ((cvCI gk gn gt nn ((nn + 63) / 64) (wd, td, gu, gx)).2.1))), (a14, .inl (cI, 64, .inl (nF ((cvCI gk gn gt nn ((nn + 63) / 64) (wd, td, gu, gx)).2.2.1)))), (a1, .inl (cI, 98816, .inl (nF gt))), (a2, .inl (cI, 98816, .inl (nF ((cvCI gk gn gt nn ((nn + 63) / 64) (wd, td, gu, gx)).2.2.2))))]) [0, 1, 2, 3, 4, 5, 6, 7] rfl
      have hD9 := hD.sub (ws' := [(mo, .inr (7, mFs thr a1 a2 a3 (nI lt) (nI nn) (nI lz) ci a4 a5 a6 nu (bk + (nI (((nn + 64) - 1) / 64))) se op fa a7 a8 a9 a10 a11 (nI rn) kh kl sh sl a12 a13 a14 a15 a16 a17 a18 a19 a20)), (a4, .inl (cI, 32, .inl (nF gk))), (a6, .inl (cI, 12, .inl (nF gn))), (a12, .inl (cI, 16, .inl ((cvCI gk gn gt nn ((nn + 63) / 64) (wd, td, gu, gx)).1))), (a13, .inl (cI, 16, .inl ((cvCI gk gn gt nn ((nn + 63) / 64) (wd, td, gu, gx)).2.1))), (a14, .inl (cI, 64, .inl (nF ((cvCI gk gn gt nn ((nn + 63) / 64) (wd, td, gu, gx)).2.2.1)))), (a1, .inl (cI, 98816, .inl (nF gt))), (a2, .inl (cI, 98816, .inl (nF ((cvCI gk gn gt nn ((nn + 63) / 64) (wd, td, gu, gx)).2.2.2))))]) [0, 1, 2, 3, 4, 5, 6, 7] (by decide) rfl
      exact W.vret hx hb hr (fun t ht hW => ⟨⟨(), rfl, trivial, by rw [ht]; exact hP9, hD9⟩, hS.F ht⟩) hS.2.2 d_M_covered_149
    | succ d1 ih1 =>
      intro i hi1 H locs ls hP hD hS hl
      refine lv_iload_n hx hb d_M_covered_18 rfl (lv_at hl 0 rfl) ?_
      refine lv_iload_n hx hb d_M_covered_19 rfl (lv_at hl 3 rfl) ?_
      refine lv_icmp_ge (tgt := 128) hx hb d_M_covered_20 (by decide) (fun c_4 => absurd c_4 (sb_geF (a := 64 * i) (b := nn) rfl rfl (by omega) (by omega) (by omega))) (fun c_4 => ?_)
      refine lv_aload_n hx hb d_M_covered_23 rfl (lv_at hl 2 rfl) ?_
      refine va_get (D := D) (ci := 7) (v := .int ci) (C := R_M) (T := F_M) (N := 35) hx hb hts in_M hown hG.1 hP 0 rfl rfl 7 (by decide) (hts _ k_704) (fun _ h9 => h9) rfl d_M_covered_24 ?_
      refine lv_iconst (v := 2) hx hb d_M_covered_27 (by decide) ?_
      refine lv_icmp_ne (tgt := 44) hx hb d_M_covered_28 (by decide) (fun c_5 => absurd hci c_5) (fun c_5 => ?_)
      refine lv_aload_n hx hb d_M_covered_31 rfl (lv_at hl 2 rfl) ?_
      refine lv_iconst (v := 1) hx hb d_M_covered_32 (by decide) ?_
      refine lv_iload_n hx hb d_M_covered_33 rfl (lv_at hl 0 rfl) ?_
      refine lv_bipush (v := 64) hx hb d_M_covered_34 (by decide) ?_
      refine lv_idiv hx hb d_M_covered_36 (by decide) ?_
      refine sb_topn ((64 * i) / 64) (sb_div (a := 64 * i) (b := 64) (by omega) (by omega) (by omega) rfl rfl) ?_
      refine lv_iadd hx hb d_M_covered_37 ?_
      refine sb_topn (1 + ((64 * i) / 64)) (nI_add 1 ((64 * i) / 64)) ?_
      refine sb_callv (wr := [(a1, .inl (cI, 98816, .inl (nF gt))), (a2, .inl (cI, 98816, .inl (nF ((cvCI gk gn gt nn i (wd, td, gu, gx)).2.2.2))))]) (va_runV (As := [.int (nI (1 + ((64 * i) / 64)))]) (rest := []) ⟨hx, hb, hml, hown, hts⟩ (c_M_chacha l D cI cL cB tS tF mo a1 a2 a3 a4 a5 a6 a7 a8 a9 a10 a11 a12 a13 a14 a15 a16 a17 a18 a19 a20 thr ci bk se op fa lt lb lz rn nu kh kl sh sl gk gn ((cvCI gk gn gt nn i (wd, td, gu, gx)).2.2.1) ((cvCI gk gn gt nn i (wd, td, gu, gx)).1) ((cvCI gk gn gt nn i (wd, td, gu, gx)).2.1) (nI (1 + ((64 * i) / 64))) _ ) (cwV 1 hts (sb_gV k_853 k_855 k_11 k_30 k_856) rfl rfl rfl (by decide +kernel) ⟨Nat.le_of_ble_eq_true rfl, Nat.le_of_ble_eq_true rfl⟩) (sb_pV hG hP hD hS hA [0, 1, 2, 3, 4, 5] (by decide) rfl (ci := 7) (q0 := 0) rfl rfl) rfl rfl hl.1 rfl (lv_room (Nat.le_of_ble_eq_true rfl)) d_M_covered_38 ⟨Nat.le_of_ble_eq_true rfl, Nat.le_of_ble_eq_true rfl⟩) hP hD hS hA [0, 1, 2, 3, 4, 5] [6, 7] rfl rfl (by decide) (by decide) (fun u H locs hw_6 hP hD hS => ?_)
      have hP : va_P D vwCl [(a1, .inl (cI, 98816, .inl (nF gt))), (a2, .inl (cI, 98816, .inl (nF ((cvCI gk gn gt nn i (wd, td, gu, gx)).2.2.2)))), (mo, .inr (7, mFs thr a1 a2 a3 (nI lt) (nI lb) (nI lz) ci a4 a5 a6 nu bk se op fa a7 a8 a9 a10 a11 (nI rn) kh kl sh sl a12 a13 a14 a15 a16 a17 a18 a19 a20)), (a4, .inl (cI, 32, .inl (nF gk))), (a6, .inl (cI, 12, .inl (nF gn))), (a12, .inl (cI, 16, .inl (cWord gk gn (nI (1 + ((64 * i) / 64))) ((cvCI gk gn gt nn i (wd, td, gu, gx)).1)))), (a13, .inl (cI, 16, .inl (cTurn (cWord gk gn (nI (1 + ((64 * i) / 64))) ((cvCI gk gn gt nn i (wd, td, gu, gx)).1)) ((cvCI gk gn gt nn i (wd, td, gu, gx)).2.1)))), (a14, .inl (cI, 64, .inl (nF (cStrx (cWord gk gn (nI (1 + ((64 * i) / 64))) ((cvCI gk gn gt nn i (wd, td, gu, gx)).1)) (cTurn (cWord gk gn (nI (1 + ((64 * i) / 64))) ((cvCI gk gn gt nn i (wd, td, gu, gx)).1)) ((cvCI gk gn gt nn i (wd, td, gu, gx)).2.1)) ((cvCI gk gn gt nn i (wd, td, gu, gx)).2.2.1)))))] H := hP
      have hD : va_D A [(a1, .inl (cI, 98816, .inl (nF gt))), (a2, .inl (cI, 98816, .inl (nF ((cvCI gk gn gt nn i (wd, td, gu, gx)).2.2.2)))), (mo, .inr (7, mFs thr a1 a2 a3 (nI lt) (nI lb) (nI lz) ci a4 a5 a6 nu bk se op fa a7 a8 a9 a10 a11 (nI rn) kh kl sh sl a12 a13 a14 a15 a16 a17 a18 a19 a20)), (a4, .inl (cI, 32, .inl (nF gk))), (a6, .inl (cI, 12, .inl (nF gn))), (a12, .inl (cI, 16, .inl (cWord gk gn (nI (1 + ((64 * i) / 64))) ((cvCI gk gn gt nn i (wd, td, gu, gx)).1)))), (a13, .inl (cI, 16, .inl (cTurn (cWord gk gn (nI (1 + ((64 * i) / 64))) ((cvCI gk gn gt nn i (wd, td, gu, gx)).1)) ((cvCI gk gn gt nn i (wd, td, gu, gx)).2.1)))), (a14, .inl (cI, 64, .inl (nF (cStrx (cWord gk gn (nI (1 + ((64 * i) / 64))) ((cvCI gk gn gt nn i (wd, td, gu, gx)).1)) (cTurn (cWord gk gn (nI (1 + ((64 * i) / 64))) ((cvCI gk gn gt nn i (wd, td, gu, gx)).1)) ((cvCI gk gn gt nn i (wd, td, gu, gx)).2.1)) ((cvCI gk gn gt nn i (wd, td, gu, gx)).2.2.1)))))] := hD
      refine lv_goto (tgt := 54) hx hb d_M_covered_41 (by decide) ?_
      obtain ⟨wv, hwv⟩ : ∃ x : Nat → Int32, x = cWord gk gn (nI (1 + (64 * i / 64))) (cvCI gk gn gt nn i (wd, td, gu, gx)).1 := ⟨_, rfl⟩
      rw [← hwv] at hP hD
      have hP : va_P D vwCl [(a1, .inl (cI, 98816, .inl (nF gt))), (a2, .inl (cI, 98816, .inl (nF ((cvCI gk gn gt nn i (wd, td, gu, gx)).2.2.2)))), (mo, .inr (7, mFs thr a1 a2 a3 (nI lt) (nI lb) (nI lz) ci a4 a5 a6 nu bk se op fa a7 a8 a9 a10 a11 (nI rn) kh kl sh sl a12 a13 a14 a15 a16 a17 a18 a19 a20)), (a4, .inl (cI, 32, .inl (nF gk))), (a6, .inl (cI, 12, .inl (nF gn))), (a12, .inl (cI, 16, .inl wv)), (a13, .inl (cI, 16, .inl (cTurn wv (cvCI gk gn gt nn i (wd, td, gu, gx)).2.1))), (a14, .inl (cI, 64, .inl (nF (cStrx wv (cTurn wv (cvCI gk gn gt nn i (wd, td, gu, gx)).2.1) (cvCI gk gn gt nn i (wd, td, gu, gx)).2.2.1))))] H := hP
      have hD : va_D A [(a1, .inl (cI, 98816, .inl (nF gt))), (a2, .inl (cI, 98816, .inl (nF ((cvCI gk gn gt nn i (wd, td, gu, gx)).2.2.2)))), (mo, .inr (7, mFs thr a1 a2 a3 (nI lt) (nI lb) (nI lz) ci a4 a5 a6 nu bk se op fa a7 a8 a9 a10 a11 (nI rn) kh kl sh sl a12 a13 a14 a15 a16 a17 a18 a19 a20)), (a4, .inl (cI, 32, .inl (nF gk))), (a6, .inl (cI, 12, .inl (nF gn))), (a12, .inl (cI, 16, .inl wv)), (a13, .inl (cI, 16, .inl (cTurn wv (cvCI gk gn gt nn i (wd, td, gu, gx)).2.1))), (a14, .inl (cI, 64, .inl (nF (cStrx wv (cTurn wv (cvCI gk gn gt nn i (wd, td, gu, gx)).2.1) (cvCI gk gn gt nn i (wd, td, gu, gx)).2.2.1))))] := hD
      obtain ⟨tv, htv⟩ : ∃ x : Nat → Int32, x = cTurn wv (cvCI gk gn gt nn i (wd, td, gu, gx)).2.1 := ⟨_, rfl⟩
      rw [← htv] at hP hD
      have hP : va_P D vwCl [(a1, .inl (cI, 98816, .inl (nF gt))), (a2, .inl (cI, 98816, .inl (nF ((cvCI gk gn gt nn i (wd, td, gu, gx)).2.2.2)))), (mo, .inr (7, mFs thr a1 a2 a3 (nI lt) (nI lb) (nI lz) ci a4 a5 a6 nu bk se op fa a7 a8 a9 a10 a11 (nI rn) kh kl sh sl a12 a13 a14 a15 a16 a17 a18 a19 a20)), (a4, .inl (cI, 32, .inl (nF gk))), (a6, .inl (cI, 12, .inl (nF gn))), (a12, .inl (cI, 16, .inl wv)), (a13, .inl (cI, 16, .inl tv)), (a14, .inl (cI, 64, .inl (nF (cStrx wv tv (cvCI gk gn gt nn i (wd, td, gu, gx)).2.2.1))))] H := hP
      have hD : va_D A [(a1, .inl (cI, 98816, .inl (nF gt))), (a2, .inl (cI, 98816, .inl (nF ((cvCI gk gn gt nn i (wd, td, gu, gx)).2.2.2)))), (mo, .inr (7, mFs thr a1 a2 a3 (nI lt) (nI lb) (nI lz) ci a4 a5 a6 nu bk se op fa a7 a8 a9 a10 a11 (nI rn) kh kl sh sl a12 a13 a14 a15 a16 a17 a18 a19 a20)), (a4, .inl (cI, 32, .inl (nF gk))), (a6, .inl (cI, 12, .inl (nF gn))), (a12, .inl (cI, 16, .inl wv)), (a13, .inl (cI, 16, .inl tv)), (a14, .inl (cI, 64, .inl (nF (cStrx wv tv (cvCI gk gn gt nn i (wd, td, gu, gx)).2.2.1))))] := hD
      obtain ⟨uv, huv⟩ : ∃ x : Nat → Nat, x = cStrx wv tv (cvCI gk gn gt nn i (wd, td, gu, gx)).2.2.1 := ⟨_, rfl⟩
      rw [← huv] at hP hD
      have hP : va_P D vwCl [(a1, .inl (cI, 98816, .inl (nF gt))), (a2, .inl (cI, 98816, .inl (nF ((cvCI gk gn gt nn i (wd, td, gu, gx)).2.2.2)))), (mo, .inr (7, mFs thr a1 a2 a3 (nI lt) (nI lb) (nI lz) ci a4 a5 a6 nu bk se op fa a7 a8 a9 a10 a11 (nI rn) kh kl sh sl a12 a13 a14 a15 a16 a17 a18 a19 a20)), (a4, .inl (cI, 32, .inl (nF gk))), (a6, .inl (cI, 12, .inl (nF gn))), (a12, .inl (cI, 16, .inl wv)), (a13, .inl (cI, 16, .inl tv)), (a14, .inl (cI, 64, .inl (nF uv)))] H := hP
      have hD : va_D A [(a1, .inl (cI, 98816, .inl (nF gt))), (a2, .inl (cI, 98816, .inl (nF ((cvCI gk gn gt nn i (wd, td, gu, gx)).2.2.2)))), (mo, .inr (7, mFs thr a1 a2 a3 (nI lt) (nI lb) (nI lz) ci a4 a5 a6 nu bk se op fa a7 a8 a9 a10 a11 (nI rn) kh kl sh sl a12 a13 a14 a15 a16 a17 a18 a19 a20)), (a4, .inl (cI, 32, .inl (nF gk))), (a6, .inl (cI, 12, .inl (nF gn))), (a12, .inl (cI, 16, .inl wv)), (a13, .inl (cI, 16, .inl tv)), (a14, .inl (cI, 64, .inl (nF uv)))] := hD
      refine lv_iconst (v := 0) hx hb d_M_covered_54 (by decide) ?_
      refine lv_istore (lv' := [(4, .int 0), (3, .int (nI (64 * i))), (2, .int 64), (0, .ref mo), (1, .int (nI nn))]) hx hb d_M_covered_55 hl (by decide) rfl (fun ls hl => ?_)
      have lp2 : ∀ (d2 k : Nat), k + d2 = min 64 (nn - 64 * i) → ∀ (H : Heap) (locs : List Loc) (ls : Array Slot), va_P D vwCl [(a1, .inl (cI, 98816, .inl (nF gt))), (a2, .inl (cI, 98816, .inl (nF (iter (xS gt uv (64 * i)) k ((cvCI gk gn gt nn i (wd, td, gu, gx)).2.2.2))))), (mo, .inr (7, mFs thr a1 a2 a3 (nI lt) (nI lb) (nI lz) ci a4 a5 a6 nu bk se op fa a7 a8 a9 a10 a11 (nI rn) kh kl sh sl a12 a13 a14 a15 a16 a17 a18 a19 a20)), (a4, .inl (cI, 32, .inl (nF gk))), (a6, .inl (cI, 12, .inl (nF gn))), (a12, .inl (cI, 16, .inl wv)), (a13, .inl (cI, 16, .inl tv)), (a14, .inl (cI, 64, .inl (nF uv)))] H → va_D A [(a1, .inl (cI, 98816, .inl (nF gt))), (a2, .inl (cI, 98816, .inl (nF (iter (xS gt uv (64 * i)) k ((cvCI gk gn gt nn i (wd, td, gu, gx)).2.2.2))))), (mo, .inr (7, mFs thr a1 a2 a3 (nI lt) (nI lb) (nI lz) ci a4 a5 a6 nu bk se op fa a7 a8 a9 a10 a11 (nI rn) kh kl sh sl a12 a13 a14 a15 a16 a17 a18 a19 a20)), (a4, .inl (cI, 32, .inl (nF gk))), (a6, .inl (cI, 12, .inl (nF gn))), (a12, .inl (cI, 16, .inl wv)), (a13, .inl (cI, 16, .inl tv)), (a14, .inl (cI, 64, .inl (nF uv)))] → va_S A s.heap H locs → lv_has ls 5 [(4, .int (nI k)), (3, .int (nI (64 * i))), (2, .int 64), (0, .ref mo), (1, .int (nI nn))] → W p l e rm_M_coveredC s m args below meth c H locs 0 0 (MQ below (sbQv D (fun (_ : Unit) => True) (fun (_ : Unit) => [(mo, .inr (7, mFs thr a1 a2 a3 (nI lt) (nI nn) (nI lz) ci a4 a5 a6 nu (bk + nI ((nn + 64 - 1) / 64)) se op fa a7 a8 a9 a10 a11 (nI rn) kh kl sh sl a12 a13 a14 a15 a16 a17 a18 a19 a20)), (a4, .inl (cI, 32, .inl (nF gk))), (a6, .inl (cI, 12, .inl (nF gn))), (a12, .inl (cI, 16, .inl ((cvCI gk gn gt nn ((nn + 63) / 64) (wd, td, gu, gx)).1))), (a13, .inl (cI, 16, .inl ((cvCI gk gn gt nn ((nn + 63) / 64) (wd, td, gu, gx)).2.1))), (a14, .inl (cI, 64, .inl (nF ((cvCI gk gn gt nn ((nn + 63) / 64) (wd, td, gu, gx)).2.2.1)))), (a1, .inl (cI, 98816, .inl (nF gt))), (a2, .inl (cI, 98816, .inl (nF ((cvCI gk gn gt nn ((nn + 63) / 64) (wd, td, gu, gx)).2.2.2))))]) A) args s 0 0 A) (F0 m 57 ls []) := by
        intro d2
        induction d2 with
        | zero =>
          intro k hi2 H locs ls hP hD hS hl
          obtain rfl : min 64 (nn - 64 * i) = k := by omega
          have hmn1 : min 64 (nn - 64 * i) ≤ 64 := Nat.min_le_left _ _
          have hmn2 : min 64 (nn - 64 * i) ≤ nn - 64 * i := Nat.min_le_right _ _
          have hmn3 : min 64 (nn - 64 * i) = 64 ∨ min 64 (nn - 64 * i) = nn - 64 * i := by omega
          refine lv_iload hx hb d_M_covered_57 (lv_at hl 0 rfl) ?_
          refine lv_iload_n hx hb d_M_covered_59 rfl (lv_at hl 2 rfl) ?_
          refine lv_icmp_ge (tgt := 121) hx hb d_M_covered_60 (by decide) (fun c_7 => ?_) (fun c_7 => ?_)
          · have c_7 := (sb_geI (a := min 64 (nn - 64 * i)) (b := 64) rfl rfl (by omega) (by omega)).mp c_7
            refine lv_iload_n hx hb d_M_covered_121 rfl (lv_at hl 1 rfl) ?_
            refine lv_iload_n hx hb d_M_covered_122 rfl (lv_at hl 2 rfl) ?_
            refine lv_iadd hx hb d_M_covered_123 ?_
            refine sb_topn ((64 * i) + 64) (nI_add (64 * i) 64) ?_
            refine sb_topn ((64 * i) + 64) rfl ?_
            refine lv_istore_n (lv' := [(3, .int (nI ((64 * i) + 64))), (4, .int (nI (min 64 (nn - 64 * i)))), (2, .int 64), (0, .ref mo), (1, .int (nI nn))]) hx hb d_M_covered_124 rfl hl (by decide) rfl (fun ls hl => ?_)
            refine lv_goto (tgt := 18) hx hb d_M_covered_125 (by decide) ?_
            have hE : (cvCI gk gn gt nn (i + 1) (wd, td, gu, gx)) = (wv, tv, uv, iter (xS gt uv (64 * i)) (min 64 (nn - 64 * i)) ((cvCI gk gn gt nn i (wd, td, gu, gx)).2.2.2)) := (by rw [huv, htv, hwv]; rfl)
            have ih' := ih1 (i + 1) (by omega)
            rw [hE] at ih'
            rw [show nI ((64 * i) + 64) = nI (64 * (i + 1)) from congrArg nI (by omega)] at hl
            exact ih' _ _ ls (hP.sub [2, 3, 4, 5, 6, 7, 0, 1] rfl) (hD.sub [2, 3, 4, 5, 6, 7, 0, 1] (by decide) rfl) hS (lv_sub hl [0, 2, 3, 4] rfl)
          · have c_7 := mt (sb_geI (a := min 64 (nn - 64 * i)) (b := 64) rfl rfl (by omega) (by omega)).mpr c_7
            refine lv_iload_n hx hb d_M_covered_63 rfl (lv_at hl 1 rfl) ?_
            refine lv_iload hx hb d_M_covered_64 (lv_at hl 0 rfl) ?_
            refine lv_iadd hx hb d_M_covered_66 ?_
            refine sb_topn ((64 * i) + (min 64 (nn - 64 * i))) (nI_add (64 * i) (min 64 (nn - 64 * i))) ?_
            refine lv_iload_n hx hb d_M_covered_67 rfl (lv_at hl 4 rfl) ?_
            refine lv_icmp_ge (tgt := 121) hx hb d_M_covered_68 (by decide) (fun c_8 => ?_) (fun c_8 => absurd (sb_geT (a := (64 * i) + (min 64 (nn - 64 * i))) (b := nn) rfl rfl (by omega) (by omega) (by omega)) c_8)
            refine lv_iload_n hx hb d_M_covered_121 rfl (lv_at hl 1 rfl) ?_
            refine lv_iload_n hx hb d_M_covered_122 rfl (lv_at hl 2 rfl) ?_
            refine lv_iadd hx hb d_M_covered_123 ?_
            refine sb_topn ((64 * i) + 64) (nI_add (64 * i) 64) ?_
            refine sb_topn ((64 * i) + 64) rfl ?_
            refine lv_istore_n (lv' := [(3, .int (nI ((64 * i) + 64))), (4, .int (nI (min 64 (nn - 64 * i)))), (2, .int 64), (0, .ref mo), (1, .int (nI nn))]) hx hb d_M_covered_124 rfl hl (by decide) rfl (fun ls hl => ?_)
            refine lv_goto (tgt := 18) hx hb d_M_covered_125 (by decide) ?_
            have hE : (cvCI gk gn gt nn (i + 1) (wd, td, gu, gx)) = (wv, tv, uv, iter (xS gt uv (64 * i)) (min 64 (nn - 64 * i)) ((cvCI gk gn gt nn i (wd, td, gu, gx)).2.2.2)) := (by rw [huv, htv, hwv]; rfl)
            have ih' := ih1 (i + 1) (by omega)
            rw [hE] at ih'
            rw [show nI ((64 * i) + 64) = nI (64 * (i + 1)) from congrArg nI (by omega)] at hl
            exact ih' _ _ ls (hP.sub [2, 3, 4, 5, 6, 7, 0, 1] rfl) (hD.sub [2, 3, 4, 5, 6, 7, 0, 1] (by decide) rfl) hS (lv_sub hl [0, 2, 3, 4] rfl)
        | succ d2 ih2 =>
          intro k hi2 H locs ls hP hD hS hl
          have hmn1 : min 64 (nn - 64 * i) ≤ 64 := Nat.min_le_left _ _
          have hmn2 : min 64 (nn - 64 * i) ≤ nn - 64 * i := Nat.min_le_right _ _
          have hmn3 : min 64 (nn - 64 * i) = 64 ∨ min 64 (nn - 64 * i) = nn - 64 * i := by omega
          refine lv_iload hx hb d_M_covered_57 (lv_at hl 0 rfl) ?_
          refine lv_iload_n hx hb d_M_covered_59 rfl (lv_at hl 2 rfl) ?_
          refine lv_icmp_ge (tgt := 121) hx hb d_M_covered_60 (by decide) (fun c_9 => absurd c_9 (sb_geF (a := k) (b := 64) rfl rfl (by omega) (by omega) (by omega))) (fun c_9 => ?_)
          refine lv_iload_n hx hb d_M_covered_63 rfl (lv_at hl 1 rfl) ?_
          refine lv_iload hx hb d_M_covered_64 (lv_at hl 0 rfl) ?_
          refine lv_iadd hx hb d_M_covered_66 ?_
          refine sb_topn ((64 * i) + k) (nI_add (64 * i) k) ?_
          refine lv_iload_n hx hb d_M_covered_67 rfl (lv_at hl 4 rfl) ?_
          refine lv_icmp_ge (tgt := 121) hx hb d_M_covered_68 (by decide) (fun c_10 => absurd c_10 (sb_geF (a := (64 * i) + k) (b := nn) rfl rfl (by omega) (by omega) (by omega))) (fun c_10 => ?_)
          refine lv_aload_n hx hb d_M_covered_71 rfl (lv_at hl 3 rfl) ?_
          refine va_get (D := D) (ci := 7) (v := .ref a2) (C := R_M) (T := F_M) (N := 35) hx hb hts in_M hown hG.1 hP 2 rfl rfl 2 (by decide) (hts _ k_699) (fun _ h9 => h9) rfl d_M_covered_72 ?_
          refine lv_iload_n hx hb d_M_covered_75 rfl (lv_at hl 1 rfl) ?_
          refine lv_iload hx hb d_M_covered_76 (lv_at hl 0 rfl) ?_
          refine lv_iadd hx hb d_M_covered_78 ?_
          refine sb_topn ((64 * i) + k) (nI_add (64 * i) k) ?_
          refine lv_aload_n hx hb d_M_covered_79 rfl (lv_at hl 3 rfl) ?_
          refine va_get (D := D) (ci := 7) (v := .ref a1) (C := R_M) (T := F_M) (N := 35) hx hb hts in_M hown hG.1 hP 2 rfl rfl 1 (by decide) (hts _ k_698) (fun _ h9 => h9) rfl d_M_covered_80 ?_
          refine lv_iload_n hx hb d_M_covered_83 rfl (lv_at hl 1 rfl) ?_
          refine lv_iload hx hb d_M_covered_84 (lv_at hl 0 rfl) ?_
          refine lv_iadd hx hb d_M_covered_86 ?_
          refine sb_topn ((64 * i) + k) (nI_add (64 * i) k) ?_
          refine sb_ild hx hb hG.1 hP 0 rfl ((64 * i) + k) rfl (by omega) (by omega) d_M_covered_87 ?_
          refine lv_aload_n hx hb d_M_covered_88 rfl (lv_at hl 3 rfl) ?_
          refine va_get (D := D) (ci := 7) (v := .int ci) (C := R_M) (T := F_M) (N := 35) hx hb hts in_M hown hG.1 hP 2 rfl rfl 7 (by decide) (hts _ k_704) (fun _ h9 => h9) rfl d_M_covered_89 ?_
          refine lv_iconst (v := 2) hx hb d_M_covered_92 (by decide) ?_
          refine lv_icmp_ne (tgt := 106) hx hb d_M_covered_93 (by decide) (fun c_11 => absurd hci c_11) (fun c_11 => ?_)
          refine lv_aload_n hx hb d_M_covered_96 rfl (lv_at hl 3 rfl) ?_
          refine va_get (D := D) (ci := 7) (v := .ref a14) (C := R_M) (T := F_M) (N := 35) hx hb hts in_M hown hG.1 hP 2 rfl rfl 28 (by decide) (hts _ k_725) (fun _ h9 => h9) rfl d_M_covered_97 ?_
          refine lv_iload hx hb d_M_covered_100 (lv_at hl 0 rfl) ?_
          refine sb_ild hx hb hG.1 hP 7 rfl k rfl (by omega) (by omega) d_M_covered_102 ?_
          refine lv_goto (tgt := 113) hx hb d_M_covered_103 (by decide) ?_
          refine lv_ixor hx hb d_M_covered_113 ?_
          refine sb_topn ((gt ((64 * i) + k)) ^^^ (uv k)) (sb_xor (a := gt ((64 * i) + k)) (b := uv k) rfl rfl) ?_
          refine sb_topn ((gt ((64 * i) + k)) ^^^ (uv k)) rfl ?_
          refine sb_ist hx hb hG.1 hP hD hS 1 rfl ((64 * i) + k) rfl (by omega) (by omega) d_M_covered_114 (fun f_12 H locs ef_12 hP hD hS => ?_)
          have hP : va_P D vwCl [(a1, .inl (cI, 98816, .inl (nF gt))), (a2, .inl (cI, 98816, .inl f_12)), (mo, .inr (7, mFs thr a1 a2 a3 (nI lt) (nI lb) (nI lz) ci a4 a5 a6 nu bk se op fa a7 a8 a9 a10 a11 (nI rn) kh kl sh sl a12 a13 a14 a15 a16 a17 a18 a19 a20)), (a4, .inl (cI, 32, .inl (nF gk))), (a6, .inl (cI, 12, .inl (nF gn))), (a12, .inl (cI, 16, .inl wv)), (a13, .inl (cI, 16, .inl tv)), (a14, .inl (cI, 64, .inl (nF uv)))] H := hP
          have hD : va_D A [(a1, .inl (cI, 98816, .inl (nF gt))), (a2, .inl (cI, 98816, .inl f_12)), (mo, .inr (7, mFs thr a1 a2 a3 (nI lt) (nI lb) (nI lz) ci a4 a5 a6 nu bk se op fa a7 a8 a9 a10 a11 (nI rn) kh kl sh sl a12 a13 a14 a15 a16 a17 a18 a19 a20)), (a4, .inl (cI, 32, .inl (nF gk))), (a6, .inl (cI, 12, .inl (nF gn))), (a12, .inl (cI, 16, .inl wv)), (a13, .inl (cI, 16, .inl tv)), (a14, .inl (cI, 64, .inl (nF uv)))] := hD
          obtain rfl : f_12 = nF (updN (iter (xS gt uv (64 * i)) k ((cvCI gk gn gt nn i (wd, td, gu, gx)).2.2.2)) ((64 * i) + k) ((gt ((64 * i) + k)) ^^^ (uv k))) := ef_12.trans (nF_set _ _ _)
          have hP : va_P D vwCl [(a1, .inl (cI, 98816, .inl (nF gt))), (a2, .inl (cI, 98816, .inl (nF (updN (iter (xS gt uv (64 * i)) k ((cvCI gk gn gt nn i (wd, td, gu, gx)).2.2.2)) ((64 * i) + k) ((gt ((64 * i) + k)) ^^^ (uv k)))))), (mo, .inr (7, mFs thr a1 a2 a3 (nI lt) (nI lb) (nI lz) ci a4 a5 a6 nu bk se op fa a7 a8 a9 a10 a11 (nI rn) kh kl sh sl a12 a13 a14 a15 a16 a17 a18 a19 a20)), (a4, .inl (cI, 32, .inl (nF gk))), (a6, .inl (cI, 12, .inl (nF gn))), (a12, .inl (cI, 16, .inl wv)), (a13, .inl (cI, 16, .inl tv)), (a14, .inl (cI, 64, .inl (nF uv)))] H := hP
          have hD : va_D A [(a1, .inl (cI, 98816, .inl (nF gt))), (a2, .inl (cI, 98816, .inl (nF (updN (iter (xS gt uv (64 * i)) k ((cvCI gk gn gt nn i (wd, td, gu, gx)).2.2.2)) ((64 * i) + k) ((gt ((64 * i) + k)) ^^^ (uv k)))))), (mo, .inr (7, mFs thr a1 a2 a3 (nI lt) (nI lb) (nI lz) ci a4 a5 a6 nu bk se op fa a7 a8 a9 a10 a11 (nI rn) kh kl sh sl a12 a13 a14 a15 a16 a17 a18 a19 a20)), (a4, .inl (cI, 32, .inl (nF gk))), (a6, .inl (cI, 12, .inl (nF gn))), (a12, .inl (cI, 16, .inl wv)), (a13, .inl (cI, 16, .inl tv)), (a14, .inl (cI, 64, .inl (nF uv)))] := hD
          refine lv_iinc (v := nI (k + 1)) (lv' := [(4, .int (nI (k + 1))), (3, .int (nI (64 * i))), (2, .int 64), (0, .ref mo), (1, .int (nI nn))]) hx hb d_M_covered_115 hl (k := 0) rfl (sb_inc (a := k) (b := k + 1) (d := 1) rfl (by decide) (by omega)) (by decide) rfl (fun ls hl => ?_)
          refine lv_goto (tgt := 57) hx hb d_M_covered_118 (by decide) ?_
          rw [show nF (updN (iter (xS gt uv (64 * i)) k ((cvCI gk gn gt nn i (wd, td, gu, gx)).2.2.2)) ((64 * i) + k) ((gt ((64 * i) + k)) ^^^ (uv k))) = nF (iter (xS gt uv (64 * i)) (k + 1) ((cvCI gk gn gt nn i (wd, td, gu, gx)).2.2.2)) from rfl] at hP hD
          exact ih2 (k + 1) (by omega) _ _ ls (hP.sub [0, 1, 2, 3, 4, 5, 6, 7] rfl) (hD.sub [0, 1, 2, 3, 4, 5, 6, 7] (by decide) rfl) hS (lv_sub hl [0, 1, 2, 3, 4] rfl)
      exact lp2 (min 64 (nn - 64 * i)) 0 (by omega) _ _ ls (hP.sub [0, 1, 2, 3, 4, 5, 6, 7] rfl) (hD.sub [0, 1, 2, 3, 4, 5, 6, 7] (by decide) rfl) hS (lv_sub hl [0, 1, 2, 3, 4] rfl)
  exact lp1 ((nn + 63) / 64) 0 (by omega) _ _ ls (hP.sub [0, 1, 2, 3, 4, 5, 6, 7] rfl) (hD.sub [0, 1, 2, 3, 4, 5, 6, 7] (by decide) rfl) hS (lv_sub hl [0, 1, 2, 3] rfl)
