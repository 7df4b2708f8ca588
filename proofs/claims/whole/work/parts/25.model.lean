def mlit (g : Nat → Nat) (i : Nat) : Int32 := ((nI (g i) ||| (nI (g (i + 1)) <<< ((8 : Int32) &&& 31))) ||| (nI (g (i + 2)) <<< ((16 : Int32) &&& 31))) ||| (nI (g (i + 3)) <<< ((24 : Int32) &&& 31))
def m8s (g : Nat → Nat) (a z : Nat) (i : Nat) (v : Int64) : Int64 := sL v 8 ||| (if z ≤ a + i then (0 : Int32) else nI (g (a + i))).toInt64
def m8 (g : Nat → Nat) (a z : Nat) : Int64 := iter (m8s g a z) 8 0

theorem d_M_times_0 : decode b_M_times 0 = .ok (.iconst 0, 1) := by decide +kernel
theorem d_M_times_1 : decode b_M_times 1 = .ok (.istore_n 2, 1) := by decide +kernel
theorem d_M_times_2 : decode b_M_times 2 = .ok (.iload_n 0, 1) := by decide +kernel
theorem d_M_times_3 : decode b_M_times 3 = .ok (.istore_n 3, 1) := by decide +kernel
theorem d_M_times_4 : decode b_M_times 4 = .ok (.iconst 0, 1) := by decide +kernel
theorem d_M_times_5 : decode b_M_times 5 = .ok (.istore 4, 2) := by decide +kernel
theorem d_M_times_7 : decode b_M_times 7 = .ok (.iload 4, 2) := by decide +kernel
theorem d_M_times_9 : decode b_M_times 9 = .ok (.bipush 8, 2) := by decide +kernel
theorem d_M_times_11 : decode b_M_times 11 = .ok (.if_icmp .ge 41, 3) := by decide +kernel
theorem d_M_times_14 : decode b_M_times 14 = .ok (.iload_n 1, 1) := by decide +kernel
theorem d_M_times_15 : decode b_M_times 15 = .ok (.iload 4, 2) := by decide +kernel
theorem d_M_times_17 : decode b_M_times 17 = .ok (.ishr, 1) := by decide +kernel
theorem d_M_times_18 : decode b_M_times 18 = .ok (.iconst 1, 1) := by decide +kernel
theorem d_M_times_19 : decode b_M_times 19 = .ok (.iand, 1) := by decide +kernel
theorem d_M_times_20 : decode b_M_times 20 = .ok (.iconst 1, 1) := by decide +kernel
theorem d_M_times_21 : decode b_M_times 21 = .ok (.if_icmp .ne 7, 3) := by decide +kernel
theorem d_M_times_24 : decode b_M_times 24 = .ok (.iload_n 2, 1) := by decide +kernel
theorem d_M_times_25 : decode b_M_times 25 = .ok (.iload_n 3, 1) := by decide +kernel
theorem d_M_times_26 : decode b_M_times 26 = .ok (.ixor, 1) := by decide +kernel
theorem d_M_times_27 : decode b_M_times 27 = .ok (.istore_n 2, 1) := by decide +kernel
theorem d_M_times_28 : decode b_M_times 28 = .ok (.iload_n 3, 1) := by decide +kernel
theorem d_M_times_29 : decode b_M_times 29 = .ok (.iconst 1, 1) := by decide +kernel
theorem d_M_times_30 : decode b_M_times 30 = .ok (.ishl, 1) := by decide +kernel
theorem d_M_times_31 : decode b_M_times 31 = .ok (.iload_n 3, 1) := by decide +kernel
theorem d_M_times_32 : decode b_M_times 32 = .ok (.bipush 127, 2) := by decide +kernel
theorem d_M_times_34 : decode b_M_times 34 = .ok (.if_icmp .le 9, 3) := by decide +kernel
theorem d_M_times_37 : decode b_M_times 37 = .ok (.sipush 283, 3) := by decide +kernel
theorem d_M_times_40 : decode b_M_times 40 = .ok (.goto 4, 3) := by decide +kernel
theorem d_M_times_43 : decode b_M_times 43 = .ok (.iconst 0, 1) := by decide +kernel
theorem d_M_times_44 : decode b_M_times 44 = .ok (.ixor, 1) := by decide +kernel
theorem d_M_times_45 : decode b_M_times 45 = .ok (.istore_n 3, 1) := by decide +kernel
theorem d_M_times_46 : decode b_M_times 46 = .ok (.iinc 4 1, 3) := by decide +kernel
theorem d_M_times_49 : decode b_M_times 49 = .ok (.goto (-42), 3) := by decide +kernel
theorem d_M_times_52 : decode b_M_times 52 = .ok (.iload_n 2, 1) := by decide +kernel
theorem d_M_times_53 : decode b_M_times 53 = .ok (.ireturn, 1) := by decide +kernel

def rm_M_times : Room := { frames := 0, cells := 0, slots := 0, locals := 0 }
set_option maxHeartbeats 4000000 in
set_option maxRecDepth 100000 in
theorem c_M_times (l : Launch) (D : va_G) (cI cL cB : ClassId) (tS tF : Nat) (a : Nat) (b : Nat) (ha : a < 256) (hb0 : b < 256) : Met l y_M_times (sbw y_M_times b_M_times 5 (some .int)) rm_M_times (sbPr D cI cL cB tS tF [.int (nI a), .int (nI b)] []) (vp_Si (fun r => r = nI (gmN a b))) 0 0 (fun _ => False) := by
  refine sb_ofR (by decide) (Nat.le_of_ble_eq_true rfl) ?_
  intro p e s m args below meth c ls hx hb hr hml hts hown hlocks hP hG hS hl
  have hl : lv_has ls 5 [(0, .int (nI a)), (1, .int (nI b))] := hl
  refine lv_iconst (v := 0) hx hb d_M_times_0 (by decide) ?_
  refine lv_istore_n (lv' := [(2, .int 0), (0, .int (nI a)), (1, .int (nI b))]) hx hb d_M_times_1 rfl hl (by decide) rfl (fun ls hl => ?_)
  refine lv_iload_n hx hb d_M_times_2 rfl (lv_at hl 1 rfl) ?_
  refine lv_istore_n (lv' := [(3, .int (nI a)), (2, .int 0), (0, .int (nI a)), (1, .int (nI b))]) hx hb d_M_times_3 rfl hl (by decide) rfl (fun ls hl => ?_)
  refine lv_iconst (v := 0) hx hb d_M_times_4 (by decide) ?_
  refine lv_istore (lv' := [(4, .int 0), (3, .int (nI a)), (2, .int 0), (0, .int (nI a)), (1, .int (nI b))]) hx hb d_M_times_5 hl (by decide) rfl (fun ls hl => ?_)
  have lp1 : ∀ (d1 i : Nat), i + d1 = 8 → ∀ (ls : Array Slot), lv_has ls 5 [(2, .int (nI ((iter (gmS b) i (0, a)).1))), (3, .int (nI ((iter (gmS b) i (0, a)).2))), (4, .int (nI i)), (0, .int (nI a)), (1, .int (nI b))] → W p l e rm_M_times s m args below meth c s.heap [] 0 0 (MQ below (vp_Si (fun r => r = nI (gmN a b))) args s 0 0 (fun _ => False)) (F0 m 7 ls []) := by
    intro d1
    induction d1 with
    | zero =>
      intro i hi1 ls hl
      obtain rfl : 8 = i := by omega
      have hgm := gm_lt a b ha 8
      have hbn : b / 2 ^ 8 ≤ b := Nat.div_le_self _ _
      refine lv_iload hx hb d_M_times_7 (lv_at hl 2 rfl) ?_
      refine lv_bipush (v := 8) hx hb d_M_times_9 (by decide) ?_
      refine lv_icmp_ge (tgt := 52) hx hb d_M_times_11 (by decide) (fun c_1 => ?_) (fun c_1 => absurd (sb_geT (a := 8) (b := 8) rfl rfl (by omega) (by omega) (by omega)) c_1)
      refine lv_iload_n hx hb d_M_times_52 rfl (lv_at hl 0 rfl) ?_
      exact W.iret (v := nI ((iter (gmS b) 8 (0, a)).1)) hx hb hr (fun t ht hW => ⟨_, rfl, rfl, ht⟩) hS.2.2 d_M_times_53
    | succ d1 ih1 =>
      intro i hi1 ls hl
      have hgm := gm_lt a b ha i
      have hbn : b / 2 ^ i ≤ b := Nat.div_le_self _ _
      refine lv_iload hx hb d_M_times_7 (lv_at hl 2 rfl) ?_
      refine lv_bipush (v := 8) hx hb d_M_times_9 (by decide) ?_
      refine lv_icmp_ge (tgt := 52) hx hb d_M_times_11 (by decide) (fun c_2 => absurd c_2 (sb_geF (a := i) (b := 8) rfl rfl (by omega) (by omega) (by omega))) (fun c_2 => ?_)
      refine lv_iload_n hx hb d_M_times_14 rfl (lv_at hl 4 rfl) ?_
      refine lv_iload hx hb d_M_times_15 (lv_at hl 2 rfl) ?_
      refine lv_ishr hx hb d_M_times_17 ?_
      refine sb_topn (b / 2 ^ i) (sb_shrv (a := b) (n := i) rfl rfl (by omega) (by omega)) ?_
      refine lv_iconst (v := 1) hx hb d_M_times_18 (by decide) ?_
      refine lv_iand hx hb d_M_times_19 ?_
      refine sb_topn ((b / 2 ^ i) % 2) (sb_and (a := b / 2 ^ i) 1 rfl (by omega) (by decide)) ?_
      refine lv_iconst (v := 1) hx hb d_M_times_20 (by decide) ?_
      refine lv_icmp_ne (tgt := 28) hx hb d_M_times_21 (by decide) (fun c_3 => ?_) (fun c_3 => ?_)
      · have c_3 := mt (sb_eqI (a := (b / 2 ^ i) % 2) (b := 1) rfl rfl (by omega) (by omega)).mpr c_3
        refine lv_iload_n hx hb d_M_times_28 rfl (lv_at hl 1 rfl) ?_
        refine lv_iconst (v := 1) hx hb d_M_times_29 (by decide) ?_
        refine lv_ishl hx hb d_M_times_30 ?_
        refine sb_topn (((iter (gmS b) i (0, a)).2) * 2) (sb_shl (a := (iter (gmS b) i (0, a)).2) 1 rfl (by omega) (by decide)) ?_
        refine lv_iload_n hx hb d_M_times_31 rfl (lv_at hl 1 rfl) ?_
        refine lv_bipush (v := 127) hx hb d_M_times_32 (by decide) ?_
        refine lv_icmp_le (tgt := 43) hx hb d_M_times_34 (by decide) (fun c_4 => ?_) (fun c_4 => ?_)
        · have c_4 := (sb_leI (a := (iter (gmS b) i (0, a)).2) (b := 127) rfl rfl (by omega) (by omega)).mp c_4
          refine lv_iconst (v := 0) hx hb d_M_times_43 (by decide) ?_
          refine lv_ixor hx hb d_M_times_44 ?_
          refine sb_topn ((((iter (gmS b) i (0, a)).2) * 2) ^^^ 0) (sb_xor (a := ((iter (gmS b) i (0, a)).2) * 2) (b := 0) rfl rfl) ?_
          refine sb_topn ((((iter (gmS b) i (0, a)).2) * 2) ^^^ 0) rfl ?_
          refine lv_istore_n (lv' := [(3, .int (nI ((((iter (gmS b) i (0, a)).2) * 2) ^^^ 0))), (2, .int (nI ((iter (gmS b) i (0, a)).1))), (4, .int (nI i)), (0, .int (nI a)), (1, .int (nI b))]) hx hb d_M_times_45 rfl hl (by decide) rfl (fun ls hl => ?_)
          refine lv_iinc (v := nI (i + 1)) (lv' := [(4, .int (nI (i + 1))), (3, .int (nI ((((iter (gmS b) i (0, a)).2) * 2) ^^^ 0))), (2, .int (nI ((iter (gmS b) i (0, a)).1))), (0, .int (nI a)), (1, .int (nI b))]) hx hb d_M_times_46 hl (k := 2) rfl (sb_inc (a := i) (b := i + 1) (d := 1) rfl (by decide) (by omega)) (by decide) rfl (fun ls hl => ?_)
          refine lv_goto (tgt := 7) hx hb d_M_times_49 (by decide) ?_
          have hE : iter (gmS b) (i + 1) (0, a) = ((iter (gmS b) i (0, a)).1, (((iter (gmS b) i (0, a)).2) * 2) ^^^ 0) := (iter_s _ _ _).trans (by simp only [gmS, gmX, if_neg c_3, if_pos c_4])
          have ih' := ih1 (i + 1) (by omega)
          rw [hE] at ih'
          exact ih' ls (lv_sub hl [2, 1, 0, 3, 4] rfl)
        · have c_4 := mt (sb_leI (a := (iter (gmS b) i (0, a)).2) (b := 127) rfl rfl (by omega) (by omega)).mpr c_4
          refine lv_sipush (v := 283) hx hb d_M_times_37 (by decide) ?_
          refine lv_goto (tgt := 44) hx hb d_M_times_40 (by decide) ?_
          refine lv_ixor hx hb d_M_times_44 ?_
          refine sb_topn ((((iter (gmS b) i (0, a)).2) * 2) ^^^ 283) (sb_xor (a := ((iter (gmS b) i (0, a)).2) * 2) (b := 283) rfl rfl) ?_
          refine sb_topn ((((iter (gmS b) i (0, a)).2) * 2) ^^^ 283) rfl ?_
          refine lv_istore_n (lv' := [(3, .int (nI ((((iter (gmS b) i (0, a)).2) * 2) ^^^ 283))), (2, .int (nI ((iter (gmS b) i (0, a)).1))), (4, .int (nI i)), (0, .int (nI a)), (1, .int (nI b))]) hx hb d_M_times_45 rfl hl (by decide) rfl (fun ls hl => ?_)
          refine lv_iinc (v := nI (i + 1)) (lv' := [(4, .int (nI (i + 1))), (3, .int (nI ((((iter (gmS b) i (0, a)).2) * 2) ^^^ 283))), (2, .int (nI ((iter (gmS b) i (0, a)).1))), (0, .int (nI a)), (1, .int (nI b))]) hx hb d_M_times_46 hl (k := 2) rfl (sb_inc (a := i) (b := i + 1) (d := 1) rfl (by decide) (by omega)) (by decide) rfl (fun ls hl => ?_)
          refine lv_goto (tgt := 7) hx hb d_M_times_49 (by decide) ?_
          have hE : iter (gmS b) (i + 1) (0, a) = ((iter (gmS b) i (0, a)).1, (((iter (gmS b) i (0, a)).2) * 2) ^^^ 283) := (iter_s _ _ _).trans (by simp only [gmS, gmX, if_neg c_3, if_neg c_4])
          have ih' := ih1 (i + 1) (by omega)
          rw [hE] at ih'
          exact ih' ls (lv_sub hl [2, 1, 0, 3, 4] rfl)
      · have c_3 := (sb_eqI (a := (b / 2 ^ i) % 2) (b := 1) rfl rfl (by omega) (by omega)).mp c_3
        refine lv_iload_n hx hb d_M_times_24 rfl (lv_at hl 0 rfl) ?_
        refine lv_iload_n hx hb d_M_times_25 rfl (lv_at hl 1 rfl) ?_
        refine lv_ixor hx hb d_M_times_26 ?_
        refine sb_topn (((iter (gmS b) i (0, a)).1) ^^^ ((iter (gmS b) i (0, a)).2)) (sb_xor (a := (iter (gmS b) i (0, a)).1) (b := (iter (gmS b) i (0, a)).2) rfl rfl) ?_
        refine sb_topn (((iter (gmS b) i (0, a)).1) ^^^ ((iter (gmS b) i (0, a)).2)) rfl ?_
        refine lv_istore_n (lv' := [(2, .int (nI (((iter (gmS b) i (0, a)).1) ^^^ ((iter (gmS b) i (0, a)).2)))), (3, .int (nI ((iter (gmS b) i (0, a)).2))), (4, .int (nI i)), (0, .int (nI a)), (1, .int (nI b))]) hx hb d_M_times_27 rfl hl (by decide) rfl (fun ls hl => ?_)
        refine lv_iload_n hx hb d_M_times_28 rfl (lv_at hl 1 rfl) ?_
        refine lv_iconst (v := 1) hx hb d_M_times_29 (by decide) ?_
        refine lv_ishl hx hb d_M_times_30 ?_
        refine sb_topn (((iter (gmS b) i (0, a)).2) * 2) (sb_shl (a := (iter (gmS b) i (0, a)).2) 1 rfl (by omega) (by decide)) ?_
        refine lv_iload_n hx hb d_M_times_31 rfl (lv_at hl 1 rfl) ?_
        refine lv_bipush (v := 127) hx hb d_M_times_32 (by decide) ?_
        refine lv_icmp_le (tgt := 43) hx hb d_M_times_34 (by decide) (fun c_5 => ?_) (fun c_5 => ?_)
        · have c_5 := (sb_leI (a := (iter (gmS b) i (0, a)).2) (b := 127) rfl rfl (by omega) (by omega)).mp c_5
          refine lv_iconst (v := 0) hx hb d_M_times_43 (by decide) ?_
          refine lv_ixor hx hb d_M_times_44 ?_
          refine sb_topn ((((iter (gmS b) i (0, a)).2) * 2) ^^^ 0) (sb_xor (a := ((iter (gmS b) i (0, a)).2) * 2) (b := 0) rfl rfl) ?_
          refine sb_topn ((((iter (gmS b) i (0, a)).2) * 2) ^^^ 0) rfl ?_
          refine lv_istore_n (lv' := [(3, .int (nI ((((iter (gmS b) i (0, a)).2) * 2) ^^^ 0))), (2, .int (nI (((iter (gmS b) i (0, a)).1) ^^^ ((iter (gmS b) i (0, a)).2)))), (4, .int (nI i)), (0, .int (nI a)), (1, .int (nI b))]) hx hb d_M_times_45 rfl hl (by decide) rfl (fun ls hl => ?_)
          refine lv_iinc (v := nI (i + 1)) (lv' := [(4, .int (nI (i + 1))), (3, .int (nI ((((iter (gmS b) i (0, a)).2) * 2) ^^^ 0))), (2, .int (nI (((iter (gmS b) i (0, a)).1) ^^^ ((iter (gmS b) i (0, a)).2)))), (0, .int (nI a)), (1, .int (nI b))]) hx hb d_M_times_46 hl (k := 2) rfl (sb_inc (a := i) (b := i + 1) (d := 1) rfl (by decide) (by omega)) (by decide) rfl (fun ls hl => ?_)
          refine lv_goto (tgt := 7) hx hb d_M_times_49 (by decide) ?_
          have hE : iter (gmS b) (i + 1) (0, a) = (((iter (gmS b) i (0, a)).1) ^^^ ((iter (gmS b) i (0, a)).2), (((iter (gmS b) i (0, a)).2) * 2) ^^^ 0) := (iter_s _ _ _).trans (by simp only [gmS, gmX, if_pos c_3, if_pos c_5])
          have ih' := ih1 (i + 1) (by omega)
          rw [hE] at ih'
          exact ih' ls (lv_sub hl [2, 1, 0, 3, 4] rfl)
        · have c_5 := mt (sb_leI (a := (iter (gmS b) i (0, a)).2) (b := 127) rfl rfl (by omega) (by omega)).mpr c_5
          refine lv_sipush (v := 283) hx hb d_M_times_37 (by decide) ?_
          refine lv_goto (tgt := 44) hx hb d_M_times_40 (by decide) ?_
          refine lv_ixor hx hb d_M_times_44 ?_
          refine sb_topn ((((iter (gmS b) i (0, a)).2) * 2) ^^^ 283) (sb_xor (a := ((iter (gmS b) i (0, a)).2) * 2) (b := 283) rfl rfl) ?_
          refine sb_topn ((((iter (gmS b) i (0, a)).2) * 2) ^^^ 283) rfl ?_
          refine lv_istore_n (lv' := [(3, .int (nI ((((iter (gmS b) i (0, a)).2) * 2) ^^^ 283))), (2, .int (nI (((iter (gmS b) i (0, a)).1) ^^^ ((iter (gmS b) i (0, a)).2)))), (4, .int (nI i)), (0, .int (nI a)), (1, .int (nI b))]) hx hb d_M_times_45 rfl hl (by decide) rfl (fun ls hl => ?_)
          refine lv_iinc (v := nI (i + 1)) (lv' := [(4, .int (nI (i + 1))), (3, .int (nI ((((iter (gmS b) i (0, a)).2) * 2) ^^^ 283))), (2, .int (nI (((iter (gmS b) i (0, a)).1) ^^^ ((iter (gmS b) i (0, a)).2)))), (0, .int (nI a)), (1, .int (nI b))]) hx hb d_M_times_46 hl (k := 2) rfl (sb_inc (a := i) (b := i + 1) (d := 1) rfl (by decide) (by omega)) (by decide) rfl (fun ls hl => ?_)
          refine lv_goto (tgt := 7) hx hb d_M_times_49 (by decide) ?_
          have hE : iter (gmS b) (i + 1) (0, a) = (((iter (gmS b) i (0, a)).1) ^^^ ((iter (gmS b) i (0, a)).2), (((iter (gmS b) i (0, a)).2) * 2) ^^^ 283) := (iter_s _ _ _).trans (by simp only [gmS, gmX, if_pos c_3, if_neg c_5])
          have ih' := ih1 (i + 1) (by omega)
          rw [hE] at ih'
          exact ih' ls (lv_sub hl [2, 1, 0, 3, 4] rfl)
  exact lp1 8 0 (by omega) ls (lv_sub hl [2, 1, 0, 3, 4] rfl)

theorem d_M_thrown_0 : decode b_M_thrown 0 = .ok (.aload_n 0, 1) := by decide +kernel
theorem d_M_thrown_1 : decode b_M_thrown 1 = .ok (.getfield 79, 3) := by decide +kernel
theorem d_M_thrown_4 : decode b_M_thrown 4 = .ok (.ireturn, 1) := by decide +kernel

def rm_M_thrown : Room := { frames := 0, cells := 0, slots := 0, locals := 0 }
set_option maxHeartbeats 4000000 in
set_option maxRecDepth 100000 in
theorem c_M_thrown (l : Launch) (D : va_G) (cI cL cB : ClassId) (tS tF : Nat) (mo : Nat) (a1 : Nat) (a2 : Nat) (a3 : Nat) (a4 : Nat) (a5 : Nat) (a6 : Nat) (a7 : Nat) (a8 : Nat) (a9 : Nat) (a10 : Nat) (a11 : Nat) (a12 : Nat) (a13 : Nat) (a14 : Nat) (a15 : Nat) (a16 : Nat) (a17 : Nat) (a18 : Nat) (a19 : Nat) (a20 : Nat) (thr : Int32) (ci : Int32) (bk : Int32) (se : Int32) (op : Int32) (fa : Int32) (lt : Nat) (lb : Nat) (lz : Nat) (rn : Nat) (nu : Int64) (kh : Int64) (kl : Int64) (sh : Int64) (sl : Int64)  : Met l y_M_thrown (sbw y_M_thrown b_M_thrown 1 (some .int)) rm_M_thrown (sbPr D cI cL cB tS tF [.ref mo] [(mo, .inr (7, mFs thr a1 a2 a3 (nI lt) (nI lb) (nI lz) ci a4 a5 a6 nu bk se op fa a7 a8 a9 a10 a11 (nI rn) kh kl sh sl a12 a13 a14 a15 a16 a17 a18 a19 a20))]) (vp_Si (fun r => r = thr)) 0 0 (fun _ => False) := by
  refine sb_ofR (by decide) (Nat.le_of_ble_eq_true rfl) ?_
  intro p e s m args below meth c ls hx hb hr hml hts hown hlocks hP hG hS hl
  have hl : lv_has ls 1 [(0, .ref mo)] := hl
  refine lv_aload_n hx hb d_M_thrown_0 rfl (lv_at hl 0 rfl) ?_
  refine va_get (D := D) (ci := 7) (v := .int thr) (C := R_M) (T := F_M) (N := 35) hx hb hts in_M hown hG.1 hP 0 rfl rfl 0 (by decide) (hts _ k_697) (fun _ h9 => h9) rfl d_M_thrown_1 ?_
  exact W.iret (v := thr) hx hb hr (fun t ht hW => ⟨_, rfl, (by subst_vars; rfl), ht⟩) hS.2.2 d_M_thrown_4

theorem d_M_fail_0 : decode b_M_fail 0 = .ok (.aload_n 0, 1) := by decide +kernel
theorem d_M_fail_1 : decode b_M_fail 1 = .ok (.iload_n 1, 1) := by decide +kernel
theorem d_M_fail_2 : decode b_M_fail 2 = .ok (.putfield 79, 3) := by decide +kernel
theorem d_M_fail_5 : decode b_M_fail 5 = .ok (.iconst 0, 1) := by decide +kernel
theorem d_M_fail_6 : decode b_M_fail 6 = .ok (.ireturn, 1) := by decide +kernel

def rm_M_fail : Room := { frames := 0, cells := 0, slots := 0, locals := 0 }
set_option maxHeartbeats 4000000 in
set_option maxRecDepth 100000 in
theorem c_M_fail (l : Launch) (D : va_G) (cI cL cB : ClassId) (tS tF : Nat) (mo : Nat) (a1 : Nat) (a2 : Nat) (a3 : Nat) (a4 : Nat) (a5 : Nat) (a6 : Nat) (a7 : Nat) (a8 : Nat) (a9 : Nat) (a10 : Nat) (a11 : Nat) (a12 : Nat) (a13 : Nat) (a14 : Nat) (a15 : Nat) (a16 : Nat) (a17 : Nat) (a18 : Nat) (a19 : Nat) (a20 : Nat) (thr : Int32) (ci : Int32) (bk : Int32) (se : Int32) (op : Int32) (fa : Int32) (lt : Nat) (lb : Nat) (lz : Nat) (rn : Nat) (nu : Int64) (kh : Int64) (kl : Int64) (sh : Int64) (sl : Int64) (v : Int32) (sz : Nat)  : Met l y_M_fail (sbw y_M_fail b_M_fail 2 (some .int)) rm_M_fail (sbPc D cI cL cB tS tF [.ref mo, .int v] sz [(mo, .inr (7, mFs thr a1 a2 a3 (nI lt) (nI lb) (nI lz) ci a4 a5 a6 nu bk se op fa a7 a8 a9 a10 a11 (nI rn) kh kl sh sl a12 a13 a14 a15 a16 a17 a18 a19 a20))]) (sbQi D (fun (r : Int32) (_ : Unit) => r = 0) (fun (_ : Unit) => [(mo, .inr (7, mFs v a1 a2 a3 (nI lt) (nI lb) (nI lz) ci a4 a5 a6 nu bk se op fa a7 a8 a9 a10 a11 (nI rn) kh kl sh sl a12 a13 a14 a15 a16 a17 a18 a19 a20))]) (va_A [(mo, .inr (7, mFs thr a1 a2 a3 (nI lt) (nI lb) (nI lz) ci a4 a5 a6 nu bk se op fa a7 a8 a9 a10 a11 (nI rn) kh kl sh sl a12 a13 a14 a15 a16 a17 a18 a19 a20))] sz)) 0 0 (va_A [(mo, .inr (7, mFs thr a1 a2 a3 (nI lt) (nI lb) (nI lz) ci a4 a5 a6 nu bk se op fa a7 a8 a9 a10 a11 (nI rn) kh kl sh sl a12 a13 a14 a15 a16 a17 a18 a19 a20))] sz) := by
  refine sb_ofW (y := y_M_fail) (maxL := 2) (av := [.ref mo, .int v]) (Qc := fun A => (sbQi D (fun (r : Int32) (_ : Unit) => r = 0) (fun (_ : Unit) => [(mo, .inr (7, mFs v a1 a2 a3 (nI lt) (nI lb) (nI lz) ci a4 a5 a6 nu bk se op fa a7 a8 a9 a10 a11 (nI rn) kh kl sh sl a12 a13 a14 a15 a16 a17 a18 a19 a20))]) A)) (by decide) (Nat.le_of_ble_eq_true rfl) ?_
  intro p e s m args below meth c A ls hx hb hr hml hts hown hlocks hin hsz hP hG hD hA hS hl
  have hl : lv_has ls 2 [(0, .ref mo), (1, .int v)] := hl
  refine lv_aload_n hx hb d_M_fail_0 rfl (lv_at hl 0 rfl) ?_
  refine lv_iload_n hx hb d_M_fail_1 rfl (lv_at hl 1 rfl) ?_
  refine va_put (D := D) (ci := 7) (v := .int v) (ty := .int) (C := R_M) (T := F_M) (N := 35) hx hb hts in_M tq_M tq_M_ok nq_M hown hG.1 hP hD hS 0 rfl rfl 0 (by decide) (hts _ k_697) (fun _ h9 => h9) rfl (by decide +kernel) rfl rfl (Nat.le_of_ble_eq_true rfl) d_M_fail_2 (fun H locs hP hD hS => ?_)
  have hP : va_P D vwCl [(mo, .inr (7, mFs v a1 a2 a3 (nI lt) (nI lb) (nI lz) ci a4 a5 a6 nu bk se op fa a7 a8 a9 a10 a11 (nI rn) kh kl sh sl a12 a13 a14 a15 a16 a17 a18 a19 a20))] H := hP
  have hD : va_D A [(mo, .inr (7, mFs v a1 a2 a3 (nI lt) (nI lb) (nI lz) ci a4 a5 a6 nu bk se op fa a7 a8 a9 a10 a11 (nI rn) kh kl sh sl a12 a13 a14 a15 a16 a17 a18 a19 a20))] := hD
  refine lv_iconst (v := 0) hx hb d_M_fail_5 (by decide) ?_
  have hP9 := hP.sub (ws' := [(mo, .inr (7, mFs v a1 a2 a3 (nI lt) (nI lb) (nI lz) ci a4 a5 a6 nu bk se op fa a7 a8 a9 a10 a11 (nI rn) kh kl sh sl a12 a13 a14 a15 a16 a17 a18 a19 a20))]) [0] rfl
  have hD9 := hD.sub (ws' := [(mo, .inr (7, mFs v a1 a2 a3 (nI lt) (nI lb) (nI lz) ci a4 a5 a6 nu bk se op fa a7 a8 a9 a10 a11 (nI rn) kh kl sh sl a12 a13 a14 a15 a16 a17 a18 a19 a20))]) [0] (by decide) rfl
  exact W.iret (v := 0) hx hb hr (fun t ht hW => ⟨⟨_, (), rfl, (by subst_vars; rfl), by rw [ht]; exact hP9, hD9⟩, hS.F ht⟩) hS.2.2 d_M_fail_6

theorem d_M_number_0 : decode b_M_number 0 = .ok (.aload_n 0, 1) := by decide +kernel
theorem d_M_number_1 : decode b_M_number 1 = .ok (.iconst 0, 1) := by decide +kernel
theorem d_M_number_2 : decode b_M_number 2 = .ok (.putfield 79, 3) := by decide +kernel
theorem d_M_number_5 : decode b_M_number 5 = .ok (.aload_n 0, 1) := by decide +kernel
theorem d_M_number_6 : decode b_M_number 6 = .ok (.lload_n 1, 1) := by decide +kernel
theorem d_M_number_7 : decode b_M_number 7 = .ok (.putfield 147, 3) := by decide +kernel
theorem d_M_number_10 : decode b_M_number 10 = .ok (.return_, 1) := by decide +kernel

def rm_M_number : Room := { frames := 0, cells := 0, slots := 0, locals := 0 }
set_option maxHeartbeats 4000000 in
set_option maxRecDepth 100000 in
theorem c_M_number (l : Launch) (D : va_G) (cI cL cB : ClassId) (tS tF : Nat) (mo : Nat) (a1 : Nat) (a2 : Nat) (a3 : Nat) (a4 : Nat) (a5 : Nat) (a6 : Nat) (a7 : Nat) (a8 : Nat) (a9 : Nat) (a10 : Nat) (a11 : Nat) (a12 : Nat) (a13 : Nat) (a14 : Nat) (a15 : Nat) (a16 : Nat) (a17 : Nat) (a18 : Nat) (a19 : Nat) (a20 : Nat) (thr : Int32) (ci : Int32) (bk : Int32) (se : Int32) (op : Int32) (fa : Int32) (lt : Nat) (lb : Nat) (lz : Nat) (rn : Nat) (nu : Int64) (kh : Int64) (kl : Int64) (sh : Int64) (sl : Int64) (v : Int64) (sz : Nat)  : Met l y_M_number (sbw y_M_number b_M_number 3 none) rm_M_number (sbPc D cI cL cB tS tF [.ref mo, .long v] sz [(mo, .inr (7, mFs thr a1 a2 a3 (nI lt) (nI lb) (nI lz) ci a4 a5 a6 nu bk se op fa a7 a8 a9 a10 a11 (nI rn) kh kl sh sl a12 a13 a14 a15 a16 a17 a18 a19 a20))]) (sbQv D (fun (_ : Unit) => True) (fun (_ : Unit) => [(mo, .inr (7, mFs 0 a1 a2 a3 (nI lt) (nI lb) (nI lz) ci a4 a5 a6 v bk se op fa a7 a8 a9 a10 a11 (nI rn) kh kl sh sl a12 a13 a14 a15 a16 a17 a18 a19 a20))]) (va_A [(mo, .inr (7, mFs thr a1 a2 a3 (nI lt) (nI lb) (nI lz) ci a4 a5 a6 nu bk se op fa a7 a8 a9 a10 a11 (nI rn) kh kl sh sl a12 a13 a14 a15 a16 a17 a18 a19 a20))] sz)) 0 0 (va_A [(mo, .inr (7, mFs thr a1 a2 a3 (nI lt) (nI lb) (nI lz) ci a4 a5 a6 nu bk se op fa a7 a8 a9 a10 a11 (nI rn) kh kl sh sl a12 a13 a14 a15 a16 a17 a18 a19 a20))] sz) := by
  refine sb_ofW (y := y_M_number) (maxL := 3) (av := [.ref mo, .long v]) (Qc := fun A => (sbQv D (fun (_ : Unit) => True) (fun (_ : Unit) => [(mo, .inr (7, mFs 0 a1 a2 a3 (nI lt) (nI lb) (nI lz) ci a4 a5 a6 v bk se op fa a7 a8 a9 a10 a11 (nI rn) kh kl sh sl a12 a13 a14 a15 a16 a17 a18 a19 a20))]) A)) (by decide) (Nat.le_of_ble_eq_true rfl) ?_
  intro p e s m args below meth c A ls hx hb hr hml hts hown hlocks hin hsz hP hG hD hA hS hl
  have hl : lv_has ls 3 [(0, .ref mo), (1, .long v)] := hl
  refine lv_aload_n hx hb d_M_number_0 rfl (lv_at hl 0 rfl) ?_
  refine lv_iconst (v := 0) hx hb d_M_number_1 (by decide) ?_
  refine va_put (D := D) (ci := 7) (v := .int 0) (ty := .int) (C := R_M) (T := F_M) (N := 35) hx hb hts in_M tq_M tq_M_ok nq_M hown hG.1 hP hD hS 0 rfl rfl 0 (by decide) (hts _ k_697) (fun _ h9 => h9) rfl (by decide +kernel) rfl rfl (Nat.le_of_ble_eq_true rfl) d_M_number_2 (fun H locs hP hD hS => ?_)
  have hP : va_P D vwCl [(mo, .inr (7, mFs 0 a1 a2 a3 (nI lt) (nI lb) (nI lz) ci a4 a5 a6 nu bk se op fa a7 a8 a9 a10 a11 (nI rn) kh kl sh sl a12 a13 a14 a15 a16 a17 a18 a19 a20))] H := hP
  have hD : va_D A [(mo, .inr (7, mFs 0 a1 a2 a3 (nI lt) (nI lb) (nI lz) ci a4 a5 a6 nu bk se op fa a7 a8 a9 a10 a11 (nI rn) kh kl sh sl a12 a13 a14 a15 a16 a17 a18 a19 a20))] := hD
  refine lv_aload_n hx hb d_M_number_5 rfl (lv_at hl 0 rfl) ?_
  refine lv_lload_n hx hb d_M_number_6 rfl (lv_at hl 1 rfl) ?_
  refine va_put (D := D) (ci := 7) (v := .long v) (ty := .long) (C := R_M) (T := F_M) (N := 35) hx hb hts in_M tq_M tq_M_ok nq_M hown hG.1 hP hD hS 0 rfl rfl 11 (by decide) (hts _ k_708) (fun _ h9 => h9) rfl (by decide +kernel) rfl rfl (Nat.le_of_ble_eq_true rfl) d_M_number_7 (fun H locs hP hD hS => ?_)
  have hP : va_P D vwCl [(mo, .inr (7, mFs 0 a1 a2 a3 (nI lt) (nI lb) (nI lz) ci a4 a5 a6 v bk se op fa a7 a8 a9 a10 a11 (nI rn) kh kl sh sl a12 a13 a14 a15 a16 a17 a18 a19 a20))] H := hP
  have hD : va_D A [(mo, .inr (7, mFs 0 a1 a2 a3 (nI lt) (nI lb) (nI lz) ci a4 a5 a6 v bk se op fa a7 a8 a9 a10 a11 (nI rn) kh kl sh sl a12 a13 a14 a15 a16 a17 a18 a19 a20))] := hD
  have hP9 := hP.sub (ws' := [(mo, .inr (7, mFs 0 a1 a2 a3 (nI lt) (nI lb) (nI lz) ci a4 a5 a6 v bk se op fa a7 a8 a9 a10 a11 (nI rn) kh kl sh sl a12 a13 a14 a15 a16 a17 a18 a19 a20))]) [0] rfl
  have hD9 := hD.sub (ws' := [(mo, .inr (7, mFs 0 a1 a2 a3 (nI lt) (nI lb) (nI lz) ci a4 a5 a6 v bk se op fa a7 a8 a9 a10 a11 (nI rn) kh kl sh sl a12 a13 a14 a15 a16 a17 a18 a19 a20))]) [0] (by decide) rfl
  exact W.vret hx hb hr (fun t ht hW => ⟨⟨(), rfl, trivial, by rw [ht]; exact hP9, hD9⟩, hS.F ht⟩) hS.2.2 d_M_number_10

theorem d_M_numbered_0 : decode b_M_numbered 0 = .ok (.aload_n 0, 1) := by decide +kernel
theorem d_M_numbered_1 : decode b_M_numbered 1 = .ok (.iconst 0, 1) := by decide +kernel
theorem d_M_numbered_2 : decode b_M_numbered 2 = .ok (.putfield 79, 3) := by decide +kernel
theorem d_M_numbered_5 : decode b_M_numbered 5 = .ok (.aload_n 0, 1) := by decide +kernel
theorem d_M_numbered_6 : decode b_M_numbered 6 = .ok (.getfield 147, 3) := by decide +kernel
theorem d_M_numbered_9 : decode b_M_numbered 9 = .ok (.lreturn, 1) := by decide +kernel

def rm_M_numbered : Room := { frames := 0, cells := 0, slots := 0, locals := 0 }
set_option maxHeartbeats 4000000 in
set_option maxRecDepth 100000 in
theorem c_M_numbered (l : Launch) (D : va_G) (cI cL cB : ClassId) (tS tF : Nat) (mo : Nat) (a1 : Nat) (a2 : Nat) (a3 : Nat) (a4 : Nat) (a5 : Nat) (a6 : Nat) (a7 : Nat) (a8 : Nat) (a9 : Nat) (a10 : Nat) (a11 : Nat) (a12 : Nat) (a13 : Nat) (a14 : Nat) (a15 : Nat) (a16 : Nat) (a17 : Nat) (a18 : Nat) (a19 : Nat) (a20 : Nat) (thr : Int32) (ci : Int32) (bk : Int32) (se : Int32) (op : Int32) (fa : Int32) (lt : Nat) (lb : Nat) (lz : Nat) (rn : Nat) (nu : Int64) (kh : Int64) (kl : Int64) (sh : Int64) (sl : Int64) (sz : Nat)  : Met l y_M_numbered (sbw y_M_numbered b_M_numbered 1 (some .long)) rm_M_numbered (sbPc D cI cL cB tS tF [.ref mo] sz [(mo, .inr (7, mFs thr a1 a2 a3 (nI lt) (nI lb) (nI lz) ci a4 a5 a6 nu bk se op fa a7 a8 a9 a10 a11 (nI rn) kh kl sh sl a12 a13 a14 a15 a16 a17 a18 a19 a20))]) (sbQl D (fun (r : Int64) (_ : Unit) => r = nu) (fun (_ : Unit) => [(mo, .inr (7, mFs 0 a1 a2 a3 (nI lt) (nI lb) (nI lz) ci a4 a5 a6 nu bk se op fa a7 a8 a9 a10 a11 (nI rn) kh kl sh sl a12 a13 a14 a15 a16 a17 a18 a19 a20))]) (va_A [(mo, .inr (7, mFs thr a1 a2 a3 (nI lt) (nI lb) (nI lz) ci a4 a5 a6 nu bk se op fa a7 a8 a9 a10 a11 (nI rn) kh kl sh sl a12 a13 a14 a15 a16 a17 a18 a19 a20))] sz)) 0 0 (va_A [(mo, .inr (7, mFs thr a1 a2 a3 (nI lt) (nI lb) (nI lz) ci a4 a5 a6 nu bk se op fa a7 a8 a9 a10 a11 (nI rn) kh kl sh sl a12 a13 a14 a15 a16 a17 a18 a19 a20))] sz) := by
  refine sb_ofW (y := y_M_numbered) (maxL := 1) (av := [.ref mo]) (Qc := fun A => (sbQl D (fun (r : Int64) (_ : Unit) => r = nu) (fun (_ : Unit) => [(mo, .inr (7, mFs 0 a1 a2 a3 (nI lt) (nI lb) (nI lz) ci a4 a5 a6 nu bk se op fa a7 a8 a9 a10 a11 (nI rn) kh kl sh sl a12 a13 a14 a15 a16 a17 a18 a19 a20))]) A)) (by decide) (Nat.le_of_ble_eq_true rfl) ?_
  intro p e s m args below meth c A ls hx hb hr hml hts hown hlocks hin hsz hP hG hD hA hS hl
  have hl : lv_has ls 1 [(0, .ref mo)] := hl
  refine lv_aload_n hx hb d_M_numbered_0 rfl (lv_at hl 0 rfl) ?_
  refine lv_iconst (v := 0) hx hb d_M_numbered_1 (by decide) ?_
  refine va_put (D := D) (ci := 7) (v := .int 0) (ty := .int) (C := R_M) (T := F_M) (N := 35) hx hb hts in_M tq_M tq_M_ok nq_M hown hG.1 hP hD hS 0 rfl rfl 0 (by decide) (hts _ k_697) (fun _ h9 => h9) rfl (by decide +kernel) rfl rfl (Nat.le_of_ble_eq_true rfl) d_M_numbered_2 (fun H locs hP hD hS => ?_)
  have hP : va_P D vwCl [(mo, .inr (7, mFs 0 a1 a2 a3 (nI lt) (nI lb) (nI lz) ci a4 a5 a6 nu bk se op fa a7 a8 a9 a10 a11 (nI rn) kh kl sh sl a12 a13 a14 a15 a16 a17 a18 a19 a20))] H := hP
  have hD : va_D A [(mo, .inr (7, mFs 0 a1 a2 a3 (nI lt) (nI lb) (nI lz) ci a4 a5 a6 nu bk se op fa a7 a8 a9 a10 a11 (nI rn) kh kl sh sl a12 a13 a14 a15 a16 a17 a18 a19 a20))] := hD
  refine lv_aload_n hx hb d_M_numbered_5 rfl (lv_at hl 0 rfl) ?_
  refine va_get (D := D) (ci := 7) (v := .long nu) (C := R_M) (T := F_M) (N := 35) hx hb hts in_M hown hG.1 hP 0 rfl rfl 11 (by decide) (hts _ k_708) (fun _ h9 => h9) rfl d_M_numbered_6 ?_
  have hP9 := hP.sub (ws' := [(mo, .inr (7, mFs 0 a1 a2 a3 (nI lt) (nI lb) (nI lz) ci a4 a5 a6 nu bk se op fa a7 a8 a9 a10 a11 (nI rn) kh kl sh sl a12 a13 a14 a15 a16 a17 a18 a19 a20))]) [0] rfl
  have hD9 := hD.sub (ws' := [(mo, .inr (7, mFs 0 a1 a2 a3 (nI lt) (nI lb) (nI lz) ci a4 a5 a6 nu bk se op fa a7 a8 a9 a10 a11 (nI rn) kh kl sh sl a12 a13 a14 a15 a16 a17 a18 a19 a20))]) [0] (by decide) rfl
  exact W.lret (v := nu) hx hb hr (fun t ht hW => ⟨⟨_, (), rfl, (by subst_vars; rfl), by rw [ht]; exact hP9, hD9⟩, hS.F ht⟩) hS.2.2 d_M_numbered_9

theorem d_M_count_0 : decode b_M_count 0 = .ok (.aload_n 0, 1) := by decide +kernel
theorem d_M_count_1 : decode b_M_count 1 = .ok (.iconst 0, 1) := by decide +kernel
theorem d_M_count_2 : decode b_M_count 2 = .ok (.putfield 79, 3) := by decide +kernel
theorem d_M_count_5 : decode b_M_count 5 = .ok (.iload_n 1, 1) := by decide +kernel
theorem d_M_count_6 : decode b_M_count 6 = .ok (.tableswitch 86 0 7 #[46, 51, 56, 61, 66, 71, 76, 81], 46) := by decide +kernel
theorem d_M_count_52 : decode b_M_count 52 = .ok (.aload_n 0, 1) := by decide +kernel
theorem d_M_count_53 : decode b_M_count 53 = .ok (.getfield 162, 3) := by decide +kernel
theorem d_M_count_56 : decode b_M_count 56 = .ok (.ireturn, 1) := by decide +kernel
theorem d_M_count_57 : decode b_M_count 57 = .ok (.aload_n 0, 1) := by decide +kernel
theorem d_M_count_58 : decode b_M_count 58 = .ok (.getfield 156, 3) := by decide +kernel
theorem d_M_count_61 : decode b_M_count 61 = .ok (.ireturn, 1) := by decide +kernel
theorem d_M_count_62 : decode b_M_count 62 = .ok (.aload_n 0, 1) := by decide +kernel
theorem d_M_count_63 : decode b_M_count 63 = .ok (.getfield 107, 3) := by decide +kernel
theorem d_M_count_66 : decode b_M_count 66 = .ok (.ireturn, 1) := by decide +kernel
theorem d_M_count_67 : decode b_M_count 67 = .ok (.aload_n 0, 1) := by decide +kernel
theorem d_M_count_68 : decode b_M_count 68 = .ok (.getfield 20, 3) := by decide +kernel
theorem d_M_count_71 : decode b_M_count 71 = .ok (.ireturn, 1) := by decide +kernel
theorem d_M_count_72 : decode b_M_count 72 = .ok (.aload_n 0, 1) := by decide +kernel
theorem d_M_count_73 : decode b_M_count 73 = .ok (.getfield 159, 3) := by decide +kernel
theorem d_M_count_76 : decode b_M_count 76 = .ok (.ireturn, 1) := by decide +kernel
theorem d_M_count_77 : decode b_M_count 77 = .ok (.aload_n 0, 1) := by decide +kernel
theorem d_M_count_78 : decode b_M_count 78 = .ok (.getfield 182, 3) := by decide +kernel
theorem d_M_count_81 : decode b_M_count 81 = .ok (.ireturn, 1) := by decide +kernel
theorem d_M_count_82 : decode b_M_count 82 = .ok (.aload_n 0, 1) := by decide +kernel
theorem d_M_count_83 : decode b_M_count 83 = .ok (.getfield 188, 3) := by decide +kernel
theorem d_M_count_86 : decode b_M_count 86 = .ok (.ireturn, 1) := by decide +kernel
theorem d_M_count_87 : decode b_M_count 87 = .ok (.aload_n 0, 1) := by decide +kernel
theorem d_M_count_88 : decode b_M_count 88 = .ok (.getfield 185, 3) := by decide +kernel
theorem d_M_count_91 : decode b_M_count 91 = .ok (.ireturn, 1) := by decide +kernel
theorem d_M_count_92 : decode b_M_count 92 = .ok (.iconst (-1), 1) := by decide +kernel
theorem d_M_count_93 : decode b_M_count 93 = .ok (.ireturn, 1) := by decide +kernel

def rm_M_count : Room := { frames := 0, cells := 0, slots := 0, locals := 0 }
set_option maxHeartbeats 4000000 in
set_option maxRecDepth 100000 in
theorem c_M_count (l : Launch) (D : va_G) (cI cL cB : ClassId) (tS tF : Nat) (mo : Nat) (a1 : Nat) (a2 : Nat) (a3 : Nat) (a4 : Nat) (a5 : Nat) (a6 : Nat) (a7 : Nat) (a8 : Nat) (a9 : Nat) (a10 : Nat) (a11 : Nat) (a12 : Nat) (a13 : Nat) (a14 : Nat) (a15 : Nat) (a16 : Nat) (a17 : Nat) (a18 : Nat) (a19 : Nat) (a20 : Nat) (thr : Int32) (ci : Int32) (bk : Int32) (se : Int32) (op : Int32) (fa : Int32) (lt : Nat) (lb : Nat) (lz : Nat) (rn : Nat) (nu : Int64) (kh : Int64) (kl : Int64) (sh : Int64) (sl : Int64) (what : Int32) (sz : Nat)  : Met l y_M_count (sbw y_M_count b_M_count 2 (some .int)) rm_M_count (sbPc D cI cL cB tS tF [.ref mo, .int what] sz [(mo, .inr (7, mFs thr a1 a2 a3 (nI lt) (nI lb) (nI lz) ci a4 a5 a6 nu bk se op fa a7 a8 a9 a10 a11 (nI rn) kh kl sh sl a12 a13 a14 a15 a16 a17 a18 a19 a20))]) (sbQi D (fun (r : Int32) (_ : Unit) => r = xcnt what (nI lt) (nI lb) (nI lz) ci bk se op fa) (fun (_ : Unit) => [(mo, .inr (7, mFs 0 a1 a2 a3 (nI lt) (nI lb) (nI lz) ci a4 a5 a6 nu bk se op fa a7 a8 a9 a10 a11 (nI rn) kh kl sh sl a12 a13 a14 a15 a16 a17 a18 a19 a20))]) (va_A [(mo, .inr (7, mFs thr a1 a2 a3 (nI lt) (nI lb) (nI lz) ci a4 a5 a6 nu bk se op fa a7 a8 a9 a10 a11 (nI rn) kh kl sh sl a12 a13 a14 a15 a16 a17 a18 a19 a20))] sz)) 0 0 (va_A [(mo, .inr (7, mFs thr a1 a2 a3 (nI lt) (nI lb) (nI lz) ci a4 a5 a6 nu bk se op fa a7 a8 a9 a10 a11 (nI rn) kh kl sh sl a12 a13 a14 a15 a16 a17 a18 a19 a20))] sz) := by
  refine sb_ofW (y := y_M_count) (maxL := 2) (av := [.ref mo, .int what]) (Qc := fun A => (sbQi D (fun (r : Int32) (_ : Unit) => r = xcnt what (nI lt) (nI lb) (nI lz) ci bk se op fa) (fun (_ : Unit) => [(mo, .inr (7, mFs 0 a1 a2 a3 (nI lt) (nI lb) (nI lz) ci a4 a5 a6 nu bk se op fa a7 a8 a9 a10 a11 (nI rn) kh kl sh sl a12 a13 a14 a15 a16 a17 a18 a19 a20))]) A)) (by decide) (Nat.le_of_ble_eq_true rfl) ?_
  intro p e s m args below meth c A ls hx hb hr hml hts hown hlocks hin hsz hP hG hD hA hS hl
  have hl : lv_has ls 2 [(0, .ref mo), (1, .int what)] := hl
  refine lv_aload_n hx hb d_M_count_0 rfl (lv_at hl 0 rfl) ?_
  refine lv_iconst (v := 0) hx hb d_M_count_1 (by decide) ?_
  refine va_put (D := D) (ci := 7) (v := .int 0) (ty := .int) (C := R_M) (T := F_M) (N := 35) hx hb hts in_M tq_M tq_M_ok nq_M hown hG.1 hP hD hS 0 rfl rfl 0 (by decide) (hts _ k_697) (fun _ h9 => h9) rfl (by decide +kernel) rfl rfl (Nat.le_of_ble_eq_true rfl) d_M_count_2 (fun H locs hP hD hS => ?_)
  have hP : va_P D vwCl [(mo, .inr (7, mFs 0 a1 a2 a3 (nI lt) (nI lb) (nI lz) ci a4 a5 a6 nu bk se op fa a7 a8 a9 a10 a11 (nI rn) kh kl sh sl a12 a13 a14 a15 a16 a17 a18 a19 a20))] H := hP
  have hD : va_D A [(mo, .inr (7, mFs 0 a1 a2 a3 (nI lt) (nI lb) (nI lz) ci a4 a5 a6 nu bk se op fa a7 a8 a9 a10 a11 (nI rn) kh kl sh sl a12 a13 a14 a15 a16 a17 a18 a19 a20))] := hD
  refine lv_iload_n hx hb d_M_count_5 rfl (lv_at hl 1 rfl) ?_
  rcases sb_sw8 what with rfl | rfl | rfl | rfl | rfl | rfl | rfl | rfl | hsw
  · refine lv_tableIn (tgt := 52) (off := 46) hx hb d_M_count_6 (by decide) (by decide) rfl (by decide) ?_
    refine lv_aload_n hx hb d_M_count_52 rfl (lv_at hl 0 rfl) ?_
    refine va_get (D := D) (ci := 7) (v := .int (nI lt)) (C := R_M) (T := F_M) (N := 35) hx hb hts in_M hown hG.1 hP 0 rfl rfl 4 (by decide) (hts _ k_701) (fun _ h9 => h9) rfl d_M_count_53 ?_
    have hP9 := hP.sub (ws' := [(mo, .inr (7, mFs 0 a1 a2 a3 (nI lt) (nI lb) (nI lz) ci a4 a5 a6 nu bk se op fa a7 a8 a9 a10 a11 (nI rn) kh kl sh sl a12 a13 a14 a15 a16 a17 a18 a19 a20))]) [0] rfl
    have hD9 := hD.sub (ws' := [(mo, .inr (7, mFs 0 a1 a2 a3 (nI lt) (nI lb) (nI lz) ci a4 a5 a6 nu bk se op fa a7 a8 a9 a10 a11 (nI rn) kh kl sh sl a12 a13 a14 a15 a16 a17 a18 a19 a20))]) [0] (by decide) rfl
    exact W.iret (v := nI lt) hx hb hr (fun t ht hW => ⟨⟨_, (), rfl, rfl, by rw [ht]; exact hP9, hD9⟩, hS.F ht⟩) hS.2.2 d_M_count_56
  · refine lv_tableIn (tgt := 57) (off := 51) hx hb d_M_count_6 (by decide) (by decide) rfl (by decide) ?_
    refine lv_aload_n hx hb d_M_count_57 rfl (lv_at hl 0 rfl) ?_
    refine va_get (D := D) (ci := 7) (v := .int (nI lb)) (C := R_M) (T := F_M) (N := 35) hx hb hts in_M hown hG.1 hP 0 rfl rfl 5 (by decide) (hts _ k_702) (fun _ h9 => h9) rfl d_M_count_58 ?_
    have hP9 := hP.sub (ws' := [(mo, .inr (7, mFs 0 a1 a2 a3 (nI lt) (nI lb) (nI lz) ci a4 a5 a6 nu bk se op fa a7 a8 a9 a10 a11 (nI rn) kh kl sh sl a12 a13 a14 a15 a16 a17 a18 a19 a20))]) [0] rfl
    have hD9 := hD.sub (ws' := [(mo, .inr (7, mFs 0 a1 a2 a3 (nI lt) (nI lb) (nI lz) ci a4 a5 a6 nu bk se op fa a7 a8 a9 a10 a11 (nI rn) kh kl sh sl a12 a13 a14 a15 a16 a17 a18 a19 a20))]) [0] (by decide) rfl
    exact W.iret (v := nI lb) hx hb hr (fun t ht hW => ⟨⟨_, (), rfl, rfl, by rw [ht]; exact hP9, hD9⟩, hS.F ht⟩) hS.2.2 d_M_count_61
  · refine lv_tableIn (tgt := 62) (off := 56) hx hb d_M_count_6 (by decide) (by decide) rfl (by decide) ?_
    refine lv_aload_n hx hb d_M_count_62 rfl (lv_at hl 0 rfl) ?_
    refine va_get (D := D) (ci := 7) (v := .int (nI lz)) (C := R_M) (T := F_M) (N := 35) hx hb hts in_M hown hG.1 hP 0 rfl rfl 6 (by decide) (hts _ k_703) (fun _ h9 => h9) rfl d_M_count_63 ?_
    have hP9 := hP.sub (ws' := [(mo, .inr (7, mFs 0 a1 a2 a3 (nI lt) (nI lb) (nI lz) ci a4 a5 a6 nu bk se op fa a7 a8 a9 a10 a11 (nI rn) kh kl sh sl a12 a13 a14 a15 a16 a17 a18 a19 a20))]) [0] rfl
    have hD9 := hD.sub (ws' := [(mo, .inr (7, mFs 0 a1 a2 a3 (nI lt) (nI lb) (nI lz) ci a4 a5 a6 nu bk se op fa a7 a8 a9 a10 a11 (nI rn) kh kl sh sl a12 a13 a14 a15 a16 a17 a18 a19 a20))]) [0] (by decide) rfl
    exact W.iret (v := nI lz) hx hb hr (fun t ht hW => ⟨⟨_, (), rfl, rfl, by rw [ht]; exact hP9, hD9⟩, hS.F ht⟩) hS.2.2 d_M_count_66
  · refine lv_tableIn (tgt := 67) (off := 61) hx hb d_M_count_6 (by decide) (by decide) rfl (by decide) ?_
    refine lv_aload_n hx hb d_M_count_67 rfl (lv_at hl 0 rfl) ?_
    refine va_get (D := D) (ci := 7) (v := .int ci) (C := R_M) (T := F_M) (N := 35) hx hb hts in_M hown hG.1 hP 0 rfl rfl 7 (by decide) (hts _ k_704) (fun _ h9 => h9) rfl d_M_count_68 ?_
    have hP9 := hP.sub (ws' := [(mo, .inr (7, mFs 0 a1 a2 a3 (nI lt) (nI lb) (nI lz) ci a4 a5 a6 nu bk se op fa a7 a8 a9 a10 a11 (nI rn) kh kl sh sl a12 a13 a14 a15 a16 a17 a18 a19 a20))]) [0] rfl
    have hD9 := hD.sub (ws' := [(mo, .inr (7, mFs 0 a1 a2 a3 (nI lt) (nI lb) (nI lz) ci a4 a5 a6 nu bk se op fa a7 a8 a9 a10 a11 (nI rn) kh kl sh sl a12 a13 a14 a15 a16 a17 a18 a19 a20))]) [0] (by decide) rfl
    exact W.iret (v := ci) hx hb hr (fun t ht hW => ⟨⟨_, (), rfl, rfl, by rw [ht]; exact hP9, hD9⟩, hS.F ht⟩) hS.2.2 d_M_count_71
  · refine lv_tableIn (tgt := 72) (off := 66) hx hb d_M_count_6 (by decide) (by decide) rfl (by decide) ?_
    refine lv_aload_n hx hb d_M_count_72 rfl (lv_at hl 0 rfl) ?_
    refine va_get (D := D) (ci := 7) (v := .int bk) (C := R_M) (T := F_M) (N := 35) hx hb hts in_M hown hG.1 hP 0 rfl rfl 12 (by decide) (hts _ k_709) (fun _ h9 => h9) rfl d_M_count_73 ?_
    have hP9 := hP.sub (ws' := [(mo, .inr (7, mFs 0 a1 a2 a3 (nI lt) (nI lb) (nI lz) ci a4 a5 a6 nu bk se op fa a7 a8 a9 a10 a11 (nI rn) kh kl sh sl a12 a13 a14 a15 a16 a17 a18 a19 a20))]) [0] rfl
    have hD9 := hD.sub (ws' := [(mo, .inr (7, mFs 0 a1 a2 a3 (nI lt) (nI lb) (nI lz) ci a4 a5 a6 nu bk se op fa a7 a8 a9 a10 a11 (nI rn) kh kl sh sl a12 a13 a14 a15 a16 a17 a18 a19 a20))]) [0] (by decide) rfl
    exact W.iret (v := bk) hx hb hr (fun t ht hW => ⟨⟨_, (), rfl, rfl, by rw [ht]; exact hP9, hD9⟩, hS.F ht⟩) hS.2.2 d_M_count_76
  · refine lv_tableIn (tgt := 77) (off := 71) hx hb d_M_count_6 (by decide) (by decide) rfl (by decide) ?_
    refine lv_aload_n hx hb d_M_count_77 rfl (lv_at hl 0 rfl) ?_
    refine va_get (D := D) (ci := 7) (v := .int se) (C := R_M) (T := F_M) (N := 35) hx hb hts in_M hown hG.1 hP 0 rfl rfl 13 (by decide) (hts _ k_710) (fun _ h9 => h9) rfl d_M_count_78 ?_
    have hP9 := hP.sub (ws' := [(mo, .inr (7, mFs 0 a1 a2 a3 (nI lt) (nI lb) (nI lz) ci a4 a5 a6 nu bk se op fa a7 a8 a9 a10 a11 (nI rn) kh kl sh sl a12 a13 a14 a15 a16 a17 a18 a19 a20))]) [0] rfl
    have hD9 := hD.sub (ws' := [(mo, .inr (7, mFs 0 a1 a2 a3 (nI lt) (nI lb) (nI lz) ci a4 a5 a6 nu bk se op fa a7 a8 a9 a10 a11 (nI rn) kh kl sh sl a12 a13 a14 a15 a16 a17 a18 a19 a20))]) [0] (by decide) rfl
    exact W.iret (v := se) hx hb hr (fun t ht hW => ⟨⟨_, (), rfl, rfl, by rw [ht]; exact hP9, hD9⟩, hS.F ht⟩) hS.2.2 d_M_count_81
  · refine lv_tableIn (tgt := 82) (off := 76) hx hb d_M_count_6 (by decide) (by decide) rfl (by decide) ?_
    refine lv_aload_n hx hb d_M_count_82 rfl (lv_at hl 0 rfl) ?_
    refine va_get (D := D) (ci := 7) (v := .int op) (C := R_M) (T := F_M) (N := 35) hx hb hts in_M hown hG.1 hP 0 rfl rfl 14 (by decide) (hts _ k_711) (fun _ h9 => h9) rfl d_M_count_83 ?_
    have hP9 := hP.sub (ws' := [(mo, .inr (7, mFs 0 a1 a2 a3 (nI lt) (nI lb) (nI lz) ci a4 a5 a6 nu bk se op fa a7 a8 a9 a10 a11 (nI rn) kh kl sh sl a12 a13 a14 a15 a16 a17 a18 a19 a20))]) [0] rfl
    have hD9 := hD.sub (ws' := [(mo, .inr (7, mFs 0 a1 a2 a3 (nI lt) (nI lb) (nI lz) ci a4 a5 a6 nu bk se op fa a7 a8 a9 a10 a11 (nI rn) kh kl sh sl a12 a13 a14 a15 a16 a17 a18 a19 a20))]) [0] (by decide) rfl
    exact W.iret (v := op) hx hb hr (fun t ht hW => ⟨⟨_, (), rfl, rfl, by rw [ht]; exact hP9, hD9⟩, hS.F ht⟩) hS.2.2 d_M_count_86
  · refine lv_tableIn (tgt := 87) (off := 81) hx hb d_M_count_6 (by decide) (by decide) rfl (by decide) ?_
    refine lv_aload_n hx hb d_M_count_87 rfl (lv_at hl 0 rfl) ?_
    refine va_get (D := D) (ci := 7) (v := .int fa) (C := R_M) (T := F_M) (N := 35) hx hb hts in_M hown hG.1 hP 0 rfl rfl 15 (by decide) (hts _ k_712) (fun _ h9 => h9) rfl d_M_count_88 ?_
    have hP9 := hP.sub (ws' := [(mo, .inr (7, mFs 0 a1 a2 a3 (nI lt) (nI lb) (nI lz) ci a4 a5 a6 nu bk se op fa a7 a8 a9 a10 a11 (nI rn) kh kl sh sl a12 a13 a14 a15 a16 a17 a18 a19 a20))]) [0] rfl
    have hD9 := hD.sub (ws' := [(mo, .inr (7, mFs 0 a1 a2 a3 (nI lt) (nI lb) (nI lz) ci a4 a5 a6 nu bk se op fa a7 a8 a9 a10 a11 (nI rn) kh kl sh sl a12 a13 a14 a15 a16 a17 a18 a19 a20))]) [0] (by decide) rfl
    exact W.iret (v := fa) hx hb hr (fun t ht hW => ⟨⟨_, (), rfl, rfl, by rw [ht]; exact hP9, hD9⟩, hS.F ht⟩) hS.2.2 d_M_count_91
  · refine lv_tableOut (tgt := 92) hx hb d_M_count_6 hsw (by decide) ?_
    refine lv_iconst (v := (-1)) hx hb d_M_count_92 (by decide) ?_
    have hP9 := hP.sub (ws' := [(mo, .inr (7, mFs 0 a1 a2 a3 (nI lt) (nI lb) (nI lz) ci a4 a5 a6 nu bk se op fa a7 a8 a9 a10 a11 (nI rn) kh kl sh sl a12 a13 a14 a15 a16 a17 a18 a19 a20))]) [0] rfl
    have hD9 := hD.sub (ws' := [(mo, .inr (7, mFs 0 a1 a2 a3 (nI lt) (nI lb) (nI lz) ci a4 a5 a6 nu bk se op fa a7 a8 a9 a10 a11 (nI rn) kh kl sh sl a12 a13 a14 a15 a16 a17 a18 a19 a20))]) [0] (by decide) rfl
    exact W.iret (v := (-1)) hx hb hr (fun t ht hW => ⟨⟨_, (), rfl, (xcnt_out hsw), by rw [ht]; exact hP9, hD9⟩, hS.F ht⟩) hS.2.2 d_M_count_93

theorem d_M_little_0 : decode b_M_little 0 = .ok (.aload_n 0, 1) := by decide +kernel
theorem d_M_little_1 : decode b_M_little 1 = .ok (.iload_n 1, 1) := by decide +kernel
theorem d_M_little_2 : decode b_M_little 2 = .ok (.iaload, 1) := by decide +kernel
theorem d_M_little_3 : decode b_M_little 3 = .ok (.aload_n 0, 1) := by decide +kernel
theorem d_M_little_4 : decode b_M_little 4 = .ok (.iload_n 1, 1) := by decide +kernel
theorem d_M_little_5 : decode b_M_little 5 = .ok (.iconst 1, 1) := by decide +kernel
theorem d_M_little_6 : decode b_M_little 6 = .ok (.iadd, 1) := by decide +kernel
theorem d_M_little_7 : decode b_M_little 7 = .ok (.iaload, 1) := by decide +kernel
theorem d_M_little_8 : decode b_M_little 8 = .ok (.bipush 8, 2) := by decide +kernel
theorem d_M_little_10 : decode b_M_little 10 = .ok (.ishl, 1) := by decide +kernel
theorem d_M_little_11 : decode b_M_little 11 = .ok (.ior, 1) := by decide +kernel
theorem d_M_little_12 : decode b_M_little 12 = .ok (.aload_n 0, 1) := by decide +kernel
theorem d_M_little_13 : decode b_M_little 13 = .ok (.iload_n 1, 1) := by decide +kernel
theorem d_M_little_14 : decode b_M_little 14 = .ok (.iconst 2, 1) := by decide +kernel
theorem d_M_little_15 : decode b_M_little 15 = .ok (.iadd, 1) := by decide +kernel
theorem d_M_little_16 : decode b_M_little 16 = .ok (.iaload, 1) := by decide +kernel
theorem d_M_little_17 : decode b_M_little 17 = .ok (.bipush 16, 2) := by decide +kernel
theorem d_M_little_19 : decode b_M_little 19 = .ok (.ishl, 1) := by decide +kernel
theorem d_M_little_20 : decode b_M_little 20 = .ok (.ior, 1) := by decide +kernel
theorem d_M_little_21 : decode b_M_little 21 = .ok (.aload_n 0, 1) := by decide +kernel
theorem d_M_little_22 : decode b_M_little 22 = .ok (.iload_n 1, 1) := by decide +kernel
theorem d_M_little_23 : decode b_M_little 23 = .ok (.iconst 3, 1) := by decide +kernel
theorem d_M_little_24 : decode b_M_little 24 = .ok (.iadd, 1) := by decide +kernel
theorem d_M_little_25 : decode b_M_little 25 = .ok (.iaload, 1) := by decide +kernel
theorem d_M_little_26 : decode b_M_little 26 = .ok (.bipush 24, 2) := by decide +kernel
theorem d_M_little_28 : decode b_M_little 28 = .ok (.ishl, 1) := by decide +kernel
theorem d_M_little_29 : decode b_M_little 29 = .ok (.ior, 1) := by decide +kernel
theorem d_M_little_30 : decode b_M_little 30 = .ok (.ireturn, 1) := by decide +kernel

def rm_M_little : Room := { frames := 0, cells := 0, slots := 0, locals := 0 }
set_option maxHeartbeats 4000000 in
set_option maxRecDepth 100000 in
theorem c_M_little (l : Launch) (D : va_G) (cI cL cB : ClassId) (tS tF : Nat) (q : Nat) (n : Nat) (g : Nat → Nat) (i : Nat) (hi : i + 4 ≤ n) (hn : n < 2 ^ 31) : Met l y_M_little (sbw y_M_little b_M_little 2 (some .int)) rm_M_little (sbPr D cI cL cB tS tF [.ref q, .int (nI i)] [(q, .inl (cI, n, .inl (nF g)))]) (vp_Si (fun r => r = mlit g i)) 0 0 (fun _ => False) := by
  refine sb_ofR (by decide) (Nat.le_of_ble_eq_true rfl) ?_
  intro p e s m args below meth c ls hx hb hr hml hts hown hlocks hP hG hS hl
  have hl : lv_has ls 2 [(0, .ref q), (1, .int (nI i))] := hl
  refine lv_aload_n hx hb d_M_little_0 rfl (lv_at hl 0 rfl) ?_
  refine lv_iload_n hx hb d_M_little_1 rfl (lv_at hl 1 rfl) ?_
  refine sb_ild hx hb hG.1 hP 0 rfl i rfl (by omega) (by omega) d_M_little_2 ?_
  refine lv_aload_n hx hb d_M_little_3 rfl (lv_at hl 0 rfl) ?_
  refine lv_iload_n hx hb d_M_little_4 rfl (lv_at hl 1 rfl) ?_
  refine lv_iconst (v := 1) hx hb d_M_little_5 (by decide) ?_
  refine lv_iadd hx hb d_M_little_6 ?_
  refine sb_topn (i + 1) (nI_add i 1) ?_
  refine sb_ild hx hb hG.1 hP 0 rfl (i + 1) rfl (by omega) (by omega) d_M_little_7 ?_
  refine lv_bipush (v := 8) hx hb d_M_little_8 (by decide) ?_
  refine lv_ishl hx hb d_M_little_10 ?_
  refine lv_ior hx hb d_M_little_11 ?_
  refine lv_aload_n hx hb d_M_little_12 rfl (lv_at hl 0 rfl) ?_
  refine lv_iload_n hx hb d_M_little_13 rfl (lv_at hl 1 rfl) ?_
  refine lv_iconst (v := 2) hx hb d_M_little_14 (by decide) ?_
  refine lv_iadd hx hb d_M_little_15 ?_
  refine sb_topn (i + 2) (nI_add i 2) ?_
  refine sb_ild hx hb hG.1 hP 0 rfl (i + 2) rfl (by omega) (by omega) d_M_little_16 ?_
  refine lv_bipush (v := 16) hx hb d_M_little_17 (by decide) ?_
  refine lv_ishl hx hb d_M_little_19 ?_
  refine lv_ior hx hb d_M_little_20 ?_
  refine lv_aload_n hx hb d_M_little_21 rfl (lv_at hl 0 rfl) ?_
  refine lv_iload_n hx hb d_M_little_22 rfl (lv_at hl 1 rfl) ?_
  refine lv_iconst (v := 3) hx hb d_M_little_23 (by decide) ?_
  refine lv_iadd hx hb d_M_little_24 ?_
  refine sb_topn (i + 3) (nI_add i 3) ?_
  refine sb_ild hx hb hG.1 hP 0 rfl (i + 3) rfl (by omega) (by omega) d_M_little_25 ?_
  refine lv_bipush (v := 24) hx hb d_M_little_26 (by decide) ?_
  refine lv_ishl hx hb d_M_little_28 ?_
  refine lv_ior hx hb d_M_little_29 ?_
  exact W.iret (v := (((nI (g i)) ||| ((nI (g (i + 1))) <<< (8 &&& 31))) ||| ((nI (g (i + 2))) <<< (16 &&& 31))) ||| ((nI (g (i + 3))) <<< (24 &&& 31))) hx hb hr (fun t ht hW => ⟨_, rfl, rfl, ht⟩) hS.2.2 d_M_little_30

theorem d_M_eight_0 : decode b_M_eight 0 = .ok (.lconst 0, 1) := by decide +kernel
theorem d_M_eight_1 : decode b_M_eight 1 = .ok (.lstore_n 3, 1) := by decide +kernel
theorem d_M_eight_2 : decode b_M_eight 2 = .ok (.iconst 0, 1) := by decide +kernel
theorem d_M_eight_3 : decode b_M_eight 3 = .ok (.istore 5, 2) := by decide +kernel
theorem d_M_eight_5 : decode b_M_eight 5 = .ok (.iload 5, 2) := by decide +kernel
theorem d_M_eight_7 : decode b_M_eight 7 = .ok (.bipush 8, 2) := by decide +kernel
theorem d_M_eight_9 : decode b_M_eight 9 = .ok (.if_icmp .ge 34, 3) := by decide +kernel
theorem d_M_eight_12 : decode b_M_eight 12 = .ok (.lload_n 3, 1) := by decide +kernel
theorem d_M_eight_13 : decode b_M_eight 13 = .ok (.bipush 8, 2) := by decide +kernel
theorem d_M_eight_15 : decode b_M_eight 15 = .ok (.lshl, 1) := by decide +kernel
theorem d_M_eight_16 : decode b_M_eight 16 = .ok (.iload_n 1, 1) := by decide +kernel
theorem d_M_eight_17 : decode b_M_eight 17 = .ok (.iload 5, 2) := by decide +kernel
theorem d_M_eight_19 : decode b_M_eight 19 = .ok (.iadd, 1) := by decide +kernel
theorem d_M_eight_20 : decode b_M_eight 20 = .ok (.iload_n 2, 1) := by decide +kernel
theorem d_M_eight_21 : decode b_M_eight 21 = .ok (.if_icmp .ge 12, 3) := by decide +kernel
theorem d_M_eight_24 : decode b_M_eight 24 = .ok (.aload_n 0, 1) := by decide +kernel
theorem d_M_eight_25 : decode b_M_eight 25 = .ok (.iload_n 1, 1) := by decide +kernel
theorem d_M_eight_26 : decode b_M_eight 26 = .ok (.iload 5, 2) := by decide +kernel
theorem d_M_eight_28 : decode b_M_eight 28 = .ok (.iadd, 1) := by decide +kernel
theorem d_M_eight_29 : decode b_M_eight 29 = .ok (.iaload, 1) := by decide +kernel
theorem d_M_eight_30 : decode b_M_eight 30 = .ok (.goto 4, 3) := by decide +kernel
theorem d_M_eight_33 : decode b_M_eight 33 = .ok (.iconst 0, 1) := by decide +kernel
theorem d_M_eight_34 : decode b_M_eight 34 = .ok (.i2l, 1) := by decide +kernel
theorem d_M_eight_35 : decode b_M_eight 35 = .ok (.lor, 1) := by decide +kernel
theorem d_M_eight_36 : decode b_M_eight 36 = .ok (.lstore_n 3, 1) := by decide +kernel
theorem d_M_eight_37 : decode b_M_eight 37 = .ok (.iinc 5 1, 3) := by decide +kernel
theorem d_M_eight_40 : decode b_M_eight 40 = .ok (.goto (-35), 3) := by decide +kernel
theorem d_M_eight_43 : decode b_M_eight 43 = .ok (.lload_n 3, 1) := by decide +kernel
theorem d_M_eight_44 : decode b_M_eight 44 = .ok (.lreturn, 1) := by decide +kernel

def rm_M_eight : Room := { frames := 0, cells := 0, slots := 0, locals := 0 }
set_option maxHeartbeats 4000000 in
set_option maxRecDepth 100000 in
theorem c_M_eight (l : Launch) (D : va_G) (cI cL cB : ClassId) (tS tF : Nat) (q : Nat) (n : Nat) (g : Nat → Nat) (a : Nat) (z : Nat) (hz : z ≤ n) (hn : n < 2 ^ 30) (ha : a < 2 ^ 30) : Met l y_M_eight (sbw y_M_eight b_M_eight 6 (some .long)) rm_M_eight (sbPr D cI cL cB tS tF [.ref q, .int (nI a), .int (nI z)] [(q, .inl (cI, n, .inl (nF g)))]) (vp_Sl (fun r => r = m8 g a z)) 0 0 (fun _ => False) := by
  refine sb_ofR (by decide) (Nat.le_of_ble_eq_true rfl) ?_
  intro p e s m args below meth c ls hx hb hr hml hts hown hlocks hP hG hS hl
  have hl : lv_has ls 6 [(0, .ref q), (1, .int (nI a)), (2, .int (nI z))] := hl
  refine lv_lconst (v := 0) hx hb d_M_eight_0 (by decide) ?_
  refine lv_lstore_n (lv' := [(3, .long 0), (0, .ref q), (1, .int (nI a)), (2, .int (nI z))]) hx hb d_M_eight_1 rfl hl (by decide) rfl (fun ls hl => ?_)
  refine lv_iconst (v := 0) hx hb d_M_eight_2 (by decide) ?_
  refine lv_istore (lv' := [(5, .int 0), (3, .long 0), (0, .ref q), (1, .int (nI a)), (2, .int (nI z))]) hx hb d_M_eight_3 hl (by decide) rfl (fun ls hl => ?_)
  have lp1 : ∀ (d1 i : Nat), i + d1 = 8 → ∀ (ls : Array Slot), lv_has ls 6 [(3, .long (iter (m8s g a z) i 0)), (5, .int (nI i)), (0, .ref q), (1, .int (nI a)), (2, .int (nI z))] → W p l e rm_M_eight s m args below meth c s.heap [] 0 0 (MQ below (vp_Sl (fun r => r = m8 g a z)) args s 0 0 (fun _ => False)) (F0 m 5 ls []) := by
    intro d1
    induction d1 with
    | zero =>
      intro i hi1 ls hl
      obtain rfl : 8 = i := by omega
      refine lv_iload hx hb d_M_eight_5 (lv_at hl 1 rfl) ?_
      refine lv_bipush (v := 8) hx hb d_M_eight_7 (by decide) ?_
      refine lv_icmp_ge (tgt := 43) hx hb d_M_eight_9 (by decide) (fun c_1 => ?_) (fun c_1 => absurd (sb_geT (a := 8) (b := 8) rfl rfl (by omega) (by omega) (by omega)) c_1)
      refine lv_lload_n hx hb d_M_eight_43 rfl (lv_at hl 0 rfl) ?_
      exact W.lret (v := iter (m8s g a z) 8 0) hx hb hr (fun t ht hW => ⟨_, rfl, rfl, ht⟩) hS.2.2 d_M_eight_44
    | succ d1 ih1 =>
      intro i hi1 ls hl
      refine lv_iload hx hb d_M_eight_5 (lv_at hl 1 rfl) ?_
      refine lv_bipush (v := 8) hx hb d_M_eight_7 (by decide) ?_
      refine lv_icmp_ge (tgt := 43) hx hb d_M_eight_9 (by decide) (fun c_2 => absurd c_2 (sb_geF (a := i) (b := 8) rfl rfl (by omega) (by omega) (by omega))) (fun c_2 => ?_)
      refine lv_lload_n hx hb d_M_eight_12 rfl (lv_at hl 0 rfl) ?_
      refine lv_bipush (v := 8) hx hb d_M_eight_13 (by decide) ?_
      refine lv_lshl (v := sL (iter (m8s g a z) i 0) 8) hx hb d_M_eight_15 rfl ?_
      refine lv_iload_n hx hb d_M_eight_16 rfl (lv_at hl 3 rfl) ?_
      refine lv_iload hx hb d_M_eight_17 (lv_at hl 1 rfl) ?_
      refine lv_iadd hx hb d_M_eight_19 ?_
      refine sb_topn (a + i) (nI_add a i) ?_
      refine lv_iload_n hx hb d_M_eight_20 rfl (lv_at hl 4 rfl) ?_
      refine lv_icmp_ge (tgt := 33) hx hb d_M_eight_21 (by decide) (fun c_3 => ?_) (fun c_3 => ?_)
      · have c_3 := (sb_geI (a := a + i) (b := z) rfl rfl (by omega) (by omega)).mp c_3
        refine lv_iconst (v := 0) hx hb d_M_eight_33 (by decide) ?_
        refine lv_i2l (v := (0 : Int32).toInt64) hx hb d_M_eight_34 rfl ?_
        refine lv_lor hx hb d_M_eight_35 ?_
        refine lv_topl (fun x_4 ex_4 => ?_)
        refine lv_lstore_n (lv' := [(3, .long x_4), (5, .int (nI i)), (0, .ref q), (1, .int (nI a)), (2, .int (nI z))]) hx hb d_M_eight_36 rfl hl (by decide) rfl (fun ls hl => ?_)
        refine lv_iinc (v := nI (i + 1)) (lv' := [(5, .int (nI (i + 1))), (3, .long x_4), (0, .ref q), (1, .int (nI a)), (2, .int (nI z))]) hx hb d_M_eight_37 hl (k := 1) rfl (sb_inc (a := i) (b := i + 1) (d := 1) rfl (by decide) (by omega)) (by decide) rfl (fun ls hl => ?_)
        refine lv_goto (tgt := 5) hx hb d_M_eight_40 (by decide) ?_
        obtain rfl : x_4 = iter (m8s g a z) (i + 1) 0 := (by subst_vars; simp only [iter_s, m8s, if_pos c_3])
        exact ih1 (i + 1) (by omega) ls (lv_sub hl [1, 0, 2, 3, 4] rfl)
      · have c_3 := mt (sb_geI (a := a + i) (b := z) rfl rfl (by omega) (by omega)).mpr c_3
        refine lv_aload_n hx hb d_M_eight_24 rfl (lv_at hl 2 rfl) ?_
        refine lv_iload_n hx hb d_M_eight_25 rfl (lv_at hl 3 rfl) ?_
        refine lv_iload hx hb d_M_eight_26 (lv_at hl 1 rfl) ?_
        refine lv_iadd hx hb d_M_eight_28 ?_
        refine sb_topn (a + i) (nI_add a i) ?_
        refine sb_ild hx hb hG.1 hP 0 rfl (a + i) rfl (by omega) (by omega) d_M_eight_29 ?_
        refine lv_goto (tgt := 34) hx hb d_M_eight_30 (by decide) ?_
        refine lv_i2l (v := (nI (g (a + i))).toInt64) hx hb d_M_eight_34 rfl ?_
        refine lv_lor hx hb d_M_eight_35 ?_
        refine lv_topl (fun x_5 ex_5 => ?_)
        refine lv_lstore_n (lv' := [(3, .long x_5), (5, .int (nI i)), (0, .ref q), (1, .int (nI a)), (2, .int (nI z))]) hx hb d_M_eight_36 rfl hl (by decide) rfl (fun ls hl => ?_)
        refine lv_iinc (v := nI (i + 1)) (lv' := [(5, .int (nI (i + 1))), (3, .long x_5), (0, .ref q), (1, .int (nI a)), (2, .int (nI z))]) hx hb d_M_eight_37 hl (k := 1) rfl (sb_inc (a := i) (b := i + 1) (d := 1) rfl (by decide) (by omega)) (by decide) rfl (fun ls hl => ?_)
        refine lv_goto (tgt := 5) hx hb d_M_eight_40 (by decide) ?_
        obtain rfl : x_5 = iter (m8s g a z) (i + 1) 0 := (by subst_vars; simp only [iter_s, m8s, if_neg c_3])
        exact ih1 (i + 1) (by omega) ls (lv_sub hl [1, 0, 2, 3, 4] rfl)
  exact lp1 8 0 (by omega) ls (lv_sub hl [1, 0, 2, 3, 4] rfl)

theorem d_M_quarter_0 : decode b_M_quarter 0 = .ok (.aload_n 0, 1) := by decide +kernel
theorem d_M_quarter_1 : decode b_M_quarter 1 = .ok (.getfield 51, 3) := by decide +kernel
theorem d_M_quarter_4 : decode b_M_quarter 4 = .ok (.iload_n 1, 1) := by decide +kernel
theorem d_M_quarter_5 : decode b_M_quarter 5 = .ok (.dup2, 1) := by decide +kernel
theorem d_M_quarter_6 : decode b_M_quarter 6 = .ok (.iaload, 1) := by decide +kernel
theorem d_M_quarter_7 : decode b_M_quarter 7 = .ok (.aload_n 0, 1) := by decide +kernel
theorem d_M_quarter_8 : decode b_M_quarter 8 = .ok (.getfield 51, 3) := by decide +kernel
theorem d_M_quarter_11 : decode b_M_quarter 11 = .ok (.iload_n 2, 1) := by decide +kernel
theorem d_M_quarter_12 : decode b_M_quarter 12 = .ok (.iaload, 1) := by decide +kernel
theorem d_M_quarter_13 : decode b_M_quarter 13 = .ok (.iadd, 1) := by decide +kernel
theorem d_M_quarter_14 : decode b_M_quarter 14 = .ok (.iastore, 1) := by decide +kernel
theorem d_M_quarter_15 : decode b_M_quarter 15 = .ok (.aload_n 0, 1) := by decide +kernel
theorem d_M_quarter_16 : decode b_M_quarter 16 = .ok (.getfield 51, 3) := by decide +kernel
theorem d_M_quarter_19 : decode b_M_quarter 19 = .ok (.iload 4, 2) := by decide +kernel
theorem d_M_quarter_21 : decode b_M_quarter 21 = .ok (.aload_n 0, 1) := by decide +kernel
theorem d_M_quarter_22 : decode b_M_quarter 22 = .ok (.getfield 51, 3) := by decide +kernel
theorem d_M_quarter_25 : decode b_M_quarter 25 = .ok (.iload 4, 2) := by decide +kernel
theorem d_M_quarter_27 : decode b_M_quarter 27 = .ok (.iaload, 1) := by decide +kernel
theorem d_M_quarter_28 : decode b_M_quarter 28 = .ok (.aload_n 0, 1) := by decide +kernel
theorem d_M_quarter_29 : decode b_M_quarter 29 = .ok (.getfield 51, 3) := by decide +kernel
theorem d_M_quarter_32 : decode b_M_quarter 32 = .ok (.iload_n 1, 1) := by decide +kernel
theorem d_M_quarter_33 : decode b_M_quarter 33 = .ok (.iaload, 1) := by decide +kernel
theorem d_M_quarter_34 : decode b_M_quarter 34 = .ok (.ixor, 1) := by decide +kernel
theorem d_M_quarter_35 : decode b_M_quarter 35 = .ok (.bipush 16, 2) := by decide +kernel
theorem d_M_quarter_37 : decode b_M_quarter 37 = .ok (.invokestatic 122, 3) := by decide +kernel
theorem d_M_quarter_40 : decode b_M_quarter 40 = .ok (.iastore, 1) := by decide +kernel
theorem d_M_quarter_41 : decode b_M_quarter 41 = .ok (.aload_n 0, 1) := by decide +kernel
theorem d_M_quarter_42 : decode b_M_quarter 42 = .ok (.getfield 51, 3) := by decide +kernel
theorem d_M_quarter_45 : decode b_M_quarter 45 = .ok (.iload_n 3, 1) := by decide +kernel
theorem d_M_quarter_46 : decode b_M_quarter 46 = .ok (.dup2, 1) := by decide +kernel
theorem d_M_quarter_47 : decode b_M_quarter 47 = .ok (.iaload, 1) := by decide +kernel
theorem d_M_quarter_48 : decode b_M_quarter 48 = .ok (.aload_n 0, 1) := by decide +kernel
theorem d_M_quarter_49 : decode b_M_quarter 49 = .ok (.getfield 51, 3) := by decide +kernel
theorem d_M_quarter_52 : decode b_M_quarter 52 = .ok (.iload 4, 2) := by decide +kernel
theorem d_M_quarter_54 : decode b_M_quarter 54 = .ok (.iaload, 1) := by decide +kernel
theorem d_M_quarter_55 : decode b_M_quarter 55 = .ok (.iadd, 1) := by decide +kernel
theorem d_M_quarter_56 : decode b_M_quarter 56 = .ok (.iastore, 1) := by decide +kernel
theorem d_M_quarter_57 : decode b_M_quarter 57 = .ok (.aload_n 0, 1) := by decide +kernel
theorem d_M_quarter_58 : decode b_M_quarter 58 = .ok (.getfield 51, 3) := by decide +kernel
theorem d_M_quarter_61 : decode b_M_quarter 61 = .ok (.iload_n 2, 1) := by decide +kernel
theorem d_M_quarter_62 : decode b_M_quarter 62 = .ok (.aload_n 0, 1) := by decide +kernel
theorem d_M_quarter_63 : decode b_M_quarter 63 = .ok (.getfield 51, 3) := by decide +kernel
theorem d_M_quarter_66 : decode b_M_quarter 66 = .ok (.iload_n 2, 1) := by decide +kernel
theorem d_M_quarter_67 : decode b_M_quarter 67 = .ok (.iaload, 1) := by decide +kernel
theorem d_M_quarter_68 : decode b_M_quarter 68 = .ok (.aload_n 0, 1) := by decide +kernel
theorem d_M_quarter_69 : decode b_M_quarter 69 = .ok (.getfield 51, 3) := by decide +kernel
theorem d_M_quarter_72 : decode b_M_quarter 72 = .ok (.iload_n 3, 1) := by decide +kernel
theorem d_M_quarter_73 : decode b_M_quarter 73 = .ok (.iaload, 1) := by decide +kernel
theorem d_M_quarter_74 : decode b_M_quarter 74 = .ok (.ixor, 1) := by decide +kernel
theorem d_M_quarter_75 : decode b_M_quarter 75 = .ok (.bipush 12, 2) := by decide +kernel
theorem d_M_quarter_77 : decode b_M_quarter 77 = .ok (.invokestatic 122, 3) := by decide +kernel
theorem d_M_quarter_80 : decode b_M_quarter 80 = .ok (.iastore, 1) := by decide +kernel
theorem d_M_quarter_81 : decode b_M_quarter 81 = .ok (.aload_n 0, 1) := by decide +kernel
theorem d_M_quarter_82 : decode b_M_quarter 82 = .ok (.getfield 51, 3) := by decide +kernel
theorem d_M_quarter_85 : decode b_M_quarter 85 = .ok (.iload_n 1, 1) := by decide +kernel
theorem d_M_quarter_86 : decode b_M_quarter 86 = .ok (.dup2, 1) := by decide +kernel
theorem d_M_quarter_87 : decode b_M_quarter 87 = .ok (.iaload, 1) := by decide +kernel
theorem d_M_quarter_88 : decode b_M_quarter 88 = .ok (.aload_n 0, 1) := by decide +kernel
theorem d_M_quarter_89 : decode b_M_quarter 89 = .ok (.getfield 51, 3) := by decide +kernel
theorem d_M_quarter_92 : decode b_M_quarter 92 = .ok (.iload_n 2, 1) := by decide +kernel
theorem d_M_quarter_93 : decode b_M_quarter 93 = .ok (.iaload, 1) := by decide +kernel
theorem d_M_quarter_94 : decode b_M_quarter 94 = .ok (.iadd, 1) := by decide +kernel
theorem d_M_quarter_95 : decode b_M_quarter 95 = .ok (.iastore, 1) := by decide +kernel
theorem d_M_quarter_96 : decode b_M_quarter 96 = .ok (.aload_n 0, 1) := by decide +kernel
theorem d_M_quarter_97 : decode b_M_quarter 97 = .ok (.getfield 51, 3) := by decide +kernel
theorem d_M_quarter_100 : decode b_M_quarter 100 = .ok (.iload 4, 2) := by decide +kernel
theorem d_M_quarter_102 : decode b_M_quarter 102 = .ok (.aload_n 0, 1) := by decide +kernel
theorem d_M_quarter_103 : decode b_M_quarter 103 = .ok (.getfield 51, 3) := by decide +kernel
theorem d_M_quarter_106 : decode b_M_quarter 106 = .ok (.iload 4, 2) := by decide +kernel
theorem d_M_quarter_108 : decode b_M_quarter 108 = .ok (.iaload, 1) := by decide +kernel
theorem d_M_quarter_109 : decode b_M_quarter 109 = .ok (.aload_n 0, 1) := by decide +kernel
theorem d_M_quarter_110 : decode b_M_quarter 110 = .ok (.getfield 51, 3) := by decide +kernel
theorem d_M_quarter_113 : decode b_M_quarter 113 = .ok (.iload_n 1, 1) := by decide +kernel
theorem d_M_quarter_114 : decode b_M_quarter 114 = .ok (.iaload, 1) := by decide +kernel
theorem d_M_quarter_115 : decode b_M_quarter 115 = .ok (.ixor, 1) := by decide +kernel
theorem d_M_quarter_116 : decode b_M_quarter 116 = .ok (.bipush 8, 2) := by decide +kernel
theorem d_M_quarter_118 : decode b_M_quarter 118 = .ok (.invokestatic 122, 3) := by decide +kernel
theorem d_M_quarter_121 : decode b_M_quarter 121 = .ok (.iastore, 1) := by decide +kernel
theorem d_M_quarter_122 : decode b_M_quarter 122 = .ok (.aload_n 0, 1) := by decide +kernel
theorem d_M_quarter_123 : decode b_M_quarter 123 = .ok (.getfield 51, 3) := by decide +kernel
theorem d_M_quarter_126 : decode b_M_quarter 126 = .ok (.iload_n 3, 1) := by decide +kernel
theorem d_M_quarter_127 : decode b_M_quarter 127 = .ok (.dup2, 1) := by decide +kernel
theorem d_M_quarter_128 : decode b_M_quarter 128 = .ok (.iaload, 1) := by decide +kernel
theorem d_M_quarter_129 : decode b_M_quarter 129 = .ok (.aload_n 0, 1) := by decide +kernel
theorem d_M_quarter_130 : decode b_M_quarter 130 = .ok (.getfield 51, 3) := by decide +kernel
theorem d_M_quarter_133 : decode b_M_quarter 133 = .ok (.iload 4, 2) := by decide +kernel
theorem d_M_quarter_135 : decode b_M_quarter 135 = .ok (.iaload, 1) := by decide +kernel
theorem d_M_quarter_136 : decode b_M_quarter 136 = .ok (.iadd, 1) := by decide +kernel
theorem d_M_quarter_137 : decode b_M_quarter 137 = .ok (.iastore, 1) := by decide +kernel
theorem d_M_quarter_138 : decode b_M_quarter 138 = .ok (.aload_n 0, 1) := by decide +kernel
theorem d_M_quarter_139 : decode b_M_quarter 139 = .ok (.getfield 51, 3) := by decide +kernel
theorem d_M_quarter_142 : decode b_M_quarter 142 = .ok (.iload_n 2, 1) := by decide +kernel
theorem d_M_quarter_143 : decode b_M_quarter 143 = .ok (.aload_n 0, 1) := by decide +kernel
theorem d_M_quarter_144 : decode b_M_quarter 144 = .ok (.getfield 51, 3) := by decide +kernel
theorem d_M_quarter_147 : decode b_M_quarter 147 = .ok (.iload_n 2, 1) := by decide +kernel
theorem d_M_quarter_148 : decode b_M_quarter 148 = .ok (.iaload, 1) := by decide +kernel
theorem d_M_quarter_149 : decode b_M_quarter 149 = .ok (.aload_n 0, 1) := by decide +kernel
theorem d_M_quarter_150 : decode b_M_quarter 150 = .ok (.getfield 51, 3) := by decide +kernel
theorem d_M_quarter_153 : decode b_M_quarter 153 = .ok (.iload_n 3, 1) := by decide +kernel
theorem d_M_quarter_154 : decode b_M_quarter 154 = .ok (.iaload, 1) := by decide +kernel
theorem d_M_quarter_155 : decode b_M_quarter 155 = .ok (.ixor, 1) := by decide +kernel
theorem d_M_quarter_156 : decode b_M_quarter 156 = .ok (.bipush 7, 2) := by decide +kernel
theorem d_M_quarter_158 : decode b_M_quarter 158 = .ok (.invokestatic 122, 3) := by decide +kernel
theorem d_M_quarter_161 : decode b_M_quarter 161 = .ok (.iastore, 1) := by decide +kernel
theorem d_M_quarter_162 : decode b_M_quarter 162 = .ok (.return_, 1) := by decide +kernel

def rm_M_quarter : Room := { frames := 1, cells := 0, slots := 0, locals := 21 }
set_option maxHeartbeats 4000000 in
set_option maxRecDepth 100000 in
theorem c_M_quarter (l : Launch) (D : va_G) (cI cL cB : ClassId) (tS tF : Nat) (mo : Nat) (a1 : Nat) (a2 : Nat) (a3 : Nat) (a4 : Nat) (a5 : Nat) (a6 : Nat) (a7 : Nat) (a8 : Nat) (a9 : Nat) (a10 : Nat) (a11 : Nat) (a12 : Nat) (a13 : Nat) (a14 : Nat) (a15 : Nat) (a16 : Nat) (a17 : Nat) (a18 : Nat) (a19 : Nat) (a20 : Nat) (thr : Int32) (ci : Int32) (bk : Int32) (se : Int32) (op : Int32) (fa : Int32) (lt : Nat) (lb : Nat) (lz : Nat) (rn : Nat) (nu : Int64) (kh : Int64) (kl : Int64) (sh : Int64) (sl : Int64) (f : Nat → Int32) (a : Nat) (b : Nat) (c0 : Nat) (d0 : Nat) (sz : Nat) (ha : a < 16) (hb0 : b < 16) (hc : c0 < 16) (hd : d0 < 16) : Met l y_M_quarter (sbw y_M_quarter b_M_quarter 5 none) rm_M_quarter (sbPc D cI cL cB tS tF [.ref mo, .int (nI a), .int (nI b), .int (nI c0), .int (nI d0)] sz [(mo, .inr (7, mFs thr a1 a2 a3 (nI lt) (nI lb) (nI lz) ci a4 a5 a6 nu bk se op fa a7 a8 a9 a10 a11 (nI rn) kh kl sh sl a12 a13 a14 a15 a16 a17 a18 a19 a20)), (a13, .inl (cI, 16, .inl f))]) (sbQv D (fun (_ : Unit) => True) (fun (_ : Unit) => [(mo, .inr (7, mFs thr a1 a2 a3 (nI lt) (nI lb) (nI lz) ci a4 a5 a6 nu bk se op fa a7 a8 a9 a10 a11 (nI rn) kh kl sh sl a12 a13 a14 a15 a16 a17 a18 a19 a20)), (a13, .inl (cI, 16, .inl (cqr f a b c0 d0)))]) (va_A [(mo, .inr (7, mFs thr a1 a2 a3 (nI lt) (nI lb) (nI lz) ci a4 a5 a6 nu bk se op fa a7 a8 a9 a10 a11 (nI rn) kh kl sh sl a12 a13 a14 a15 a16 a17 a18 a19 a20)), (a13, .inl (cI, 16, .inl f))] sz)) 0 0 (va_A [(mo, .inr (7, mFs thr a1 a2 a3 (nI lt) (nI lb) (nI lz) ci a4 a5 a6 nu bk se op fa a7 a8 a9 a10 a11 (nI rn) kh kl sh sl a12 a13 a14 a15 a16 a17 a18 a19 a20)), (a13, .inl (cI, 16, .inl f))] sz) := by
  refine sb_ofW (y := y_M_quarter) (maxL := 5) (av := [.ref mo, .int (nI a), .int (nI b), .int (nI c0), .int (nI d0)]) (Qc := fun A => (sbQv D (fun (_ : Unit) => True) (fun (_ : Unit) => [(mo, .inr (7, mFs thr a1 a2 a3 (nI lt) (nI lb) (nI lz) ci a4 a5 a6 nu bk se op fa a7 a8 a9 a10 a11 (nI rn) kh kl sh sl a12 a13 a14 a15 a16 a17 a18 a19 a20)), (a13, .inl (cI, 16, .inl (cqr f a b c0 d0)))]) A)) (by decide) (Nat.le_of_ble_eq_true rfl) ?_
  intro p e s m args below meth c A ls hx hb hr hml hts hown hlocks hin hsz hP hG hD hA hS hl
  have hl : lv_has ls 5 [(0, .ref mo), (1, .int (nI a)), (2, .int (nI b)), (3, .int (nI c0)), (4, .int (nI d0))] := hl
  refine lv_aload_n hx hb d_M_quarter_0 rfl (lv_at hl 0 rfl) ?_
  refine va_get (D := D) (ci := 7) (v := .ref a13) (C := R_M) (T := F_M) (N := 35) hx hb hts in_M hown hG.1 hP 0 rfl rfl 27 (by decide) (hts _ k_724) (fun _ h9 => h9) rfl d_M_quarter_1 ?_
  refine lv_iload_n hx hb d_M_quarter_4 rfl (lv_at hl 1 rfl) ?_
  refine lv_dup2_11 hx hb d_M_quarter_5 rfl rfl ?_
  refine sb_ild hx hb hG.1 hP 1 rfl a rfl (by omega) (by omega) d_M_quarter_6 ?_
  refine lv_aload_n hx hb d_M_quarter_7 rfl (lv_at hl 0 rfl) ?_
  refine va_get (D := D) (ci := 7) (v := .ref a13) (C := R_M) (T := F_M) (N := 35) hx hb hts in_M hown hG.1 hP 0 rfl rfl 27 (by decide) (hts _ k_724) (fun _ h9 => h9) rfl d_M_quarter_8 ?_
  refine lv_iload_n hx hb d_M_quarter_11 rfl (lv_at hl 2 rfl) ?_
  refine sb_ild hx hb hG.1 hP 1 rfl b rfl (by omega) (by omega) d_M_quarter_12 ?_
  refine lv_iadd hx hb d_M_quarter_13 ?_
  refine sb_ist hx hb hG.1 hP hD hS 1 rfl a rfl (by omega) (by omega) d_M_quarter_14 (fun f_1 H locs ef_1 hP hD hS => ?_)
  have hP : va_P D vwCl [(mo, .inr (7, mFs thr a1 a2 a3 (nI lt) (nI lb) (nI lz) ci a4 a5 a6 nu bk se op fa a7 a8 a9 a10 a11 (nI rn) kh kl sh sl a12 a13 a14 a15 a16 a17 a18 a19 a20)), (a13, .inl (cI, 16, .inl f_1))] H := hP
  have hD : va_D A [(mo, .inr (7, mFs thr a1 a2 a3 (nI lt) (nI lb) (nI lz) ci a4 a5 a6 nu bk se op fa a7 a8 a9 a10 a11 (nI rn) kh kl sh sl a12 a13 a14 a15 a16 a17 a18 a19 a20)), (a13, .inl (cI, 16, .inl f_1))] := hD
  obtain rfl : f_1 = cq1 f a b := ef_1
  refine lv_aload_n hx hb d_M_quarter_15 rfl (lv_at hl 0 rfl) ?_
  refine va_get (D := D) (ci := 7) (v := .ref a13) (C := R_M) (T := F_M) (N := 35) hx hb hts in_M hown hG.1 hP 0 rfl rfl 27 (by decide) (hts _ k_724) (fun _ h9 => h9) rfl d_M_quarter_16 ?_
  refine lv_iload hx hb d_M_quarter_19 (lv_at hl 4 rfl) ?_
  refine lv_aload_n hx hb d_M_quarter_21 rfl (lv_at hl 0 rfl) ?_
  refine va_get (D := D) (ci := 7) (v := .ref a13) (C := R_M) (T := F_M) (N := 35) hx hb hts in_M hown hG.1 hP 0 rfl rfl 27 (by decide) (hts _ k_724) (fun _ h9 => h9) rfl d_M_quarter_22 ?_
  refine lv_iload hx hb d_M_quarter_25 (lv_at hl 4 rfl) ?_
  refine sb_ild hx hb hG.1 hP 1 rfl d0 rfl (by omega) (by omega) d_M_quarter_27 ?_
  refine lv_aload_n hx hb d_M_quarter_28 rfl (lv_at hl 0 rfl) ?_
  refine va_get (D := D) (ci := 7) (v := .ref a13) (C := R_M) (T := F_M) (N := 35) hx hb hts in_M hown hG.1 hP 0 rfl rfl 27 (by decide) (hts _ k_724) (fun _ h9 => h9) rfl d_M_quarter_29 ?_
  refine lv_iload_n hx hb d_M_quarter_32 rfl (lv_at hl 1 rfl) ?_
  refine sb_ild hx hb hG.1 hP 1 rfl a rfl (by omega) (by omega) d_M_quarter_33 ?_
  refine lv_ixor hx hb d_M_quarter_34 ?_
  refine lv_bipush (v := 16) hx hb d_M_quarter_35 (by decide) ?_
  refine vp_callSi (va_runS (As := [.int (((cq1 f a b) d0) ^^^ ((cq1 f a b) a)), .int 16]) (rest := [.int (nI d0), .ref a13]) ⟨hx, hb, hml, hown, hts⟩ (c_M_left l D cI cL cB tS tF (((cq1 f a b) d0) ^^^ ((cq1 f a b) a)) 16 ) (va_cwS 2 hts (sb_gS k_868 k_869 k_30 k_870) rfl rfl rfl (by decide +kernel) ⟨Nat.le_of_ble_eq_true rfl, Nat.le_of_ble_eq_true rfl⟩) (sb_rS hG hP hS [] rfl) rfl rfl hl.1 rfl (lv_room (Nat.le_of_ble_eq_true rfl)) d_M_quarter_37 ⟨Nat.le_of_ble_eq_true rfl, Nat.le_of_ble_eq_true rfl⟩).run (fun r_2 er_2 => ?_)
  subst er_2
  refine sb_ist hx hb hG.1 hP hD hS 1 rfl d0 rfl (by omega) (by omega) d_M_quarter_40 (fun f_3 H locs ef_3 hP hD hS => ?_)
  have hP : va_P D vwCl [(mo, .inr (7, mFs thr a1 a2 a3 (nI lt) (nI lb) (nI lz) ci a4 a5 a6 nu bk se op fa a7 a8 a9 a10 a11 (nI rn) kh kl sh sl a12 a13 a14 a15 a16 a17 a18 a19 a20)), (a13, .inl (cI, 16, .inl f_3))] H := hP
  have hD : va_D A [(mo, .inr (7, mFs thr a1 a2 a3 (nI lt) (nI lb) (nI lz) ci a4 a5 a6 nu bk se op fa a7 a8 a9 a10 a11 (nI rn) kh kl sh sl a12 a13 a14 a15 a16 a17 a18 a19 a20)), (a13, .inl (cI, 16, .inl f_3))] := hD
  obtain rfl : f_3 = cq2 (cq1 f a b) d0 a 16 := ef_3
  refine lv_aload_n hx hb d_M_quarter_41 rfl (lv_at hl 0 rfl) ?_
  refine va_get (D := D) (ci := 7) (v := .ref a13) (C := R_M) (T := F_M) (N := 35) hx hb hts in_M hown hG.1 hP 0 rfl rfl 27 (by decide) (hts _ k_724) (fun _ h9 => h9) rfl d_M_quarter_42 ?_
  refine lv_iload_n hx hb d_M_quarter_45 rfl (lv_at hl 3 rfl) ?_
  refine lv_dup2_11 hx hb d_M_quarter_46 rfl rfl ?_
  refine sb_ild hx hb hG.1 hP 1 rfl c0 rfl (by omega) (by omega) d_M_quarter_47 ?_
  refine lv_aload_n hx hb d_M_quarter_48 rfl (lv_at hl 0 rfl) ?_
  refine va_get (D := D) (ci := 7) (v := .ref a13) (C := R_M) (T := F_M) (N := 35) hx hb hts in_M hown hG.1 hP 0 rfl rfl 27 (by decide) (hts _ k_724) (fun _ h9 => h9) rfl d_M_quarter_49 ?_
  refine lv_iload hx hb d_M_quarter_52 (lv_at hl 4 rfl) ?_
  refine sb_ild hx hb hG.1 hP 1 rfl d0 rfl (by omega) (by omega) d_M_quarter_54 ?_
  refine lv_iadd hx hb d_M_quarter_55 ?_
  refine sb_ist hx hb hG.1 hP hD hS 1 rfl c0 rfl (by omega) (by omega) d_M_quarter_56 (fun f_4 H locs ef_4 hP hD hS => ?_)
  have hP : va_P D vwCl [(mo, .inr (7, mFs thr a1 a2 a3 (nI lt) (nI lb) (nI lz) ci a4 a5 a6 nu bk se op fa a7 a8 a9 a10 a11 (nI rn) kh kl sh sl a12 a13 a14 a15 a16 a17 a18 a19 a20)), (a13, .inl (cI, 16, .inl f_4))] H := hP
  have hD : va_D A [(mo, .inr (7, mFs thr a1 a2 a3 (nI lt) (nI lb) (nI lz) ci a4 a5 a6 nu bk se op fa a7 a8 a9 a10 a11 (nI rn) kh kl sh sl a12 a13 a14 a15 a16 a17 a18 a19 a20)), (a13, .inl (cI, 16, .inl f_4))] := hD
  obtain rfl : f_4 = cq1 (cq2 (cq1 f a b) d0 a 16) c0 d0 := ef_4
  refine lv_aload_n hx hb d_M_quarter_57 rfl (lv_at hl 0 rfl) ?_
  refine va_get (D := D) (ci := 7) (v := .ref a13) (C := R_M) (T := F_M) (N := 35) hx hb hts in_M hown hG.1 hP 0 rfl rfl 27 (by decide) (hts _ k_724) (fun _ h9 => h9) rfl d_M_quarter_58 ?_
  refine lv_iload_n hx hb d_M_quarter_61 rfl (lv_at hl 2 rfl) ?_
  refine lv_aload_n hx hb d_M_quarter_62 rfl (lv_at hl 0 rfl) ?_
  refine va_get (D := D) (ci := 7) (v := .ref a13) (C := R_M) (T := F_M) (N := 35) hx hb hts in_M hown hG.1 hP 0 rfl rfl 27 (by decide) (hts _ k_724) (fun _ h9 => h9) rfl d_M_quarter_63 ?_
  refine lv_iload_n hx hb d_M_quarter_66 rfl (lv_at hl 2 rfl) ?_
  refine sb_ild hx hb hG.1 hP 1 rfl b rfl (by omega) (by omega) d_M_quarter_67 ?_
  refine lv_aload_n hx hb d_M_quarter_68 rfl (lv_at hl 0 rfl) ?_
  refine va_get (D := D) (ci := 7) (v := .ref a13) (C := R_M) (T := F_M) (N := 35) hx hb hts in_M hown hG.1 hP 0 rfl rfl 27 (by decide) (hts _ k_724) (fun _ h9 => h9) rfl d_M_quarter_69 ?_
  refine lv_iload_n hx hb d_M_quarter_72 rfl (lv_at hl 3 rfl) ?_
  refine sb_ild hx hb hG.1 hP 1 rfl c0 rfl (by omega) (by omega) d_M_quarter_73 ?_
  refine lv_ixor hx hb d_M_quarter_74 ?_
  refine lv_bipush (v := 12) hx hb d_M_quarter_75 (by decide) ?_
  refine vp_callSi (va_runS (As := [.int (((cq1 (cq2 (cq1 f a b) d0 a 16) c0 d0) b) ^^^ ((cq1 (cq2 (cq1 f a b) d0 a 16) c0 d0) c0)), .int 12]) (rest := [.int (nI b), .ref a13]) ⟨hx, hb, hml, hown, hts⟩ (c_M_left l D cI cL cB tS tF (((cq1 (cq2 (cq1 f a b) d0 a 16) c0 d0) b) ^^^ ((cq1 (cq2 (cq1 f a b) d0 a 16) c0 d0) c0)) 12 ) (va_cwS 2 hts (sb_gS k_868 k_869 k_30 k_870) rfl rfl rfl (by decide +kernel) ⟨Nat.le_of_ble_eq_true rfl, Nat.le_of_ble_eq_true rfl⟩) (sb_rS hG hP hS [] rfl) rfl rfl hl.1 rfl (lv_room (Nat.le_of_ble_eq_true rfl)) d_M_quarter_77 ⟨Nat.le_of_ble_eq_true rfl, Nat.le_of_ble_eq_true rfl⟩).run (fun r_5 er_5 => ?_)
  subst er_5
  refine sb_ist hx hb hG.1 hP hD hS 1 rfl b rfl (by omega) (by omega) d_M_quarter_80 (fun f_6 H locs ef_6 hP hD hS => ?_)
  have hP : va_P D vwCl [(mo, .inr (7, mFs thr a1 a2 a3 (nI lt) (nI lb) (nI lz) ci a4 a5 a6 nu bk se op fa a7 a8 a9 a10 a11 (nI rn) kh kl sh sl a12 a13 a14 a15 a16 a17 a18 a19 a20)), (a13, .inl (cI, 16, .inl f_6))] H := hP
  have hD : va_D A [(mo, .inr (7, mFs thr a1 a2 a3 (nI lt) (nI lb) (nI lz) ci a4 a5 a6 nu bk se op fa a7 a8 a9 a10 a11 (nI rn) kh kl sh sl a12 a13 a14 a15 a16 a17 a18 a19 a20)), (a13, .inl (cI, 16, .inl f_6))] := hD
  obtain rfl : f_6 = cq2 (cq1 (cq2 (cq1 f a b) d0 a 16) c0 d0) b c0 12 := ef_6
  refine lv_aload_n hx hb d_M_quarter_81 rfl (lv_at hl 0 rfl) ?_
  refine va_get (D := D) (ci := 7) (v := .ref a13) (C := R_M) (T := F_M) (N := 35) hx hb hts in_M hown hG.1 hP 0 rfl rfl 27 (by decide) (hts _ k_724) (fun _ h9 => h9) rfl d_M_quarter_82 ?_
  refine lv_iload_n hx hb d_M_quarter_85 rfl (lv_at hl 1 rfl) ?_
  refine lv_dup2_11 hx hb d_M_quarter_86 rfl rfl ?_
  refine sb_ild hx hb hG.1 hP 1 rfl a rfl (by omega) (by omega) d_M_quarter_87 ?_
  refine lv_aload_n hx hb d_M_quarter_88 rfl (lv_at hl 0 rfl) ?_
  refine va_get (D := D) (ci := 7) (v := .ref a13) (C := R_M) (T := F_M) (N := 35) hx hb hts in_M hown hG.1 hP 0 rfl rfl 27 (by decide) (hts _ k_724) (fun _ h9 => h9) rfl d_M_quarter_89 ?_
  refine lv_iload_n hx hb d_M_quarter_92 rfl (lv_at hl 2 rfl) ?_
  refine sb_ild hx hb hG.1 hP 1 rfl b rfl (by omega) (by omega) d_M_quarter_93 ?_
  refine lv_iadd hx hb d_M_quarter_94 ?_
  refine sb_ist hx hb hG.1 hP hD hS 1 rfl a rfl (by omega) (by omega) d_M_quarter_95 (fun f_7 H locs ef_7 hP hD hS => ?_)
  have hP : va_P D vwCl [(mo, .inr (7, mFs thr a1 a2 a3 (nI lt) (nI lb) (nI lz) ci a4 a5 a6 nu bk se op fa a7 a8 a9 a10 a11 (nI rn) kh kl sh sl a12 a13 a14 a15 a16 a17 a18 a19 a20)), (a13, .inl (cI, 16, .inl f_7))] H := hP
  have hD : va_D A [(mo, .inr (7, mFs thr a1 a2 a3 (nI lt) (nI lb) (nI lz) ci a4 a5 a6 nu bk se op fa a7 a8 a9 a10 a11 (nI rn) kh kl sh sl a12 a13 a14 a15 a16 a17 a18 a19 a20)), (a13, .inl (cI, 16, .inl f_7))] := hD
  obtain rfl : f_7 = cq1 (cq2 (cq1 (cq2 (cq1 f a b) d0 a 16) c0 d0) b c0 12) a b := ef_7
  refine lv_aload_n hx hb d_M_quarter_96 rfl (lv_at hl 0 rfl) ?_
  refine va_get (D := D) (ci := 7) (v := .ref a13) (C := R_M) (T := F_M) (N := 35) hx hb hts in_M hown hG.1 hP 0 rfl rfl 27 (by decide) (hts _ k_724) (fun _ h9 => h9) rfl d_M_quarter_97 ?_
  refine lv_iload hx hb d_M_quarter_100 (lv_at hl 4 rfl) ?_
  refine lv_aload_n hx hb d_M_quarter_102 rfl (lv_at hl 0 rfl) ?_
  refine va_get (D := D) (ci := 7) (v := .ref a13) (C := R_M) (T := F_M) (N := 35) hx hb hts in_M hown hG.1 hP 0 rfl rfl 27 (by decide) (hts _ k_724) (fun _ h9 => h9) rfl d_M_quarter_103 ?_
  refine lv_iload hx hb d_M_quarter_106 (lv_at hl 4 rfl) ?_
  refine sb_ild hx hb hG.1 hP 1 rfl d0 rfl (by omega) (by omega) d_M_quarter_108 ?_
  refine lv_aload_n hx hb d_M_quarter_109 rfl (lv_at hl 0 rfl) ?_
  refine va_get (D := D) (ci := 7) (v := .ref a13) (C := R_M) (T := F_M) (N := 35) hx hb hts in_M hown hG.1 hP 0 rfl rfl 27 (by decide) (hts _ k_724) (fun _ h9 => h9) rfl d_M_quarter_110 ?_
  refine lv_iload_n hx hb d_M_quarter_113 rfl (lv_at hl 1 rfl) ?_
  refine sb_ild hx hb hG.1 hP 1 rfl a rfl (by omega) (by omega) d_M_quarter_114 ?_
  refine lv_ixor hx hb d_M_quarter_115 ?_
  refine lv_bipush (v := 8) hx hb d_M_quarter_116 (by decide) ?_
  refine vp_callSi (va_runS (As := [.int (((cq1 (cq2 (cq1 (cq2 (cq1 f a b) d0 a 16) c0 d0) b c0 12) a b) d0) ^^^ ((cq1 (cq2 (cq1 (cq2 (cq1 f a b) d0 a 16) c0 d0) b c0 12) a b) a)), .int 8]) (rest := [.int (nI d0), .ref a13]) ⟨hx, hb, hml, hown, hts⟩ (c_M_left l D cI cL cB tS tF (((cq1 (cq2 (cq1 (cq2 (cq1 f a b) d0 a 16) c0 d0) b c0 12) a b) d0) ^^^ ((cq1 (cq2 (cq1 (cq2 (cq1 f a b) d0 a 16) c0 d0) b c0 12) a b) a)) 8 ) (va_cwS 2 hts (sb_gS k_868 k_869 k_30 k_870) rfl rfl rfl (by decide +kernel) ⟨Nat.le_of_ble_eq_true rfl, Nat.le_of_ble_eq_true rfl⟩) (sb_rS hG hP hS [] rfl) rfl rfl hl.1 rfl (lv_room (Nat.le_of_ble_eq_true rfl)) d_M_quarter_118 ⟨Nat.le_of_ble_eq_true rfl, Nat.le_of_ble_eq_true rfl⟩).run (fun r_8 er_8 => ?_)
  subst er_8
  refine sb_ist hx hb hG.1 hP hD hS 1 rfl d0 rfl (by omega) (by omega) d_M_quarter_121 (fun f_9 H locs ef_9 hP hD hS => ?_)
  have hP : va_P D vwCl [(mo, .inr (7, mFs thr a1 a2 a3 (nI lt) (nI lb) (nI lz) ci a4 a5 a6 nu bk se op fa a7 a8 a9 a10 a11 (nI rn) kh kl sh sl a12 a13 a14 a15 a16 a17 a18 a19 a20)), (a13, .inl (cI, 16, .inl f_9))] H := hP
  have hD : va_D A [(mo, .inr (7, mFs thr a1 a2 a3 (nI lt) (nI lb) (nI lz) ci a4 a5 a6 nu bk se op fa a7 a8 a9 a10 a11 (nI rn) kh kl sh sl a12 a13 a14 a15 a16 a17 a18 a19 a20)), (a13, .inl (cI, 16, .inl f_9))] := hD
  obtain rfl : f_9 = cq2 (cq1 (cq2 (cq1 (cq2 (cq1 f a b) d0 a 16) c0 d0) b c0 12) a b) d0 a 8 := ef_9
  refine lv_aload_n hx hb d_M_quarter_122 rfl (lv_at hl 0 rfl) ?_
  refine va_get (D := D) (ci := 7) (v := .ref a13) (C := R_M) (T := F_M) (N := 35) hx hb hts in_M hown hG.1 hP 0 rfl rfl 27 (by decide) (hts _ k_724) (fun _ h9 => h9) rfl d_M_quarter_123 ?_
  refine lv_iload_n hx hb d_M_quarter_126 rfl (lv_at hl 3 rfl) ?_
  refine lv_dup2_11 hx hb d_M_quarter_127 rfl rfl ?_
  refine sb_ild hx hb hG.1 hP 1 rfl c0 rfl (by omega) (by omega) d_M_quarter_128 ?_
  refine lv_aload_n hx hb d_M_quarter_129 rfl (lv_at hl 0 rfl) ?_
  refine va_get (D := D) (ci := 7) (v := .ref a13) (C := R_M) (T := F_M) (N := 35) hx hb hts in_M hown hG.1 hP 0 rfl rfl 27 (by decide) (hts _ k_724) (fun _ h9 => h9) rfl d_M_quarter_130 ?_
  refine lv_iload hx hb d_M_quarter_133 (lv_at hl 4 rfl) ?_
  refine sb_ild hx hb hG.1 hP 1 rfl d0 rfl (by omega) (by omega) d_M_quarter_135 ?_
  refine lv_iadd hx hb d_M_quarter_136 ?_
  refine sb_ist hx hb hG.1 hP hD hS 1 rfl c0 rfl (by omega) (by omega) d_M_quarter_137 (fun f_10 H locs ef_10 hP hD hS => ?_)
  have hP : va_P D vwCl [(mo, .inr (7, mFs thr a1 a2 a3 (nI lt) (nI lb) (nI lz) ci a4 a5 a6 nu bk se op fa a7 a8 a9 a10 a11 (nI rn) kh kl sh sl a12 a13 a14 a15 a16 a17 a18 a19 a20)), (a13, .inl (cI, 16, .inl f_10))] H := hP
  have hD : va_D A [(mo, .inr (7, mFs thr a1 a2 a3 (nI lt) (nI lb) (nI lz) ci a4 a5 a6 nu bk se op fa a7 a8 a9 a10 a11 (nI rn) kh kl sh sl a12 a13 a14 a15 a16 a17 a18 a19 a20)), (a13, .inl (cI, 16, .inl f_10))] := hD
  obtain rfl : f_10 = cq1 (cq2 (cq1 (cq2 (cq1 (cq2 (cq1 f a b) d0 a 16) c0 d0) b c0 12) a b) d0 a 8) c0 d0 := ef_10
  refine lv_aload_n hx hb d_M_quarter_138 rfl (lv_at hl 0 rfl) ?_
  refine va_get (D := D) (ci := 7) (v := .ref a13) (C := R_M) (T := F_M) (N := 35) hx hb hts in_M hown hG.1 hP 0 rfl rfl 27 (by decide) (hts _ k_724) (fun _ h9 => h9) rfl d_M_quarter_139 ?_
  refine lv_iload_n hx hb d_M_quarter_142 rfl (lv_at hl 2 rfl) ?_
  refine lv_aload_n hx hb d_M_quarter_143 rfl (lv_at hl 0 rfl) ?_
  refine va_get (D := D) (ci := 7) (v := .ref a13) (C := R_M) (T := F_M) (N := 35) hx hb hts in_M hown hG.1 hP 0 rfl rfl 27 (by decide) (hts _ k_724) (fun _ h9 => h9) rfl d_M_quarter_144 ?_
  refine lv_iload_n hx hb d_M_quarter_147 rfl (lv_at hl 2 rfl) ?_
  refine sb_ild hx hb hG.1 hP 1 rfl b rfl (by omega) (by omega) d_M_quarter_148 ?_
  refine lv_aload_n hx hb d_M_quarter_149 rfl (lv_at hl 0 rfl) ?_
  refine va_get (D := D) (ci := 7) (v := .ref a13) (C := R_M) (T := F_M) (N := 35) hx hb hts in_M hown hG.1 hP 0 rfl rfl 27 (by decide) (hts _ k_724) (fun _ h9 => h9) rfl d_M_quarter_150 ?_
  refine lv_iload_n hx hb d_M_quarter_153 rfl (lv_at hl 3 rfl) ?_
  refine sb_ild hx hb hG.1 hP 1 rfl c0 rfl (by omega) (by omega) d_M_quarter_154 ?_
  refine lv_ixor hx hb d_M_quarter_155 ?_
  refine lv_bipush (v := 7) hx hb d_M_quarter_156 (by decide) ?_
  refine vp_callSi (va_runS (As := [.int (((cq1 (cq2 (cq1 (cq2 (cq1 (cq2 (cq1 f a b) d0 a 16) c0 d0) b c0 12) a b) d0 a 8) c0 d0) b) ^^^ ((cq1 (cq2 (cq1 (cq2 (cq1 (cq2 (cq1 f a b) d0 a 16) c0 d0) b c0 12) a b) d0 a 8) c0 d0) c0)), .int 7]) (rest := [.int (nI b), .ref a13]) ⟨hx, hb, hml, hown, hts⟩ (c_M_left l D cI cL cB tS tF (((cq1 (cq2 (cq1 (cq2 (cq1 (cq2 (cq1 f a b) d0 a 16) c0 d0) b c0 12) a b) d0 a 8) c0 d0) b) ^^^ ((cq1 (cq2 (cq1 (cq2 (cq1 (cq2 (cq1 f a b) d0 a 16) c0 d0) b c0 12) a b) d0 a 8) c0 d0) c0)) 7 ) (va_cwS 2 hts (sb_gS k_868 k_869 k_30 k_870) rfl rfl rfl (by decide +kernel) ⟨Nat.le_of_ble_eq_true rfl, Nat.le_of_ble_eq_true rfl⟩) (sb_rS hG hP hS [] rfl) rfl rfl hl.1 rfl (lv_room (Nat.le_of_ble_eq_true rfl)) d_M_quarter_158 ⟨Nat.le_of_ble_eq_true rfl, Nat.le_of_ble_eq_true rfl⟩).run (fun r_11 er_11 => ?_)
  subst er_11
  refine sb_ist hx hb hG.1 hP hD hS 1 rfl b rfl (by omega) (by omega) d_M_quarter_161 (fun f_12 H locs ef_12 hP hD hS => ?_)
  have hP : va_P D vwCl [(mo, .inr (7, mFs thr a1 a2 a3 (nI lt) (nI lb) (nI lz) ci a4 a5 a6 nu bk se op fa a7 a8 a9 a10 a11 (nI rn) kh kl sh sl a12 a13 a14 a15 a16 a17 a18 a19 a20)), (a13, .inl (cI, 16, .inl f_12))] H := hP
  have hD : va_D A [(mo, .inr (7, mFs thr a1 a2 a3 (nI lt) (nI lb) (nI lz) ci a4 a5 a6 nu bk se op fa a7 a8 a9 a10 a11 (nI rn) kh kl sh sl a12 a13 a14 a15 a16 a17 a18 a19 a20)), (a13, .inl (cI, 16, .inl f_12))] := hD
  obtain rfl : f_12 = cq2 (cq1 (cq2 (cq1 (cq2 (cq1 (cq2 (cq1 f a b) d0 a 16) c0 d0) b c0 12) a b) d0 a 8) c0 d0) b c0 7 := ef_12
  have hP9 := hP.sub (ws' := [(mo, .inr (7, mFs thr a1 a2 a3 (nI lt) (nI lb) (nI lz) ci a4 a5 a6 nu bk se op fa a7 a8 a9 a10 a11 (nI rn) kh kl sh sl a12 a13 a14 a15 a16 a17 a18 a19 a20)), (a13, .inl (cI, 16, .inl (cq2 (cq1 (cq2 (cq1 (cq2 (cq1 (cq2 (cq1 f a b) d0 a 16) c0 d0) b c0 12) a b) d0 a 8) c0 d0) b c0 7)))]) [0, 1] rfl
  have hD9 := hD.sub (ws' := [(mo, .inr (7, mFs thr a1 a2 a3 (nI lt) (nI lb) (nI lz) ci a4 a5 a6 nu bk se op fa a7 a8 a9 a10 a11 (nI rn) kh kl sh sl a12 a13 a14 a15 a16 a17 a18 a19 a20)), (a13, .inl (cI, 16, .inl (cq2 (cq1 (cq2 (cq1 (cq2 (cq1 (cq2 (cq1 f a b) d0 a 16) c0 d0) b c0 12) a b) d0 a 8) c0 d0) b c0 7)))]) [0, 1] (by decide) rfl
  exact W.vret hx hb hr (fun t ht hW => ⟨⟨(), rfl, trivial, by rw [ht]; exact hP9, hD9⟩, hS.F ht⟩) hS.2.2 d_M_quarter_162
