def rget (f : Nat → Int32) (len : Nat) (i : Int32) : Int32 := if i < 0 then 0 else if nI len ≤ i then 0 else f i.toNatClampNeg &&& 255
def rset (f : Nat → Int32) (len : Nat) (i v : Int32) : Nat → Int32 := if i < 0 then f else if nI len ≤ i then f else upd f i.toNatClampNeg v.toInt8.toInt32
def rwstep (f : Nat → Int32) (len a e : Nat) (k : Nat) (w : Int32) : Int32 := (w <<< ((8 : Int32) &&& 31)) ||| (if e ≤ a + k then 0 else rget f len (nI (a + k)))
def rword (f : Nat → Int32) (len a e : Nat) : Int32 := iter (rwstep f len a e) 4 0
def rsetw (f : Nat → Int32) (len : Nat) (i w : Int32) : Nat → Int32 := rset (rset (rset (rset f len i (uS w 24)) len (i + 1) (uS w 16)) len (i + 2) (uS w 8)) len (i + 3) w

theorem d_R_get_0 : decode b_R_get 0 = .ok (.iload_n 1, 1) := by decide +kernel
theorem d_R_get_1 : decode b_R_get 1 = .ok (.ifCond .lt 24, 3) := by decide +kernel
theorem d_R_get_4 : decode b_R_get 4 = .ok (.iload_n 1, 1) := by decide +kernel
theorem d_R_get_5 : decode b_R_get 5 = .ok (.aload_n 0, 1) := by decide +kernel
theorem d_R_get_6 : decode b_R_get 6 = .ok (.getfield 13, 3) := by decide +kernel
theorem d_R_get_9 : decode b_R_get 9 = .ok (.if_icmp .ge 16, 3) := by decide +kernel
theorem d_R_get_12 : decode b_R_get 12 = .ok (.aload_n 0, 1) := by decide +kernel
theorem d_R_get_13 : decode b_R_get 13 = .ok (.getfield 9, 3) := by decide +kernel
theorem d_R_get_16 : decode b_R_get 16 = .ok (.iload_n 1, 1) := by decide +kernel
theorem d_R_get_17 : decode b_R_get 17 = .ok (.baload, 1) := by decide +kernel
theorem d_R_get_18 : decode b_R_get 18 = .ok (.sipush 255, 3) := by decide +kernel
theorem d_R_get_21 : decode b_R_get 21 = .ok (.iand, 1) := by decide +kernel
theorem d_R_get_22 : decode b_R_get 22 = .ok (.goto 4, 3) := by decide +kernel
theorem d_R_get_25 : decode b_R_get 25 = .ok (.iconst 0, 1) := by decide +kernel
theorem d_R_get_26 : decode b_R_get 26 = .ok (.ireturn, 1) := by decide +kernel

def rm_R_get : Room := { frames := 0, cells := 0, slots := 0, locals := 0 }
set_option maxHeartbeats 4000000 in
set_option maxRecDepth 100000 in
theorem c_R_get (l : Launch) (D : va_G) (cI cL cB : ClassId) (tS tF : Nat) (h : Nat) (b : Nat) (len : Nat) (n : Nat) (f : Nat → Int32) (i : Int32) (hln : len ≤ n) (hn : n < 2 ^ 31) : Met l y_R_get (sbw y_R_get b_R_get 2 (some .int)) rm_R_get (sbPr D cI cL cB tS tF [.ref h, .int i] [(h, .inr (5, [.ref b, .int (nI len)])), (b, .inl (cB, n, .inl f))]) (vp_Si (fun r => r = rget f len i)) 0 0 (fun _ => False) := by
  refine sb_ofR (by decide) (Nat.le_of_ble_eq_true rfl) ?_
  intro p e s m args below meth c ls hx hb hr hml hts hown hlocks hP hG hS hl
  have hl : lv_has ls 2 [(0, .ref h), (1, .int i)] := hl
  refine lv_iload_n hx hb d_R_get_0 rfl (lv_at hl 1 rfl) ?_
  refine lv_if_lt (tgt := 25) hx hb d_R_get_1 (by decide) (fun c_1 => ?_) (fun c_1 => ?_)
  · refine lv_iconst (v := 0) hx hb d_R_get_25 (by decide) ?_
    exact W.iret (v := 0) hx hb hr (fun t ht hW => ⟨_, rfl, (by subst_vars; simp only [rget, if_pos c_1]), ht⟩) hS.2.2 d_R_get_26
  · refine lv_iload_n hx hb d_R_get_4 rfl (lv_at hl 1 rfl) ?_
    refine lv_aload_n hx hb d_R_get_5 rfl (lv_at hl 0 rfl) ?_
    refine va_get (D := D) (ci := 5) (v := .int (nI len)) (C := R_R) (T := F_R) (N := 2) hx hb hts in_R hown hG.1 hP 0 rfl rfl 1 (by decide) (hts _ k_57) (fun _ h9 => h9) rfl d_R_get_6 ?_
    refine lv_icmp_ge (tgt := 25) hx hb d_R_get_9 (by decide) (fun c_2 => ?_) (fun c_2 => ?_)
    · refine lv_iconst (v := 0) hx hb d_R_get_25 (by decide) ?_
      exact W.iret (v := 0) hx hb hr (fun t ht hW => ⟨_, rfl, (by subst_vars; simp only [rget, if_neg c_1, if_pos c_2]), ht⟩) hS.2.2 d_R_get_26
    · refine lv_aload_n hx hb d_R_get_12 rfl (lv_at hl 0 rfl) ?_
      refine va_get (D := D) (ci := 5) (v := .ref b) (C := R_R) (T := F_R) (N := 2) hx hb hts in_R hown hG.1 hP 0 rfl rfl 0 (by decide) (hts _ k_56) (fun _ h9 => h9) rfl d_R_get_13 ?_
      refine lv_iload_n hx hb d_R_get_16 rfl (lv_at hl 1 rfl) ?_
      refine sb_bld hx hb hG.1 hP 1 rfl i.toNatClampNeg (sb_ix c_1) (sb_ixlt c_1 c_2 hln hn) (by omega) d_R_get_17 ?_
      refine lv_sipush (v := 255) hx hb d_R_get_18 (by decide) ?_
      refine lv_iand hx hb d_R_get_21 ?_
      refine lv_goto (tgt := 26) hx hb d_R_get_22 (by decide) ?_
      exact W.iret (v := (f i.toNatClampNeg) &&& 255) hx hb hr (fun t ht hW => ⟨_, rfl, (by subst_vars; simp only [rget, if_neg c_1, if_neg c_2]), ht⟩) hS.2.2 d_R_get_26

theorem d_R_set_0 : decode b_R_set 0 = .ok (.iload_n 1, 1) := by decide +kernel
theorem d_R_set_1 : decode b_R_set 1 = .ok (.ifCond .lt 19, 3) := by decide +kernel
theorem d_R_set_4 : decode b_R_set 4 = .ok (.iload_n 1, 1) := by decide +kernel
theorem d_R_set_5 : decode b_R_set 5 = .ok (.aload_n 0, 1) := by decide +kernel
theorem d_R_set_6 : decode b_R_set 6 = .ok (.getfield 13, 3) := by decide +kernel
theorem d_R_set_9 : decode b_R_set 9 = .ok (.if_icmp .ge 11, 3) := by decide +kernel
theorem d_R_set_12 : decode b_R_set 12 = .ok (.aload_n 0, 1) := by decide +kernel
theorem d_R_set_13 : decode b_R_set 13 = .ok (.getfield 9, 3) := by decide +kernel
theorem d_R_set_16 : decode b_R_set 16 = .ok (.iload_n 1, 1) := by decide +kernel
theorem d_R_set_17 : decode b_R_set 17 = .ok (.iload_n 2, 1) := by decide +kernel
theorem d_R_set_18 : decode b_R_set 18 = .ok (.i2b, 1) := by decide +kernel
theorem d_R_set_19 : decode b_R_set 19 = .ok (.bastore, 1) := by decide +kernel
theorem d_R_set_20 : decode b_R_set 20 = .ok (.return_, 1) := by decide +kernel

def rm_R_set : Room := { frames := 0, cells := 0, slots := 0, locals := 0 }
set_option maxHeartbeats 4000000 in
set_option maxRecDepth 100000 in
theorem c_R_set (l : Launch) (D : va_G) (cI cL cB : ClassId) (tS tF : Nat) (h : Nat) (b : Nat) (len : Nat) (n : Nat) (f : Nat → Int32) (i : Int32) (v : Int32) (sz : Nat) (hln : len ≤ n) (hn : n < 2 ^ 31) : Met l y_R_set (sbw y_R_set b_R_set 3 none) rm_R_set (sbPc D cI cL cB tS tF [.ref h, .int i, .int v] sz [(h, .inr (5, [.ref b, .int (nI len)])), (b, .inl (cB, n, .inl f))]) (sbQv D (fun (_ : Unit) => True) (fun (_ : Unit) => [(h, .inr (5, [.ref b, .int (nI len)])), (b, .inl (cB, n, .inl (rset f len i v)))]) (va_A [(h, .inr (5, [.ref b, .int (nI len)])), (b, .inl (cB, n, .inl f))] sz)) 0 0 (va_A [(h, .inr (5, [.ref b, .int (nI len)])), (b, .inl (cB, n, .inl f))] sz) := by
  refine sb_ofW (Qc := fun A => (sbQv D (fun (_ : Unit) => True) (fun (_ : Unit) => [(h, .inr (5, [.ref b, .int (nI len)])), (b, .inl (cB, n, .inl (rset f len i v)))]) A)) (by decide) (Nat.le_of_ble_eq_true rfl) ?_
  intro p e s m args below meth c A ls hx hb hr hml hts hown hlocks hin hsz hP hG hD hA hS hl
  have hl : lv_has ls 3 [(0, .ref h), (1, .int i), (2, .int v)] := hl
  refine lv_iload_n hx hb d_R_set_0 rfl (lv_at hl 1 rfl) ?_
  refine lv_if_lt (tgt := 20) hx hb d_R_set_1 (by decide) (fun c_1 => ?_) (fun c_1 => ?_)
  · have t_2 : f = rset f len i v := (by subst_vars; simp only [rset, pk_vb, if_pos c_1])
    have hP9 := hP.sub (ws' := [(h, .inr (5, [.ref b, .int (nI len)])), (b, .inl (cB, n, .inl f))]) [0, 1] rfl
    have hD9 := hD.sub (ws' := [(h, .inr (5, [.ref b, .int (nI len)])), (b, .inl (cB, n, .inl f))]) [0, 1] (by decide) rfl
    rw [t_2] at hP9 hD9
    exact W.vret hx hb hr (fun t ht hW => ⟨⟨(), rfl, trivial, by rw [ht]; exact hP9, hD9⟩, hS.F ht⟩) hS.2.2 d_R_set_20
  · refine lv_iload_n hx hb d_R_set_4 rfl (lv_at hl 1 rfl) ?_
    refine lv_aload_n hx hb d_R_set_5 rfl (lv_at hl 0 rfl) ?_
    refine va_get (D := D) (ci := 5) (v := .int (nI len)) (C := R_R) (T := F_R) (N := 2) hx hb hts in_R hown hG.1 hP 0 rfl rfl 1 (by decide) (hts _ k_57) (fun _ h9 => h9) rfl d_R_set_6 ?_
    refine lv_icmp_ge (tgt := 20) hx hb d_R_set_9 (by decide) (fun c_3 => ?_) (fun c_3 => ?_)
    · have t_4 : f = rset f len i v := (by subst_vars; simp only [rset, pk_vb, if_neg c_1, if_pos c_3])
      have hP9 := hP.sub (ws' := [(h, .inr (5, [.ref b, .int (nI len)])), (b, .inl (cB, n, .inl f))]) [0, 1] rfl
      have hD9 := hD.sub (ws' := [(h, .inr (5, [.ref b, .int (nI len)])), (b, .inl (cB, n, .inl f))]) [0, 1] (by decide) rfl
      rw [t_4] at hP9 hD9
      exact W.vret hx hb hr (fun t ht hW => ⟨⟨(), rfl, trivial, by rw [ht]; exact hP9, hD9⟩, hS.F ht⟩) hS.2.2 d_R_set_20
    · refine lv_aload_n hx hb d_R_set_12 rfl (lv_at hl 0 rfl) ?_
      refine va_get (D := D) (ci := 5) (v := .ref b) (C := R_R) (T := F_R) (N := 2) hx hb hts in_R hown hG.1 hP 0 rfl rfl 0 (by decide) (hts _ k_56) (fun _ h9 => h9) rfl d_R_set_13 ?_
      refine lv_iload_n hx hb d_R_set_16 rfl (lv_at hl 1 rfl) ?_
      refine lv_iload_n hx hb d_R_set_17 rfl (lv_at hl 2 rfl) ?_
      refine lv_i2b (v := v.toInt8.toInt32) hx hb d_R_set_18 rfl ?_
      refine sb_bst hx hb hG.1 hP hD hS 1 rfl i.toNatClampNeg (sb_ix c_1) (sb_ixlt c_1 c_3 hln hn) (by omega) d_R_set_19 (fun f_5 H locs ef_5 hP hD hS => ?_)
      have hP : va_P D vwCl [(h, .inr (5, [.ref b, .int (nI len)])), (b, .inl (cB, n, .inl f_5))] H := hP
      have hD : va_D A [(h, .inr (5, [.ref b, .int (nI len)])), (b, .inl (cB, n, .inl f_5))] := hD
      obtain rfl : f_5 = rset f len i v := (by subst_vars; simp only [rset, pk_vb, if_neg c_1, if_neg c_3])
      have hP9 := hP.sub (ws' := [(h, .inr (5, [.ref b, .int (nI len)])), (b, .inl (cB, n, .inl (rset f len i v)))]) [0, 1] rfl
      have hD9 := hD.sub (ws' := [(h, .inr (5, [.ref b, .int (nI len)])), (b, .inl (cB, n, .inl (rset f len i v)))]) [0, 1] (by decide) rfl
      exact W.vret hx hb hr (fun t ht hW => ⟨⟨(), rfl, trivial, by rw [ht]; exact hP9, hD9⟩, hS.F ht⟩) hS.2.2 d_R_set_20

theorem d_R_word_0 : decode b_R_word 0 = .ok (.iconst 0, 1) := by decide +kernel
theorem d_R_word_1 : decode b_R_word 1 = .ok (.istore_n 3, 1) := by decide +kernel
theorem d_R_word_2 : decode b_R_word 2 = .ok (.iload_n 1, 1) := by decide +kernel
theorem d_R_word_3 : decode b_R_word 3 = .ok (.istore 4, 2) := by decide +kernel
theorem d_R_word_5 : decode b_R_word 5 = .ok (.iload 4, 2) := by decide +kernel
theorem d_R_word_7 : decode b_R_word 7 = .ok (.iload_n 1, 1) := by decide +kernel
theorem d_R_word_8 : decode b_R_word 8 = .ok (.iconst 4, 1) := by decide +kernel
theorem d_R_word_9 : decode b_R_word 9 = .ok (.iadd, 1) := by decide +kernel
theorem d_R_word_10 : decode b_R_word 10 = .ok (.if_icmp .ge 31, 3) := by decide +kernel
theorem d_R_word_13 : decode b_R_word 13 = .ok (.iload_n 3, 1) := by decide +kernel
theorem d_R_word_14 : decode b_R_word 14 = .ok (.bipush 8, 2) := by decide +kernel
theorem d_R_word_16 : decode b_R_word 16 = .ok (.ishl, 1) := by decide +kernel
theorem d_R_word_17 : decode b_R_word 17 = .ok (.iload 4, 2) := by decide +kernel
theorem d_R_word_19 : decode b_R_word 19 = .ok (.iload_n 2, 1) := by decide +kernel
theorem d_R_word_20 : decode b_R_word 20 = .ok (.if_icmp .ge 12, 3) := by decide +kernel
theorem d_R_word_23 : decode b_R_word 23 = .ok (.aload_n 0, 1) := by decide +kernel
theorem d_R_word_24 : decode b_R_word 24 = .ok (.iload 4, 2) := by decide +kernel
theorem d_R_word_26 : decode b_R_word 26 = .ok (.invokevirtual 39, 3) := by decide +kernel
theorem d_R_word_29 : decode b_R_word 29 = .ok (.goto 4, 3) := by decide +kernel
theorem d_R_word_32 : decode b_R_word 32 = .ok (.iconst 0, 1) := by decide +kernel
theorem d_R_word_33 : decode b_R_word 33 = .ok (.ior, 1) := by decide +kernel
theorem d_R_word_34 : decode b_R_word 34 = .ok (.istore_n 3, 1) := by decide +kernel
theorem d_R_word_35 : decode b_R_word 35 = .ok (.iinc 4 1, 3) := by decide +kernel
theorem d_R_word_38 : decode b_R_word 38 = .ok (.goto (-33), 3) := by decide +kernel
theorem d_R_word_41 : decode b_R_word 41 = .ok (.iload_n 3, 1) := by decide +kernel
theorem d_R_word_42 : decode b_R_word 42 = .ok (.ireturn, 1) := by decide +kernel

def rm_R_word : Room := { frames := 1, cells := 0, slots := 0, locals := 21 }
set_option maxHeartbeats 4000000 in
set_option maxRecDepth 100000 in
theorem c_R_word (l : Launch) (D : va_G) (cI cL cB : ClassId) (tS tF : Nat) (h : Nat) (b : Nat) (len : Nat) (n : Nat) (f : Nat → Int32) (a : Nat) (z : Nat) (hln : len ≤ n) (hn : n < 2 ^ 31) (ha : a + 4 < 2 ^ 31) (hz : z < 2 ^ 31) : Met l y_R_word (sbw y_R_word b_R_word 5 (some .int)) rm_R_word (sbPr D cI cL cB tS tF [.ref h, .int (nI a), .int (nI z)] [(h, .inr (5, [.ref b, .int (nI len)])), (b, .inl (cB, n, .inl f))]) (vp_Si (fun r => r = rword f len a z)) 0 0 (fun _ => False) := by
  refine sb_ofR (by decide) (Nat.le_of_ble_eq_true rfl) ?_
  intro p e s m args below meth c ls hx hb hr hml hts hown hlocks hP hG hS hl
  have hl : lv_has ls 5 [(0, .ref h), (1, .int (nI a)), (2, .int (nI z))] := hl
  refine lv_iconst (v := 0) hx hb d_R_word_0 (by decide) ?_
  refine lv_istore_n (lv' := [(3, .int 0), (0, .ref h), (1, .int (nI a)), (2, .int (nI z))]) hx hb d_R_word_1 rfl hl (by decide) rfl (fun ls hl => ?_)
  refine lv_iload_n hx hb d_R_word_2 rfl (lv_at hl 2 rfl) ?_
  refine lv_istore (lv' := [(4, .int (nI a)), (3, .int 0), (0, .ref h), (1, .int (nI a)), (2, .int (nI z))]) hx hb d_R_word_3 hl (by decide) rfl (fun ls hl => ?_)
  have lp1 : ∀ (d1 i : Nat), i + d1 = 4 → ∀ (ls : Array Slot), lv_has ls 5 [(3, .int (iter (rwstep f len a z) i 0)), (4, .int (nI (a + i))), (0, .ref h), (1, .int (nI a)), (2, .int (nI z))] → W p l e rm_R_word s m args below meth c s.heap [] 0 0 (MQ below (vp_Si (fun r => r = rword f len a z)) args s 0 0 (fun _ => False)) (F0 m 5 ls []) := by
    intro d1
    induction d1 with
    | zero =>
      intro i hi1 ls hl
      obtain rfl : 4 = i := by omega
      refine lv_iload hx hb d_R_word_5 (lv_at hl 1 rfl) ?_
      refine lv_iload_n hx hb d_R_word_7 rfl (lv_at hl 3 rfl) ?_
      refine lv_iconst (v := 4) hx hb d_R_word_8 (by decide) ?_
      refine lv_iadd hx hb d_R_word_9 ?_
      refine sb_topn (a + 4) (nI_add a 4) ?_
      refine lv_icmp_ge (tgt := 41) hx hb d_R_word_10 (by decide) (fun c_1 => ?_) (fun c_1 => absurd (sb_geT (a := a + 4) (b := a + 4) rfl rfl (by omega) (by omega) (by omega)) c_1)
      refine lv_iload_n hx hb d_R_word_41 rfl (lv_at hl 0 rfl) ?_
      exact W.iret (v := iter (rwstep f len a z) 4 0) hx hb hr (fun t ht hW => ⟨_, rfl, rfl, ht⟩) hS.2.2 d_R_word_42
    | succ d1 ih1 =>
      intro i hi1 ls hl
      refine lv_iload hx hb d_R_word_5 (lv_at hl 1 rfl) ?_
      refine lv_iload_n hx hb d_R_word_7 rfl (lv_at hl 3 rfl) ?_
      refine lv_iconst (v := 4) hx hb d_R_word_8 (by decide) ?_
      refine lv_iadd hx hb d_R_word_9 ?_
      refine sb_topn (a + 4) (nI_add a 4) ?_
      refine lv_icmp_ge (tgt := 41) hx hb d_R_word_10 (by decide) (fun c_2 => absurd c_2 (sb_geF (a := a + i) (b := a + 4) rfl rfl (by omega) (by omega) (by omega))) (fun c_2 => ?_)
      refine lv_iload_n hx hb d_R_word_13 rfl (lv_at hl 0 rfl) ?_
      refine lv_bipush (v := 8) hx hb d_R_word_14 (by decide) ?_
      refine lv_ishl hx hb d_R_word_16 ?_
      refine lv_iload hx hb d_R_word_17 (lv_at hl 1 rfl) ?_
      refine lv_iload_n hx hb d_R_word_19 rfl (lv_at hl 4 rfl) ?_
      refine lv_icmp_ge (tgt := 32) hx hb d_R_word_20 (by decide) (fun c_3 => ?_) (fun c_3 => ?_)
      · have c_3 := (sb_geI (a := a + i) (b := z) rfl rfl (by omega) (by omega)).mp c_3
        refine lv_iconst (v := 0) hx hb d_R_word_32 (by decide) ?_
        refine lv_ior hx hb d_R_word_33 ?_
        refine lv_topi (fun x_4 ex_4 => ?_)
        refine lv_istore_n (lv' := [(3, .int x_4), (4, .int (nI (a + i))), (0, .ref h), (1, .int (nI a)), (2, .int (nI z))]) hx hb d_R_word_34 rfl hl (by decide) rfl (fun ls hl => ?_)
        refine lv_iinc (v := nI ((a + i) + 1)) (lv' := [(4, .int (nI ((a + i) + 1))), (3, .int x_4), (0, .ref h), (1, .int (nI a)), (2, .int (nI z))]) hx hb d_R_word_35 hl (k := 1) rfl (sb_inc (a := a + i) (b := (a + i) + 1) (d := 1) rfl (by decide) (by omega)) (by decide) rfl (fun ls hl => ?_)
        refine lv_goto (tgt := 5) hx hb d_R_word_38 (by decide) ?_
        obtain rfl : x_4 = iter (rwstep f len a z) (i + 1) 0 := (by subst_vars; simp only [iter, rwstep, if_pos c_3])
        exact ih1 (i + 1) (by omega) ls (lv_sub hl [1, 0, 2, 3, 4] rfl)
      · have c_3 := mt (sb_geI (a := a + i) (b := z) rfl rfl (by omega) (by omega)).mpr c_3
        refine lv_aload_n hx hb d_R_word_23 rfl (lv_at hl 2 rfl) ?_
        refine lv_iload hx hb d_R_word_24 (lv_at hl 1 rfl) ?_
        refine vp_callSi (va_runV (As := [.int (nI (a + i))]) (rest := [.int ((iter (rwstep f len a z) i 0) <<< (8 &&& 31))]) ⟨hx, hb, hml, hown, hts⟩ (c_R_get l D cI cL cB tS tF h b len n f (nI (a + i)) (by omega) (by omega)) (cwV 1 hts (sb_gV k_428 k_429 k_430 k_23 k_431) rfl rfl rfl (by decide +kernel) ⟨Nat.le_of_ble_eq_true rfl, Nat.le_of_ble_eq_true rfl⟩) (sb_rV hG hP hS [0, 1] rfl (ci := 5) (q0 := 0) rfl rfl) rfl rfl hl.1 rfl (lv_room (Nat.le_of_ble_eq_true rfl)) d_R_word_26 ⟨Nat.le_of_ble_eq_true rfl, Nat.le_of_ble_eq_true rfl⟩).run (fun r_5 er_5 => ?_)
        subst er_5
        refine lv_goto (tgt := 33) hx hb d_R_word_29 (by decide) ?_
        refine lv_ior hx hb d_R_word_33 ?_
        refine lv_topi (fun x_6 ex_6 => ?_)
        refine lv_istore_n (lv' := [(3, .int x_6), (4, .int (nI (a + i))), (0, .ref h), (1, .int (nI a)), (2, .int (nI z))]) hx hb d_R_word_34 rfl hl (by decide) rfl (fun ls hl => ?_)
        refine lv_iinc (v := nI ((a + i) + 1)) (lv' := [(4, .int (nI ((a + i) + 1))), (3, .int x_6), (0, .ref h), (1, .int (nI a)), (2, .int (nI z))]) hx hb d_R_word_35 hl (k := 1) rfl (sb_inc (a := a + i) (b := (a + i) + 1) (d := 1) rfl (by decide) (by omega)) (by decide) rfl (fun ls hl => ?_)
        refine lv_goto (tgt := 5) hx hb d_R_word_38 (by decide) ?_
        obtain rfl : x_6 = iter (rwstep f len a z) (i + 1) 0 := (by subst_vars; simp only [iter, rwstep, if_neg c_3])
        exact ih1 (i + 1) (by omega) ls (lv_sub hl [1, 0, 2, 3, 4] rfl)
  exact lp1 4 0 (by omega) ls (lv_sub hl [1, 0, 2, 3, 4] rfl)

theorem d_R_setWord_0 : decode b_R_setWord 0 = .ok (.aload_n 0, 1) := by decide +kernel
theorem d_R_setWord_1 : decode b_R_setWord 1 = .ok (.iload_n 1, 1) := by decide +kernel
theorem d_R_setWord_2 : decode b_R_setWord 2 = .ok (.iload_n 2, 1) := by decide +kernel
theorem d_R_setWord_3 : decode b_R_setWord 3 = .ok (.bipush 24, 2) := by decide +kernel
theorem d_R_setWord_5 : decode b_R_setWord 5 = .ok (.iushr, 1) := by decide +kernel
theorem d_R_setWord_6 : decode b_R_setWord 6 = .ok (.invokevirtual 43, 3) := by decide +kernel
theorem d_R_setWord_9 : decode b_R_setWord 9 = .ok (.aload_n 0, 1) := by decide +kernel
theorem d_R_setWord_10 : decode b_R_setWord 10 = .ok (.iload_n 1, 1) := by decide +kernel
theorem d_R_setWord_11 : decode b_R_setWord 11 = .ok (.iconst 1, 1) := by decide +kernel
theorem d_R_setWord_12 : decode b_R_setWord 12 = .ok (.iadd, 1) := by decide +kernel
theorem d_R_setWord_13 : decode b_R_setWord 13 = .ok (.iload_n 2, 1) := by decide +kernel
theorem d_R_setWord_14 : decode b_R_setWord 14 = .ok (.bipush 16, 2) := by decide +kernel
theorem d_R_setWord_16 : decode b_R_setWord 16 = .ok (.iushr, 1) := by decide +kernel
theorem d_R_setWord_17 : decode b_R_setWord 17 = .ok (.invokevirtual 43, 3) := by decide +kernel
theorem d_R_setWord_20 : decode b_R_setWord 20 = .ok (.aload_n 0, 1) := by decide +kernel
theorem d_R_setWord_21 : decode b_R_setWord 21 = .ok (.iload_n 1, 1) := by decide +kernel
theorem d_R_setWord_22 : decode b_R_setWord 22 = .ok (.iconst 2, 1) := by decide +kernel
theorem d_R_setWord_23 : decode b_R_setWord 23 = .ok (.iadd, 1) := by decide +kernel
theorem d_R_setWord_24 : decode b_R_setWord 24 = .ok (.iload_n 2, 1) := by decide +kernel
theorem d_R_setWord_25 : decode b_R_setWord 25 = .ok (.bipush 8, 2) := by decide +kernel
theorem d_R_setWord_27 : decode b_R_setWord 27 = .ok (.iushr, 1) := by decide +kernel
theorem d_R_setWord_28 : decode b_R_setWord 28 = .ok (.invokevirtual 43, 3) := by decide +kernel
theorem d_R_setWord_31 : decode b_R_setWord 31 = .ok (.aload_n 0, 1) := by decide +kernel
theorem d_R_setWord_32 : decode b_R_setWord 32 = .ok (.iload_n 1, 1) := by decide +kernel
theorem d_R_setWord_33 : decode b_R_setWord 33 = .ok (.iconst 3, 1) := by decide +kernel
theorem d_R_setWord_34 : decode b_R_setWord 34 = .ok (.iadd, 1) := by decide +kernel
theorem d_R_setWord_35 : decode b_R_setWord 35 = .ok (.iload_n 2, 1) := by decide +kernel
theorem d_R_setWord_36 : decode b_R_setWord 36 = .ok (.invokevirtual 43, 3) := by decide +kernel
theorem d_R_setWord_39 : decode b_R_setWord 39 = .ok (.return_, 1) := by decide +kernel

def rm_R_setWord : Room := { frames := 1, cells := 0, slots := 0, locals := 22 }
set_option maxHeartbeats 4000000 in
set_option maxRecDepth 100000 in
theorem c_R_setWord (l : Launch) (D : va_G) (cI cL cB : ClassId) (tS tF : Nat) (h : Nat) (b : Nat) (len : Nat) (n : Nat) (f : Nat → Int32) (i : Int32) (v : Int32) (sz : Nat) (hln : len ≤ n) (hn : n < 2 ^ 31) : Met l y_R_setWord (sbw y_R_setWord b_R_setWord 3 none) rm_R_setWord (sbPc D cI cL cB tS tF [.ref h, .int i, .int v] sz [(h, .inr (5, [.ref b, .int (nI len)])), (b, .inl (cB, n, .inl f))]) (sbQv D (fun (_ : Unit) => True) (fun (_ : Unit) => [(h, .inr (5, [.ref b, .int (nI len)])), (b, .inl (cB, n, .inl (rsetw f len i v)))]) (va_A [(h, .inr (5, [.ref b, .int (nI len)])), (b, .inl (cB, n, .inl f))] sz)) 0 0 (va_A [(h, .inr (5, [.ref b, .int (nI len)])), (b, .inl (cB, n, .inl f))] sz) := by
  refine sb_ofW (Qc := fun A => (sbQv D (fun (_ : Unit) => True) (fun (_ : Unit) => [(h, .inr (5, [.ref b, .int (nI len)])), (b, .inl (cB, n, .inl (rsetw f len i v)))]) A)) (by decide) (Nat.le_of_ble_eq_true rfl) ?_
  intro p e s m args below meth c A ls hx hb hr hml hts hown hlocks hin hsz hP hG hD hA hS hl
  have hl : lv_has ls 3 [(0, .ref h), (1, .int i), (2, .int v)] := hl
  refine lv_aload_n hx hb d_R_setWord_0 rfl (lv_at hl 0 rfl) ?_
  refine lv_iload_n hx hb d_R_setWord_1 rfl (lv_at hl 1 rfl) ?_
  refine lv_iload_n hx hb d_R_setWord_2 rfl (lv_at hl 2 rfl) ?_
  refine lv_bipush (v := 24) hx hb d_R_setWord_3 (by decide) ?_
  refine lv_iushr (v := uS v 24) hx hb d_R_setWord_5 rfl ?_
  refine sb_callv (wr := []) (va_runV (As := [.int i, .int (uS v 24)]) (rest := []) ⟨hx, hb, hml, hown, hts⟩ (c_R_set l D cI cL cB tS tF h b len n f i (uS v 24) _ (by omega) (by omega)) (cwV 2 hts (sb_gV k_367 k_368 k_369 k_23 k_370) rfl rfl rfl (by decide +kernel) ⟨Nat.le_of_ble_eq_true rfl, Nat.le_of_ble_eq_true rfl⟩) (sb_pV hG hP hD hS hA [0, 1] (by decide) rfl (ci := 5) (q0 := 0) rfl rfl) rfl rfl hl.1 rfl (lv_room (Nat.le_of_ble_eq_true rfl)) d_R_setWord_6 ⟨Nat.le_of_ble_eq_true rfl, Nat.le_of_ble_eq_true rfl⟩) hP hD hS hA [0, 1] [] rfl rfl (by decide) (by decide) (fun u H locs hw_1 hP hD hS => ?_)
  have hP : va_P D vwCl [(h, .inr (5, [.ref b, .int (nI len)])), (b, .inl (cB, n, .inl (rset f len i (uS v 24))))] H := hP
  have hD : va_D A [(h, .inr (5, [.ref b, .int (nI len)])), (b, .inl (cB, n, .inl (rset f len i (uS v 24))))] := hD
  refine lv_aload_n hx hb d_R_setWord_9 rfl (lv_at hl 0 rfl) ?_
  refine lv_iload_n hx hb d_R_setWord_10 rfl (lv_at hl 1 rfl) ?_
  refine lv_iconst (v := 1) hx hb d_R_setWord_11 (by decide) ?_
  refine lv_iadd hx hb d_R_setWord_12 ?_
  refine lv_iload_n hx hb d_R_setWord_13 rfl (lv_at hl 2 rfl) ?_
  refine lv_bipush (v := 16) hx hb d_R_setWord_14 (by decide) ?_
  refine lv_iushr (v := uS v 16) hx hb d_R_setWord_16 rfl ?_
  refine sb_callv (wr := []) (va_runV (As := [.int (i + 1), .int (uS v 16)]) (rest := []) ⟨hx, hb, hml, hown, hts⟩ (c_R_set l D cI cL cB tS tF h b len n (rset f len i (uS v 24)) (i + 1) (uS v 16) _ (by omega) (by omega)) (cwV 2 hts (sb_gV k_367 k_368 k_369 k_23 k_370) rfl rfl rfl (by decide +kernel) ⟨Nat.le_of_ble_eq_true rfl, Nat.le_of_ble_eq_true rfl⟩) (sb_pV hG hP hD hS hA [0, 1] (by decide) rfl (ci := 5) (q0 := 0) rfl rfl) rfl rfl hl.1 rfl (lv_room (Nat.le_of_ble_eq_true rfl)) d_R_setWord_17 ⟨Nat.le_of_ble_eq_true rfl, Nat.le_of_ble_eq_true rfl⟩) hP hD hS hA [0, 1] [] rfl rfl (by decide) (by decide) (fun u H locs hw_2 hP hD hS => ?_)
  have hP : va_P D vwCl [(h, .inr (5, [.ref b, .int (nI len)])), (b, .inl (cB, n, .inl (rset (rset f len i (uS v 24)) len (i + 1) (uS v 16))))] H := hP
  have hD : va_D A [(h, .inr (5, [.ref b, .int (nI len)])), (b, .inl (cB, n, .inl (rset (rset f len i (uS v 24)) len (i + 1) (uS v 16))))] := hD
  refine lv_aload_n hx hb d_R_setWord_20 rfl (lv_at hl 0 rfl) ?_
  refine lv_iload_n hx hb d_R_setWord_21 rfl (lv_at hl 1 rfl) ?_
  refine lv_iconst (v := 2) hx hb d_R_setWord_22 (by decide) ?_
  refine lv_iadd hx hb d_R_setWord_23 ?_
  refine lv_iload_n hx hb d_R_setWord_24 rfl (lv_at hl 2 rfl) ?_
  refine lv_bipush (v := 8) hx hb d_R_setWord_25 (by decide) ?_
  refine lv_iushr (v := uS v 8) hx hb d_R_setWord_27 rfl ?_
  refine sb_callv (wr := []) (va_runV (As := [.int (i + 2), .int (uS v 8)]) (rest := []) ⟨hx, hb, hml, hown, hts⟩ (c_R_set l D cI cL cB tS tF h b len n (rset (rset f len i (uS v 24)) len (i + 1) (uS v 16)) (i + 2) (uS v 8) _ (by omega) (by omega)) (cwV 2 hts (sb_gV k_367 k_368 k_369 k_23 k_370) rfl rfl rfl (by decide +kernel) ⟨Nat.le_of_ble_eq_true rfl, Nat.le_of_ble_eq_true rfl⟩) (sb_pV hG hP hD hS hA [0, 1] (by decide) rfl (ci := 5) (q0 := 0) rfl rfl) rfl rfl hl.1 rfl (lv_room (Nat.le_of_ble_eq_true rfl)) d_R_setWord_28 ⟨Nat.le_of_ble_eq_true rfl, Nat.le_of_ble_eq_true rfl⟩) hP hD hS hA [0, 1] [] rfl rfl (by decide) (by decide) (fun u H locs hw_3 hP hD hS => ?_)
  have hP : va_P D vwCl [(h, .inr (5, [.ref b, .int (nI len)])), (b, .inl (cB, n, .inl (rset (rset (rset f len i (uS v 24)) len (i + 1) (uS v 16)) len (i + 2) (uS v 8))))] H := hP
  have hD : va_D A [(h, .inr (5, [.ref b, .int (nI len)])), (b, .inl (cB, n, .inl (rset (rset (rset f len i (uS v 24)) len (i + 1) (uS v 16)) len (i + 2) (uS v 8))))] := hD
  refine lv_aload_n hx hb d_R_setWord_31 rfl (lv_at hl 0 rfl) ?_
  refine lv_iload_n hx hb d_R_setWord_32 rfl (lv_at hl 1 rfl) ?_
  refine lv_iconst (v := 3) hx hb d_R_setWord_33 (by decide) ?_
  refine lv_iadd hx hb d_R_setWord_34 ?_
  refine lv_iload_n hx hb d_R_setWord_35 rfl (lv_at hl 2 rfl) ?_
  refine sb_callv (wr := []) (va_runV (As := [.int (i + 3), .int v]) (rest := []) ⟨hx, hb, hml, hown, hts⟩ (c_R_set l D cI cL cB tS tF h b len n (rset (rset (rset f len i (uS v 24)) len (i + 1) (uS v 16)) len (i + 2) (uS v 8)) (i + 3) v _ (by omega) (by omega)) (cwV 2 hts (sb_gV k_367 k_368 k_369 k_23 k_370) rfl rfl rfl (by decide +kernel) ⟨Nat.le_of_ble_eq_true rfl, Nat.le_of_ble_eq_true rfl⟩) (sb_pV hG hP hD hS hA [0, 1] (by decide) rfl (ci := 5) (q0 := 0) rfl rfl) rfl rfl hl.1 rfl (lv_room (Nat.le_of_ble_eq_true rfl)) d_R_setWord_36 ⟨Nat.le_of_ble_eq_true rfl, Nat.le_of_ble_eq_true rfl⟩) hP hD hS hA [0, 1] [] rfl rfl (by decide) (by decide) (fun u H locs hw_4 hP hD hS => ?_)
  have hP : va_P D vwCl [(h, .inr (5, [.ref b, .int (nI len)])), (b, .inl (cB, n, .inl (rset (rset (rset (rset f len i (uS v 24)) len (i + 1) (uS v 16)) len (i + 2) (uS v 8)) len (i + 3) v)))] H := hP
  have hD : va_D A [(h, .inr (5, [.ref b, .int (nI len)])), (b, .inl (cB, n, .inl (rset (rset (rset (rset f len i (uS v 24)) len (i + 1) (uS v 16)) len (i + 2) (uS v 8)) len (i + 3) v)))] := hD
  have hP9 := hP.sub (ws' := [(h, .inr (5, [.ref b, .int (nI len)])), (b, .inl (cB, n, .inl (rset (rset (rset (rset f len i (uS v 24)) len (i + 1) (uS v 16)) len (i + 2) (uS v 8)) len (i + 3) v)))]) [0, 1] rfl
  have hD9 := hD.sub (ws' := [(h, .inr (5, [.ref b, .int (nI len)])), (b, .inl (cB, n, .inl (rset (rset (rset (rset f len i (uS v 24)) len (i + 1) (uS v 16)) len (i + 2) (uS v 8)) len (i + 3) v)))]) [0, 1] (by decide) rfl
  exact W.vret hx hb hr (fun t ht hW => ⟨⟨(), rfl, trivial, by rw [ht]; exact hP9, hD9⟩, hS.F ht⟩) hS.2.2 d_R_setWord_39
