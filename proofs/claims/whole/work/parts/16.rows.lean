theorem d_J_copyOf_0 : decode b_J_copyOf 0 = .ok (.iload_n 1, 1) := by decide +kernel
theorem d_J_copyOf_1 : decode b_J_copyOf 1 = .ok (.aload_n 0, 1) := by decide +kernel
theorem d_J_copyOf_2 : decode b_J_copyOf 2 = .ok (.arraylength, 1) := by decide +kernel
theorem d_J_copyOf_3 : decode b_J_copyOf 3 = .ok (.if_icmp .ne 11, 3) := by decide +kernel
theorem d_J_copyOf_6 : decode b_J_copyOf 6 = .ok (.aload_n 0, 1) := by decide +kernel
theorem d_J_copyOf_7 : decode b_J_copyOf 7 = .ok (.invokevirtual 310, 3) := by decide +kernel
theorem d_J_copyOf_10 : decode b_J_copyOf 10 = .ok (.checkcast 311, 3) := by decide +kernel
theorem d_J_copyOf_13 : decode b_J_copyOf 13 = .ok (.areturn, 1) := by decide +kernel
theorem d_J_copyOf_14 : decode b_J_copyOf 14 = .ok (.iload_n 1, 1) := by decide +kernel
theorem d_J_copyOf_15 : decode b_J_copyOf 15 = .ok (.newarray .byte, 2) := by decide +kernel
theorem d_J_copyOf_17 : decode b_J_copyOf 17 = .ok (.astore_n 2, 1) := by decide +kernel
theorem d_J_copyOf_18 : decode b_J_copyOf 18 = .ok (.aload_n 0, 1) := by decide +kernel
theorem d_J_copyOf_19 : decode b_J_copyOf 19 = .ok (.iconst 0, 1) := by decide +kernel
theorem d_J_copyOf_20 : decode b_J_copyOf 20 = .ok (.aload_n 2, 1) := by decide +kernel
theorem d_J_copyOf_21 : decode b_J_copyOf 21 = .ok (.iconst 0, 1) := by decide +kernel
theorem d_J_copyOf_22 : decode b_J_copyOf 22 = .ok (.aload_n 0, 1) := by decide +kernel
theorem d_J_copyOf_23 : decode b_J_copyOf 23 = .ok (.arraylength, 1) := by decide +kernel
theorem d_J_copyOf_24 : decode b_J_copyOf 24 = .ok (.iload_n 1, 1) := by decide +kernel
theorem d_J_copyOf_25 : decode b_J_copyOf 25 = .ok (.invokestatic 304, 3) := by decide +kernel
theorem d_J_copyOf_28 : decode b_J_copyOf 28 = .ok (.invokestatic 150, 3) := by decide +kernel
theorem d_J_copyOf_31 : decode b_J_copyOf 31 = .ok (.aload_n 2, 1) := by decide +kernel
theorem d_J_copyOf_32 : decode b_J_copyOf 32 = .ok (.areturn, 1) := by decide +kernel

def rm_J_copyOf (mc ms : Nat) : Room := { frames := 1, cells := mc, slots := ms, locals := 18 }
set_option maxHeartbeats 4000000 in
set_option maxRecDepth 100000 in
theorem c_J_copyOf (l : Launch) (D : va_G) (cI cL cB : ClassId) (tS tF : Nat) (h : Nat) (n : Nat) (f : Nat → Int32) (k : Nat) (sz : Nat) (h1 : n < k) (h2 : k ≤ 100000) (hf : ∀ x, fits .byte (.int (f x)) = true) : Met l y_J_copyOf (sbw y_J_copyOf b_J_copyOf 3 (some (.array .byte))) (rm_J_copyOf 1 k) (sbPc D cI cL cB tS tF [.ref h, .int (nI k)] sz [(h, .inl (cB, n, .inl f))]) (sbQr D (fun (_ : Unit) => True) (fun (_ : Unit) (q : Nat) => [(h, .inl (cB, n, .inl f)), (q, .inl (cB, k, .inl (rcp f n)))]) (va_A [(h, .inl (cB, n, .inl f))] sz)) 1 k (va_A [(h, .inl (cB, n, .inl f))] sz) := by
  refine sb_ofF (Qc := fun A => (sbQr D (fun (_ : Unit) => True) (fun (_ : Unit) (q : Nat) => [(h, .inl (cB, n, .inl f)), (q, .inl (cB, k, .inl (rcp f n)))]) A)) (by decide) (Nat.le_of_ble_eq_true rfl) ?_
  intro p e s m args below meth c A ls hx hb hr hml hts hown hlocks hin hsz hP hG hD hA hS hl
  have hl : lv_has ls 3 [(0, .ref h), (1, .int (nI k))] := hl
  refine lv_iload_n hx hb d_J_copyOf_0 rfl (lv_at hl 1 rfl) ?_
  refine lv_aload_n hx hb d_J_copyOf_1 rfl (lv_at hl 0 rfl) ?_
  refine va_alen (v := nI n) hx hb hG.1 hP 0 2 rfl rfl rfl d_J_copyOf_2 ?_
  refine lv_icmp_ne (tgt := 14) hx hb d_J_copyOf_3 (by decide) (fun c_1 => ?_) (fun c_1 => absurd c_1 (sb_neT (a := k) (b := n) rfl rfl (by omega) (by omega) (by omega)))
  refine lv_iload_n hx hb d_J_copyOf_14 rfl (lv_at hl 1 rfl) ?_
  refine sb_newb hx hb (hts _ k_67) hG.1 hP hD hS hA (N := k) rfl (by omega) (Nat.le_of_ble_eq_true rfl) (Nat.le_of_eq (Nat.zero_add _)) d_J_copyOf_15 (fun q_2 H hP hD hS => ?_)
  have hP : va_P D vwCl [(h, .inl (cB, n, .inl f)), (q_2, .inl (cB, k, .inl (fun _ => 0)))] H := hP
  have hD : va_D A [(h, .inl (cB, n, .inl f)), (q_2, .inl (cB, k, .inl (fun _ => 0)))] := hD
  refine W.widen (k := 1) (n := 0 + k) (by omega) (by omega) ?_
  refine lv_astore_n (lv' := [(2, .ref q_2), (0, .ref h), (1, .int (nI k))]) hx hb d_J_copyOf_17 rfl hl (by decide) rfl (fun ls hl => ?_)
  refine lv_aload_n hx hb d_J_copyOf_18 rfl (lv_at hl 1 rfl) ?_
  refine lv_iconst (v := 0) hx hb d_J_copyOf_19 (by decide) ?_
  refine lv_aload_n hx hb d_J_copyOf_20 rfl (lv_at hl 0 rfl) ?_
  refine lv_iconst (v := 0) hx hb d_J_copyOf_21 (by decide) ?_
  refine lv_aload_n hx hb d_J_copyOf_22 rfl (lv_at hl 1 rfl) ?_
  refine va_alen (v := nI n) hx hb hG.1 hP 0 2 rfl rfl rfl d_J_copyOf_23 ?_
  refine lv_iload_n hx hb d_J_copyOf_24 rfl (lv_at hl 2 rfl) ?_
  refine va_mmin hx hb (hml.trans hl.1.symm) hown (hts _ k_269) (hts _ k_270) (hts _ k_35) (hts _ k_271) (Nat.le_of_ble_eq_true rfl) (Nat.le_of_ble_eq_true rfl) (Nat.le_of_ble_eq_true rfl) (Nat.le_of_eq (Nat.zero_add _)) d_J_copyOf_25 ?_
  refine sb_topn n (sb_min (by omega) (by omega)) ?_
  refine sb_copyb hx hb (hml.trans hl.1.symm) hown (hts _ k_272) (hts _ k_274) (hts _ k_273) (hts _ k_37) hG.1 hP hD hS 0 1 hf rfl rfl 0 0 n rfl rfl rfl (by omega) (by omega) (by omega) (by omega) (Nat.le_of_ble_eq_true rfl) (Nat.le_of_ble_eq_true rfl) d_J_copyOf_28 (fun f_3 H locs ef_3 hP hD hS => ?_)
  have hP : va_P D vwCl [(h, .inl (cB, n, .inl f)), (q_2, .inl (cB, k, .inl f_3))] H := hP
  have hD : va_D A [(h, .inl (cB, n, .inl f)), (q_2, .inl (cB, k, .inl f_3))] := hD
  obtain rfl : f_3 = rcp f n := ef_3
  refine lv_aload_n hx hb d_J_copyOf_31 rfl (lv_at hl 0 rfl) ?_
  have hP9 := hP.sub (ws' := [(h, .inl (cB, n, .inl f)), (q_2, .inl (cB, k, .inl (rcp f n)))]) [0, 1] rfl
  have hD9 := hD.sub (ws' := [(h, .inl (cB, n, .inl f)), (q_2, .inl (cB, k, .inl (rcp f n)))]) [0, 1] (by decide) rfl
  refine W.widen (k := 1) (n := k) (Nat.le_of_ble_eq_true rfl) (Nat.le_of_eq (Nat.zero_add _)) ?_
  exact W.aret (v := .ref q_2) hx hb hr (Or.inr ⟨_, rfl⟩) (Or.inr ⟨_, rfl⟩) (fun t ht hW => ⟨⟨(), q_2, rfl, trivial, by rw [ht]; exact hP9, hD9⟩, hS.F ht⟩) hS.2.2 d_J_copyOf_32

theorem d_R_resize_0 : decode b_R_resize 0 = .ok (.iload_n 1, 1) := by decide +kernel
theorem d_R_resize_1 : decode b_R_resize 1 = .ok (.aload_n 0, 1) := by decide +kernel
theorem d_R_resize_2 : decode b_R_resize 2 = .ok (.getfield 9, 3) := by decide +kernel
theorem d_R_resize_5 : decode b_R_resize 5 = .ok (.arraylength, 1) := by decide +kernel
theorem d_R_resize_6 : decode b_R_resize 6 = .ok (.if_icmp .le 25, 3) := by decide +kernel
theorem d_R_resize_9 : decode b_R_resize 9 = .ok (.aload_n 0, 1) := by decide +kernel
theorem d_R_resize_10 : decode b_R_resize 10 = .ok (.aload_n 0, 1) := by decide +kernel
theorem d_R_resize_11 : decode b_R_resize 11 = .ok (.getfield 9, 3) := by decide +kernel
theorem d_R_resize_14 : decode b_R_resize 14 = .ok (.iload_n 1, 1) := by decide +kernel
theorem d_R_resize_15 : decode b_R_resize 15 = .ok (.iconst 2, 1) := by decide +kernel
theorem d_R_resize_16 : decode b_R_resize 16 = .ok (.aload_n 0, 1) := by decide +kernel
theorem d_R_resize_17 : decode b_R_resize 17 = .ok (.getfield 9, 3) := by decide +kernel
theorem d_R_resize_20 : decode b_R_resize 20 = .ok (.arraylength, 1) := by decide +kernel
theorem d_R_resize_21 : decode b_R_resize 21 = .ok (.imul, 1) := by decide +kernel
theorem d_R_resize_22 : decode b_R_resize 22 = .ok (.invokestatic 17, 3) := by decide +kernel
theorem d_R_resize_25 : decode b_R_resize 25 = .ok (.invokestatic 23, 3) := by decide +kernel
theorem d_R_resize_28 : decode b_R_resize 28 = .ok (.putfield 9, 3) := by decide +kernel
theorem d_R_resize_31 : decode b_R_resize 31 = .ok (.aload_n 0, 1) := by decide +kernel
theorem d_R_resize_32 : decode b_R_resize 32 = .ok (.iload_n 1, 1) := by decide +kernel
theorem d_R_resize_33 : decode b_R_resize 33 = .ok (.putfield 13, 3) := by decide +kernel
theorem d_R_resize_36 : decode b_R_resize 36 = .ok (.return_, 1) := by decide +kernel

def rm_R_resize (mc ms : Nat) : Room := { frames := 2, cells := mc, slots := ms, locals := 40 }
set_option maxHeartbeats 4000000 in
set_option maxRecDepth 100000 in
theorem c_R_resize (l : Launch) (D : va_G) (cI cL cB : ClassId) (tS tF : Nat) (h : Nat) (b : Nat) (len : Nat) (n : Nat) (f : Nat → Int32) (k : Nat) (sz : Nat) (hf : ∀ x, fits .byte (.int (f x)) = true) (hn : n ≤ 50000) (hk : k ≤ 100000) : Met l y_R_resize (sbw y_R_resize b_R_resize 2 none) (rm_R_resize 1 (rsz k n)) (sbPc D cI cL cB tS tF [.ref h, .int (nI k)] sz [(h, .inr (5, [.ref b, .int (nI len)])), (b, .inl (cB, n, .inl f))]) (sbQv D (fun (u : Nat × (Nat → Int32)) => match u with | (nb, nf) => (∀ j, j < n → nf j = f j) ∧ (∀ x, fits .byte (.int (nf x)) = true)) (fun (u : Nat × (Nat → Int32)) => match u with | (nb, nf) => [(h, .inr (5, [.ref nb, .int (nI k)])), (nb, .inl (cB, rnew k n, .inl nf))]) (va_A [(h, .inr (5, [.ref b, .int (nI len)])), (b, .inl (cB, n, .inl f))] sz)) 1 (rsz k n) (va_A [(h, .inr (5, [.ref b, .int (nI len)])), (b, .inl (cB, n, .inl f))] sz) := by
  refine sb_ofW (Qc := fun A => (sbQv D (fun (u : Nat × (Nat → Int32)) => match u with | (nb, nf) => (∀ j, j < n → nf j = f j) ∧ (∀ x, fits .byte (.int (nf x)) = true)) (fun (u : Nat × (Nat → Int32)) => match u with | (nb, nf) => [(h, .inr (5, [.ref nb, .int (nI k)])), (nb, .inl (cB, rnew k n, .inl nf))]) A)) (by decide) (Nat.le_of_ble_eq_true rfl) ?_
  intro p e s m args below meth c A ls hx hb hr hml hts hown hlocks hin hsz hP hG hD hA hS hl
  have hl : lv_has ls 2 [(0, .ref h), (1, .int (nI k))] := hl
  refine lv_iload_n hx hb d_R_resize_0 rfl (lv_at hl 1 rfl) ?_
  refine lv_aload_n hx hb d_R_resize_1 rfl (lv_at hl 0 rfl) ?_
  refine va_get (D := D) (ci := 5) (v := .ref b) (C := R_R) (T := F_R) (N := 2) hx hb hts in_R hown hG.1 hP 0 rfl rfl 0 (by decide) (hts _ k_56) (fun _ h9 => h9) rfl d_R_resize_2 ?_
  refine va_alen (v := nI n) hx hb hG.1 hP 1 2 rfl rfl rfl d_R_resize_5 ?_
  refine lv_icmp_le (tgt := 31) hx hb d_R_resize_6 (by decide) (fun c_1 => ?_) (fun c_1 => ?_)
  · have c_1 := (sb_leI (a := k) (b := n) rfl rfl (by omega) (by omega)).mp c_1
    refine lv_aload_n hx hb d_R_resize_31 rfl (lv_at hl 0 rfl) ?_
    refine lv_iload_n hx hb d_R_resize_32 rfl (lv_at hl 1 rfl) ?_
    refine va_put (D := D) (ci := 5) (v := .int (nI k)) (ty := .int) (C := R_R) (T := F_R) (N := 2) hx hb hts in_R tq_R tq_R_ok nq_R hown hG.1 hP hD hS 0 rfl rfl 1 (by decide) (hts _ k_57) (fun _ h9 => h9) rfl (by decide +kernel) rfl rfl (Nat.le_of_ble_eq_true rfl) d_R_resize_33 (fun H locs hP hD hS => ?_)
    have hP : va_P D vwCl [(h, .inr (5, [.ref b, .int (nI k)])), (b, .inl (cB, n, .inl f))] H := hP
    have hD : va_D A [(h, .inr (5, [.ref b, .int (nI k)])), (b, .inl (cB, n, .inl f))] := hD
    have hP9 := hP.sub (ws' := [(h, .inr (5, [.ref b, .int (nI k)])), (b, .inl (cB, n, .inl f))]) [0, 1] rfl
    have hD9 := hD.sub (ws' := [(h, .inr (5, [.ref b, .int (nI k)])), (b, .inl (cB, n, .inl f))]) [0, 1] (by decide) rfl
    refine W.widen (k := 1) (n := rsz k n) (by omega) (Nat.zero_le _) ?_
    have hz : rnew k n = n := if_pos c_1
    exact W.vret hx hb hr (fun t ht hW => ⟨⟨(b, f), rfl, ⟨fun _ _ => rfl, hf⟩, by rw [ht, hz]; exact hP9, (by rw [hz]; exact hD9)⟩, hS.F ht⟩) hS.2.2 d_R_resize_36
  · have c_1 := mt (sb_leI (a := k) (b := n) rfl rfl (by omega) (by omega)).mpr c_1
    refine lv_aload_n hx hb d_R_resize_9 rfl (lv_at hl 0 rfl) ?_
    refine lv_aload_n hx hb d_R_resize_10 rfl (lv_at hl 0 rfl) ?_
    refine va_get (D := D) (ci := 5) (v := .ref b) (C := R_R) (T := F_R) (N := 2) hx hb hts in_R hown hG.1 hP 0 rfl rfl 0 (by decide) (hts _ k_56) (fun _ h9 => h9) rfl d_R_resize_11 ?_
    refine lv_iload_n hx hb d_R_resize_14 rfl (lv_at hl 1 rfl) ?_
    refine lv_iconst (v := 2) hx hb d_R_resize_15 (by decide) ?_
    refine lv_aload_n hx hb d_R_resize_16 rfl (lv_at hl 0 rfl) ?_
    refine va_get (D := D) (ci := 5) (v := .ref b) (C := R_R) (T := F_R) (N := 2) hx hb hts in_R hown hG.1 hP 0 rfl rfl 0 (by decide) (hts _ k_56) (fun _ h9 => h9) rfl d_R_resize_17 ?_
    refine va_alen (v := nI n) hx hb hG.1 hP 1 2 rfl rfl rfl d_R_resize_20 ?_
    refine lv_imul hx hb d_R_resize_21 ?_
    refine sb_topn (2 * n) (sb_mul (a := 2) (b := n) rfl rfl) ?_
    refine va_mmax hx hb (hml.trans hl.1.symm) hown (hts _ k_256) (hts _ k_257) (hts _ k_35) (hts _ k_258) (Nat.le_of_ble_eq_true rfl) (Nat.le_of_ble_eq_true rfl) (Nat.le_of_ble_eq_true rfl) (Nat.le_of_ble_eq_true rfl) d_R_resize_22 ?_
    refine sb_topn (rnew k n) (sb_max (by omega) (by omega) (show ¬ k ≤ n from c_1)) ?_
    refine sb_callr (wr := [(h, .inr (5, [.ref b, .int (nI len)]))]) (va_runS (As := [.ref b, .int (nI (rnew k n))]) (rest := [.ref h]) ⟨hx, hb, hml, hown, hts⟩ (c_J_copyOf l D cI cL cB tS tF b n f (rnew k n) _ (by have := rnew_le k n; omega) (by have := rnew_cap k n (by omega) hn; omega) hf) (va_cwS 2 hts (sb_gS k_259 k_260 k_36 k_261) rfl rfl rfl (by decide +kernel) ⟨Nat.le_of_ble_eq_true rfl, Nat.le_of_ble_eq_true rfl⟩) (sb_pS hG hP hD hS hA [1] (by decide) rfl) rfl rfl hl.1 rfl (lv_room (Nat.le_of_ble_eq_true rfl)) d_R_resize_25 ⟨Nat.le_of_ble_eq_true rfl, by show 0 + rnew k n ≤ rsz k n; rw [rsz, if_neg c_1]; omega⟩) hP hD hS hA [1] [0] rfl rfl (by decide) (by decide) (fun u q_4 H locs hw_2 hP hD hS => ?_)
    have hP : va_P D vwCl [(h, .inr (5, [.ref b, .int (nI len)])), (b, .inl (cB, n, .inl f)), (q_4, .inl (cB, (rnew k n), .inl (rcp f n)))] H := hP
    have hD : va_D A [(h, .inr (5, [.ref b, .int (nI len)])), (b, .inl (cB, n, .inl f)), (q_4, .inl (cB, (rnew k n), .inl (rcp f n)))] := hD
    refine W.widen (k := 1) (n := 0 + (rnew k n)) (by omega) (by omega) ?_
    refine va_put (D := D) (ci := 5) (v := .ref q_4) (ty := (.array .byte)) (C := R_R) (T := F_R) (N := 2) hx hb hts in_R tq_R tq_R_ok nq_R hown hG.1 hP hD hS 0 rfl rfl 0 (by decide) (hts _ k_56) (fun _ h9 => h9) rfl (by decide +kernel) rfl rfl (Nat.le_of_ble_eq_true rfl) d_R_resize_28 (fun H locs hP hD hS => ?_)
    have hP : va_P D vwCl [(h, .inr (5, [.ref q_4, .int (nI len)])), (b, .inl (cB, n, .inl f)), (q_4, .inl (cB, (rnew k n), .inl (rcp f n)))] H := hP
    have hD : va_D A [(h, .inr (5, [.ref q_4, .int (nI len)])), (b, .inl (cB, n, .inl f)), (q_4, .inl (cB, (rnew k n), .inl (rcp f n)))] := hD
    refine lv_aload_n hx hb d_R_resize_31 rfl (lv_at hl 0 rfl) ?_
    refine lv_iload_n hx hb d_R_resize_32 rfl (lv_at hl 1 rfl) ?_
    refine va_put (D := D) (ci := 5) (v := .int (nI k)) (ty := .int) (C := R_R) (T := F_R) (N := 2) hx hb hts in_R tq_R tq_R_ok nq_R hown hG.1 hP hD hS 0 rfl rfl 1 (by decide) (hts _ k_57) (fun _ h9 => h9) rfl (by decide +kernel) rfl rfl (Nat.le_of_ble_eq_true rfl) d_R_resize_33 (fun H locs hP hD hS => ?_)
    have hP : va_P D vwCl [(h, .inr (5, [.ref q_4, .int (nI k)])), (b, .inl (cB, n, .inl f)), (q_4, .inl (cB, (rnew k n), .inl (rcp f n)))] H := hP
    have hD : va_D A [(h, .inr (5, [.ref q_4, .int (nI k)])), (b, .inl (cB, n, .inl f)), (q_4, .inl (cB, (rnew k n), .inl (rcp f n)))] := hD
    have hP9 := hP.sub (ws' := [(h, .inr (5, [.ref q_4, .int (nI k)])), (q_4, .inl (cB, (rnew k n), .inl (rcp f n)))]) [0, 2] rfl
    have hD9 := hD.sub (ws' := [(h, .inr (5, [.ref q_4, .int (nI k)])), (q_4, .inl (cB, (rnew k n), .inl (rcp f n)))]) [0, 2] (by decide) rfl
    refine W.widen (k := 1) (n := rsz k n) (by omega) (by rw [rsz, if_neg c_1]; omega) ?_
    exact W.vret hx hb hr (fun t ht hW => ⟨⟨(q_4, rcp f n), rfl, ⟨fun j hj => rcp_at f n j hj, rcp_fit hf n⟩, by rw [ht]; exact hP9, hD9⟩, hS.F ht⟩) hS.2.2 d_R_resize_36

theorem d_R_copyFrom_0 : decode b_R_copyFrom 0 = .ok (.aload_n 0, 1) := by decide +kernel
theorem d_R_copyFrom_1 : decode b_R_copyFrom 1 = .ok (.aload_n 1, 1) := by decide +kernel
theorem d_R_copyFrom_2 : decode b_R_copyFrom 2 = .ok (.getfield 13, 3) := by decide +kernel
theorem d_R_copyFrom_5 : decode b_R_copyFrom 5 = .ok (.invokevirtual 29, 3) := by decide +kernel
theorem d_R_copyFrom_8 : decode b_R_copyFrom 8 = .ok (.aload_n 1, 1) := by decide +kernel
theorem d_R_copyFrom_9 : decode b_R_copyFrom 9 = .ok (.getfield 9, 3) := by decide +kernel
theorem d_R_copyFrom_12 : decode b_R_copyFrom 12 = .ok (.iconst 0, 1) := by decide +kernel
theorem d_R_copyFrom_13 : decode b_R_copyFrom 13 = .ok (.aload_n 0, 1) := by decide +kernel
theorem d_R_copyFrom_14 : decode b_R_copyFrom 14 = .ok (.getfield 9, 3) := by decide +kernel
theorem d_R_copyFrom_17 : decode b_R_copyFrom 17 = .ok (.iconst 0, 1) := by decide +kernel
theorem d_R_copyFrom_18 : decode b_R_copyFrom 18 = .ok (.aload_n 1, 1) := by decide +kernel
theorem d_R_copyFrom_19 : decode b_R_copyFrom 19 = .ok (.getfield 13, 3) := by decide +kernel
theorem d_R_copyFrom_22 : decode b_R_copyFrom 22 = .ok (.invokestatic 33, 3) := by decide +kernel
theorem d_R_copyFrom_25 : decode b_R_copyFrom 25 = .ok (.return_, 1) := by decide +kernel

def rm_R_copyFrom (mc ms : Nat) : Room := { frames := 3, cells := mc, slots := ms, locals := 61 }
set_option maxHeartbeats 4000000 in
set_option maxRecDepth 100000 in
theorem c_R_copyFrom (l : Launch) (D : va_G) (cI cL cB : ClassId) (tS tF : Nat) (h : Nat) (b : Nat) (len : Nat) (n : Nat) (f : Nat → Int32) (h2 : Nat) (b2 : Nat) (k : Nat) (n2 : Nat) (f2 : Nat → Int32) (sz : Nat) (hf : ∀ x, fits .byte (.int (f x)) = true) (hf2 : ∀ x, fits .byte (.int (f2 x)) = true) (hn : n ≤ 50000) (hk : k ≤ 100000) (hk2 : k ≤ n2) (hn2 : n2 < 2 ^ 31) : Met l y_R_copyFrom (sbw y_R_copyFrom b_R_copyFrom 2 none) (rm_R_copyFrom 1 (rsz k n)) (sbPc D cI cL cB tS tF [.ref h, .ref h2] sz [(h, .inr (5, [.ref b, .int (nI len)])), (b, .inl (cB, n, .inl f)), (h2, .inr (5, [.ref b2, .int (nI k)])), (b2, .inl (cB, n2, .inl f2))]) (sbQv D (fun (u : Nat × (Nat → Int32)) => match u with | (nb, nf) => (∀ j, j < k → nf j = f2 j) ∧ (∀ x, fits .byte (.int (nf x)) = true)) (fun (u : Nat × (Nat → Int32)) => match u with | (nb, nf) => [(h, .inr (5, [.ref nb, .int (nI k)])), (nb, .inl (cB, rnew k n, .inl nf)), (h2, .inr (5, [.ref b2, .int (nI k)])), (b2, .inl (cB, n2, .inl f2))]) (va_A [(h, .inr (5, [.ref b, .int (nI len)])), (b, .inl (cB, n, .inl f)), (h2, .inr (5, [.ref b2, .int (nI k)])), (b2, .inl (cB, n2, .inl f2))] sz)) 1 (rsz k n) (va_A [(h, .inr (5, [.ref b, .int (nI len)])), (b, .inl (cB, n, .inl f)), (h2, .inr (5, [.ref b2, .int (nI k)])), (b2, .inl (cB, n2, .inl f2))] sz) := by
  refine sb_ofW (Qc := fun A => (sbQv D (fun (u : Nat × (Nat → Int32)) => match u with | (nb, nf) => (∀ j, j < k → nf j = f2 j) ∧ (∀ x, fits .byte (.int (nf x)) = true)) (fun (u : Nat × (Nat → Int32)) => match u with | (nb, nf) => [(h, .inr (5, [.ref nb, .int (nI k)])), (nb, .inl (cB, rnew k n, .inl nf)), (h2, .inr (5, [.ref b2, .int (nI k)])), (b2, .inl (cB, n2, .inl f2))]) A)) (by decide) (Nat.le_of_ble_eq_true rfl) ?_
  intro p e s m args below meth c A ls hx hb hr hml hts hown hlocks hin hsz hP hG hD hA hS hl
  have hl : lv_has ls 2 [(0, .ref h), (1, .ref h2)] := hl
  refine lv_aload_n hx hb d_R_copyFrom_0 rfl (lv_at hl 0 rfl) ?_
  refine lv_aload_n hx hb d_R_copyFrom_1 rfl (lv_at hl 1 rfl) ?_
  refine va_get (D := D) (ci := 5) (v := .int (nI k)) (C := R_R) (T := F_R) (N := 2) hx hb hts in_R hown hG.1 hP 2 rfl rfl 1 (by decide) (hts _ k_57) (fun _ h9 => h9) rfl d_R_copyFrom_2 ?_
  refine sb_callv (wr := [(h2, .inr (5, [.ref b2, .int (nI k)])), (b2, .inl (cB, n2, .inl f2))]) (va_runV (As := [.int (nI k)]) (rest := []) ⟨hx, hb, hml, hown, hts⟩ (c_R_resize l D cI cL cB tS tF h b len n f k _ hf hn hk) (cwV 1 hts (sb_gV k_252 k_253 k_254 k_23 k_255) rfl rfl rfl (by decide +kernel) ⟨Nat.le_of_ble_eq_true rfl, Nat.le_of_ble_eq_true rfl⟩) (sb_pV hG hP hD hS hA [0, 1] (by decide) rfl (ci := 5) (q0 := 0) rfl rfl) rfl rfl hl.1 rfl (lv_room (Nat.le_of_ble_eq_true rfl)) d_R_copyFrom_5 ⟨Nat.le_of_ble_eq_true rfl, Nat.le_of_eq (Nat.zero_add _)⟩) hP hD hS hA [0, 1] [2, 3] rfl rfl (by decide) (by decide) (fun u H locs hw_3 hP hD hS => ?_)
  obtain ⟨nb_1, nf_2⟩ := u
  try dsimp only at hw_3
  have hP : va_P D vwCl [(h2, .inr (5, [.ref b2, .int (nI k)])), (b2, .inl (cB, n2, .inl f2)), (h, .inr (5, [.ref nb_1, .int (nI k)])), (nb_1, .inl (cB, rnew k n, .inl nf_2))] H := hP
  have hD : va_D A [(h2, .inr (5, [.ref b2, .int (nI k)])), (b2, .inl (cB, n2, .inl f2)), (h, .inr (5, [.ref nb_1, .int (nI k)])), (nb_1, .inl (cB, rnew k n, .inl nf_2))] := hD
  refine W.widen (k := 1) (n := 0 + rsz k n) (by omega) (by omega) ?_
  have hge := rnew_le k n
  have hcap := rnew_cap k n (by omega) hn
  refine lv_aload_n hx hb d_R_copyFrom_8 rfl (lv_at hl 1 rfl) ?_
  refine va_get (D := D) (ci := 5) (v := .ref b2) (C := R_R) (T := F_R) (N := 2) hx hb hts in_R hown hG.1 hP 0 rfl rfl 0 (by decide) (hts _ k_56) (fun _ h9 => h9) rfl d_R_copyFrom_9 ?_
  refine lv_iconst (v := 0) hx hb d_R_copyFrom_12 (by decide) ?_
  refine lv_aload_n hx hb d_R_copyFrom_13 rfl (lv_at hl 0 rfl) ?_
  refine va_get (D := D) (ci := 5) (v := .ref nb_1) (C := R_R) (T := F_R) (N := 2) hx hb hts in_R hown hG.1 hP 2 rfl rfl 0 (by decide) (hts _ k_56) (fun _ h9 => h9) rfl d_R_copyFrom_14 ?_
  refine lv_iconst (v := 0) hx hb d_R_copyFrom_17 (by decide) ?_
  refine lv_aload_n hx hb d_R_copyFrom_18 rfl (lv_at hl 1 rfl) ?_
  refine va_get (D := D) (ci := 5) (v := .int (nI k)) (C := R_R) (T := F_R) (N := 2) hx hb hts in_R hown hG.1 hP 0 rfl rfl 1 (by decide) (hts _ k_57) (fun _ h9 => h9) rfl d_R_copyFrom_19 ?_
  refine sb_copyb hx hb (hml.trans hl.1.symm) hown (hts _ k_275) (hts _ k_274) (hts _ k_273) (hts _ k_37) hG.1 hP hD hS 1 3 hf2 rfl rfl 0 0 k rfl rfl rfl (by omega) (by omega) (by omega) (by omega) (Nat.le_of_ble_eq_true rfl) (Nat.le_of_ble_eq_true rfl) d_R_copyFrom_22 (fun f_4 H locs ef_4 hP hD hS => ?_)
  have hP : va_P D vwCl [(h2, .inr (5, [.ref b2, .int (nI k)])), (b2, .inl (cB, n2, .inl f2)), (h, .inr (5, [.ref nb_1, .int (nI k)])), (nb_1, .inl (cB, rnew k n, .inl f_4))] H := hP
  have hD : va_D A [(h2, .inr (5, [.ref b2, .int (nI k)])), (b2, .inl (cB, n2, .inl f2)), (h, .inr (5, [.ref nb_1, .int (nI k)])), (nb_1, .inl (cB, rnew k n, .inl f_4))] := hD
  have hP9 := hP.sub (ws' := [(h, .inr (5, [.ref nb_1, .int (nI k)])), (nb_1, .inl (cB, rnew k n, .inl f_4)), (h2, .inr (5, [.ref b2, .int (nI k)])), (b2, .inl (cB, n2, .inl f2))]) [2, 3, 0, 1] rfl
  have hD9 := hD.sub (ws' := [(h, .inr (5, [.ref nb_1, .int (nI k)])), (nb_1, .inl (cB, rnew k n, .inl f_4)), (h2, .inr (5, [.ref b2, .int (nI k)])), (b2, .inl (cB, n2, .inl f2))]) [2, 3, 0, 1] (by decide) rfl
  refine W.widen (k := 1) (n := rsz k n) (by omega) (by omega) ?_
  exact W.vret hx hb hr (fun t ht hW => ⟨⟨(nb_1, f_4), rfl, ⟨fun j hj => by rw [ef_4]; unfold va_cpy; simp [hj], by rw [ef_4]; exact cpy_fit hf2 hw_3.2 0 0 k⟩, by rw [ht]; exact hP9, hD9⟩, hS.F ht⟩) hS.2.2 d_R_copyFrom_25

theorem d_R_init_0 : decode b_R_init 0 = .ok (.aload_n 0, 1) := by decide +kernel
theorem d_R_init_1 : decode b_R_init 1 = .ok (.invokespecial 1, 3) := by decide +kernel
theorem d_R_init_4 : decode b_R_init 4 = .ok (.aload_n 0, 1) := by decide +kernel
theorem d_R_init_5 : decode b_R_init 5 = .ok (.bipush 64, 2) := by decide +kernel
theorem d_R_init_7 : decode b_R_init 7 = .ok (.newarray .byte, 2) := by decide +kernel
theorem d_R_init_9 : decode b_R_init 9 = .ok (.putfield 9, 3) := by decide +kernel
theorem d_R_init_12 : decode b_R_init 12 = .ok (.aload_n 0, 1) := by decide +kernel
theorem d_R_init_13 : decode b_R_init 13 = .ok (.iconst 0, 1) := by decide +kernel
theorem d_R_init_14 : decode b_R_init 14 = .ok (.putfield 13, 3) := by decide +kernel
theorem d_R_init_17 : decode b_R_init 17 = .ok (.return_, 1) := by decide +kernel

def rm_R_init : Room := { frames := 1, cells := 1, slots := 64, locals := 12 }
set_option maxHeartbeats 4000000 in
set_option maxRecDepth 100000 in
theorem c_R_init (l : Launch) (D : va_G) (cI cL cB : ClassId) (tS tF : Nat) (h : Nat) (sz : Nat)  : Met l y_R_init (sbw y_R_init b_R_init 1 none) rm_R_init (sbPc D cI cL cB tS tF [.ref h] sz [(h, .inr (5, [.null, .int 0]))]) (sbQv D (fun (u : Nat) => match u with | nb => True) (fun (u : Nat) => match u with | nb => [(h, .inr (5, [.ref nb, .int (nI 0)])), (nb, .inl (cB, 64, .inl (fun _ => 0)))]) (va_A [(h, .inr (5, [.null, .int 0]))] sz)) 1 64 (va_A [(h, .inr (5, [.null, .int 0]))] sz) := by
  refine sb_ofW (Qc := fun A => (sbQv D (fun (u : Nat) => match u with | nb => True) (fun (u : Nat) => match u with | nb => [(h, .inr (5, [.ref nb, .int (nI 0)])), (nb, .inl (cB, 64, .inl (fun _ => 0)))]) A)) (by decide) (Nat.le_of_ble_eq_true rfl) ?_
  intro p e s m args below meth c A ls hx hb hr hml hts hown hlocks hin hsz hP hG hD hA hS hl
  have hl : lv_has ls 1 [(0, .ref h)] := hl
  refine lv_aload_n hx hb d_R_init_0 rfl (lv_at hl 0 rfl) ?_
  refine W.objInit hx hb hown (hts _ k_55) (hts _ k_48) (hts _ k_49) rfl (by rw [hml]; exact hl.1) rfl d_R_init_1 (Nat.le_of_ble_eq_true rfl) (Nat.le_of_ble_eq_true rfl) ?_
  refine W.eq (g2 := F0 m 4 ls []) rfl ?_
  refine lv_aload_n hx hb d_R_init_4 rfl (lv_at hl 0 rfl) ?_
  refine lv_bipush (v := 64) hx hb d_R_init_5 (by decide) ?_
  refine sb_newb hx hb (hts _ k_67) hG.1 hP hD hS hA (N := 64) rfl (by omega) (Nat.le_of_ble_eq_true rfl) (Nat.le_of_ble_eq_true rfl) d_R_init_7 (fun q_1 H hP hD hS => ?_)
  have hP : va_P D vwCl [(h, .inr (5, [.null, .int 0])), (q_1, .inl (cB, 64, .inl (fun _ => 0)))] H := hP
  have hD : va_D A [(h, .inr (5, [.null, .int 0])), (q_1, .inl (cB, 64, .inl (fun _ => 0)))] := hD
  refine W.widen (k := 1) (n := 64) (Nat.le_of_ble_eq_true rfl) (Nat.le_of_ble_eq_true rfl) ?_
  refine va_put (D := D) (ci := 5) (v := .ref q_1) (ty := (.array .byte)) (C := R_R) (T := F_R) (N := 2) hx hb hts in_R tq_R tq_R_ok nq_R hown hG.1 hP hD hS 0 rfl rfl 0 (by decide) (hts _ k_56) (fun _ h9 => h9) rfl (by decide +kernel) rfl rfl (Nat.le_of_ble_eq_true rfl) d_R_init_9 (fun H locs hP hD hS => ?_)
  have hP : va_P D vwCl [(h, .inr (5, [.ref q_1, .int 0])), (q_1, .inl (cB, 64, .inl (fun _ => 0)))] H := hP
  have hD : va_D A [(h, .inr (5, [.ref q_1, .int 0])), (q_1, .inl (cB, 64, .inl (fun _ => 0)))] := hD
  refine lv_aload_n hx hb d_R_init_12 rfl (lv_at hl 0 rfl) ?_
  refine lv_iconst (v := 0) hx hb d_R_init_13 (by decide) ?_
  refine va_put (D := D) (ci := 5) (v := .int 0) (ty := .int) (C := R_R) (T := F_R) (N := 2) hx hb hts in_R tq_R tq_R_ok nq_R hown hG.1 hP hD hS 0 rfl rfl 1 (by decide) (hts _ k_57) (fun _ h9 => h9) rfl (by decide +kernel) rfl rfl (Nat.le_of_ble_eq_true rfl) d_R_init_14 (fun H locs hP hD hS => ?_)
  have hP : va_P D vwCl [(h, .inr (5, [.ref q_1, .int 0])), (q_1, .inl (cB, 64, .inl (fun _ => 0)))] H := hP
  have hD : va_D A [(h, .inr (5, [.ref q_1, .int 0])), (q_1, .inl (cB, 64, .inl (fun _ => 0)))] := hD
  have hP9 := hP.sub (ws' := [(h, .inr (5, [.ref q_1, .int 0])), (q_1, .inl (cB, 64, .inl (fun _ => 0)))]) [0, 1] rfl
  have hD9 := hD.sub (ws' := [(h, .inr (5, [.ref q_1, .int 0])), (q_1, .inl (cB, 64, .inl (fun _ => 0)))]) [0, 1] (by decide) rfl
  refine W.widen (k := 1) (n := 64) (Nat.le_of_ble_eq_true rfl) (Nat.le_of_ble_eq_true rfl) ?_
  exact W.vret hx hb hr (fun t ht hW => ⟨⟨q_1, rfl, trivial, by rw [ht]; exact hP9, hD9⟩, hS.F ht⟩) hS.2.2 d_R_init_17

theorem d_A_init_0 : decode b_A_init 0 = .ok (.aload_n 0, 1) := by decide +kernel
theorem d_A_init_1 : decode b_A_init 1 = .ok (.invokespecial 1, 3) := by decide +kernel
theorem d_A_init_4 : decode b_A_init 4 = .ok (.aload_n 0, 1) := by decide +kernel
theorem d_A_init_5 : decode b_A_init 5 = .ok (.bipush 60, 2) := by decide +kernel
theorem d_A_init_7 : decode b_A_init 7 = .ok (.newarray .int, 2) := by decide +kernel
theorem d_A_init_9 : decode b_A_init 9 = .ok (.putfield 7, 3) := by decide +kernel
theorem d_A_init_12 : decode b_A_init 12 = .ok (.aload_n 0, 1) := by decide +kernel
theorem d_A_init_13 : decode b_A_init 13 = .ok (.iconst 0, 1) := by decide +kernel
theorem d_A_init_14 : decode b_A_init 14 = .ok (.putfield 13, 3) := by decide +kernel
theorem d_A_init_17 : decode b_A_init 17 = .ok (.return_, 1) := by decide +kernel

def rm_A_init : Room := { frames := 1, cells := 1, slots := 60, locals := 12 }
set_option maxHeartbeats 4000000 in
set_option maxRecDepth 100000 in
theorem c_A_init (l : Launch) (D : va_G) (cI cL cB : ClassId) (tS tF : Nat) (h : Nat) (sz : Nat)  : Met l y_A_init (sbw y_A_init b_A_init 1 none) rm_A_init (sbPc D cI cL cB tS tF [.ref h] sz [(h, .inr (0, [.null, .int 0]))]) (sbQv D (fun (u : Nat) => match u with | nb => True) (fun (u : Nat) => match u with | nb => [(h, .inr (0, [.ref nb, .int 0])), (nb, .inl (cI, 60, .inl (fun _ => 0)))]) (va_A [(h, .inr (0, [.null, .int 0]))] sz)) 1 60 (va_A [(h, .inr (0, [.null, .int 0]))] sz) := by
  refine sb_ofW (Qc := fun A => (sbQv D (fun (u : Nat) => match u with | nb => True) (fun (u : Nat) => match u with | nb => [(h, .inr (0, [.ref nb, .int 0])), (nb, .inl (cI, 60, .inl (fun _ => 0)))]) A)) (by decide) (Nat.le_of_ble_eq_true rfl) ?_
  intro p e s m args below meth c A ls hx hb hr hml hts hown hlocks hin hsz hP hG hD hA hS hl
  have hl : lv_has ls 1 [(0, .ref h)] := hl
  refine lv_aload_n hx hb d_A_init_0 rfl (lv_at hl 0 rfl) ?_
  refine W.objInit hx hb hown (hts _ k_82) (hts _ k_48) (hts _ k_49) rfl (by rw [hml]; exact hl.1) rfl d_A_init_1 (Nat.le_of_ble_eq_true rfl) (Nat.le_of_ble_eq_true rfl) ?_
  refine W.eq (g2 := F0 m 4 ls []) rfl ?_
  refine lv_aload_n hx hb d_A_init_4 rfl (lv_at hl 0 rfl) ?_
  refine lv_bipush (v := 60) hx hb d_A_init_5 (by decide) ?_
  refine sb_newi hx hb (hts _ k_90) hG.1 hP hD hS hA (N := 60) rfl (by omega) (Nat.le_of_ble_eq_true rfl) (Nat.le_of_ble_eq_true rfl) d_A_init_7 (fun q_1 H hP hD hS => ?_)
  have hP : va_P D vwCl [(h, .inr (0, [.null, .int 0])), (q_1, .inl (cI, 60, .inl (fun _ => 0)))] H := hP
  have hD : va_D A [(h, .inr (0, [.null, .int 0])), (q_1, .inl (cI, 60, .inl (fun _ => 0)))] := hD
  refine W.widen (k := 1) (n := 60) (Nat.le_of_ble_eq_true rfl) (Nat.le_of_ble_eq_true rfl) ?_
  refine va_putF (D := D) (ci := 0) (v := .ref q_1) (ty := (.array .int)) (C := R_A) (T := F_A) (N := 2) hx hb hts in_A tq_A tq_A_ok nq_A hown hG.1 hP hD hS 0 rfl rfl 0 (by decide) (hts _ k_83) (fun _ h9 => h9) rfl hin rfl (by decide +kernel) rfl rfl (Nat.le_of_ble_eq_true rfl) d_A_init_9 (fun H locs hP hD hS => ?_)
  have hP : va_P D vwCl [(h, .inr (0, [.ref q_1, .int 0])), (q_1, .inl (cI, 60, .inl (fun _ => 0)))] H := hP
  have hD : va_D A [(h, .inr (0, [.ref q_1, .int 0])), (q_1, .inl (cI, 60, .inl (fun _ => 0)))] := hD
  refine lv_aload_n hx hb d_A_init_12 rfl (lv_at hl 0 rfl) ?_
  refine lv_iconst (v := 0) hx hb d_A_init_13 (by decide) ?_
  refine va_put (D := D) (ci := 0) (v := .int 0) (ty := .int) (C := R_A) (T := F_A) (N := 2) hx hb hts in_A tq_A tq_A_ok nq_A hown hG.1 hP hD hS 0 rfl rfl 1 (by decide) (hts _ k_84) (fun _ h9 => h9) rfl (by decide +kernel) rfl rfl (Nat.le_of_ble_eq_true rfl) d_A_init_14 (fun H locs hP hD hS => ?_)
  have hP : va_P D vwCl [(h, .inr (0, [.ref q_1, .int 0])), (q_1, .inl (cI, 60, .inl (fun _ => 0)))] H := hP
  have hD : va_D A [(h, .inr (0, [.ref q_1, .int 0])), (q_1, .inl (cI, 60, .inl (fun _ => 0)))] := hD
  have hP9 := hP.sub (ws' := [(h, .inr (0, [.ref q_1, .int 0])), (q_1, .inl (cI, 60, .inl (fun _ => 0)))]) [0, 1] rfl
  have hD9 := hD.sub (ws' := [(h, .inr (0, [.ref q_1, .int 0])), (q_1, .inl (cI, 60, .inl (fun _ => 0)))]) [0, 1] (by decide) rfl
  refine W.widen (k := 1) (n := 60) (Nat.le_of_ble_eq_true rfl) (Nat.le_of_ble_eq_true rfl) ?_
  exact W.vret hx hb hr (fun t ht hW => ⟨⟨q_1, rfl, trivial, by rw [ht]; exact hP9, hD9⟩, hS.F ht⟩) hS.2.2 d_A_init_17
