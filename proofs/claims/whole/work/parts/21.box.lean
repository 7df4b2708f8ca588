theorem sb_sw8 (x : Int32) : x = 0 ∨ x = 1 ∨ x = 2 ∨ x = 3 ∨ x = 4 ∨ x = 5 ∨ x = 6 ∨ x = 7 ∨ (x.toInt < 0 ∨ 7 < x.toInt) := by
  have e : ∀ k : Int32, x.toInt = k.toInt → x = k := fun k h => Int32.toInt_inj.mp h
  rcases (show x.toInt = (0 : Int32).toInt ∨ x.toInt = (1 : Int32).toInt ∨ x.toInt = (2 : Int32).toInt ∨ x.toInt = (3 : Int32).toInt ∨ x.toInt = (4 : Int32).toInt ∨ x.toInt = (5 : Int32).toInt ∨ x.toInt = (6 : Int32).toInt ∨ x.toInt = (7 : Int32).toInt ∨ (x.toInt < 0 ∨ 7 < x.toInt) by
    have a0 : (0 : Int32).toInt = 0 := by decide
    have a1 : (1 : Int32).toInt = 1 := by decide
    have a2 : (2 : Int32).toInt = 2 := by decide
    have a3 : (3 : Int32).toInt = 3 := by decide
    have a4 : (4 : Int32).toInt = 4 := by decide
    have a5 : (5 : Int32).toInt = 5 := by decide
    have a6 : (6 : Int32).toInt = 6 := by decide
    have a7 : (7 : Int32).toInt = 7 := by decide
    omega) with h | h | h | h | h | h | h | h | h
  · exact Or.inl (e 0 h)
  · exact Or.inr (Or.inl (e 1 h))
  · exact Or.inr (Or.inr (Or.inl (e 2 h)))
  · exact Or.inr (Or.inr (Or.inr (Or.inl (e 3 h))))
  · exact Or.inr (Or.inr (Or.inr (Or.inr (Or.inl (e 4 h)))))
  · exact Or.inr (Or.inr (Or.inr (Or.inr (Or.inr (Or.inl (e 5 h))))))
  · exact Or.inr (Or.inr (Or.inr (Or.inr (Or.inr (Or.inr (Or.inl (e 6 h)))))))
  · exact Or.inr (Or.inr (Or.inr (Or.inr (Or.inr (Or.inr (Or.inr (Or.inl (e 7 h))))))))
  · exact Or.inr (Or.inr (Or.inr (Or.inr (Or.inr (Or.inr (Or.inr (Or.inr h)))))))
def xcnt (what a0 a1 a2 a3 a4 a5 a6 a7 : Int32) : Int32 := if what = 0 then a0 else if what = 1 then a1 else if what = 2 then a2 else if what = 3 then a3 else if what = 4 then a4 else if what = 5 then a5 else if what = 6 then a6 else if what = 7 then a7 else -1
theorem xcnt_out {what a0 a1 a2 a3 a4 a5 a6 a7 : Int32} (h : what.toInt < 0 ∨ 7 < what.toInt) : (-1 : Int32) = xcnt what a0 a1 a2 a3 a4 a5 a6 a7 := by
  have n : ∀ k : Int32, ¬ (k.toInt < 0 ∨ 7 < k.toInt) → ¬ what = k := fun k hk e => hk (e ▸ h)
  unfold xcnt
  rw [if_neg (n 0 (by decide)), if_neg (n 1 (by decide)), if_neg (n 2 (by decide)), if_neg (n 3 (by decide)), if_neg (n 4 (by decide)), if_neg (n 5 (by decide)), if_neg (n 6 (by decide)), if_neg (n 7 (by decide))]
theorem sb_m1lt {n : Nat} (h : n < 2 ^ 31) : (-1 : Int32) < nI n := by
  rw [Int32.lt_iff_toInt_lt, nI_toInt h, show (-1 : Int32).toInt = -1 by decide]; omega
theorem sb_ltm1 {n : Nat} (h : n < 2 ^ 31) : ¬ nI n < (-1 : Int32) := by
  rw [Int32.lt_iff_toInt_lt, nI_toInt h, show (-1 : Int32).toInt = -1 by decide]; omega
def feed5 (f : Nat → Int32) (k len : Nat) (a b c d e : Int32) : Nat → Int32 := rsetw (rsetw (rsetw (rsetw (rsetw f k (nI len) a) k (nI (len + 4)) b) k (nI (len + 8)) c) k (nI (len + 12)) d) k (nI (len + 16)) e

theorem d_X_number_0 : decode b_X_number 0 = .ok (.aload_n 0, 1) := by decide +kernel
theorem d_X_number_1 : decode b_X_number 1 = .ok (.lload_n 1, 1) := by decide +kernel
theorem d_X_number_2 : decode b_X_number 2 = .ok (.putfield 48, 3) := by decide +kernel
theorem d_X_number_5 : decode b_X_number 5 = .ok (.return_, 1) := by decide +kernel

def rm_X_numberN : Room := { frames := 0, cells := 0, slots := 0, locals := 0 }
set_option maxHeartbeats 4000000 in
set_option maxRecDepth 100000 in
theorem c_X_numberN (l : Launch) (D : va_G) (cI cL cB : ClassId) (tS tF : Nat) (x : Nat) (t1 : Nat) (t2 : Nat) (t3 : Nat) (qi : Nat) (hg : Nat) (hh : Nat) (cu : Int32) (num : Int64) (se : Int32) (op : Int32) (fa : Int32) (v : Int64) (sz : Nat)  : Met l y_X_number (sbw y_X_number b_X_number 3 none) rm_X_numberN (sbPc D cI cL cB tS tF [.ref x, .long v] sz [(x, .inr (6, [.ref t1, .ref t2, .ref t3, .ref qi, .ref hg, .ref hh, .null, .int cu, .long num, .int se, .int op, .int fa]))]) (sbQv D (fun (_ : Unit) => True) (fun (_ : Unit) => [(x, .inr (6, [.ref t1, .ref t2, .ref t3, .ref qi, .ref hg, .ref hh, .null, .int cu, .long v, .int se, .int op, .int fa]))]) (va_A [(x, .inr (6, [.ref t1, .ref t2, .ref t3, .ref qi, .ref hg, .ref hh, .null, .int cu, .long num, .int se, .int op, .int fa]))] sz)) 0 0 (va_A [(x, .inr (6, [.ref t1, .ref t2, .ref t3, .ref qi, .ref hg, .ref hh, .null, .int cu, .long num, .int se, .int op, .int fa]))] sz) := by
  refine sb_ofW (Qc := fun A => (sbQv D (fun (_ : Unit) => True) (fun (_ : Unit) => [(x, .inr (6, [.ref t1, .ref t2, .ref t3, .ref qi, .ref hg, .ref hh, .null, .int cu, .long v, .int se, .int op, .int fa]))]) A)) (by decide) (Nat.le_of_ble_eq_true rfl) ?_
  intro p e s m args below meth c A ls hx hb hr hml hts hown hlocks hin hsz hP hG hD hA hS hl
  have hl : lv_has ls 3 [(0, .ref x), (1, .long v)] := hl
  refine lv_aload_n hx hb d_X_number_0 rfl (lv_at hl 0 rfl) ?_
  refine lv_lload_n hx hb d_X_number_1 rfl (lv_at hl 1 rfl) ?_
  refine va_put (D := D) (ci := 6) (v := .long v) (ty := .long) (C := R_X) (T := F_X) (N := 12) hx hb hts in_X tq_X tq_X_ok nq_X hown hG.1 hP hD hS 0 rfl rfl 8 (by decide) (hts _ k_211) (fun _ h9 => h9) rfl (by decide +kernel) rfl rfl (Nat.le_of_ble_eq_true rfl) d_X_number_2 (fun H locs hP hD hS => ?_)
  have hP : va_P D vwCl [(x, .inr (6, [.ref t1, .ref t2, .ref t3, .ref qi, .ref hg, .ref hh, .null, .int cu, .long v, .int se, .int op, .int fa]))] H := hP
  have hD : va_D A [(x, .inr (6, [.ref t1, .ref t2, .ref t3, .ref qi, .ref hg, .ref hh, .null, .int cu, .long v, .int se, .int op, .int fa]))] := hD
  have hP9 := hP.sub (ws' := [(x, .inr (6, [.ref t1, .ref t2, .ref t3, .ref qi, .ref hg, .ref hh, .null, .int cu, .long v, .int se, .int op, .int fa]))]) [0] rfl
  have hD9 := hD.sub (ws' := [(x, .inr (6, [.ref t1, .ref t2, .ref t3, .ref qi, .ref hg, .ref hh, .null, .int cu, .long v, .int se, .int op, .int fa]))]) [0] (by decide) rfl
  exact W.vret hx hb hr (fun t ht hW => ⟨⟨(), rfl, trivial, by rw [ht]; exact hP9, hD9⟩, hS.F ht⟩) hS.2.2 d_X_number_5

theorem d_X_numbered_0 : decode b_X_numbered 0 = .ok (.aload_n 0, 1) := by decide +kernel
theorem d_X_numbered_1 : decode b_X_numbered 1 = .ok (.getfield 48, 3) := by decide +kernel
theorem d_X_numbered_4 : decode b_X_numbered 4 = .ok (.lreturn, 1) := by decide +kernel

def rm_X_numberedN : Room := { frames := 0, cells := 0, slots := 0, locals := 0 }
set_option maxHeartbeats 4000000 in
set_option maxRecDepth 100000 in
theorem c_X_numberedN (l : Launch) (D : va_G) (cI cL cB : ClassId) (tS tF : Nat) (x : Nat) (t1 : Nat) (t2 : Nat) (t3 : Nat) (qi : Nat) (hg : Nat) (hh : Nat) (cu : Int32) (num : Int64) (se : Int32) (op : Int32) (fa : Int32)  : Met l y_X_numbered (sbw y_X_numbered b_X_numbered 1 (some .long)) rm_X_numberedN (sbPr D cI cL cB tS tF [.ref x] [(x, .inr (6, [.ref t1, .ref t2, .ref t3, .ref qi, .ref hg, .ref hh, .null, .int cu, .long num, .int se, .int op, .int fa]))]) (vp_Sl (fun r => r = num)) 0 0 (fun _ => False) := by
  refine sb_ofR (by decide) (Nat.le_of_ble_eq_true rfl) ?_
  intro p e s m args below meth c ls hx hb hr hml hts hown hlocks hP hG hS hl
  have hl : lv_has ls 1 [(0, .ref x)] := hl
  refine lv_aload_n hx hb d_X_numbered_0 rfl (lv_at hl 0 rfl) ?_
  refine va_get (D := D) (ci := 6) (v := .long num) (C := R_X) (T := F_X) (N := 12) hx hb hts in_X hown hG.1 hP 0 rfl rfl 8 (by decide) (hts _ k_211) (fun _ h9 => h9) rfl d_X_numbered_1 ?_
  exact W.lret (v := num) hx hb hr (fun t ht hW => ⟨_, rfl, (by subst_vars; rfl), ht⟩) hS.2.2 d_X_numbered_4

theorem d_X_count_0 : decode b_X_count 0 = .ok (.iload_n 1, 1) := by decide +kernel
theorem d_X_count_1 : decode b_X_count 1 = .ok (.tableswitch 107 0 7 #[47, 55, 63, 71, 76, 92, 97, 102], 47) := by decide +kernel
theorem d_X_count_48 : decode b_X_count 48 = .ok (.aload_n 0, 1) := by decide +kernel
theorem d_X_count_49 : decode b_X_count 49 = .ok (.getfield 12, 3) := by decide +kernel
theorem d_X_count_52 : decode b_X_count 52 = .ok (.getfield 61, 3) := by decide +kernel
theorem d_X_count_55 : decode b_X_count 55 = .ok (.ireturn, 1) := by decide +kernel
theorem d_X_count_56 : decode b_X_count 56 = .ok (.aload_n 0, 1) := by decide +kernel
theorem d_X_count_57 : decode b_X_count 57 = .ok (.getfield 19, 3) := by decide +kernel
theorem d_X_count_60 : decode b_X_count 60 = .ok (.getfield 61, 3) := by decide +kernel
theorem d_X_count_63 : decode b_X_count 63 = .ok (.ireturn, 1) := by decide +kernel
theorem d_X_count_64 : decode b_X_count 64 = .ok (.aload_n 0, 1) := by decide +kernel
theorem d_X_count_65 : decode b_X_count 65 = .ok (.getfield 16, 3) := by decide +kernel
theorem d_X_count_68 : decode b_X_count 68 = .ok (.getfield 61, 3) := by decide +kernel
theorem d_X_count_71 : decode b_X_count 71 = .ok (.ireturn, 1) := by decide +kernel
theorem d_X_count_72 : decode b_X_count 72 = .ok (.aload_n 0, 1) := by decide +kernel
theorem d_X_count_73 : decode b_X_count 73 = .ok (.getfield 44, 3) := by decide +kernel
theorem d_X_count_76 : decode b_X_count 76 = .ok (.ireturn, 1) := by decide +kernel
theorem d_X_count_77 : decode b_X_count 77 = .ok (.aload_n 0, 1) := by decide +kernel
theorem d_X_count_78 : decode b_X_count 78 = .ok (.getfield 29, 3) := by decide +kernel
theorem d_X_count_81 : decode b_X_count 81 = .ok (.getfield 148, 3) := by decide +kernel
theorem d_X_count_84 : decode b_X_count 84 = .ok (.aload_n 0, 1) := by decide +kernel
theorem d_X_count_85 : decode b_X_count 85 = .ok (.getfield 36, 3) := by decide +kernel
theorem d_X_count_88 : decode b_X_count 88 = .ok (.getfield 151, 3) := by decide +kernel
theorem d_X_count_91 : decode b_X_count 91 = .ok (.iadd, 1) := by decide +kernel
theorem d_X_count_92 : decode b_X_count 92 = .ok (.ireturn, 1) := by decide +kernel
theorem d_X_count_93 : decode b_X_count 93 = .ok (.aload_n 0, 1) := by decide +kernel
theorem d_X_count_94 : decode b_X_count 94 = .ok (.getfield 52, 3) := by decide +kernel
theorem d_X_count_97 : decode b_X_count 97 = .ok (.ireturn, 1) := by decide +kernel
theorem d_X_count_98 : decode b_X_count 98 = .ok (.aload_n 0, 1) := by decide +kernel
theorem d_X_count_99 : decode b_X_count 99 = .ok (.getfield 55, 3) := by decide +kernel
theorem d_X_count_102 : decode b_X_count 102 = .ok (.ireturn, 1) := by decide +kernel
theorem d_X_count_103 : decode b_X_count 103 = .ok (.aload_n 0, 1) := by decide +kernel
theorem d_X_count_104 : decode b_X_count 104 = .ok (.getfield 58, 3) := by decide +kernel
theorem d_X_count_107 : decode b_X_count 107 = .ok (.ireturn, 1) := by decide +kernel
theorem d_X_count_108 : decode b_X_count 108 = .ok (.iconst (-1), 1) := by decide +kernel
theorem d_X_count_109 : decode b_X_count 109 = .ok (.ireturn, 1) := by decide +kernel

def rm_X_countN : Room := { frames := 0, cells := 0, slots := 0, locals := 0 }
set_option maxHeartbeats 4000000 in
set_option maxRecDepth 100000 in
theorem c_X_countN (l : Launch) (D : va_G) (cI cL cB : ClassId) (tS tF : Nat) (x : Nat) (t1 : Nat) (t2 : Nat) (t3 : Nat) (qi : Nat) (hg : Nat) (hh : Nat) (cu : Int32) (num : Int64) (se : Int32) (op : Int32) (fa : Int32) (gq0 : Nat) (gq1 : Nat) (gq2 : Nat) (ga : Nat) (gh : Nat) (gm : Nat) (gtu : Int32) (hq0 : Nat) (hq1 : Nat) (hq2 : Nat) (hq3 : Nat) (hq4 : Nat) (hq5 : Nat) (htu : Int32) (v1 : Nat) (len1 : Nat) (v2 : Nat) (len2 : Nat) (v3 : Nat) (len3 : Nat) (what : Int32)  : Met l y_X_count (sbw y_X_count b_X_count 2 (some .int)) rm_X_countN (sbPr D cI cL cB tS tF [.ref x, .int what] [(x, .inr (6, [.ref t1, .ref t2, .ref t3, .ref qi, .ref hg, .ref hh, .null, .int cu, .long num, .int se, .int op, .int fa])), (t1, .inr (5, [.ref v1, .int (nI len1)])), (t2, .inr (5, [.ref v2, .int (nI len2)])), (t3, .inr (5, [.ref v3, .int (nI len3)])), (hg, .inr (1, [.ref gq0, .ref gq1, .ref gq2, .int 1, .int gtu, .ref ga, .ref gh, .ref gm])), (hh, .inr (2, [.ref hq0, .ref hq1, .ref hq2, .int 0, .int htu, .ref hq3, .ref hq4, .ref hq5]))]) (vp_Si (fun r => r = xcnt what (nI len1) (nI len3) (nI len2) cu (gtu + htu) se op fa)) 0 0 (fun _ => False) := by
  refine sb_ofR (by decide) (Nat.le_of_ble_eq_true rfl) ?_
  intro p e s m args below meth c ls hx hb hr hml hts hown hlocks hP hG hS hl
  have hl : lv_has ls 2 [(0, .ref x), (1, .int what)] := hl
  refine lv_iload_n hx hb d_X_count_0 rfl (lv_at hl 1 rfl) ?_
  rcases sb_sw8 what with rfl | rfl | rfl | rfl | rfl | rfl | rfl | rfl | hsw
  · refine lv_tableIn (tgt := 48) (off := 47) hx hb d_X_count_1 (by decide) (by decide) rfl (by decide) ?_
    refine lv_aload_n hx hb d_X_count_48 rfl (lv_at hl 0 rfl) ?_
    refine va_get (D := D) (ci := 6) (v := .ref t1) (C := R_X) (T := F_X) (N := 12) hx hb hts in_X hown hG.1 hP 0 rfl rfl 0 (by decide) (hts _ k_203) (fun _ h9 => h9) rfl d_X_count_49 ?_
    refine va_getN (D := D) (ci := 5) (v := .int (nI len1)) (C := R_R) (T := F_R) (N := 2) hx hb hts in_R hown hG.1 hP 1 rfl rfl 1 (by decide) (hG.nest _ n_59) (fun _ h9 => h9) rfl d_X_count_52 ?_
    exact W.iret (v := nI len1) hx hb hr (fun t ht hW => ⟨_, rfl, rfl, ht⟩) hS.2.2 d_X_count_55
  · refine lv_tableIn (tgt := 56) (off := 55) hx hb d_X_count_1 (by decide) (by decide) rfl (by decide) ?_
    refine lv_aload_n hx hb d_X_count_56 rfl (lv_at hl 0 rfl) ?_
    refine va_get (D := D) (ci := 6) (v := .ref t3) (C := R_X) (T := F_X) (N := 12) hx hb hts in_X hown hG.1 hP 0 rfl rfl 2 (by decide) (hts _ k_205) (fun _ h9 => h9) rfl d_X_count_57 ?_
    refine va_getN (D := D) (ci := 5) (v := .int (nI len3)) (C := R_R) (T := F_R) (N := 2) hx hb hts in_R hown hG.1 hP 3 rfl rfl 1 (by decide) (hG.nest _ n_59) (fun _ h9 => h9) rfl d_X_count_60 ?_
    exact W.iret (v := nI len3) hx hb hr (fun t ht hW => ⟨_, rfl, rfl, ht⟩) hS.2.2 d_X_count_63
  · refine lv_tableIn (tgt := 64) (off := 63) hx hb d_X_count_1 (by decide) (by decide) rfl (by decide) ?_
    refine lv_aload_n hx hb d_X_count_64 rfl (lv_at hl 0 rfl) ?_
    refine va_get (D := D) (ci := 6) (v := .ref t2) (C := R_X) (T := F_X) (N := 12) hx hb hts in_X hown hG.1 hP 0 rfl rfl 1 (by decide) (hts _ k_204) (fun _ h9 => h9) rfl d_X_count_65 ?_
    refine va_getN (D := D) (ci := 5) (v := .int (nI len2)) (C := R_R) (T := F_R) (N := 2) hx hb hts in_R hown hG.1 hP 2 rfl rfl 1 (by decide) (hG.nest _ n_59) (fun _ h9 => h9) rfl d_X_count_68 ?_
    exact W.iret (v := nI len2) hx hb hr (fun t ht hW => ⟨_, rfl, rfl, ht⟩) hS.2.2 d_X_count_71
  · refine lv_tableIn (tgt := 72) (off := 71) hx hb d_X_count_1 (by decide) (by decide) rfl (by decide) ?_
    refine lv_aload_n hx hb d_X_count_72 rfl (lv_at hl 0 rfl) ?_
    refine va_get (D := D) (ci := 6) (v := .int cu) (C := R_X) (T := F_X) (N := 12) hx hb hts in_X hown hG.1 hP 0 rfl rfl 7 (by decide) (hts _ k_210) (fun _ h9 => h9) rfl d_X_count_73 ?_
    exact W.iret (v := cu) hx hb hr (fun t ht hW => ⟨_, rfl, rfl, ht⟩) hS.2.2 d_X_count_76
  · refine lv_tableIn (tgt := 77) (off := 76) hx hb d_X_count_1 (by decide) (by decide) rfl (by decide) ?_
    refine lv_aload_n hx hb d_X_count_77 rfl (lv_at hl 0 rfl) ?_
    refine va_get (D := D) (ci := 6) (v := .ref hg) (C := R_X) (T := F_X) (N := 12) hx hb hts in_X hown hG.1 hP 0 rfl rfl 4 (by decide) (hts _ k_207) (fun _ h9 => h9) rfl d_X_count_78 ?_
    refine va_get (D := D) (ci := 1) (v := .int gtu) (C := R_G) (T := F_G) (N := 8) hx hb hts in_G hown hG.1 hP 4 rfl rfl 4 (by decide) (hts _ k_137) (fun x9 h9 => u_same (hts _ k_134) x9 h9) rfl d_X_count_81 ?_
    refine lv_aload_n hx hb d_X_count_84 rfl (lv_at hl 0 rfl) ?_
    refine va_get (D := D) (ci := 6) (v := .ref hh) (C := R_X) (T := F_X) (N := 12) hx hb hts in_X hown hG.1 hP 0 rfl rfl 5 (by decide) (hts _ k_208) (fun _ h9 => h9) rfl d_X_count_85 ?_
    refine va_get (D := D) (ci := 2) (v := .int htu) (C := R_H) (T := F_H) (N := 8) hx hb hts in_H hown hG.1 hP 5 rfl rfl 4 (by decide) (hts _ k_138) (fun x9 h9 => u_same (hts _ k_136) x9 h9) rfl d_X_count_88 ?_
    refine lv_iadd hx hb d_X_count_91 ?_
    exact W.iret (v := gtu + htu) hx hb hr (fun t ht hW => ⟨_, rfl, rfl, ht⟩) hS.2.2 d_X_count_92
  · refine lv_tableIn (tgt := 93) (off := 92) hx hb d_X_count_1 (by decide) (by decide) rfl (by decide) ?_
    refine lv_aload_n hx hb d_X_count_93 rfl (lv_at hl 0 rfl) ?_
    refine va_get (D := D) (ci := 6) (v := .int se) (C := R_X) (T := F_X) (N := 12) hx hb hts in_X hown hG.1 hP 0 rfl rfl 9 (by decide) (hts _ k_212) (fun _ h9 => h9) rfl d_X_count_94 ?_
    exact W.iret (v := se) hx hb hr (fun t ht hW => ⟨_, rfl, rfl, ht⟩) hS.2.2 d_X_count_97
  · refine lv_tableIn (tgt := 98) (off := 97) hx hb d_X_count_1 (by decide) (by decide) rfl (by decide) ?_
    refine lv_aload_n hx hb d_X_count_98 rfl (lv_at hl 0 rfl) ?_
    refine va_get (D := D) (ci := 6) (v := .int op) (C := R_X) (T := F_X) (N := 12) hx hb hts in_X hown hG.1 hP 0 rfl rfl 10 (by decide) (hts _ k_213) (fun _ h9 => h9) rfl d_X_count_99 ?_
    exact W.iret (v := op) hx hb hr (fun t ht hW => ⟨_, rfl, rfl, ht⟩) hS.2.2 d_X_count_102
  · refine lv_tableIn (tgt := 103) (off := 102) hx hb d_X_count_1 (by decide) (by decide) rfl (by decide) ?_
    refine lv_aload_n hx hb d_X_count_103 rfl (lv_at hl 0 rfl) ?_
    refine va_get (D := D) (ci := 6) (v := .int fa) (C := R_X) (T := F_X) (N := 12) hx hb hts in_X hown hG.1 hP 0 rfl rfl 11 (by decide) (hts _ k_214) (fun _ h9 => h9) rfl d_X_count_104 ?_
    exact W.iret (v := fa) hx hb hr (fun t ht hW => ⟨_, rfl, rfl, ht⟩) hS.2.2 d_X_count_107
  · refine lv_tableOut (tgt := 108) hx hb d_X_count_1 hsw (by decide) ?_
    refine lv_iconst (v := (-1)) hx hb d_X_count_108 (by decide) ?_
    exact W.iret (v := (-1)) hx hb hr (fun t ht hW => ⟨_, rfl, (xcnt_out hsw), ht⟩) hS.2.2 d_X_count_109

theorem d_X_feed_0 : decode b_X_feed 0 = .ok (.aload_n 0, 1) := by decide +kernel
theorem d_X_feed_1 : decode b_X_feed 1 = .ok (.getfield 12, 3) := by decide +kernel
theorem d_X_feed_4 : decode b_X_feed 4 = .ok (.getfield 61, 3) := by decide +kernel
theorem d_X_feed_7 : decode b_X_feed 7 = .ok (.istore 6, 2) := by decide +kernel
theorem d_X_feed_9 : decode b_X_feed 9 = .ok (.iload 6, 2) := by decide +kernel
theorem d_X_feed_11 : decode b_X_feed 11 = .ok (.ldc 64, 2) := by decide +kernel
theorem d_X_feed_13 : decode b_X_feed 13 = .ok (.if_icmp .le 13, 3) := by decide +kernel
theorem d_X_feed_16 : decode b_X_feed 16 = .ok (.new 65, 3) := by decide +kernel
theorem d_X_feed_19 : decode b_X_feed 19 = .ok (.dup, 1) := by decide +kernel
theorem d_X_feed_20 : decode b_X_feed 20 = .ok (.ldc 67, 2) := by decide +kernel
theorem d_X_feed_22 : decode b_X_feed 22 = .ok (.invokespecial 69, 3) := by decide +kernel
theorem d_X_feed_25 : decode b_X_feed 25 = .ok (.athrow, 1) := by decide +kernel
theorem d_X_feed_26 : decode b_X_feed 26 = .ok (.aload_n 0, 1) := by decide +kernel
theorem d_X_feed_27 : decode b_X_feed 27 = .ok (.getfield 12, 3) := by decide +kernel
theorem d_X_feed_30 : decode b_X_feed 30 = .ok (.iload 6, 2) := by decide +kernel
theorem d_X_feed_32 : decode b_X_feed 32 = .ok (.bipush 20, 2) := by decide +kernel
theorem d_X_feed_34 : decode b_X_feed 34 = .ok (.iadd, 1) := by decide +kernel
theorem d_X_feed_35 : decode b_X_feed 35 = .ok (.invokevirtual 72, 3) := by decide +kernel
theorem d_X_feed_38 : decode b_X_feed 38 = .ok (.aload_n 0, 1) := by decide +kernel
theorem d_X_feed_39 : decode b_X_feed 39 = .ok (.getfield 12, 3) := by decide +kernel
theorem d_X_feed_42 : decode b_X_feed 42 = .ok (.iload 6, 2) := by decide +kernel
theorem d_X_feed_44 : decode b_X_feed 44 = .ok (.iload_n 1, 1) := by decide +kernel
theorem d_X_feed_45 : decode b_X_feed 45 = .ok (.invokevirtual 76, 3) := by decide +kernel
theorem d_X_feed_48 : decode b_X_feed 48 = .ok (.aload_n 0, 1) := by decide +kernel
theorem d_X_feed_49 : decode b_X_feed 49 = .ok (.getfield 12, 3) := by decide +kernel
theorem d_X_feed_52 : decode b_X_feed 52 = .ok (.iload 6, 2) := by decide +kernel
theorem d_X_feed_54 : decode b_X_feed 54 = .ok (.iconst 4, 1) := by decide +kernel
theorem d_X_feed_55 : decode b_X_feed 55 = .ok (.iadd, 1) := by decide +kernel
theorem d_X_feed_56 : decode b_X_feed 56 = .ok (.iload_n 2, 1) := by decide +kernel
theorem d_X_feed_57 : decode b_X_feed 57 = .ok (.invokevirtual 76, 3) := by decide +kernel
theorem d_X_feed_60 : decode b_X_feed 60 = .ok (.aload_n 0, 1) := by decide +kernel
theorem d_X_feed_61 : decode b_X_feed 61 = .ok (.getfield 12, 3) := by decide +kernel
theorem d_X_feed_64 : decode b_X_feed 64 = .ok (.iload 6, 2) := by decide +kernel
theorem d_X_feed_66 : decode b_X_feed 66 = .ok (.bipush 8, 2) := by decide +kernel
theorem d_X_feed_68 : decode b_X_feed 68 = .ok (.iadd, 1) := by decide +kernel
theorem d_X_feed_69 : decode b_X_feed 69 = .ok (.iload_n 3, 1) := by decide +kernel
theorem d_X_feed_70 : decode b_X_feed 70 = .ok (.invokevirtual 76, 3) := by decide +kernel
theorem d_X_feed_73 : decode b_X_feed 73 = .ok (.aload_n 0, 1) := by decide +kernel
theorem d_X_feed_74 : decode b_X_feed 74 = .ok (.getfield 12, 3) := by decide +kernel
theorem d_X_feed_77 : decode b_X_feed 77 = .ok (.iload 6, 2) := by decide +kernel
theorem d_X_feed_79 : decode b_X_feed 79 = .ok (.bipush 12, 2) := by decide +kernel
theorem d_X_feed_81 : decode b_X_feed 81 = .ok (.iadd, 1) := by decide +kernel
theorem d_X_feed_82 : decode b_X_feed 82 = .ok (.iload 4, 2) := by decide +kernel
theorem d_X_feed_84 : decode b_X_feed 84 = .ok (.invokevirtual 76, 3) := by decide +kernel
theorem d_X_feed_87 : decode b_X_feed 87 = .ok (.aload_n 0, 1) := by decide +kernel
theorem d_X_feed_88 : decode b_X_feed 88 = .ok (.getfield 12, 3) := by decide +kernel
theorem d_X_feed_91 : decode b_X_feed 91 = .ok (.iload 6, 2) := by decide +kernel
theorem d_X_feed_93 : decode b_X_feed 93 = .ok (.bipush 16, 2) := by decide +kernel
theorem d_X_feed_95 : decode b_X_feed 95 = .ok (.iadd, 1) := by decide +kernel
theorem d_X_feed_96 : decode b_X_feed 96 = .ok (.iload 5, 2) := by decide +kernel
theorem d_X_feed_98 : decode b_X_feed 98 = .ok (.invokevirtual 76, 3) := by decide +kernel
theorem d_X_feed_101 : decode b_X_feed 101 = .ok (.aload_n 0, 1) := by decide +kernel
theorem d_X_feed_102 : decode b_X_feed 102 = .ok (.getfield 12, 3) := by decide +kernel
theorem d_X_feed_105 : decode b_X_feed 105 = .ok (.getfield 61, 3) := by decide +kernel
theorem d_X_feed_108 : decode b_X_feed 108 = .ok (.ireturn, 1) := by decide +kernel

def rm_X_feedN (mc ms : Nat) : Room := { frames := 3, cells := mc, slots := ms, locals := 61 }
set_option maxHeartbeats 4000000 in
set_option maxRecDepth 100000 in
theorem c_X_feedN (l : Launch) (D : va_G) (cI cL cB : ClassId) (tS tF : Nat) (x : Nat) (t1 : Nat) (t2 : Nat) (t3 : Nat) (qi : Nat) (hg : Nat) (hh : Nat) (cu : Int32) (num : Int64) (se : Int32) (op : Int32) (fa : Int32) (v1 : Nat) (len1 : Nat) (cp1 : Nat) (f1 : Nat → Int32) (a : Int32) (b : Int32) (c0 : Int32) (d0 : Int32) (e0 : Int32) (sz : Nat) (hl1 : len1 ≤ cp1) (hc1 : cp1 ≤ 50000) (hf1 : ∀ x, fits .byte (.int (f1 x)) = true) (hlim : len1 ≤ 20000) : Met l y_X_feed (sbw y_X_feed b_X_feed 7 (some .int)) (rm_X_feedN 1 (rsz (len1 + 20) cp1)) (sbPc D cI cL cB tS tF [.ref x, .int a, .int b, .int c0, .int d0, .int e0] sz [(x, .inr (6, [.ref t1, .ref t2, .ref t3, .ref qi, .ref hg, .ref hh, .null, .int cu, .long num, .int se, .int op, .int fa])), (t1, .inr (5, [.ref v1, .int (nI len1)])), (v1, .inl (cB, cp1, .inl f1))]) (sbQi D (fun (r : Int32) (u : Nat × (Nat → Int32)) => match u with | (nb, nf) => r = nI (len1 + 20) ∧ (∀ j, j < cp1 → nf j = f1 j) ∧ (∀ x, fits .byte (.int (nf x)) = true)) (fun (u : Nat × (Nat → Int32)) => match u with | (nb, nf) => [(x, .inr (6, [.ref t1, .ref t2, .ref t3, .ref qi, .ref hg, .ref hh, .null, .int cu, .long num, .int se, .int op, .int fa])), (t1, .inr (5, [.ref nb, .int (nI (len1 + 20))])), (nb, .inl (cB, rnew (len1 + 20) cp1, .inl (feed5 nf (len1 + 20) len1 a b c0 d0 e0)))]) (va_A [(x, .inr (6, [.ref t1, .ref t2, .ref t3, .ref qi, .ref hg, .ref hh, .null, .int cu, .long num, .int se, .int op, .int fa])), (t1, .inr (5, [.ref v1, .int (nI len1)])), (v1, .inl (cB, cp1, .inl f1))] sz)) 1 (rsz (len1 + 20) cp1) (va_A [(x, .inr (6, [.ref t1, .ref t2, .ref t3, .ref qi, .ref hg, .ref hh, .null, .int cu, .long num, .int se, .int op, .int fa])), (t1, .inr (5, [.ref v1, .int (nI len1)])), (v1, .inl (cB, cp1, .inl f1))] sz) := by
  refine sb_ofW (Qc := fun A => (sbQi D (fun (r : Int32) (u : Nat × (Nat → Int32)) => match u with | (nb, nf) => r = nI (len1 + 20) ∧ (∀ j, j < cp1 → nf j = f1 j) ∧ (∀ x, fits .byte (.int (nf x)) = true)) (fun (u : Nat × (Nat → Int32)) => match u with | (nb, nf) => [(x, .inr (6, [.ref t1, .ref t2, .ref t3, .ref qi, .ref hg, .ref hh, .null, .int cu, .long num, .int se, .int op, .int fa])), (t1, .inr (5, [.ref nb, .int (nI (len1 + 20))])), (nb, .inl (cB, rnew (len1 + 20) cp1, .inl (feed5 nf (len1 + 20) len1 a b c0 d0 e0)))]) A)) (by decide) (Nat.le_of_ble_eq_true rfl) ?_
  intro p e s m args below meth c A ls hx hb hr hml hts hown hlocks hin hsz hP hG hD hA hS hl
  have hl : lv_has ls 7 [(0, .ref x), (1, .int a), (2, .int b), (3, .int c0), (4, .int d0), (5, .int e0)] := hl
  refine lv_aload_n hx hb d_X_feed_0 rfl (lv_at hl 0 rfl) ?_
  refine va_get (D := D) (ci := 6) (v := .ref t1) (C := R_X) (T := F_X) (N := 12) hx hb hts in_X hown hG.1 hP 0 rfl rfl 0 (by decide) (hts _ k_203) (fun _ h9 => h9) rfl d_X_feed_1 ?_
  refine va_getN (D := D) (ci := 5) (v := .int (nI len1)) (C := R_R) (T := F_R) (N := 2) hx hb hts in_R hown hG.1 hP 1 rfl rfl 1 (by decide) (hG.nest _ n_59) (fun _ h9 => h9) rfl d_X_feed_4 ?_
  refine lv_istore (lv' := [(6, .int (nI len1)), (0, .ref x), (1, .int a), (2, .int b), (3, .int c0), (4, .int d0), (5, .int e0)]) hx hb d_X_feed_7 hl (by decide) rfl (fun ls hl => ?_)
  refine lv_iload hx hb d_X_feed_9 (lv_at hl 0 rfl) ?_
  refine lv_ldc (v := 65516) hx hb hown (hts (.constant R_X 64 65516) (by decide +kernel)) d_X_feed_11 ?_
  refine lv_icmp_le (tgt := 26) hx hb d_X_feed_13 (by decide) (fun c_1 => ?_) (fun c_1 => absurd (sb_leT (a := len1) (b := 65516) rfl rfl (by omega) (by omega) (by omega)) c_1)
  refine lv_aload_n hx hb d_X_feed_26 rfl (lv_at hl 1 rfl) ?_
  refine va_get (D := D) (ci := 6) (v := .ref t1) (C := R_X) (T := F_X) (N := 12) hx hb hts in_X hown hG.1 hP 0 rfl rfl 0 (by decide) (hts _ k_203) (fun _ h9 => h9) rfl d_X_feed_27 ?_
  refine lv_iload hx hb d_X_feed_30 (lv_at hl 0 rfl) ?_
  refine lv_bipush (v := 20) hx hb d_X_feed_32 (by decide) ?_
  refine lv_iadd hx hb d_X_feed_34 ?_
  refine sb_topn (len1 + 20) (nI_add len1 20) ?_
  refine sb_callv (wr := [(x, .inr (6, [.ref t1, .ref t2, .ref t3, .ref qi, .ref hg, .ref hh, .null, .int cu, .long num, .int se, .int op, .int fa]))]) (va_runV (As := [.int (nI (len1 + 20))]) (rest := []) ⟨hx, hb, hml, hown, hts⟩ (c_R_resize l D cI cL cB tS tF t1 v1 len1 cp1 f1 (len1 + 20) _ hf1 (by omega) (by omega)) (cwV 1 hts (sb_gV k_276 k_253 k_254 k_23 k_255) rfl rfl rfl (by decide +kernel) ⟨Nat.le_of_ble_eq_true rfl, Nat.le_of_ble_eq_true rfl⟩) (sb_pV hG hP hD hS hA [1, 2] (by decide) rfl (ci := 5) (q0 := 1) rfl rfl) rfl rfl hl.1 rfl (lv_room (Nat.le_of_ble_eq_true rfl)) d_X_feed_35 ⟨Nat.le_of_ble_eq_true rfl, Nat.le_of_eq (Nat.zero_add _)⟩) hP hD hS hA [1, 2] [0] rfl rfl (by decide) (by decide) (fun u H locs hw_4 hP hD hS => ?_)
  obtain ⟨nb_2, nf_3⟩ := u
  try dsimp only at hw_4
  have hP : va_P D vwCl [(x, .inr (6, [.ref t1, .ref t2, .ref t3, .ref qi, .ref hg, .ref hh, .null, .int cu, .long num, .int se, .int op, .int fa])), (t1, .inr (5, [.ref nb_2, .int (nI (len1 + 20))])), (nb_2, .inl (cB, rnew (len1 + 20) cp1, .inl nf_3))] H := hP
  have hD : va_D A [(x, .inr (6, [.ref t1, .ref t2, .ref t3, .ref qi, .ref hg, .ref hh, .null, .int cu, .long num, .int se, .int op, .int fa])), (t1, .inr (5, [.ref nb_2, .int (nI (len1 + 20))])), (nb_2, .inl (cB, rnew (len1 + 20) cp1, .inl nf_3))] := hD
  refine W.widen (k := 1) (n := 0 + rsz (len1 + 20) cp1) (by omega) (by omega) ?_
  have hgeA := rnew_le (len1 + 20) cp1
  have hcapA := rnew_cap (len1 + 20) cp1 (by omega) (by omega)
  refine lv_aload_n hx hb d_X_feed_38 rfl (lv_at hl 1 rfl) ?_
  refine va_get (D := D) (ci := 6) (v := .ref t1) (C := R_X) (T := F_X) (N := 12) hx hb hts in_X hown hG.1 hP 0 rfl rfl 0 (by decide) (hts _ k_203) (fun _ h9 => h9) rfl d_X_feed_39 ?_
  refine lv_iload hx hb d_X_feed_42 (lv_at hl 0 rfl) ?_
  refine lv_iload_n hx hb d_X_feed_44 rfl (lv_at hl 2 rfl) ?_
  refine sb_callv (wr := [(x, .inr (6, [.ref t1, .ref t2, .ref t3, .ref qi, .ref hg, .ref hh, .null, .int cu, .long num, .int se, .int op, .int fa]))]) (va_runV (As := [.int (nI len1), .int a]) (rest := []) ⟨hx, hb, hml, hown, hts⟩ (c_R_setWord l D cI cL cB tS tF t1 nb_2 (len1 + 20) (rnew (len1 + 20) cp1) nf_3 (nI len1) a _ hgeA (by omega)) (cwV 2 hts (sb_gV k_363 k_364 k_365 k_23 k_366) rfl rfl rfl (by decide +kernel) ⟨Nat.le_of_ble_eq_true rfl, Nat.le_of_ble_eq_true rfl⟩) (sb_pV hG hP hD hS hA [1, 2] (by decide) rfl (ci := 5) (q0 := 1) rfl rfl) rfl rfl hl.1 rfl (lv_room (Nat.le_of_ble_eq_true rfl)) d_X_feed_45 ⟨by show 1 + 0 ≤ 1; omega, by show 0 + rsz (len1 + 20) cp1 + 0 ≤ rsz (len1 + 20) cp1; omega⟩) hP hD hS hA [1, 2] [0] rfl rfl (by decide) (by decide) (fun u H locs hw_5 hP hD hS => ?_)
  have hP : va_P D vwCl [(x, .inr (6, [.ref t1, .ref t2, .ref t3, .ref qi, .ref hg, .ref hh, .null, .int cu, .long num, .int se, .int op, .int fa])), (t1, .inr (5, [.ref nb_2, .int (nI (len1 + 20))])), (nb_2, .inl (cB, (rnew (len1 + 20) cp1), .inl (rsetw nf_3 (len1 + 20) (nI len1) a)))] H := hP
  have hD : va_D A [(x, .inr (6, [.ref t1, .ref t2, .ref t3, .ref qi, .ref hg, .ref hh, .null, .int cu, .long num, .int se, .int op, .int fa])), (t1, .inr (5, [.ref nb_2, .int (nI (len1 + 20))])), (nb_2, .inl (cB, (rnew (len1 + 20) cp1), .inl (rsetw nf_3 (len1 + 20) (nI len1) a)))] := hD
  refine lv_aload_n hx hb d_X_feed_48 rfl (lv_at hl 1 rfl) ?_
  refine va_get (D := D) (ci := 6) (v := .ref t1) (C := R_X) (T := F_X) (N := 12) hx hb hts in_X hown hG.1 hP 0 rfl rfl 0 (by decide) (hts _ k_203) (fun _ h9 => h9) rfl d_X_feed_49 ?_
  refine lv_iload hx hb d_X_feed_52 (lv_at hl 0 rfl) ?_
  refine lv_iconst (v := 4) hx hb d_X_feed_54 (by decide) ?_
  refine lv_iadd hx hb d_X_feed_55 ?_
  refine sb_topn (len1 + 4) (nI_add len1 4) ?_
  refine lv_iload_n hx hb d_X_feed_56 rfl (lv_at hl 3 rfl) ?_
  refine sb_callv (wr := [(x, .inr (6, [.ref t1, .ref t2, .ref t3, .ref qi, .ref hg, .ref hh, .null, .int cu, .long num, .int se, .int op, .int fa]))]) (va_runV (As := [.int (nI (len1 + 4)), .int b]) (rest := []) ⟨hx, hb, hml, hown, hts⟩ (c_R_setWord l D cI cL cB tS tF t1 nb_2 (len1 + 20) (rnew (len1 + 20) cp1) (rsetw nf_3 (len1 + 20) (nI len1) a) (nI (len1 + 4)) b _ hgeA (by omega)) (cwV 2 hts (sb_gV k_363 k_364 k_365 k_23 k_366) rfl rfl rfl (by decide +kernel) ⟨Nat.le_of_ble_eq_true rfl, Nat.le_of_ble_eq_true rfl⟩) (sb_pV hG hP hD hS hA [1, 2] (by decide) rfl (ci := 5) (q0 := 1) rfl rfl) rfl rfl hl.1 rfl (lv_room (Nat.le_of_ble_eq_true rfl)) d_X_feed_57 ⟨by show 1 + 0 ≤ 1; omega, by show 0 + rsz (len1 + 20) cp1 + 0 ≤ rsz (len1 + 20) cp1; omega⟩) hP hD hS hA [1, 2] [0] rfl rfl (by decide) (by decide) (fun u H locs hw_6 hP hD hS => ?_)
  have hP : va_P D vwCl [(x, .inr (6, [.ref t1, .ref t2, .ref t3, .ref qi, .ref hg, .ref hh, .null, .int cu, .long num, .int se, .int op, .int fa])), (t1, .inr (5, [.ref nb_2, .int (nI (len1 + 20))])), (nb_2, .inl (cB, (rnew (len1 + 20) cp1), .inl (rsetw (rsetw nf_3 (len1 + 20) (nI len1) a) (len1 + 20) (nI (len1 + 4)) b)))] H := hP
  have hD : va_D A [(x, .inr (6, [.ref t1, .ref t2, .ref t3, .ref qi, .ref hg, .ref hh, .null, .int cu, .long num, .int se, .int op, .int fa])), (t1, .inr (5, [.ref nb_2, .int (nI (len1 + 20))])), (nb_2, .inl (cB, (rnew (len1 + 20) cp1), .inl (rsetw (rsetw nf_3 (len1 + 20) (nI len1) a) (len1 + 20) (nI (len1 + 4)) b)))] := hD
  refine lv_aload_n hx hb d_X_feed_60 rfl (lv_at hl 1 rfl) ?_
  refine va_get (D := D) (ci := 6) (v := .ref t1) (C := R_X) (T := F_X) (N := 12) hx hb hts in_X hown hG.1 hP 0 rfl rfl 0 (by decide) (hts _ k_203) (fun _ h9 => h9) rfl d_X_feed_61 ?_
  refine lv_iload hx hb d_X_feed_64 (lv_at hl 0 rfl) ?_
  refine lv_bipush (v := 8) hx hb d_X_feed_66 (by decide) ?_
  refine lv_iadd hx hb d_X_feed_68 ?_
  refine sb_topn (len1 + 8) (nI_add len1 8) ?_
  refine lv_iload_n hx hb d_X_feed_69 rfl (lv_at hl 4 rfl) ?_
  refine sb_callv (wr := [(x, .inr (6, [.ref t1, .ref t2, .ref t3, .ref qi, .ref hg, .ref hh, .null, .int cu, .long num, .int se, .int op, .int fa]))]) (va_runV (As := [.int (nI (len1 + 8)), .int c0]) (rest := []) ⟨hx, hb, hml, hown, hts⟩ (c_R_setWord l D cI cL cB tS tF t1 nb_2 (len1 + 20) (rnew (len1 + 20) cp1) (rsetw (rsetw nf_3 (len1 + 20) (nI len1) a) (len1 + 20) (nI (len1 + 4)) b) (nI (len1 + 8)) c0 _ hgeA (by omega)) (cwV 2 hts (sb_gV k_363 k_364 k_365 k_23 k_366) rfl rfl rfl (by decide +kernel) ⟨Nat.le_of_ble_eq_true rfl, Nat.le_of_ble_eq_true rfl⟩) (sb_pV hG hP hD hS hA [1, 2] (by decide) rfl (ci := 5) (q0 := 1) rfl rfl) rfl rfl hl.1 rfl (lv_room (Nat.le_of_ble_eq_true rfl)) d_X_feed_70 ⟨by show 1 + 0 ≤ 1; omega, by show 0 + rsz (len1 + 20) cp1 + 0 ≤ rsz (len1 + 20) cp1; omega⟩) hP hD hS hA [1, 2] [0] rfl rfl (by decide) (by decide) (fun u H locs hw_7 hP hD hS => ?_)
  have hP : va_P D vwCl [(x, .inr (6, [.ref t1, .ref t2, .ref t3, .ref qi, .ref hg, .ref hh, .null, .int cu, .long num, .int se, .int op, .int fa])), (t1, .inr (5, [.ref nb_2, .int (nI (len1 + 20))])), (nb_2, .inl (cB, (rnew (len1 + 20) cp1), .inl (rsetw (rsetw (rsetw nf_3 (len1 + 20) (nI len1) a) (len1 + 20) (nI (len1 + 4)) b) (len1 + 20) (nI (len1 + 8)) c0)))] H := hP
  have hD : va_D A [(x, .inr (6, [.ref t1, .ref t2, .ref t3, .ref qi, .ref hg, .ref hh, .null, .int cu, .long num, .int se, .int op, .int fa])), (t1, .inr (5, [.ref nb_2, .int (nI (len1 + 20))])), (nb_2, .inl (cB, (rnew (len1 + 20) cp1), .inl (rsetw (rsetw (rsetw nf_3 (len1 + 20) (nI len1) a) (len1 + 20) (nI (len1 + 4)) b) (len1 + 20) (nI (len1 + 8)) c0)))] := hD
  refine lv_aload_n hx hb d_X_feed_73 rfl (lv_at hl 1 rfl) ?_
  refine va_get (D := D) (ci := 6) (v := .ref t1) (C := R_X) (T := F_X) (N := 12) hx hb hts in_X hown hG.1 hP 0 rfl rfl 0 (by decide) (hts _ k_203) (fun _ h9 => h9) rfl d_X_feed_74 ?_
  refine lv_iload hx hb d_X_feed_77 (lv_at hl 0 rfl) ?_
  refine lv_bipush (v := 12) hx hb d_X_feed_79 (by decide) ?_
  refine lv_iadd hx hb d_X_feed_81 ?_
  refine sb_topn (len1 + 12) (nI_add len1 12) ?_
  refine lv_iload hx hb d_X_feed_82 (lv_at hl 5 rfl) ?_
  refine sb_callv (wr := [(x, .inr (6, [.ref t1, .ref t2, .ref t3, .ref qi, .ref hg, .ref hh, .null, .int cu, .long num, .int se, .int op, .int fa]))]) (va_runV (As := [.int (nI (len1 + 12)), .int d0]) (rest := []) ⟨hx, hb, hml, hown, hts⟩ (c_R_setWord l D cI cL cB tS tF t1 nb_2 (len1 + 20) (rnew (len1 + 20) cp1) (rsetw (rsetw (rsetw nf_3 (len1 + 20) (nI len1) a) (len1 + 20) (nI (len1 + 4)) b) (len1 + 20) (nI (len1 + 8)) c0) (nI (len1 + 12)) d0 _ hgeA (by omega)) (cwV 2 hts (sb_gV k_363 k_364 k_365 k_23 k_366) rfl rfl rfl (by decide +kernel) ⟨Nat.le_of_ble_eq_true rfl, Nat.le_of_ble_eq_true rfl⟩) (sb_pV hG hP hD hS hA [1, 2] (by decide) rfl (ci := 5) (q0 := 1) rfl rfl) rfl rfl hl.1 rfl (lv_room (Nat.le_of_ble_eq_true rfl)) d_X_feed_84 ⟨by show 1 + 0 ≤ 1; omega, by show 0 + rsz (len1 + 20) cp1 + 0 ≤ rsz (len1 + 20) cp1; omega⟩) hP hD hS hA [1, 2] [0] rfl rfl (by decide) (by decide) (fun u H locs hw_8 hP hD hS => ?_)
  have hP : va_P D vwCl [(x, .inr (6, [.ref t1, .ref t2, .ref t3, .ref qi, .ref hg, .ref hh, .null, .int cu, .long num, .int se, .int op, .int fa])), (t1, .inr (5, [.ref nb_2, .int (nI (len1 + 20))])), (nb_2, .inl (cB, (rnew (len1 + 20) cp1), .inl (rsetw (rsetw (rsetw (rsetw nf_3 (len1 + 20) (nI len1) a) (len1 + 20) (nI (len1 + 4)) b) (len1 + 20) (nI (len1 + 8)) c0) (len1 + 20) (nI (len1 + 12)) d0)))] H := hP
  have hD : va_D A [(x, .inr (6, [.ref t1, .ref t2, .ref t3, .ref qi, .ref hg, .ref hh, .null, .int cu, .long num, .int se, .int op, .int fa])), (t1, .inr (5, [.ref nb_2, .int (nI (len1 + 20))])), (nb_2, .inl (cB, (rnew (len1 + 20) cp1), .inl (rsetw (rsetw (rsetw (rsetw nf_3 (len1 + 20) (nI len1) a) (len1 + 20) (nI (len1 + 4)) b) (len1 + 20) (nI (len1 + 8)) c0) (len1 + 20) (nI (len1 + 12)) d0)))] := hD
  refine lv_aload_n hx hb d_X_feed_87 rfl (lv_at hl 1 rfl) ?_
  refine va_get (D := D) (ci := 6) (v := .ref t1) (C := R_X) (T := F_X) (N := 12) hx hb hts in_X hown hG.1 hP 0 rfl rfl 0 (by decide) (hts _ k_203) (fun _ h9 => h9) rfl d_X_feed_88 ?_
  refine lv_iload hx hb d_X_feed_91 (lv_at hl 0 rfl) ?_
  refine lv_bipush (v := 16) hx hb d_X_feed_93 (by decide) ?_
  refine lv_iadd hx hb d_X_feed_95 ?_
  refine sb_topn (len1 + 16) (nI_add len1 16) ?_
  refine lv_iload hx hb d_X_feed_96 (lv_at hl 6 rfl) ?_
  refine sb_callv (wr := [(x, .inr (6, [.ref t1, .ref t2, .ref t3, .ref qi, .ref hg, .ref hh, .null, .int cu, .long num, .int se, .int op, .int fa]))]) (va_runV (As := [.int (nI (len1 + 16)), .int e0]) (rest := []) ⟨hx, hb, hml, hown, hts⟩ (c_R_setWord l D cI cL cB tS tF t1 nb_2 (len1 + 20) (rnew (len1 + 20) cp1) (rsetw (rsetw (rsetw (rsetw nf_3 (len1 + 20) (nI len1) a) (len1 + 20) (nI (len1 + 4)) b) (len1 + 20) (nI (len1 + 8)) c0) (len1 + 20) (nI (len1 + 12)) d0) (nI (len1 + 16)) e0 _ hgeA (by omega)) (cwV 2 hts (sb_gV k_363 k_364 k_365 k_23 k_366) rfl rfl rfl (by decide +kernel) ⟨Nat.le_of_ble_eq_true rfl, Nat.le_of_ble_eq_true rfl⟩) (sb_pV hG hP hD hS hA [1, 2] (by decide) rfl (ci := 5) (q0 := 1) rfl rfl) rfl rfl hl.1 rfl (lv_room (Nat.le_of_ble_eq_true rfl)) d_X_feed_98 ⟨by show 1 + 0 ≤ 1; omega, by show 0 + rsz (len1 + 20) cp1 + 0 ≤ rsz (len1 + 20) cp1; omega⟩) hP hD hS hA [1, 2] [0] rfl rfl (by decide) (by decide) (fun u H locs hw_9 hP hD hS => ?_)
  have hP : va_P D vwCl [(x, .inr (6, [.ref t1, .ref t2, .ref t3, .ref qi, .ref hg, .ref hh, .null, .int cu, .long num, .int se, .int op, .int fa])), (t1, .inr (5, [.ref nb_2, .int (nI (len1 + 20))])), (nb_2, .inl (cB, (rnew (len1 + 20) cp1), .inl (rsetw (rsetw (rsetw (rsetw (rsetw nf_3 (len1 + 20) (nI len1) a) (len1 + 20) (nI (len1 + 4)) b) (len1 + 20) (nI (len1 + 8)) c0) (len1 + 20) (nI (len1 + 12)) d0) (len1 + 20) (nI (len1 + 16)) e0)))] H := hP
  have hD : va_D A [(x, .inr (6, [.ref t1, .ref t2, .ref t3, .ref qi, .ref hg, .ref hh, .null, .int cu, .long num, .int se, .int op, .int fa])), (t1, .inr (5, [.ref nb_2, .int (nI (len1 + 20))])), (nb_2, .inl (cB, (rnew (len1 + 20) cp1), .inl (rsetw (rsetw (rsetw (rsetw (rsetw nf_3 (len1 + 20) (nI len1) a) (len1 + 20) (nI (len1 + 4)) b) (len1 + 20) (nI (len1 + 8)) c0) (len1 + 20) (nI (len1 + 12)) d0) (len1 + 20) (nI (len1 + 16)) e0)))] := hD
  refine lv_aload_n hx hb d_X_feed_101 rfl (lv_at hl 1 rfl) ?_
  refine va_get (D := D) (ci := 6) (v := .ref t1) (C := R_X) (T := F_X) (N := 12) hx hb hts in_X hown hG.1 hP 0 rfl rfl 0 (by decide) (hts _ k_203) (fun _ h9 => h9) rfl d_X_feed_102 ?_
  refine va_getN (D := D) (ci := 5) (v := .int (nI (len1 + 20))) (C := R_R) (T := F_R) (N := 2) hx hb hts in_R hown hG.1 hP 1 rfl rfl 1 (by decide) (hG.nest _ n_59) (fun _ h9 => h9) rfl d_X_feed_105 ?_
  have hP9 := hP.sub (ws' := [(x, .inr (6, [.ref t1, .ref t2, .ref t3, .ref qi, .ref hg, .ref hh, .null, .int cu, .long num, .int se, .int op, .int fa])), (t1, .inr (5, [.ref nb_2, .int (nI (len1 + 20))])), (nb_2, .inl (cB, (rnew (len1 + 20) cp1), .inl (rsetw (rsetw (rsetw (rsetw (rsetw nf_3 (len1 + 20) (nI len1) a) (len1 + 20) (nI (len1 + 4)) b) (len1 + 20) (nI (len1 + 8)) c0) (len1 + 20) (nI (len1 + 12)) d0) (len1 + 20) (nI (len1 + 16)) e0)))]) [0, 1, 2] rfl
  have hD9 := hD.sub (ws' := [(x, .inr (6, [.ref t1, .ref t2, .ref t3, .ref qi, .ref hg, .ref hh, .null, .int cu, .long num, .int se, .int op, .int fa])), (t1, .inr (5, [.ref nb_2, .int (nI (len1 + 20))])), (nb_2, .inl (cB, (rnew (len1 + 20) cp1), .inl (rsetw (rsetw (rsetw (rsetw (rsetw nf_3 (len1 + 20) (nI len1) a) (len1 + 20) (nI (len1 + 4)) b) (len1 + 20) (nI (len1 + 8)) c0) (len1 + 20) (nI (len1 + 12)) d0) (len1 + 20) (nI (len1 + 16)) e0)))]) [0, 1, 2] (by decide) rfl
  refine W.widen (k := 1) (n := rsz (len1 + 20) cp1) (by omega) (by omega) ?_
  exact W.iret (v := nI (len1 + 20)) hx hb hr (fun t ht hW => ⟨⟨_, (nb_2, nf_3), rfl, ⟨rfl, hw_4⟩, by rw [ht]; exact hP9, hD9⟩, hS.F ht⟩) hS.2.2 d_X_feed_108

theorem d_X_end_0 : decode b_X_end 0 = .ok (.iload_n 1, 1) := by decide +kernel
theorem d_X_end_1 : decode b_X_end 1 = .ok (.ifCond .lt 14, 3) := by decide +kernel
theorem d_X_end_4 : decode b_X_end 4 = .ok (.iload_n 1, 1) := by decide +kernel
theorem d_X_end_5 : decode b_X_end 5 = .ok (.aload_n 0, 1) := by decide +kernel
theorem d_X_end_6 : decode b_X_end 6 = .ok (.getfield 12, 3) := by decide +kernel
theorem d_X_end_9 : decode b_X_end 9 = .ok (.getfield 61, 3) := by decide +kernel
theorem d_X_end_12 : decode b_X_end 12 = .ok (.if_icmp .le 13, 3) := by decide +kernel
theorem d_X_end_15 : decode b_X_end 15 = .ok (.new 80, 3) := by decide +kernel
theorem d_X_end_18 : decode b_X_end 18 = .ok (.dup, 1) := by decide +kernel
theorem d_X_end_19 : decode b_X_end 19 = .ok (.ldc 82, 2) := by decide +kernel
theorem d_X_end_21 : decode b_X_end 21 = .ok (.invokespecial 84, 3) := by decide +kernel
theorem d_X_end_24 : decode b_X_end 24 = .ok (.athrow, 1) := by decide +kernel
theorem d_X_end_25 : decode b_X_end 25 = .ok (.aload_n 0, 1) := by decide +kernel
theorem d_X_end_26 : decode b_X_end 26 = .ok (.getfield 12, 3) := by decide +kernel
theorem d_X_end_29 : decode b_X_end 29 = .ok (.iload_n 1, 1) := by decide +kernel
theorem d_X_end_30 : decode b_X_end 30 = .ok (.invokevirtual 72, 3) := by decide +kernel
theorem d_X_end_33 : decode b_X_end 33 = .ok (.iload_n 1, 1) := by decide +kernel
theorem d_X_end_34 : decode b_X_end 34 = .ok (.ireturn, 1) := by decide +kernel

def rm_X_endN (mc ms : Nat) : Room := { frames := 3, cells := mc, slots := ms, locals := 61 }
set_option maxHeartbeats 4000000 in
set_option maxRecDepth 100000 in
theorem c_X_endN (l : Launch) (D : va_G) (cI cL cB : ClassId) (tS tF : Nat) (x : Nat) (t1 : Nat) (t2 : Nat) (t3 : Nat) (qi : Nat) (hg : Nat) (hh : Nat) (cu : Int32) (num : Int64) (se : Int32) (op : Int32) (fa : Int32) (v1 : Nat) (len1 : Nat) (cp1 : Nat) (f1 : Nat → Int32) (k : Nat) (sz : Nat) (hl1 : len1 ≤ cp1) (hc1 : cp1 ≤ 50000) (hf1 : ∀ x, fits .byte (.int (f1 x)) = true) (hk : k ≤ len1) : Met l y_X_end (sbw y_X_end b_X_end 2 (some .int)) (rm_X_endN 1 (rsz k cp1)) (sbPc D cI cL cB tS tF [.ref x, .int (nI k)] sz [(x, .inr (6, [.ref t1, .ref t2, .ref t3, .ref qi, .ref hg, .ref hh, .null, .int cu, .long num, .int se, .int op, .int fa])), (t1, .inr (5, [.ref v1, .int (nI len1)])), (v1, .inl (cB, cp1, .inl f1))]) (sbQi D (fun (r : Int32) (u : Nat × (Nat → Int32)) => match u with | (nb, nf) => r = nI k ∧ (∀ j, j < cp1 → nf j = f1 j) ∧ (∀ x, fits .byte (.int (nf x)) = true)) (fun (u : Nat × (Nat → Int32)) => match u with | (nb, nf) => [(x, .inr (6, [.ref t1, .ref t2, .ref t3, .ref qi, .ref hg, .ref hh, .null, .int cu, .long num, .int se, .int op, .int fa])), (t1, .inr (5, [.ref nb, .int (nI k)])), (nb, .inl (cB, rnew k cp1, .inl nf))]) (va_A [(x, .inr (6, [.ref t1, .ref t2, .ref t3, .ref qi, .ref hg, .ref hh, .null, .int cu, .long num, .int se, .int op, .int fa])), (t1, .inr (5, [.ref v1, .int (nI len1)])), (v1, .inl (cB, cp1, .inl f1))] sz)) 1 (rsz k cp1) (va_A [(x, .inr (6, [.ref t1, .ref t2, .ref t3, .ref qi, .ref hg, .ref hh, .null, .int cu, .long num, .int se, .int op, .int fa])), (t1, .inr (5, [.ref v1, .int (nI len1)])), (v1, .inl (cB, cp1, .inl f1))] sz) := by
  refine sb_ofW (Qc := fun A => (sbQi D (fun (r : Int32) (u : Nat × (Nat → Int32)) => match u with | (nb, nf) => r = nI k ∧ (∀ j, j < cp1 → nf j = f1 j) ∧ (∀ x, fits .byte (.int (nf x)) = true)) (fun (u : Nat × (Nat → Int32)) => match u with | (nb, nf) => [(x, .inr (6, [.ref t1, .ref t2, .ref t3, .ref qi, .ref hg, .ref hh, .null, .int cu, .long num, .int se, .int op, .int fa])), (t1, .inr (5, [.ref nb, .int (nI k)])), (nb, .inl (cB, rnew k cp1, .inl nf))]) A)) (by decide) (Nat.le_of_ble_eq_true rfl) ?_
  intro p e s m args below meth c A ls hx hb hr hml hts hown hlocks hin hsz hP hG hD hA hS hl
  have hl : lv_has ls 2 [(0, .ref x), (1, .int (nI k))] := hl
  refine lv_iload_n hx hb d_X_end_0 rfl (lv_at hl 1 rfl) ?_
  refine lv_if_lt (tgt := 15) hx hb d_X_end_1 (by decide) (fun c_1 => absurd c_1 (nI_pos (by omega))) (fun c_1 => ?_)
  refine lv_iload_n hx hb d_X_end_4 rfl (lv_at hl 1 rfl) ?_
  refine lv_aload_n hx hb d_X_end_5 rfl (lv_at hl 0 rfl) ?_
  refine va_get (D := D) (ci := 6) (v := .ref t1) (C := R_X) (T := F_X) (N := 12) hx hb hts in_X hown hG.1 hP 0 rfl rfl 0 (by decide) (hts _ k_203) (fun _ h9 => h9) rfl d_X_end_6 ?_
  refine va_getN (D := D) (ci := 5) (v := .int (nI len1)) (C := R_R) (T := F_R) (N := 2) hx hb hts in_R hown hG.1 hP 1 rfl rfl 1 (by decide) (hG.nest _ n_59) (fun _ h9 => h9) rfl d_X_end_9 ?_
  refine lv_icmp_le (tgt := 25) hx hb d_X_end_12 (by decide) (fun c_2 => ?_) (fun c_2 => absurd (sb_leT (a := k) (b := len1) rfl rfl (by omega) (by omega) (by omega)) c_2)
  refine lv_aload_n hx hb d_X_end_25 rfl (lv_at hl 0 rfl) ?_
  refine va_get (D := D) (ci := 6) (v := .ref t1) (C := R_X) (T := F_X) (N := 12) hx hb hts in_X hown hG.1 hP 0 rfl rfl 0 (by decide) (hts _ k_203) (fun _ h9 => h9) rfl d_X_end_26 ?_
  refine lv_iload_n hx hb d_X_end_29 rfl (lv_at hl 1 rfl) ?_
  refine sb_callv (wr := [(x, .inr (6, [.ref t1, .ref t2, .ref t3, .ref qi, .ref hg, .ref hh, .null, .int cu, .long num, .int se, .int op, .int fa]))]) (va_runV (As := [.int (nI k)]) (rest := []) ⟨hx, hb, hml, hown, hts⟩ (c_R_resize l D cI cL cB tS tF t1 v1 len1 cp1 f1 k _ hf1 (by omega) (by omega)) (cwV 1 hts (sb_gV k_276 k_253 k_254 k_23 k_255) rfl rfl rfl (by decide +kernel) ⟨Nat.le_of_ble_eq_true rfl, Nat.le_of_ble_eq_true rfl⟩) (sb_pV hG hP hD hS hA [1, 2] (by decide) rfl (ci := 5) (q0 := 1) rfl rfl) rfl rfl hl.1 rfl (lv_room (Nat.le_of_ble_eq_true rfl)) d_X_end_30 ⟨Nat.le_of_ble_eq_true rfl, Nat.le_of_eq (Nat.zero_add _)⟩) hP hD hS hA [1, 2] [0] rfl rfl (by decide) (by decide) (fun u H locs hw_5 hP hD hS => ?_)
  obtain ⟨nb_3, nf_4⟩ := u
  try dsimp only at hw_5
  have hP : va_P D vwCl [(x, .inr (6, [.ref t1, .ref t2, .ref t3, .ref qi, .ref hg, .ref hh, .null, .int cu, .long num, .int se, .int op, .int fa])), (t1, .inr (5, [.ref nb_3, .int (nI k)])), (nb_3, .inl (cB, rnew k cp1, .inl nf_4))] H := hP
  have hD : va_D A [(x, .inr (6, [.ref t1, .ref t2, .ref t3, .ref qi, .ref hg, .ref hh, .null, .int cu, .long num, .int se, .int op, .int fa])), (t1, .inr (5, [.ref nb_3, .int (nI k)])), (nb_3, .inl (cB, rnew k cp1, .inl nf_4))] := hD
  refine W.widen (k := 1) (n := 0 + rsz k cp1) (by omega) (by omega) ?_
  have hgeA := rnew_le k cp1
  have hcapA := rnew_cap k cp1 (by omega) (by omega)
  refine lv_iload_n hx hb d_X_end_33 rfl (lv_at hl 1 rfl) ?_
  have hP9 := hP.sub (ws' := [(x, .inr (6, [.ref t1, .ref t2, .ref t3, .ref qi, .ref hg, .ref hh, .null, .int cu, .long num, .int se, .int op, .int fa])), (t1, .inr (5, [.ref nb_3, .int (nI k)])), (nb_3, .inl (cB, rnew k cp1, .inl nf_4))]) [0, 1, 2] rfl
  have hD9 := hD.sub (ws' := [(x, .inr (6, [.ref t1, .ref t2, .ref t3, .ref qi, .ref hg, .ref hh, .null, .int cu, .long num, .int se, .int op, .int fa])), (t1, .inr (5, [.ref nb_3, .int (nI k)])), (nb_3, .inl (cB, rnew k cp1, .inl nf_4))]) [0, 1, 2] (by decide) rfl
  refine W.widen (k := 1) (n := rsz k cp1) (by omega) (by omega) ?_
  exact W.iret (v := nI k) hx hb hr (fun t ht hW => ⟨⟨_, (nb_3, nf_4), rfl, ⟨rfl, hw_5⟩, by rw [ht]; exact hP9, hD9⟩, hS.F ht⟩) hS.2.2 d_X_end_34

theorem d_X_iv_0 : decode b_X_iv 0 = .ok (.aload_n 0, 1) := by decide +kernel
theorem d_X_iv_1 : decode b_X_iv 1 = .ok (.getfield 12, 3) := by decide +kernel
theorem d_X_iv_4 : decode b_X_iv 4 = .ok (.getfield 61, 3) := by decide +kernel
theorem d_X_iv_7 : decode b_X_iv 7 = .ok (.bipush 12, 2) := by decide +kernel
theorem d_X_iv_9 : decode b_X_iv 9 = .ok (.if_icmp .eq 13, 3) := by decide +kernel
theorem d_X_iv_12 : decode b_X_iv 12 = .ok (.new 80, 3) := by decide +kernel
theorem d_X_iv_15 : decode b_X_iv 15 = .ok (.dup, 1) := by decide +kernel
theorem d_X_iv_16 : decode b_X_iv 16 = .ok (.ldc 97, 2) := by decide +kernel
theorem d_X_iv_18 : decode b_X_iv 18 = .ok (.invokespecial 84, 3) := by decide +kernel
theorem d_X_iv_21 : decode b_X_iv 21 = .ok (.athrow, 1) := by decide +kernel
theorem d_X_iv_22 : decode b_X_iv 22 = .ok (.iconst 0, 1) := by decide +kernel
theorem d_X_iv_23 : decode b_X_iv 23 = .ok (.istore_n 1, 1) := by decide +kernel
theorem d_X_iv_24 : decode b_X_iv 24 = .ok (.iload_n 1, 1) := by decide +kernel
theorem d_X_iv_25 : decode b_X_iv 25 = .ok (.iconst 3, 1) := by decide +kernel
theorem d_X_iv_26 : decode b_X_iv 26 = .ok (.if_icmp .ge 27, 3) := by decide +kernel
theorem d_X_iv_29 : decode b_X_iv 29 = .ok (.aload_n 0, 1) := by decide +kernel
theorem d_X_iv_30 : decode b_X_iv 30 = .ok (.getfield 22, 3) := by decide +kernel
theorem d_X_iv_33 : decode b_X_iv 33 = .ok (.iload_n 1, 1) := by decide +kernel
theorem d_X_iv_34 : decode b_X_iv 34 = .ok (.aload_n 0, 1) := by decide +kernel
theorem d_X_iv_35 : decode b_X_iv 35 = .ok (.getfield 12, 3) := by decide +kernel
theorem d_X_iv_38 : decode b_X_iv 38 = .ok (.iconst 4, 1) := by decide +kernel
theorem d_X_iv_39 : decode b_X_iv 39 = .ok (.iload_n 1, 1) := by decide +kernel
theorem d_X_iv_40 : decode b_X_iv 40 = .ok (.imul, 1) := by decide +kernel
theorem d_X_iv_41 : decode b_X_iv 41 = .ok (.bipush 12, 2) := by decide +kernel
theorem d_X_iv_43 : decode b_X_iv 43 = .ok (.invokevirtual 99, 3) := by decide +kernel
theorem d_X_iv_46 : decode b_X_iv 46 = .ok (.iastore, 1) := by decide +kernel
theorem d_X_iv_47 : decode b_X_iv 47 = .ok (.iinc 1 1, 3) := by decide +kernel
theorem d_X_iv_50 : decode b_X_iv 50 = .ok (.goto (-26), 3) := by decide +kernel
theorem d_X_iv_53 : decode b_X_iv 53 = .ok (.aload_n 0, 1) := by decide +kernel
theorem d_X_iv_54 : decode b_X_iv 54 = .ok (.lconst 0, 1) := by decide +kernel
theorem d_X_iv_55 : decode b_X_iv 55 = .ok (.putfield 48, 3) := by decide +kernel
theorem d_X_iv_58 : decode b_X_iv 58 = .ok (.aload_n 0, 1) := by decide +kernel
theorem d_X_iv_59 : decode b_X_iv 59 = .ok (.getfield 12, 3) := by decide +kernel
theorem d_X_iv_62 : decode b_X_iv 62 = .ok (.iconst 0, 1) := by decide +kernel
theorem d_X_iv_63 : decode b_X_iv 63 = .ok (.invokevirtual 72, 3) := by decide +kernel
theorem d_X_iv_66 : decode b_X_iv 66 = .ok (.return_, 1) := by decide +kernel

def rm_X_ivN (mc ms : Nat) : Room := { frames := 3, cells := mc, slots := ms, locals := 61 }
set_option maxHeartbeats 4000000 in
set_option maxRecDepth 100000 in
theorem c_X_ivN (l : Launch) (D : va_G) (cI cL cB : ClassId) (tS tF : Nat) (x : Nat) (t1 : Nat) (t2 : Nat) (t3 : Nat) (qi : Nat) (hg : Nat) (hh : Nat) (cu : Int32) (num : Int64) (se : Int32) (op : Int32) (fa : Int32) (v1 : Nat) (cp1 : Nat) (f1 : Nat → Int32) (i0 : Int32) (i1 : Int32) (i2 : Int32) (sz : Nat) (hl1 : 12 ≤ cp1) (hc1 : cp1 ≤ 50000) (hf1 : ∀ x, fits .byte (.int (f1 x)) = true) : Met l y_X_iv (sbw y_X_iv b_X_iv 2 none) (rm_X_ivN 1 (rsz 0 cp1)) (sbPc D cI cL cB tS tF [.ref x] sz [(x, .inr (6, [.ref t1, .ref t2, .ref t3, .ref qi, .ref hg, .ref hh, .null, .int cu, .long num, .int se, .int op, .int fa])), (t1, .inr (5, [.ref v1, .int (nI 12)])), (v1, .inl (cB, cp1, .inl f1)), (qi, .inl (cI, 3, .inl (i3 i0 i1 i2)))]) (sbQv D (fun (u : Nat × (Nat → Int32)) => match u with | (nb, nf) => (∀ x, fits .byte (.int (nf x)) = true)) (fun (u : Nat × (Nat → Int32)) => match u with | (nb, nf) => [(x, .inr (6, [.ref t1, .ref t2, .ref t3, .ref qi, .ref hg, .ref hh, .null, .int cu, .long 0, .int se, .int op, .int fa])), (t1, .inr (5, [.ref nb, .int (nI 0)])), (nb, .inl (cB, rnew 0 cp1, .inl nf)), (qi, .inl (cI, 3, .inl (i3 (rword f1 12 0 12) (rword f1 12 4 12) (rword f1 12 8 12))))]) (va_A [(x, .inr (6, [.ref t1, .ref t2, .ref t3, .ref qi, .ref hg, .ref hh, .null, .int cu, .long num, .int se, .int op, .int fa])), (t1, .inr (5, [.ref v1, .int (nI 12)])), (v1, .inl (cB, cp1, .inl f1)), (qi, .inl (cI, 3, .inl (i3 i0 i1 i2)))] sz)) 1 (rsz 0 cp1) (va_A [(x, .inr (6, [.ref t1, .ref t2, .ref t3, .ref qi, .ref hg, .ref hh, .null, .int cu, .long num, .int se, .int op, .int fa])), (t1, .inr (5, [.ref v1, .int (nI 12)])), (v1, .inl (cB, cp1, .inl f1)), (qi, .inl (cI, 3, .inl (i3 i0 i1 i2)))] sz) := by
  refine sb_ofW (Qc := fun A => (sbQv D (fun (u : Nat × (Nat → Int32)) => match u with | (nb, nf) => (∀ x, fits .byte (.int (nf x)) = true)) (fun (u : Nat × (Nat → Int32)) => match u with | (nb, nf) => [(x, .inr (6, [.ref t1, .ref t2, .ref t3, .ref qi, .ref hg, .ref hh, .null, .int cu, .long 0, .int se, .int op, .int fa])), (t1, .inr (5, [.ref nb, .int (nI 0)])), (nb, .inl (cB, rnew 0 cp1, .inl nf)), (qi, .inl (cI, 3, .inl (i3 (rword f1 12 0 12) (rword f1 12 4 12) (rword f1 12 8 12))))]) A)) (by decide) (Nat.le_of_ble_eq_true rfl) ?_
  intro p e s m args below meth c A ls hx hb hr hml hts hown hlocks hin hsz hP hG hD hA hS hl
  have hl : lv_has ls 2 [(0, .ref x)] := hl
  refine lv_aload_n hx hb d_X_iv_0 rfl (lv_at hl 0 rfl) ?_
  refine va_get (D := D) (ci := 6) (v := .ref t1) (C := R_X) (T := F_X) (N := 12) hx hb hts in_X hown hG.1 hP 0 rfl rfl 0 (by decide) (hts _ k_203) (fun _ h9 => h9) rfl d_X_iv_1 ?_
  refine va_getN (D := D) (ci := 5) (v := .int (nI 12)) (C := R_R) (T := F_R) (N := 2) hx hb hts in_R hown hG.1 hP 1 rfl rfl 1 (by decide) (hG.nest _ n_59) (fun _ h9 => h9) rfl d_X_iv_4 ?_
  refine lv_bipush (v := 12) hx hb d_X_iv_7 (by decide) ?_
  refine lv_icmp_eq (tgt := 22) hx hb d_X_iv_9 (by decide) (fun c_1 => ?_) (fun c_1 => absurd (sb_eqT (a := 12) (b := 12) rfl rfl (by omega) (by omega) (by omega)) c_1)
  refine lv_iconst (v := 0) hx hb d_X_iv_22 (by decide) ?_
  refine lv_istore_n (lv' := [(1, .int 0), (0, .ref x)]) hx hb d_X_iv_23 rfl hl (by decide) rfl (fun ls hl => ?_)
  refine lv_iload_n hx hb d_X_iv_24 rfl (lv_at hl 0 rfl) ?_
  refine lv_iconst (v := 3) hx hb d_X_iv_25 (by decide) ?_
  refine lv_icmp_ge (tgt := 53) hx hb d_X_iv_26 (by decide) (fun c_2 => absurd c_2 (sb_geF (a := 0) (b := 3) rfl rfl (by omega) (by omega) (by omega))) (fun c_2 => ?_)
  refine lv_aload_n hx hb d_X_iv_29 rfl (lv_at hl 1 rfl) ?_
  refine va_get (D := D) (ci := 6) (v := .ref qi) (C := R_X) (T := F_X) (N := 12) hx hb hts in_X hown hG.1 hP 0 rfl rfl 3 (by decide) (hts _ k_206) (fun _ h9 => h9) rfl d_X_iv_30 ?_
  refine lv_iload_n hx hb d_X_iv_33 rfl (lv_at hl 0 rfl) ?_
  refine lv_aload_n hx hb d_X_iv_34 rfl (lv_at hl 1 rfl) ?_
  refine va_get (D := D) (ci := 6) (v := .ref t1) (C := R_X) (T := F_X) (N := 12) hx hb hts in_X hown hG.1 hP 0 rfl rfl 0 (by decide) (hts _ k_203) (fun _ h9 => h9) rfl d_X_iv_35 ?_
  refine lv_iconst (v := 4) hx hb d_X_iv_38 (by decide) ?_
  refine lv_iload_n hx hb d_X_iv_39 rfl (lv_at hl 0 rfl) ?_
  refine lv_imul hx hb d_X_iv_40 ?_
  refine sb_topn 0 (sb_eqn (a := 4 * 0) (b := 0) (sb_mul (a := 4) (b := 0) rfl rfl) (by omega)) ?_
  refine lv_bipush (v := 12) hx hb d_X_iv_41 (by decide) ?_
  refine vp_callSi (va_runV (As := [.int (nI 0), .int 12]) (rest := [.int 0, .ref qi]) ⟨hx, hb, hml, hown, hts⟩ (c_R_word l D cI cL cB tS tF t1 v1 12 cp1 f1 0 12 hl1 (by omega) (by omega) (by omega)) (cwV 2 hts (sb_gV k_483 k_425 k_426 k_23 k_427) rfl rfl rfl (by decide +kernel) ⟨Nat.le_of_ble_eq_true rfl, Nat.le_of_ble_eq_true rfl⟩) (sb_rV hG hP hS [1, 2] rfl (ci := 5) (q0 := 1) rfl rfl) rfl rfl hl.1 rfl (lv_room (Nat.le_of_ble_eq_true rfl)) d_X_iv_43 ⟨Nat.le_of_ble_eq_true rfl, Nat.le_of_ble_eq_true rfl⟩).run (fun r_3 er_3 => ?_)
  subst er_3
  refine lv_topi (fun x_4 ex_4 => ?_)
  refine sb_ist hx hb hG.1 hP hD hS 3 rfl 0 rfl (by omega) (by omega) d_X_iv_46 (fun f_5 H locs ef_5 hP hD hS => ?_)
  have hP : va_P D vwCl [(x, .inr (6, [.ref t1, .ref t2, .ref t3, .ref qi, .ref hg, .ref hh, .null, .int cu, .long num, .int se, .int op, .int fa])), (t1, .inr (5, [.ref v1, .int (nI 12)])), (v1, .inl (cB, cp1, .inl f1)), (qi, .inl (cI, 3, .inl f_5))] H := hP
  have hD : va_D A [(x, .inr (6, [.ref t1, .ref t2, .ref t3, .ref qi, .ref hg, .ref hh, .null, .int cu, .long num, .int se, .int op, .int fa])), (t1, .inr (5, [.ref v1, .int (nI 12)])), (v1, .inl (cB, cp1, .inl f1)), (qi, .inl (cI, 3, .inl f_5))] := hD
  obtain rfl : f_5 = i3 x_4 i1 i2 := ef_5.trans (i3_set0 ..)
  refine lv_iinc (v := nI 1) (lv' := [(1, .int (nI 1)), (0, .ref x)]) hx hb d_X_iv_47 hl (k := 0) rfl (sb_inc (a := 0) (b := 1) (d := 1) rfl (by decide) (by omega)) (by decide) rfl (fun ls hl => ?_)
  refine lv_goto (tgt := 24) hx hb d_X_iv_50 (by decide) ?_
  refine lv_iload_n hx hb d_X_iv_24 rfl (lv_at hl 0 rfl) ?_
  refine lv_iconst (v := 3) hx hb d_X_iv_25 (by decide) ?_
  refine lv_icmp_ge (tgt := 53) hx hb d_X_iv_26 (by decide) (fun c_6 => absurd c_6 (sb_geF (a := 1) (b := 3) rfl rfl (by omega) (by omega) (by omega))) (fun c_6 => ?_)
  refine lv_aload_n hx hb d_X_iv_29 rfl (lv_at hl 1 rfl) ?_
  refine va_get (D := D) (ci := 6) (v := .ref qi) (C := R_X) (T := F_X) (N := 12) hx hb hts in_X hown hG.1 hP 0 rfl rfl 3 (by decide) (hts _ k_206) (fun _ h9 => h9) rfl d_X_iv_30 ?_
  refine lv_iload_n hx hb d_X_iv_33 rfl (lv_at hl 0 rfl) ?_
  refine lv_aload_n hx hb d_X_iv_34 rfl (lv_at hl 1 rfl) ?_
  refine va_get (D := D) (ci := 6) (v := .ref t1) (C := R_X) (T := F_X) (N := 12) hx hb hts in_X hown hG.1 hP 0 rfl rfl 0 (by decide) (hts _ k_203) (fun _ h9 => h9) rfl d_X_iv_35 ?_
  refine lv_iconst (v := 4) hx hb d_X_iv_38 (by decide) ?_
  refine lv_iload_n hx hb d_X_iv_39 rfl (lv_at hl 0 rfl) ?_
  refine lv_imul hx hb d_X_iv_40 ?_
  refine sb_topn 4 (sb_eqn (a := 4 * 1) (b := 4) (sb_mul (a := 4) (b := 1) rfl rfl) (by omega)) ?_
  refine lv_bipush (v := 12) hx hb d_X_iv_41 (by decide) ?_
  refine vp_callSi (va_runV (As := [.int (nI 4), .int 12]) (rest := [.int (nI 1), .ref qi]) ⟨hx, hb, hml, hown, hts⟩ (c_R_word l D cI cL cB tS tF t1 v1 12 cp1 f1 4 12 hl1 (by omega) (by omega) (by omega)) (cwV 2 hts (sb_gV k_483 k_425 k_426 k_23 k_427) rfl rfl rfl (by decide +kernel) ⟨Nat.le_of_ble_eq_true rfl, Nat.le_of_ble_eq_true rfl⟩) (sb_rV hG hP hS [1, 2] rfl (ci := 5) (q0 := 1) rfl rfl) rfl rfl hl.1 rfl (lv_room (Nat.le_of_ble_eq_true rfl)) d_X_iv_43 ⟨Nat.le_of_ble_eq_true rfl, Nat.le_of_ble_eq_true rfl⟩).run (fun r_7 er_7 => ?_)
  subst er_7
  refine lv_topi (fun x_8 ex_8 => ?_)
  refine sb_ist hx hb hG.1 hP hD hS 3 rfl 1 rfl (by omega) (by omega) d_X_iv_46 (fun f_9 H locs ef_9 hP hD hS => ?_)
  have hP : va_P D vwCl [(x, .inr (6, [.ref t1, .ref t2, .ref t3, .ref qi, .ref hg, .ref hh, .null, .int cu, .long num, .int se, .int op, .int fa])), (t1, .inr (5, [.ref v1, .int (nI 12)])), (v1, .inl (cB, cp1, .inl f1)), (qi, .inl (cI, 3, .inl f_9))] H := hP
  have hD : va_D A [(x, .inr (6, [.ref t1, .ref t2, .ref t3, .ref qi, .ref hg, .ref hh, .null, .int cu, .long num, .int se, .int op, .int fa])), (t1, .inr (5, [.ref v1, .int (nI 12)])), (v1, .inl (cB, cp1, .inl f1)), (qi, .inl (cI, 3, .inl f_9))] := hD
  obtain rfl : f_9 = i3 x_4 x_8 i2 := ef_9.trans (i3_set1 ..)
  refine lv_iinc (v := nI 2) (lv' := [(1, .int (nI 2)), (0, .ref x)]) hx hb d_X_iv_47 hl (k := 0) rfl (sb_inc (a := 1) (b := 2) (d := 1) rfl (by decide) (by omega)) (by decide) rfl (fun ls hl => ?_)
  refine lv_goto (tgt := 24) hx hb d_X_iv_50 (by decide) ?_
  refine lv_iload_n hx hb d_X_iv_24 rfl (lv_at hl 0 rfl) ?_
  refine lv_iconst (v := 3) hx hb d_X_iv_25 (by decide) ?_
  refine lv_icmp_ge (tgt := 53) hx hb d_X_iv_26 (by decide) (fun c_10 => absurd c_10 (sb_geF (a := 2) (b := 3) rfl rfl (by omega) (by omega) (by omega))) (fun c_10 => ?_)
  refine lv_aload_n hx hb d_X_iv_29 rfl (lv_at hl 1 rfl) ?_
  refine va_get (D := D) (ci := 6) (v := .ref qi) (C := R_X) (T := F_X) (N := 12) hx hb hts in_X hown hG.1 hP 0 rfl rfl 3 (by decide) (hts _ k_206) (fun _ h9 => h9) rfl d_X_iv_30 ?_
  refine lv_iload_n hx hb d_X_iv_33 rfl (lv_at hl 0 rfl) ?_
  refine lv_aload_n hx hb d_X_iv_34 rfl (lv_at hl 1 rfl) ?_
  refine va_get (D := D) (ci := 6) (v := .ref t1) (C := R_X) (T := F_X) (N := 12) hx hb hts in_X hown hG.1 hP 0 rfl rfl 0 (by decide) (hts _ k_203) (fun _ h9 => h9) rfl d_X_iv_35 ?_
  refine lv_iconst (v := 4) hx hb d_X_iv_38 (by decide) ?_
  refine lv_iload_n hx hb d_X_iv_39 rfl (lv_at hl 0 rfl) ?_
  refine lv_imul hx hb d_X_iv_40 ?_
  refine sb_topn 8 (sb_eqn (a := 4 * 2) (b := 8) (sb_mul (a := 4) (b := 2) rfl rfl) (by omega)) ?_
  refine lv_bipush (v := 12) hx hb d_X_iv_41 (by decide) ?_
  refine vp_callSi (va_runV (As := [.int (nI 8), .int 12]) (rest := [.int (nI 2), .ref qi]) ⟨hx, hb, hml, hown, hts⟩ (c_R_word l D cI cL cB tS tF t1 v1 12 cp1 f1 8 12 hl1 (by omega) (by omega) (by omega)) (cwV 2 hts (sb_gV k_483 k_425 k_426 k_23 k_427) rfl rfl rfl (by decide +kernel) ⟨Nat.le_of_ble_eq_true rfl, Nat.le_of_ble_eq_true rfl⟩) (sb_rV hG hP hS [1, 2] rfl (ci := 5) (q0 := 1) rfl rfl) rfl rfl hl.1 rfl (lv_room (Nat.le_of_ble_eq_true rfl)) d_X_iv_43 ⟨Nat.le_of_ble_eq_true rfl, Nat.le_of_ble_eq_true rfl⟩).run (fun r_11 er_11 => ?_)
  subst er_11
  refine lv_topi (fun x_12 ex_12 => ?_)
  refine sb_ist hx hb hG.1 hP hD hS 3 rfl 2 rfl (by omega) (by omega) d_X_iv_46 (fun f_13 H locs ef_13 hP hD hS => ?_)
  have hP : va_P D vwCl [(x, .inr (6, [.ref t1, .ref t2, .ref t3, .ref qi, .ref hg, .ref hh, .null, .int cu, .long num, .int se, .int op, .int fa])), (t1, .inr (5, [.ref v1, .int (nI 12)])), (v1, .inl (cB, cp1, .inl f1)), (qi, .inl (cI, 3, .inl f_13))] H := hP
  have hD : va_D A [(x, .inr (6, [.ref t1, .ref t2, .ref t3, .ref qi, .ref hg, .ref hh, .null, .int cu, .long num, .int se, .int op, .int fa])), (t1, .inr (5, [.ref v1, .int (nI 12)])), (v1, .inl (cB, cp1, .inl f1)), (qi, .inl (cI, 3, .inl f_13))] := hD
  obtain rfl : f_13 = i3 x_4 x_8 x_12 := ef_13.trans (i3_set2 ..)
  refine lv_iinc (v := nI 3) (lv' := [(1, .int (nI 3)), (0, .ref x)]) hx hb d_X_iv_47 hl (k := 0) rfl (sb_inc (a := 2) (b := 3) (d := 1) rfl (by decide) (by omega)) (by decide) rfl (fun ls hl => ?_)
  refine lv_goto (tgt := 24) hx hb d_X_iv_50 (by decide) ?_
  refine lv_iload_n hx hb d_X_iv_24 rfl (lv_at hl 0 rfl) ?_
  refine lv_iconst (v := 3) hx hb d_X_iv_25 (by decide) ?_
  refine lv_icmp_ge (tgt := 53) hx hb d_X_iv_26 (by decide) (fun c_14 => ?_) (fun c_14 => absurd (sb_geT (a := 3) (b := 3) rfl rfl (by omega) (by omega) (by omega)) c_14)
  refine lv_aload_n hx hb d_X_iv_53 rfl (lv_at hl 1 rfl) ?_
  refine lv_lconst (v := 0) hx hb d_X_iv_54 (by decide) ?_
  refine va_put (D := D) (ci := 6) (v := .long 0) (ty := .long) (C := R_X) (T := F_X) (N := 12) hx hb hts in_X tq_X tq_X_ok nq_X hown hG.1 hP hD hS 0 rfl rfl 8 (by decide) (hts _ k_211) (fun _ h9 => h9) rfl (by decide +kernel) rfl rfl (Nat.le_of_ble_eq_true rfl) d_X_iv_55 (fun H locs hP hD hS => ?_)
  have hP : va_P D vwCl [(x, .inr (6, [.ref t1, .ref t2, .ref t3, .ref qi, .ref hg, .ref hh, .null, .int cu, .long 0, .int se, .int op, .int fa])), (t1, .inr (5, [.ref v1, .int (nI 12)])), (v1, .inl (cB, cp1, .inl f1)), (qi, .inl (cI, 3, .inl (i3 x_4 x_8 x_12)))] H := hP
  have hD : va_D A [(x, .inr (6, [.ref t1, .ref t2, .ref t3, .ref qi, .ref hg, .ref hh, .null, .int cu, .long 0, .int se, .int op, .int fa])), (t1, .inr (5, [.ref v1, .int (nI 12)])), (v1, .inl (cB, cp1, .inl f1)), (qi, .inl (cI, 3, .inl (i3 x_4 x_8 x_12)))] := hD
  refine lv_aload_n hx hb d_X_iv_58 rfl (lv_at hl 1 rfl) ?_
  refine va_get (D := D) (ci := 6) (v := .ref t1) (C := R_X) (T := F_X) (N := 12) hx hb hts in_X hown hG.1 hP 0 rfl rfl 0 (by decide) (hts _ k_203) (fun _ h9 => h9) rfl d_X_iv_59 ?_
  refine lv_iconst (v := 0) hx hb d_X_iv_62 (by decide) ?_
  refine sb_callv (wr := [(x, .inr (6, [.ref t1, .ref t2, .ref t3, .ref qi, .ref hg, .ref hh, .null, .int cu, .long 0, .int se, .int op, .int fa])), (qi, .inl (cI, 3, .inl (i3 x_4 x_8 x_12)))]) (va_runV (As := [.int 0]) (rest := []) ⟨hx, hb, hml, hown, hts⟩ (c_R_resize l D cI cL cB tS tF t1 v1 12 cp1 f1 0 _ hf1 (by omega) (by omega)) (cwV 1 hts (sb_gV k_276 k_253 k_254 k_23 k_255) rfl rfl rfl (by decide +kernel) ⟨Nat.le_of_ble_eq_true rfl, Nat.le_of_ble_eq_true rfl⟩) (sb_pV hG hP hD hS hA [1, 2] (by decide) rfl (ci := 5) (q0 := 1) rfl rfl) rfl rfl hl.1 rfl (lv_room (Nat.le_of_ble_eq_true rfl)) d_X_iv_63 ⟨Nat.le_of_ble_eq_true rfl, Nat.le_of_eq (Nat.zero_add _)⟩) hP hD hS hA [1, 2] [0, 3] rfl rfl (by decide) (by decide) (fun u H locs hw_17 hP hD hS => ?_)
  obtain ⟨nb_15, nf_16⟩ := u
  try dsimp only at hw_17
  have hP : va_P D vwCl [(x, .inr (6, [.ref t1, .ref t2, .ref t3, .ref qi, .ref hg, .ref hh, .null, .int cu, .long 0, .int se, .int op, .int fa])), (qi, .inl (cI, 3, .inl (i3 x_4 x_8 x_12))), (t1, .inr (5, [.ref nb_15, .int (nI 0)])), (nb_15, .inl (cB, rnew 0 cp1, .inl nf_16))] H := hP
  have hD : va_D A [(x, .inr (6, [.ref t1, .ref t2, .ref t3, .ref qi, .ref hg, .ref hh, .null, .int cu, .long 0, .int se, .int op, .int fa])), (qi, .inl (cI, 3, .inl (i3 x_4 x_8 x_12))), (t1, .inr (5, [.ref nb_15, .int (nI 0)])), (nb_15, .inl (cB, rnew 0 cp1, .inl nf_16))] := hD
  refine W.widen (k := 1) (n := 0 + rsz 0 cp1) (by omega) (by omega) ?_
  have hgeA := rnew_le 0 cp1
  have hcapA := rnew_cap 0 cp1 (by omega) (by omega)
  subst ex_12
  subst ex_8
  subst ex_4
  have hP9 := hP.sub (ws' := [(x, .inr (6, [.ref t1, .ref t2, .ref t3, .ref qi, .ref hg, .ref hh, .null, .int cu, .long 0, .int se, .int op, .int fa])), (t1, .inr (5, [.ref nb_15, .int (nI 0)])), (nb_15, .inl (cB, rnew 0 cp1, .inl nf_16)), (qi, .inl (cI, 3, .inl (i3 (rword f1 12 0 12) (rword f1 12 4 12) (rword f1 12 8 12))))]) [0, 2, 3, 1] rfl
  have hD9 := hD.sub (ws' := [(x, .inr (6, [.ref t1, .ref t2, .ref t3, .ref qi, .ref hg, .ref hh, .null, .int cu, .long 0, .int se, .int op, .int fa])), (t1, .inr (5, [.ref nb_15, .int (nI 0)])), (nb_15, .inl (cB, rnew 0 cp1, .inl nf_16)), (qi, .inl (cI, 3, .inl (i3 (rword f1 12 0 12) (rword f1 12 4 12) (rword f1 12 8 12))))]) [0, 2, 3, 1] (by decide) rfl
  refine W.widen (k := 1) (n := rsz 0 cp1) (by omega) (by omega) ?_
  exact W.vret hx hb hr (fun t ht hW => ⟨⟨(nb_15, nf_16), rfl, hw_17.2, by rw [ht]; exact hP9, hD9⟩, hS.F ht⟩) hS.2.2 d_X_iv_66

theorem d_X_beside_0 : decode b_X_beside 0 = .ok (.aload_n 0, 1) := by decide +kernel
theorem d_X_beside_1 : decode b_X_beside 1 = .ok (.getfield 16, 3) := by decide +kernel
theorem d_X_beside_4 : decode b_X_beside 4 = .ok (.aload_n 0, 1) := by decide +kernel
theorem d_X_beside_5 : decode b_X_beside 5 = .ok (.getfield 12, 3) := by decide +kernel
theorem d_X_beside_8 : decode b_X_beside 8 = .ok (.invokevirtual 103, 3) := by decide +kernel
theorem d_X_beside_11 : decode b_X_beside 11 = .ok (.aload_n 0, 1) := by decide +kernel
theorem d_X_beside_12 : decode b_X_beside 12 = .ok (.getfield 12, 3) := by decide +kernel
theorem d_X_beside_15 : decode b_X_beside 15 = .ok (.iconst 0, 1) := by decide +kernel
theorem d_X_beside_16 : decode b_X_beside 16 = .ok (.invokevirtual 72, 3) := by decide +kernel
theorem d_X_beside_19 : decode b_X_beside 19 = .ok (.aload_n 0, 1) := by decide +kernel
theorem d_X_beside_20 : decode b_X_beside 20 = .ok (.getfield 16, 3) := by decide +kernel
theorem d_X_beside_23 : decode b_X_beside 23 = .ok (.getfield 61, 3) := by decide +kernel
theorem d_X_beside_26 : decode b_X_beside 26 = .ok (.ireturn, 1) := by decide +kernel

def rm_X_besideN (mc ms : Nat) : Room := { frames := 4, cells := mc, slots := ms, locals := 82 }
set_option maxHeartbeats 4000000 in
set_option maxRecDepth 100000 in
theorem c_X_besideN (l : Launch) (D : va_G) (cI cL cB : ClassId) (tS tF : Nat) (x : Nat) (t1 : Nat) (t2 : Nat) (t3 : Nat) (qi : Nat) (hg : Nat) (hh : Nat) (cu : Int32) (num : Int64) (se : Int32) (op : Int32) (fa : Int32) (v1 : Nat) (len1 : Nat) (cp1 : Nat) (f1 : Nat → Int32) (v2 : Nat) (len2 : Nat) (cp2 : Nat) (f2 : Nat → Int32) (sz : Nat) (hl1 : len1 ≤ cp1) (hc1 : cp1 ≤ 50000) (hf1 : ∀ x, fits .byte (.int (f1 x)) = true) (hl2 : len2 ≤ cp2) (hc2 : cp2 ≤ 50000) (hf2 : ∀ x, fits .byte (.int (f2 x)) = true) (hlim : len1 ≤ 20000) : Met l y_X_beside (sbw y_X_beside b_X_beside 1 (some .int)) (rm_X_besideN 2 (rsz len1 cp2 + rsz 0 cp1)) (sbPc D cI cL cB tS tF [.ref x] sz [(x, .inr (6, [.ref t1, .ref t2, .ref t3, .ref qi, .ref hg, .ref hh, .null, .int cu, .long num, .int se, .int op, .int fa])), (t1, .inr (5, [.ref v1, .int (nI len1)])), (v1, .inl (cB, cp1, .inl f1)), (t2, .inr (5, [.ref v2, .int (nI len2)])), (v2, .inl (cB, cp2, .inl f2))]) (sbQi D (fun (r : Int32) (u : Nat × (Nat → Int32) × Nat × (Nat → Int32)) => match u with | (nb, nf, mb, mf) => r = nI len1 ∧ (∀ j, j < len1 → mf j = f1 j) ∧ (∀ x, fits .byte (.int (mf x)) = true) ∧ (∀ x, fits .byte (.int (nf x)) = true)) (fun (u : Nat × (Nat → Int32) × Nat × (Nat → Int32)) => match u with | (nb, nf, mb, mf) => [(x, .inr (6, [.ref t1, .ref t2, .ref t3, .ref qi, .ref hg, .ref hh, .null, .int cu, .long num, .int se, .int op, .int fa])), (t1, .inr (5, [.ref nb, .int (nI 0)])), (nb, .inl (cB, rnew 0 cp1, .inl nf)), (t2, .inr (5, [.ref mb, .int (nI len1)])), (mb, .inl (cB, rnew len1 cp2, .inl mf))]) (va_A [(x, .inr (6, [.ref t1, .ref t2, .ref t3, .ref qi, .ref hg, .ref hh, .null, .int cu, .long num, .int se, .int op, .int fa])), (t1, .inr (5, [.ref v1, .int (nI len1)])), (v1, .inl (cB, cp1, .inl f1)), (t2, .inr (5, [.ref v2, .int (nI len2)])), (v2, .inl (cB, cp2, .inl f2))] sz)) 2 (rsz len1 cp2 + rsz 0 cp1) (va_A [(x, .inr (6, [.ref t1, .ref t2, .ref t3, .ref qi, .ref hg, .ref hh, .null, .int cu, .long num, .int se, .int op, .int fa])), (t1, .inr (5, [.ref v1, .int (nI len1)])), (v1, .inl (cB, cp1, .inl f1)), (t2, .inr (5, [.ref v2, .int (nI len2)])), (v2, .inl (cB, cp2, .inl f2))] sz) := by
  refine sb_ofW (Qc := fun A => (sbQi D (fun (r : Int32) (u : Nat × (Nat → Int32) × Nat × (Nat → Int32)) => match u with | (nb, nf, mb, mf) => r = nI len1 ∧ (∀ j, j < len1 → mf j = f1 j) ∧ (∀ x, fits .byte (.int (mf x)) = true) ∧ (∀ x, fits .byte (.int (nf x)) = true)) (fun (u : Nat × (Nat → Int32) × Nat × (Nat → Int32)) => match u with | (nb, nf, mb, mf) => [(x, .inr (6, [.ref t1, .ref t2, .ref t3, .ref qi, .ref hg, .ref hh, .null, .int cu, .long num, .int se, .int op, .int fa])), (t1, .inr (5, [.ref nb, .int (nI 0)])), (nb, .inl (cB, rnew 0 cp1, .inl nf)), (t2, .inr (5, [.ref mb, .int (nI len1)])), (mb, .inl (cB, rnew len1 cp2, .inl mf))]) A)) (by decide) (Nat.le_of_ble_eq_true rfl) ?_
  intro p e s m args below meth c A ls hx hb hr hml hts hown hlocks hin hsz hP hG hD hA hS hl
  have hl : lv_has ls 1 [(0, .ref x)] := hl
  refine lv_aload_n hx hb d_X_beside_0 rfl (lv_at hl 0 rfl) ?_
  refine va_get (D := D) (ci := 6) (v := .ref t2) (C := R_X) (T := F_X) (N := 12) hx hb hts in_X hown hG.1 hP 0 rfl rfl 1 (by decide) (hts _ k_204) (fun _ h9 => h9) rfl d_X_beside_1 ?_
  refine lv_aload_n hx hb d_X_beside_4 rfl (lv_at hl 0 rfl) ?_
  refine va_get (D := D) (ci := 6) (v := .ref t1) (C := R_X) (T := F_X) (N := 12) hx hb hts in_X hown hG.1 hP 0 rfl rfl 0 (by decide) (hts _ k_203) (fun _ h9 => h9) rfl d_X_beside_5 ?_
  refine sb_callv (wr := [(x, .inr (6, [.ref t1, .ref t2, .ref t3, .ref qi, .ref hg, .ref hh, .null, .int cu, .long num, .int se, .int op, .int fa]))]) (va_runV (As := [.ref t1]) (rest := []) ⟨hx, hb, hml, hown, hts⟩ (c_R_copyFrom l D cI cL cB tS tF t2 v2 len2 cp2 f2 t1 v1 len1 cp1 f1 _ hf2 hf1 (by omega) (by omega) (by omega) (by omega)) (cwV 1 hts (sb_gV k_248 k_249 k_250 k_23 k_251) rfl rfl rfl (by decide +kernel) ⟨Nat.le_of_ble_eq_true rfl, Nat.le_of_ble_eq_true rfl⟩) (sb_pV hG hP hD hS hA [3, 4, 1, 2] (by decide) rfl (ci := 5) (q0 := 3) rfl rfl) rfl rfl hl.1 rfl (lv_room (Nat.le_of_ble_eq_true rfl)) d_X_beside_8 ⟨Nat.le_of_ble_eq_true rfl, by show 0 + rsz len1 cp2 ≤ rsz len1 cp2 + rsz 0 cp1; omega⟩) hP hD hS hA [3, 4, 1, 2] [0] rfl rfl (by decide) (by decide) (fun u H locs hw_3 hP hD hS => ?_)
  obtain ⟨nb_1, nf_2⟩ := u
  try dsimp only at hw_3
  have hP : va_P D vwCl [(x, .inr (6, [.ref t1, .ref t2, .ref t3, .ref qi, .ref hg, .ref hh, .null, .int cu, .long num, .int se, .int op, .int fa])), (t2, .inr (5, [.ref nb_1, .int (nI len1)])), (nb_1, .inl (cB, rnew len1 cp2, .inl nf_2)), (t1, .inr (5, [.ref v1, .int (nI len1)])), (v1, .inl (cB, cp1, .inl f1))] H := hP
  have hD : va_D A [(x, .inr (6, [.ref t1, .ref t2, .ref t3, .ref qi, .ref hg, .ref hh, .null, .int cu, .long num, .int se, .int op, .int fa])), (t2, .inr (5, [.ref nb_1, .int (nI len1)])), (nb_1, .inl (cB, rnew len1 cp2, .inl nf_2)), (t1, .inr (5, [.ref v1, .int (nI len1)])), (v1, .inl (cB, cp1, .inl f1))] := hD
  refine W.widen (k := 1) (n := 0 + rsz len1 cp2) (by omega) (by omega) ?_
  have hgeA := rnew_le len1 cp2
  have hcapA := rnew_cap len1 cp2 (by omega) (by omega)
  refine lv_aload_n hx hb d_X_beside_11 rfl (lv_at hl 0 rfl) ?_
  refine va_get (D := D) (ci := 6) (v := .ref t1) (C := R_X) (T := F_X) (N := 12) hx hb hts in_X hown hG.1 hP 0 rfl rfl 0 (by decide) (hts _ k_203) (fun _ h9 => h9) rfl d_X_beside_12 ?_
  refine lv_iconst (v := 0) hx hb d_X_beside_15 (by decide) ?_
  refine sb_callv (wr := [(x, .inr (6, [.ref t1, .ref t2, .ref t3, .ref qi, .ref hg, .ref hh, .null, .int cu, .long num, .int se, .int op, .int fa])), (t2, .inr (5, [.ref nb_1, .int (nI len1)])), (nb_1, .inl (cB, rnew len1 cp2, .inl nf_2))]) (va_runV (As := [.int 0]) (rest := []) ⟨hx, hb, hml, hown, hts⟩ (c_R_resize l D cI cL cB tS tF t1 v1 len1 cp1 f1 0 _ hf1 (by omega) (by omega)) (cwV 1 hts (sb_gV k_276 k_253 k_254 k_23 k_255) rfl rfl rfl (by decide +kernel) ⟨Nat.le_of_ble_eq_true rfl, Nat.le_of_ble_eq_true rfl⟩) (sb_pV hG hP hD hS hA [3, 4] (by decide) rfl (ci := 5) (q0 := 3) rfl rfl) rfl rfl hl.1 rfl (lv_room (Nat.le_of_ble_eq_true rfl)) d_X_beside_16 ⟨Nat.le_of_ble_eq_true rfl, by show 0 + rsz len1 cp2 + rsz 0 cp1 ≤ rsz len1 cp2 + rsz 0 cp1; omega⟩) hP hD hS hA [3, 4] [0, 1, 2] rfl rfl (by decide) (by decide) (fun u H locs hw_6 hP hD hS => ?_)
  obtain ⟨nb_4, nf_5⟩ := u
  try dsimp only at hw_6
  have hP : va_P D vwCl [(x, .inr (6, [.ref t1, .ref t2, .ref t3, .ref qi, .ref hg, .ref hh, .null, .int cu, .long num, .int se, .int op, .int fa])), (t2, .inr (5, [.ref nb_1, .int (nI len1)])), (nb_1, .inl (cB, rnew len1 cp2, .inl nf_2)), (t1, .inr (5, [.ref nb_4, .int (nI 0)])), (nb_4, .inl (cB, rnew 0 cp1, .inl nf_5))] H := hP
  have hD : va_D A [(x, .inr (6, [.ref t1, .ref t2, .ref t3, .ref qi, .ref hg, .ref hh, .null, .int cu, .long num, .int se, .int op, .int fa])), (t2, .inr (5, [.ref nb_1, .int (nI len1)])), (nb_1, .inl (cB, rnew len1 cp2, .inl nf_2)), (t1, .inr (5, [.ref nb_4, .int (nI 0)])), (nb_4, .inl (cB, rnew 0 cp1, .inl nf_5))] := hD
  refine W.widen (k := 2) (n := 0 + rsz len1 cp2 + rsz 0 cp1) (by omega) (by omega) ?_
  have hgeB := rnew_le 0 cp1
  have hcapB := rnew_cap 0 cp1 (by omega) (by omega)
  refine lv_aload_n hx hb d_X_beside_19 rfl (lv_at hl 0 rfl) ?_
  refine va_get (D := D) (ci := 6) (v := .ref t2) (C := R_X) (T := F_X) (N := 12) hx hb hts in_X hown hG.1 hP 0 rfl rfl 1 (by decide) (hts _ k_204) (fun _ h9 => h9) rfl d_X_beside_20 ?_
  refine va_getN (D := D) (ci := 5) (v := .int (nI len1)) (C := R_R) (T := F_R) (N := 2) hx hb hts in_R hown hG.1 hP 1 rfl rfl 1 (by decide) (hG.nest _ n_59) (fun _ h9 => h9) rfl d_X_beside_23 ?_
  have hP9 := hP.sub (ws' := [(x, .inr (6, [.ref t1, .ref t2, .ref t3, .ref qi, .ref hg, .ref hh, .null, .int cu, .long num, .int se, .int op, .int fa])), (t1, .inr (5, [.ref nb_4, .int (nI 0)])), (nb_4, .inl (cB, rnew 0 cp1, .inl nf_5)), (t2, .inr (5, [.ref nb_1, .int (nI len1)])), (nb_1, .inl (cB, rnew len1 cp2, .inl nf_2))]) [0, 3, 4, 1, 2] rfl
  have hD9 := hD.sub (ws' := [(x, .inr (6, [.ref t1, .ref t2, .ref t3, .ref qi, .ref hg, .ref hh, .null, .int cu, .long num, .int se, .int op, .int fa])), (t1, .inr (5, [.ref nb_4, .int (nI 0)])), (nb_4, .inl (cB, rnew 0 cp1, .inl nf_5)), (t2, .inr (5, [.ref nb_1, .int (nI len1)])), (nb_1, .inl (cB, rnew len1 cp2, .inl nf_2))]) [0, 3, 4, 1, 2] (by decide) rfl
  refine W.widen (k := 2) (n := rsz len1 cp2 + rsz 0 cp1) (by omega) (by omega) ?_
  exact W.iret (v := nI len1) hx hb hr (fun t ht hW => ⟨⟨_, (nb_4, nf_5, nb_1, nf_2), rfl, ⟨rfl, hw_3.1, hw_3.2, hw_6.2⟩, by rw [ht]; exact hP9, hD9⟩, hS.F ht⟩) hS.2.2 d_X_beside_26

theorem d_X_box_0 : decode b_X_box 0 = .ok (.iload_n 1, 1) := by decide +kernel
theorem d_X_box_1 : decode b_X_box 1 = .ok (.ifCond .lt 14, 3) := by decide +kernel
theorem d_X_box_4 : decode b_X_box 4 = .ok (.iload_n 1, 1) := by decide +kernel
theorem d_X_box_5 : decode b_X_box 5 = .ok (.aload_n 0, 1) := by decide +kernel
theorem d_X_box_6 : decode b_X_box 6 = .ok (.getfield 19, 3) := by decide +kernel
theorem d_X_box_9 : decode b_X_box 9 = .ok (.getfield 61, 3) := by decide +kernel
theorem d_X_box_12 : decode b_X_box 12 = .ok (.if_icmp .lt 13, 3) := by decide +kernel
theorem d_X_box_15 : decode b_X_box 15 = .ok (.new 136, 3) := by decide +kernel
theorem d_X_box_18 : decode b_X_box 18 = .ok (.dup, 1) := by decide +kernel
theorem d_X_box_19 : decode b_X_box 19 = .ok (.ldc 138, 2) := by decide +kernel
theorem d_X_box_21 : decode b_X_box 21 = .ok (.invokespecial 140, 3) := by decide +kernel
theorem d_X_box_24 : decode b_X_box 24 = .ok (.athrow, 1) := by decide +kernel
theorem d_X_box_25 : decode b_X_box 25 = .ok (.aload_n 0, 1) := by decide +kernel
theorem d_X_box_26 : decode b_X_box 26 = .ok (.getfield 19, 3) := by decide +kernel
theorem d_X_box_29 : decode b_X_box 29 = .ok (.iload_n 1, 1) := by decide +kernel
theorem d_X_box_30 : decode b_X_box 30 = .ok (.invokevirtual 141, 3) := by decide +kernel
theorem d_X_box_33 : decode b_X_box 33 = .ok (.ireturn, 1) := by decide +kernel

def rm_X_boxN : Room := { frames := 1, cells := 0, slots := 0, locals := 21 }
set_option maxHeartbeats 4000000 in
set_option maxRecDepth 100000 in
theorem c_X_boxN (l : Launch) (D : va_G) (cI cL cB : ClassId) (tS tF : Nat) (x : Nat) (t1 : Nat) (t2 : Nat) (t3 : Nat) (qi : Nat) (hg : Nat) (hh : Nat) (cu : Int32) (num : Int64) (se : Int32) (op : Int32) (fa : Int32) (v3 : Nat) (len3 : Nat) (cp3 : Nat) (f3 : Nat → Int32) (i : Nat) (hl3 : len3 ≤ cp3) (hc3 : cp3 ≤ 50000) (hf3 : ∀ x, fits .byte (.int (f3 x)) = true) (hi : i < len3) : Met l y_X_box (sbw y_X_box b_X_box 2 (some .int)) rm_X_boxN (sbPr D cI cL cB tS tF [.ref x, .int (nI i)] [(x, .inr (6, [.ref t1, .ref t2, .ref t3, .ref qi, .ref hg, .ref hh, .null, .int cu, .long num, .int se, .int op, .int fa])), (t3, .inr (5, [.ref v3, .int (nI len3)])), (v3, .inl (cB, cp3, .inl f3))]) (vp_Si (fun r => r = rget f3 len3 (nI i))) 0 0 (fun _ => False) := by
  refine sb_ofR (by decide) (Nat.le_of_ble_eq_true rfl) ?_
  intro p e s m args below meth c ls hx hb hr hml hts hown hlocks hP hG hS hl
  have hl : lv_has ls 2 [(0, .ref x), (1, .int (nI i))] := hl
  refine lv_iload_n hx hb d_X_box_0 rfl (lv_at hl 1 rfl) ?_
  refine lv_if_lt (tgt := 15) hx hb d_X_box_1 (by decide) (fun c_1 => absurd c_1 (nI_pos (by omega))) (fun c_1 => ?_)
  refine lv_iload_n hx hb d_X_box_4 rfl (lv_at hl 1 rfl) ?_
  refine lv_aload_n hx hb d_X_box_5 rfl (lv_at hl 0 rfl) ?_
  refine va_get (D := D) (ci := 6) (v := .ref t3) (C := R_X) (T := F_X) (N := 12) hx hb hts in_X hown hG.1 hP 0 rfl rfl 2 (by decide) (hts _ k_205) (fun _ h9 => h9) rfl d_X_box_6 ?_
  refine va_getN (D := D) (ci := 5) (v := .int (nI len3)) (C := R_R) (T := F_R) (N := 2) hx hb hts in_R hown hG.1 hP 1 rfl rfl 1 (by decide) (hG.nest _ n_59) (fun _ h9 => h9) rfl d_X_box_9 ?_
  refine lv_icmp_lt (tgt := 25) hx hb d_X_box_12 (by decide) (fun c_2 => ?_) (fun c_2 => absurd (sb_ltT (a := i) (b := len3) rfl rfl (by omega) (by omega) (by omega)) c_2)
  refine lv_aload_n hx hb d_X_box_25 rfl (lv_at hl 0 rfl) ?_
  refine va_get (D := D) (ci := 6) (v := .ref t3) (C := R_X) (T := F_X) (N := 12) hx hb hts in_X hown hG.1 hP 0 rfl rfl 2 (by decide) (hts _ k_205) (fun _ h9 => h9) rfl d_X_box_26 ?_
  refine lv_iload_n hx hb d_X_box_29 rfl (lv_at hl 1 rfl) ?_
  refine vp_callSi (va_runV (As := [.int (nI i)]) (rest := []) ⟨hx, hb, hml, hown, hts⟩ (c_R_get l D cI cL cB tS tF t3 v3 len3 cp3 f3 (nI i) hl3 (by omega)) (cwV 1 hts (sb_gV k_678 k_429 k_430 k_23 k_431) rfl rfl rfl (by decide +kernel) ⟨Nat.le_of_ble_eq_true rfl, Nat.le_of_ble_eq_true rfl⟩) (sb_rV hG hP hS [1, 2] rfl (ci := 5) (q0 := 1) rfl rfl) rfl rfl hl.1 rfl (lv_room (Nat.le_of_ble_eq_true rfl)) d_X_box_30 ⟨Nat.le_of_ble_eq_true rfl, Nat.le_of_ble_eq_true rfl⟩).run (fun r_3 er_3 => ?_)
  subst er_3
  exact W.iret (v := rget f3 len3 (nI i)) hx hb hr (fun t ht hW => ⟨_, rfl, rfl, ht⟩) hS.2.2 d_X_box_33

theorem d_X_back_0 : decode b_X_back 0 = .ok (.iload_n 1, 1) := by decide +kernel
theorem d_X_back_1 : decode b_X_back 1 = .ok (.iconst (-1), 1) := by decide +kernel
theorem d_X_back_2 : decode b_X_back 2 = .ok (.if_icmp .lt 14, 3) := by decide +kernel
theorem d_X_back_5 : decode b_X_back 5 = .ok (.iload_n 1, 1) := by decide +kernel
theorem d_X_back_6 : decode b_X_back 6 = .ok (.aload_n 0, 1) := by decide +kernel
theorem d_X_back_7 : decode b_X_back 7 = .ok (.getfield 19, 3) := by decide +kernel
theorem d_X_back_10 : decode b_X_back 10 = .ok (.getfield 61, 3) := by decide +kernel
theorem d_X_back_13 : decode b_X_back 13 = .ok (.if_icmp .lt 13, 3) := by decide +kernel
theorem d_X_back_16 : decode b_X_back 16 = .ok (.new 136, 3) := by decide +kernel
theorem d_X_back_19 : decode b_X_back 19 = .ok (.dup, 1) := by decide +kernel
theorem d_X_back_20 : decode b_X_back 20 = .ok (.ldc 138, 2) := by decide +kernel
theorem d_X_back_22 : decode b_X_back 22 = .ok (.invokespecial 140, 3) := by decide +kernel
theorem d_X_back_25 : decode b_X_back 25 = .ok (.athrow, 1) := by decide +kernel
theorem d_X_back_26 : decode b_X_back 26 = .ok (.aload_n 0, 1) := by decide +kernel
theorem d_X_back_27 : decode b_X_back 27 = .ok (.getfield 12, 3) := by decide +kernel
theorem d_X_back_30 : decode b_X_back 30 = .ok (.aload_n 0, 1) := by decide +kernel
theorem d_X_back_31 : decode b_X_back 31 = .ok (.getfield 19, 3) := by decide +kernel
theorem d_X_back_34 : decode b_X_back 34 = .ok (.invokevirtual 103, 3) := by decide +kernel
theorem d_X_back_37 : decode b_X_back 37 = .ok (.iload_n 1, 1) := by decide +kernel
theorem d_X_back_38 : decode b_X_back 38 = .ok (.ifCond .lt 21, 3) := by decide +kernel
theorem d_X_back_41 : decode b_X_back 41 = .ok (.aload_n 0, 1) := by decide +kernel
theorem d_X_back_42 : decode b_X_back 42 = .ok (.getfield 12, 3) := by decide +kernel
theorem d_X_back_45 : decode b_X_back 45 = .ok (.iload_n 1, 1) := by decide +kernel
theorem d_X_back_46 : decode b_X_back 46 = .ok (.aload_n 0, 1) := by decide +kernel
theorem d_X_back_47 : decode b_X_back 47 = .ok (.getfield 12, 3) := by decide +kernel
theorem d_X_back_50 : decode b_X_back 50 = .ok (.iload_n 1, 1) := by decide +kernel
theorem d_X_back_51 : decode b_X_back 51 = .ok (.invokevirtual 141, 3) := by decide +kernel
theorem d_X_back_54 : decode b_X_back 54 = .ok (.iload_n 2, 1) := by decide +kernel
theorem d_X_back_55 : decode b_X_back 55 = .ok (.ixor, 1) := by decide +kernel
theorem d_X_back_56 : decode b_X_back 56 = .ok (.invokevirtual 145, 3) := by decide +kernel
theorem d_X_back_59 : decode b_X_back 59 = .ok (.aload_n 0, 1) := by decide +kernel
theorem d_X_back_60 : decode b_X_back 60 = .ok (.getfield 12, 3) := by decide +kernel
theorem d_X_back_63 : decode b_X_back 63 = .ok (.getfield 61, 3) := by decide +kernel
theorem d_X_back_66 : decode b_X_back 66 = .ok (.ireturn, 1) := by decide +kernel

def rm_X_backMN (mc ms : Nat) : Room := { frames := 4, cells := mc, slots := ms, locals := 82 }
set_option maxHeartbeats 4000000 in
set_option maxRecDepth 100000 in
theorem c_X_backMN (l : Launch) (D : va_G) (cI cL cB : ClassId) (tS tF : Nat) (x : Nat) (t1 : Nat) (t2 : Nat) (t3 : Nat) (qi : Nat) (hg : Nat) (hh : Nat) (cu : Int32) (num : Int64) (se : Int32) (op : Int32) (fa : Int32) (v1 : Nat) (len1 : Nat) (cp1 : Nat) (f1 : Nat → Int32) (v3 : Nat) (len3 : Nat) (cp3 : Nat) (f3 : Nat → Int32) (v : Int32) (sz : Nat) (hl1 : len1 ≤ cp1) (hc1 : cp1 ≤ 50000) (hf1 : ∀ x, fits .byte (.int (f1 x)) = true) (hl3 : len3 ≤ cp3) (hc3 : cp3 ≤ 50000) (hf3 : ∀ x, fits .byte (.int (f3 x)) = true) (hlim : len3 ≤ 20000) : Met l y_X_back (sbw y_X_back b_X_back 3 (some .int)) (rm_X_backMN 1 (rsz len3 cp1)) (sbPc D cI cL cB tS tF [.ref x, .int (-1), .int v] sz [(x, .inr (6, [.ref t1, .ref t2, .ref t3, .ref qi, .ref hg, .ref hh, .null, .int cu, .long num, .int se, .int op, .int fa])), (t1, .inr (5, [.ref v1, .int (nI len1)])), (v1, .inl (cB, cp1, .inl f1)), (t3, .inr (5, [.ref v3, .int (nI len3)])), (v3, .inl (cB, cp3, .inl f3))]) (sbQi D (fun (r : Int32) (u : Nat × (Nat → Int32)) => match u with | (nb, nf) => r = nI len3 ∧ (∀ j, j < len3 → nf j = f3 j) ∧ (∀ x, fits .byte (.int (nf x)) = true)) (fun (u : Nat × (Nat → Int32)) => match u with | (nb, nf) => [(x, .inr (6, [.ref t1, .ref t2, .ref t3, .ref qi, .ref hg, .ref hh, .null, .int cu, .long num, .int se, .int op, .int fa])), (t1, .inr (5, [.ref nb, .int (nI len3)])), (nb, .inl (cB, rnew len3 cp1, .inl nf)), (t3, .inr (5, [.ref v3, .int (nI len3)])), (v3, .inl (cB, cp3, .inl f3))]) (va_A [(x, .inr (6, [.ref t1, .ref t2, .ref t3, .ref qi, .ref hg, .ref hh, .null, .int cu, .long num, .int se, .int op, .int fa])), (t1, .inr (5, [.ref v1, .int (nI len1)])), (v1, .inl (cB, cp1, .inl f1)), (t3, .inr (5, [.ref v3, .int (nI len3)])), (v3, .inl (cB, cp3, .inl f3))] sz)) 1 (rsz len3 cp1) (va_A [(x, .inr (6, [.ref t1, .ref t2, .ref t3, .ref qi, .ref hg, .ref hh, .null, .int cu, .long num, .int se, .int op, .int fa])), (t1, .inr (5, [.ref v1, .int (nI len1)])), (v1, .inl (cB, cp1, .inl f1)), (t3, .inr (5, [.ref v3, .int (nI len3)])), (v3, .inl (cB, cp3, .inl f3))] sz) := by
  refine sb_ofW (Qc := fun A => (sbQi D (fun (r : Int32) (u : Nat × (Nat → Int32)) => match u with | (nb, nf) => r = nI len3 ∧ (∀ j, j < len3 → nf j = f3 j) ∧ (∀ x, fits .byte (.int (nf x)) = true)) (fun (u : Nat × (Nat → Int32)) => match u with | (nb, nf) => [(x, .inr (6, [.ref t1, .ref t2, .ref t3, .ref qi, .ref hg, .ref hh, .null, .int cu, .long num, .int se, .int op, .int fa])), (t1, .inr (5, [.ref nb, .int (nI len3)])), (nb, .inl (cB, rnew len3 cp1, .inl nf)), (t3, .inr (5, [.ref v3, .int (nI len3)])), (v3, .inl (cB, cp3, .inl f3))]) A)) (by decide) (Nat.le_of_ble_eq_true rfl) ?_
  intro p e s m args below meth c A ls hx hb hr hml hts hown hlocks hin hsz hP hG hD hA hS hl
  have hl : lv_has ls 3 [(0, .ref x), (1, .int (-1)), (2, .int v)] := hl
  refine lv_iload_n hx hb d_X_back_0 rfl (lv_at hl 1 rfl) ?_
  refine lv_iconst (v := (-1)) hx hb d_X_back_1 (by decide) ?_
  refine lv_icmp_lt (tgt := 16) hx hb d_X_back_2 (by decide) (fun c_1 => absurd c_1 (by decide)) (fun c_1 => ?_)
  refine lv_iload_n hx hb d_X_back_5 rfl (lv_at hl 1 rfl) ?_
  refine lv_aload_n hx hb d_X_back_6 rfl (lv_at hl 0 rfl) ?_
  refine va_get (D := D) (ci := 6) (v := .ref t3) (C := R_X) (T := F_X) (N := 12) hx hb hts in_X hown hG.1 hP 0 rfl rfl 2 (by decide) (hts _ k_205) (fun _ h9 => h9) rfl d_X_back_7 ?_
  refine va_getN (D := D) (ci := 5) (v := .int (nI len3)) (C := R_R) (T := F_R) (N := 2) hx hb hts in_R hown hG.1 hP 3 rfl rfl 1 (by decide) (hG.nest _ n_59) (fun _ h9 => h9) rfl d_X_back_10 ?_
  refine lv_icmp_lt (tgt := 26) hx hb d_X_back_13 (by decide) (fun c_2 => ?_) (fun c_2 => absurd (sb_m1lt (by omega)) c_2)
  refine lv_aload_n hx hb d_X_back_26 rfl (lv_at hl 0 rfl) ?_
  refine va_get (D := D) (ci := 6) (v := .ref t1) (C := R_X) (T := F_X) (N := 12) hx hb hts in_X hown hG.1 hP 0 rfl rfl 0 (by decide) (hts _ k_203) (fun _ h9 => h9) rfl d_X_back_27 ?_
  refine lv_aload_n hx hb d_X_back_30 rfl (lv_at hl 0 rfl) ?_
  refine va_get (D := D) (ci := 6) (v := .ref t3) (C := R_X) (T := F_X) (N := 12) hx hb hts in_X hown hG.1 hP 0 rfl rfl 2 (by decide) (hts _ k_205) (fun _ h9 => h9) rfl d_X_back_31 ?_
  refine sb_callv (wr := [(x, .inr (6, [.ref t1, .ref t2, .ref t3, .ref qi, .ref hg, .ref hh, .null, .int cu, .long num, .int se, .int op, .int fa]))]) (va_runV (As := [.ref t3]) (rest := []) ⟨hx, hb, hml, hown, hts⟩ (c_R_copyFrom l D cI cL cB tS tF t1 v1 len1 cp1 f1 t3 v3 len3 cp3 f3 _ hf1 hf3 (by omega) (by omega) (by omega) (by omega)) (cwV 1 hts (sb_gV k_248 k_249 k_250 k_23 k_251) rfl rfl rfl (by decide +kernel) ⟨Nat.le_of_ble_eq_true rfl, Nat.le_of_ble_eq_true rfl⟩) (sb_pV hG hP hD hS hA [1, 2, 3, 4] (by decide) rfl (ci := 5) (q0 := 1) rfl rfl) rfl rfl hl.1 rfl (lv_room (Nat.le_of_ble_eq_true rfl)) d_X_back_34 ⟨Nat.le_of_ble_eq_true rfl, Nat.le_of_eq (Nat.zero_add _)⟩) hP hD hS hA [1, 2, 3, 4] [0] rfl rfl (by decide) (by decide) (fun u H locs hw_5 hP hD hS => ?_)
  obtain ⟨nb_3, nf_4⟩ := u
  try dsimp only at hw_5
  have hP : va_P D vwCl [(x, .inr (6, [.ref t1, .ref t2, .ref t3, .ref qi, .ref hg, .ref hh, .null, .int cu, .long num, .int se, .int op, .int fa])), (t1, .inr (5, [.ref nb_3, .int (nI len3)])), (nb_3, .inl (cB, rnew len3 cp1, .inl nf_4)), (t3, .inr (5, [.ref v3, .int (nI len3)])), (v3, .inl (cB, cp3, .inl f3))] H := hP
  have hD : va_D A [(x, .inr (6, [.ref t1, .ref t2, .ref t3, .ref qi, .ref hg, .ref hh, .null, .int cu, .long num, .int se, .int op, .int fa])), (t1, .inr (5, [.ref nb_3, .int (nI len3)])), (nb_3, .inl (cB, rnew len3 cp1, .inl nf_4)), (t3, .inr (5, [.ref v3, .int (nI len3)])), (v3, .inl (cB, cp3, .inl f3))] := hD
  refine W.widen (k := 1) (n := 0 + rsz len3 cp1) (by omega) (by omega) ?_
  have hgeA := rnew_le len3 cp1
  have hcapA := rnew_cap len3 cp1 (by omega) (by omega)
  refine lv_iload_n hx hb d_X_back_37 rfl (lv_at hl 1 rfl) ?_
  refine lv_if_lt (tgt := 59) hx hb d_X_back_38 (by decide) (fun c_6 => ?_) (fun c_6 => absurd (by decide) c_6)
  refine lv_aload_n hx hb d_X_back_59 rfl (lv_at hl 0 rfl) ?_
  refine va_get (D := D) (ci := 6) (v := .ref t1) (C := R_X) (T := F_X) (N := 12) hx hb hts in_X hown hG.1 hP 0 rfl rfl 0 (by decide) (hts _ k_203) (fun _ h9 => h9) rfl d_X_back_60 ?_
  refine va_getN (D := D) (ci := 5) (v := .int (nI len3)) (C := R_R) (T := F_R) (N := 2) hx hb hts in_R hown hG.1 hP 1 rfl rfl 1 (by decide) (hG.nest _ n_59) (fun _ h9 => h9) rfl d_X_back_63 ?_
  have hP9 := hP.sub (ws' := [(x, .inr (6, [.ref t1, .ref t2, .ref t3, .ref qi, .ref hg, .ref hh, .null, .int cu, .long num, .int se, .int op, .int fa])), (t1, .inr (5, [.ref nb_3, .int (nI len3)])), (nb_3, .inl (cB, rnew len3 cp1, .inl nf_4)), (t3, .inr (5, [.ref v3, .int (nI len3)])), (v3, .inl (cB, cp3, .inl f3))]) [0, 1, 2, 3, 4] rfl
  have hD9 := hD.sub (ws' := [(x, .inr (6, [.ref t1, .ref t2, .ref t3, .ref qi, .ref hg, .ref hh, .null, .int cu, .long num, .int se, .int op, .int fa])), (t1, .inr (5, [.ref nb_3, .int (nI len3)])), (nb_3, .inl (cB, rnew len3 cp1, .inl nf_4)), (t3, .inr (5, [.ref v3, .int (nI len3)])), (v3, .inl (cB, cp3, .inl f3))]) [0, 1, 2, 3, 4] (by decide) rfl
  refine W.widen (k := 1) (n := rsz len3 cp1) (by omega) (by omega) ?_
  exact W.iret (v := nI len3) hx hb hr (fun t ht hW => ⟨⟨_, (nb_3, nf_4), rfl, ⟨rfl, hw_5⟩, by rw [ht]; exact hP9, hD9⟩, hS.F ht⟩) hS.2.2 d_X_back_66

def rm_X_backN (mc ms : Nat) : Room := { frames := 4, cells := mc, slots := ms, locals := 82 }
set_option maxHeartbeats 4000000 in
set_option maxRecDepth 100000 in
theorem c_X_backN (l : Launch) (D : va_G) (cI cL cB : ClassId) (tS tF : Nat) (x : Nat) (t1 : Nat) (t2 : Nat) (t3 : Nat) (qi : Nat) (hg : Nat) (hh : Nat) (cu : Int32) (num : Int64) (se : Int32) (op : Int32) (fa : Int32) (v1 : Nat) (len1 : Nat) (cp1 : Nat) (f1 : Nat → Int32) (v3 : Nat) (len3 : Nat) (cp3 : Nat) (f3 : Nat → Int32) (i : Nat) (v : Int32) (sz : Nat) (hl1 : len1 ≤ cp1) (hc1 : cp1 ≤ 50000) (hf1 : ∀ x, fits .byte (.int (f1 x)) = true) (hl3 : len3 ≤ cp3) (hc3 : cp3 ≤ 50000) (hf3 : ∀ x, fits .byte (.int (f3 x)) = true) (hlim : len3 ≤ 20000) (hi : i < len3) : Met l y_X_back (sbw y_X_back b_X_back 3 (some .int)) (rm_X_backN 1 (rsz len3 cp1)) (sbPc D cI cL cB tS tF [.ref x, .int (nI i), .int v] sz [(x, .inr (6, [.ref t1, .ref t2, .ref t3, .ref qi, .ref hg, .ref hh, .null, .int cu, .long num, .int se, .int op, .int fa])), (t1, .inr (5, [.ref v1, .int (nI len1)])), (v1, .inl (cB, cp1, .inl f1)), (t3, .inr (5, [.ref v3, .int (nI len3)])), (v3, .inl (cB, cp3, .inl f3))]) (sbQi D (fun (r : Int32) (u : Nat × (Nat → Int32)) => match u with | (nb, nf) => r = nI len3 ∧ (∀ j, j < len3 → nf j = f3 j) ∧ (∀ x, fits .byte (.int (nf x)) = true)) (fun (u : Nat × (Nat → Int32)) => match u with | (nb, nf) => [(x, .inr (6, [.ref t1, .ref t2, .ref t3, .ref qi, .ref hg, .ref hh, .null, .int cu, .long num, .int se, .int op, .int fa])), (t1, .inr (5, [.ref nb, .int (nI len3)])), (nb, .inl (cB, rnew len3 cp1, .inl (rset nf len3 (nI i) (rget nf len3 (nI i) ^^^ v)))), (t3, .inr (5, [.ref v3, .int (nI len3)])), (v3, .inl (cB, cp3, .inl f3))]) (va_A [(x, .inr (6, [.ref t1, .ref t2, .ref t3, .ref qi, .ref hg, .ref hh, .null, .int cu, .long num, .int se, .int op, .int fa])), (t1, .inr (5, [.ref v1, .int (nI len1)])), (v1, .inl (cB, cp1, .inl f1)), (t3, .inr (5, [.ref v3, .int (nI len3)])), (v3, .inl (cB, cp3, .inl f3))] sz)) 1 (rsz len3 cp1) (va_A [(x, .inr (6, [.ref t1, .ref t2, .ref t3, .ref qi, .ref hg, .ref hh, .null, .int cu, .long num, .int se, .int op, .int fa])), (t1, .inr (5, [.ref v1, .int (nI len1)])), (v1, .inl (cB, cp1, .inl f1)), (t3, .inr (5, [.ref v3, .int (nI len3)])), (v3, .inl (cB, cp3, .inl f3))] sz) := by
  refine sb_ofW (Qc := fun A => (sbQi D (fun (r : Int32) (u : Nat × (Nat → Int32)) => match u with | (nb, nf) => r = nI len3 ∧ (∀ j, j < len3 → nf j = f3 j) ∧ (∀ x, fits .byte (.int (nf x)) = true)) (fun (u : Nat × (Nat → Int32)) => match u with | (nb, nf) => [(x, .inr (6, [.ref t1, .ref t2, .ref t3, .ref qi, .ref hg, .ref hh, .null, .int cu, .long num, .int se, .int op, .int fa])), (t1, .inr (5, [.ref nb, .int (nI len3)])), (nb, .inl (cB, rnew len3 cp1, .inl (rset nf len3 (nI i) (rget nf len3 (nI i) ^^^ v)))), (t3, .inr (5, [.ref v3, .int (nI len3)])), (v3, .inl (cB, cp3, .inl f3))]) A)) (by decide) (Nat.le_of_ble_eq_true rfl) ?_
  intro p e s m args below meth c A ls hx hb hr hml hts hown hlocks hin hsz hP hG hD hA hS hl
  have hl : lv_has ls 3 [(0, .ref x), (1, .int (nI i)), (2, .int v)] := hl
  refine lv_iload_n hx hb d_X_back_0 rfl (lv_at hl 1 rfl) ?_
  refine lv_iconst (v := (-1)) hx hb d_X_back_1 (by decide) ?_
  refine lv_icmp_lt (tgt := 16) hx hb d_X_back_2 (by decide) (fun c_1 => absurd c_1 (sb_ltm1 (by omega))) (fun c_1 => ?_)
  refine lv_iload_n hx hb d_X_back_5 rfl (lv_at hl 1 rfl) ?_
  refine lv_aload_n hx hb d_X_back_6 rfl (lv_at hl 0 rfl) ?_
  refine va_get (D := D) (ci := 6) (v := .ref t3) (C := R_X) (T := F_X) (N := 12) hx hb hts in_X hown hG.1 hP 0 rfl rfl 2 (by decide) (hts _ k_205) (fun _ h9 => h9) rfl d_X_back_7 ?_
  refine va_getN (D := D) (ci := 5) (v := .int (nI len3)) (C := R_R) (T := F_R) (N := 2) hx hb hts in_R hown hG.1 hP 3 rfl rfl 1 (by decide) (hG.nest _ n_59) (fun _ h9 => h9) rfl d_X_back_10 ?_
  refine lv_icmp_lt (tgt := 26) hx hb d_X_back_13 (by decide) (fun c_2 => ?_) (fun c_2 => absurd (sb_ltT (a := i) (b := len3) rfl rfl (by omega) (by omega) (by omega)) c_2)
  refine lv_aload_n hx hb d_X_back_26 rfl (lv_at hl 0 rfl) ?_
  refine va_get (D := D) (ci := 6) (v := .ref t1) (C := R_X) (T := F_X) (N := 12) hx hb hts in_X hown hG.1 hP 0 rfl rfl 0 (by decide) (hts _ k_203) (fun _ h9 => h9) rfl d_X_back_27 ?_
  refine lv_aload_n hx hb d_X_back_30 rfl (lv_at hl 0 rfl) ?_
  refine va_get (D := D) (ci := 6) (v := .ref t3) (C := R_X) (T := F_X) (N := 12) hx hb hts in_X hown hG.1 hP 0 rfl rfl 2 (by decide) (hts _ k_205) (fun _ h9 => h9) rfl d_X_back_31 ?_
  refine sb_callv (wr := [(x, .inr (6, [.ref t1, .ref t2, .ref t3, .ref qi, .ref hg, .ref hh, .null, .int cu, .long num, .int se, .int op, .int fa]))]) (va_runV (As := [.ref t3]) (rest := []) ⟨hx, hb, hml, hown, hts⟩ (c_R_copyFrom l D cI cL cB tS tF t1 v1 len1 cp1 f1 t3 v3 len3 cp3 f3 _ hf1 hf3 (by omega) (by omega) (by omega) (by omega)) (cwV 1 hts (sb_gV k_248 k_249 k_250 k_23 k_251) rfl rfl rfl (by decide +kernel) ⟨Nat.le_of_ble_eq_true rfl, Nat.le_of_ble_eq_true rfl⟩) (sb_pV hG hP hD hS hA [1, 2, 3, 4] (by decide) rfl (ci := 5) (q0 := 1) rfl rfl) rfl rfl hl.1 rfl (lv_room (Nat.le_of_ble_eq_true rfl)) d_X_back_34 ⟨Nat.le_of_ble_eq_true rfl, Nat.le_of_eq (Nat.zero_add _)⟩) hP hD hS hA [1, 2, 3, 4] [0] rfl rfl (by decide) (by decide) (fun u H locs hw_5 hP hD hS => ?_)
  obtain ⟨nb_3, nf_4⟩ := u
  try dsimp only at hw_5
  have hP : va_P D vwCl [(x, .inr (6, [.ref t1, .ref t2, .ref t3, .ref qi, .ref hg, .ref hh, .null, .int cu, .long num, .int se, .int op, .int fa])), (t1, .inr (5, [.ref nb_3, .int (nI len3)])), (nb_3, .inl (cB, rnew len3 cp1, .inl nf_4)), (t3, .inr (5, [.ref v3, .int (nI len3)])), (v3, .inl (cB, cp3, .inl f3))] H := hP
  have hD : va_D A [(x, .inr (6, [.ref t1, .ref t2, .ref t3, .ref qi, .ref hg, .ref hh, .null, .int cu, .long num, .int se, .int op, .int fa])), (t1, .inr (5, [.ref nb_3, .int (nI len3)])), (nb_3, .inl (cB, rnew len3 cp1, .inl nf_4)), (t3, .inr (5, [.ref v3, .int (nI len3)])), (v3, .inl (cB, cp3, .inl f3))] := hD
  refine W.widen (k := 1) (n := 0 + rsz len3 cp1) (by omega) (by omega) ?_
  have hgeA := rnew_le len3 cp1
  have hcapA := rnew_cap len3 cp1 (by omega) (by omega)
  refine lv_iload_n hx hb d_X_back_37 rfl (lv_at hl 1 rfl) ?_
  refine lv_if_lt (tgt := 59) hx hb d_X_back_38 (by decide) (fun c_6 => absurd c_6 (nI_pos (by omega))) (fun c_6 => ?_)
  refine lv_aload_n hx hb d_X_back_41 rfl (lv_at hl 0 rfl) ?_
  refine va_get (D := D) (ci := 6) (v := .ref t1) (C := R_X) (T := F_X) (N := 12) hx hb hts in_X hown hG.1 hP 0 rfl rfl 0 (by decide) (hts _ k_203) (fun _ h9 => h9) rfl d_X_back_42 ?_
  refine lv_iload_n hx hb d_X_back_45 rfl (lv_at hl 1 rfl) ?_
  refine lv_aload_n hx hb d_X_back_46 rfl (lv_at hl 0 rfl) ?_
  refine va_get (D := D) (ci := 6) (v := .ref t1) (C := R_X) (T := F_X) (N := 12) hx hb hts in_X hown hG.1 hP 0 rfl rfl 0 (by decide) (hts _ k_203) (fun _ h9 => h9) rfl d_X_back_47 ?_
  refine lv_iload_n hx hb d_X_back_50 rfl (lv_at hl 1 rfl) ?_
  refine vp_callSi (va_runV (As := [.int (nI i)]) (rest := [.int (nI i), .ref t1]) ⟨hx, hb, hml, hown, hts⟩ (c_R_get l D cI cL cB tS tF t1 nb_3 len3 (rnew len3 cp1) nf_4 (nI i) hgeA (by omega)) (cwV 1 hts (sb_gV k_678 k_429 k_430 k_23 k_431) rfl rfl rfl (by decide +kernel) ⟨Nat.le_of_ble_eq_true rfl, Nat.le_of_ble_eq_true rfl⟩) (sb_rV hG hP hS [1, 2] rfl (ci := 5) (q0 := 1) rfl rfl) rfl rfl hl.1 rfl (lv_room (Nat.le_of_ble_eq_true rfl)) d_X_back_51 ⟨by show 1 + 0 ≤ 1; omega, by show 0 + rsz len3 cp1 + 0 ≤ rsz len3 cp1; omega⟩).run (fun r_7 er_7 => ?_)
  subst er_7
  refine lv_iload_n hx hb d_X_back_54 rfl (lv_at hl 2 rfl) ?_
  refine lv_ixor hx hb d_X_back_55 ?_
  refine sb_callv (wr := [(x, .inr (6, [.ref t1, .ref t2, .ref t3, .ref qi, .ref hg, .ref hh, .null, .int cu, .long num, .int se, .int op, .int fa])), (t3, .inr (5, [.ref v3, .int (nI len3)])), (v3, .inl (cB, cp3, .inl f3))]) (va_runV (As := [.int (nI i), .int ((rget nf_4 len3 (nI i)) ^^^ v)]) (rest := []) ⟨hx, hb, hml, hown, hts⟩ (c_R_set l D cI cL cB tS tF t1 nb_3 len3 (rnew len3 cp1) nf_4 (nI i) ((rget nf_4 len3 (nI i)) ^^^ v) _ hgeA (by omega)) (cwV 2 hts (sb_gV k_679 k_368 k_369 k_23 k_370) rfl rfl rfl (by decide +kernel) ⟨Nat.le_of_ble_eq_true rfl, Nat.le_of_ble_eq_true rfl⟩) (sb_pV hG hP hD hS hA [1, 2] (by decide) rfl (ci := 5) (q0 := 1) rfl rfl) rfl rfl hl.1 rfl (lv_room (Nat.le_of_ble_eq_true rfl)) d_X_back_56 ⟨by show 1 + 0 ≤ 1; omega, by show 0 + rsz len3 cp1 + 0 ≤ rsz len3 cp1; omega⟩) hP hD hS hA [1, 2] [0, 3, 4] rfl rfl (by decide) (by decide) (fun u H locs hw_8 hP hD hS => ?_)
  have hP : va_P D vwCl [(x, .inr (6, [.ref t1, .ref t2, .ref t3, .ref qi, .ref hg, .ref hh, .null, .int cu, .long num, .int se, .int op, .int fa])), (t3, .inr (5, [.ref v3, .int (nI len3)])), (v3, .inl (cB, cp3, .inl f3)), (t1, .inr (5, [.ref nb_3, .int (nI len3)])), (nb_3, .inl (cB, (rnew len3 cp1), .inl (rset nf_4 len3 (nI i) ((rget nf_4 len3 (nI i)) ^^^ v))))] H := hP
  have hD : va_D A [(x, .inr (6, [.ref t1, .ref t2, .ref t3, .ref qi, .ref hg, .ref hh, .null, .int cu, .long num, .int se, .int op, .int fa])), (t3, .inr (5, [.ref v3, .int (nI len3)])), (v3, .inl (cB, cp3, .inl f3)), (t1, .inr (5, [.ref nb_3, .int (nI len3)])), (nb_3, .inl (cB, (rnew len3 cp1), .inl (rset nf_4 len3 (nI i) ((rget nf_4 len3 (nI i)) ^^^ v))))] := hD
  refine lv_aload_n hx hb d_X_back_59 rfl (lv_at hl 0 rfl) ?_
  refine va_get (D := D) (ci := 6) (v := .ref t1) (C := R_X) (T := F_X) (N := 12) hx hb hts in_X hown hG.1 hP 0 rfl rfl 0 (by decide) (hts _ k_203) (fun _ h9 => h9) rfl d_X_back_60 ?_
  refine va_getN (D := D) (ci := 5) (v := .int (nI len3)) (C := R_R) (T := F_R) (N := 2) hx hb hts in_R hown hG.1 hP 3 rfl rfl 1 (by decide) (hG.nest _ n_59) (fun _ h9 => h9) rfl d_X_back_63 ?_
  have hP9 := hP.sub (ws' := [(x, .inr (6, [.ref t1, .ref t2, .ref t3, .ref qi, .ref hg, .ref hh, .null, .int cu, .long num, .int se, .int op, .int fa])), (t1, .inr (5, [.ref nb_3, .int (nI len3)])), (nb_3, .inl (cB, (rnew len3 cp1), .inl (rset nf_4 len3 (nI i) ((rget nf_4 len3 (nI i)) ^^^ v)))), (t3, .inr (5, [.ref v3, .int (nI len3)])), (v3, .inl (cB, cp3, .inl f3))]) [0, 3, 4, 1, 2] rfl
  have hD9 := hD.sub (ws' := [(x, .inr (6, [.ref t1, .ref t2, .ref t3, .ref qi, .ref hg, .ref hh, .null, .int cu, .long num, .int se, .int op, .int fa])), (t1, .inr (5, [.ref nb_3, .int (nI len3)])), (nb_3, .inl (cB, (rnew len3 cp1), .inl (rset nf_4 len3 (nI i) ((rget nf_4 len3 (nI i)) ^^^ v)))), (t3, .inr (5, [.ref v3, .int (nI len3)])), (v3, .inl (cB, cp3, .inl f3))]) [0, 3, 4, 1, 2] (by decide) rfl
  refine W.widen (k := 1) (n := rsz len3 cp1) (by omega) (by omega) ?_
  exact W.iret (v := nI len3) hx hb hr (fun t ht hW => ⟨⟨_, (nb_3, nf_4), rfl, ⟨rfl, hw_5⟩, by rw [ht]; exact hP9, hD9⟩, hS.F ht⟩) hS.2.2 d_X_back_66

def rm_X_numberR : Room := { frames := 0, cells := 0, slots := 0, locals := 0 }
set_option maxHeartbeats 4000000 in
set_option maxRecDepth 100000 in
theorem c_X_numberR (l : Launch) (D : va_G) (cI cL cB : ClassId) (tS tF : Nat) (x : Nat) (t1 : Nat) (t2 : Nat) (t3 : Nat) (qi : Nat) (hg : Nat) (hh : Nat) (cu : Int32) (num : Int64) (se : Int32) (op : Int32) (fa : Int32) (iu : Nat) (v : Int64) (sz : Nat)  : Met l y_X_number (sbw y_X_number b_X_number 3 none) rm_X_numberR (sbPc D cI cL cB tS tF [.ref x, .long v] sz [(x, .inr (6, [.ref t1, .ref t2, .ref t3, .ref qi, .ref hg, .ref hh, .ref iu, .int cu, .long num, .int se, .int op, .int fa]))]) (sbQv D (fun (_ : Unit) => True) (fun (_ : Unit) => [(x, .inr (6, [.ref t1, .ref t2, .ref t3, .ref qi, .ref hg, .ref hh, .ref iu, .int cu, .long v, .int se, .int op, .int fa]))]) (va_A [(x, .inr (6, [.ref t1, .ref t2, .ref t3, .ref qi, .ref hg, .ref hh, .ref iu, .int cu, .long num, .int se, .int op, .int fa]))] sz)) 0 0 (va_A [(x, .inr (6, [.ref t1, .ref t2, .ref t3, .ref qi, .ref hg, .ref hh, .ref iu, .int cu, .long num, .int se, .int op, .int fa]))] sz) := by
  refine sb_ofW (Qc := fun A => (sbQv D (fun (_ : Unit) => True) (fun (_ : Unit) => [(x, .inr (6, [.ref t1, .ref t2, .ref t3, .ref qi, .ref hg, .ref hh, .ref iu, .int cu, .long v, .int se, .int op, .int fa]))]) A)) (by decide) (Nat.le_of_ble_eq_true rfl) ?_
  intro p e s m args below meth c A ls hx hb hr hml hts hown hlocks hin hsz hP hG hD hA hS hl
  have hl : lv_has ls 3 [(0, .ref x), (1, .long v)] := hl
  refine lv_aload_n hx hb d_X_number_0 rfl (lv_at hl 0 rfl) ?_
  refine lv_lload_n hx hb d_X_number_1 rfl (lv_at hl 1 rfl) ?_
  refine va_put (D := D) (ci := 6) (v := .long v) (ty := .long) (C := R_X) (T := F_X) (N := 12) hx hb hts in_X tq_X tq_X_ok nq_X hown hG.1 hP hD hS 0 rfl rfl 8 (by decide) (hts _ k_211) (fun _ h9 => h9) rfl (by decide +kernel) rfl rfl (Nat.le_of_ble_eq_true rfl) d_X_number_2 (fun H locs hP hD hS => ?_)
  have hP : va_P D vwCl [(x, .inr (6, [.ref t1, .ref t2, .ref t3, .ref qi, .ref hg, .ref hh, .ref iu, .int cu, .long v, .int se, .int op, .int fa]))] H := hP
  have hD : va_D A [(x, .inr (6, [.ref t1, .ref t2, .ref t3, .ref qi, .ref hg, .ref hh, .ref iu, .int cu, .long v, .int se, .int op, .int fa]))] := hD
  have hP9 := hP.sub (ws' := [(x, .inr (6, [.ref t1, .ref t2, .ref t3, .ref qi, .ref hg, .ref hh, .ref iu, .int cu, .long v, .int se, .int op, .int fa]))]) [0] rfl
  have hD9 := hD.sub (ws' := [(x, .inr (6, [.ref t1, .ref t2, .ref t3, .ref qi, .ref hg, .ref hh, .ref iu, .int cu, .long v, .int se, .int op, .int fa]))]) [0] (by decide) rfl
  exact W.vret hx hb hr (fun t ht hW => ⟨⟨(), rfl, trivial, by rw [ht]; exact hP9, hD9⟩, hS.F ht⟩) hS.2.2 d_X_number_5

def rm_X_numberedR : Room := { frames := 0, cells := 0, slots := 0, locals := 0 }
set_option maxHeartbeats 4000000 in
set_option maxRecDepth 100000 in
theorem c_X_numberedR (l : Launch) (D : va_G) (cI cL cB : ClassId) (tS tF : Nat) (x : Nat) (t1 : Nat) (t2 : Nat) (t3 : Nat) (qi : Nat) (hg : Nat) (hh : Nat) (cu : Int32) (num : Int64) (se : Int32) (op : Int32) (fa : Int32) (iu : Nat)  : Met l y_X_numbered (sbw y_X_numbered b_X_numbered 1 (some .long)) rm_X_numberedR (sbPr D cI cL cB tS tF [.ref x] [(x, .inr (6, [.ref t1, .ref t2, .ref t3, .ref qi, .ref hg, .ref hh, .ref iu, .int cu, .long num, .int se, .int op, .int fa]))]) (vp_Sl (fun r => r = num)) 0 0 (fun _ => False) := by
  refine sb_ofR (by decide) (Nat.le_of_ble_eq_true rfl) ?_
  intro p e s m args below meth c ls hx hb hr hml hts hown hlocks hP hG hS hl
  have hl : lv_has ls 1 [(0, .ref x)] := hl
  refine lv_aload_n hx hb d_X_numbered_0 rfl (lv_at hl 0 rfl) ?_
  refine va_get (D := D) (ci := 6) (v := .long num) (C := R_X) (T := F_X) (N := 12) hx hb hts in_X hown hG.1 hP 0 rfl rfl 8 (by decide) (hts _ k_211) (fun _ h9 => h9) rfl d_X_numbered_1 ?_
  exact W.lret (v := num) hx hb hr (fun t ht hW => ⟨_, rfl, (by subst_vars; rfl), ht⟩) hS.2.2 d_X_numbered_4

def rm_X_countR : Room := { frames := 0, cells := 0, slots := 0, locals := 0 }
set_option maxHeartbeats 4000000 in
set_option maxRecDepth 100000 in
theorem c_X_countR (l : Launch) (D : va_G) (cI cL cB : ClassId) (tS tF : Nat) (x : Nat) (t1 : Nat) (t2 : Nat) (t3 : Nat) (qi : Nat) (hg : Nat) (hh : Nat) (cu : Int32) (num : Int64) (se : Int32) (op : Int32) (fa : Int32) (iu : Nat) (gq0 : Nat) (gq1 : Nat) (gq2 : Nat) (ga : Nat) (gh : Nat) (gm : Nat) (gtu : Int32) (hq0 : Nat) (hq1 : Nat) (hq2 : Nat) (hq3 : Nat) (hq4 : Nat) (hq5 : Nat) (htu : Int32) (v1 : Nat) (len1 : Nat) (v2 : Nat) (len2 : Nat) (v3 : Nat) (len3 : Nat) (what : Int32)  : Met l y_X_count (sbw y_X_count b_X_count 2 (some .int)) rm_X_countR (sbPr D cI cL cB tS tF [.ref x, .int what] [(x, .inr (6, [.ref t1, .ref t2, .ref t3, .ref qi, .ref hg, .ref hh, .ref iu, .int cu, .long num, .int se, .int op, .int fa])), (t1, .inr (5, [.ref v1, .int (nI len1)])), (t2, .inr (5, [.ref v2, .int (nI len2)])), (t3, .inr (5, [.ref v3, .int (nI len3)])), (hg, .inr (1, [.ref gq0, .ref gq1, .ref gq2, .int 1, .int gtu, .ref ga, .ref gh, .ref gm])), (hh, .inr (2, [.ref hq0, .ref hq1, .ref hq2, .int 0, .int htu, .ref hq3, .ref hq4, .ref hq5]))]) (vp_Si (fun r => r = xcnt what (nI len1) (nI len3) (nI len2) cu (gtu + htu) se op fa)) 0 0 (fun _ => False) := by
  refine sb_ofR (by decide) (Nat.le_of_ble_eq_true rfl) ?_
  intro p e s m args below meth c ls hx hb hr hml hts hown hlocks hP hG hS hl
  have hl : lv_has ls 2 [(0, .ref x), (1, .int what)] := hl
  refine lv_iload_n hx hb d_X_count_0 rfl (lv_at hl 1 rfl) ?_
  rcases sb_sw8 what with rfl | rfl | rfl | rfl | rfl | rfl | rfl | rfl | hsw
  · refine lv_tableIn (tgt := 48) (off := 47) hx hb d_X_count_1 (by decide) (by decide) rfl (by decide) ?_
    refine lv_aload_n hx hb d_X_count_48 rfl (lv_at hl 0 rfl) ?_
    refine va_get (D := D) (ci := 6) (v := .ref t1) (C := R_X) (T := F_X) (N := 12) hx hb hts in_X hown hG.1 hP 0 rfl rfl 0 (by decide) (hts _ k_203) (fun _ h9 => h9) rfl d_X_count_49 ?_
    refine va_getN (D := D) (ci := 5) (v := .int (nI len1)) (C := R_R) (T := F_R) (N := 2) hx hb hts in_R hown hG.1 hP 1 rfl rfl 1 (by decide) (hG.nest _ n_59) (fun _ h9 => h9) rfl d_X_count_52 ?_
    exact W.iret (v := nI len1) hx hb hr (fun t ht hW => ⟨_, rfl, rfl, ht⟩) hS.2.2 d_X_count_55
  · refine lv_tableIn (tgt := 56) (off := 55) hx hb d_X_count_1 (by decide) (by decide) rfl (by decide) ?_
    refine lv_aload_n hx hb d_X_count_56 rfl (lv_at hl 0 rfl) ?_
    refine va_get (D := D) (ci := 6) (v := .ref t3) (C := R_X) (T := F_X) (N := 12) hx hb hts in_X hown hG.1 hP 0 rfl rfl 2 (by decide) (hts _ k_205) (fun _ h9 => h9) rfl d_X_count_57 ?_
    refine va_getN (D := D) (ci := 5) (v := .int (nI len3)) (C := R_R) (T := F_R) (N := 2) hx hb hts in_R hown hG.1 hP 3 rfl rfl 1 (by decide) (hG.nest _ n_59) (fun _ h9 => h9) rfl d_X_count_60 ?_
    exact W.iret (v := nI len3) hx hb hr (fun t ht hW => ⟨_, rfl, rfl, ht⟩) hS.2.2 d_X_count_63
  · refine lv_tableIn (tgt := 64) (off := 63) hx hb d_X_count_1 (by decide) (by decide) rfl (by decide) ?_
    refine lv_aload_n hx hb d_X_count_64 rfl (lv_at hl 0 rfl) ?_
    refine va_get (D := D) (ci := 6) (v := .ref t2) (C := R_X) (T := F_X) (N := 12) hx hb hts in_X hown hG.1 hP 0 rfl rfl 1 (by decide) (hts _ k_204) (fun _ h9 => h9) rfl d_X_count_65 ?_
    refine va_getN (D := D) (ci := 5) (v := .int (nI len2)) (C := R_R) (T := F_R) (N := 2) hx hb hts in_R hown hG.1 hP 2 rfl rfl 1 (by decide) (hG.nest _ n_59) (fun _ h9 => h9) rfl d_X_count_68 ?_
    exact W.iret (v := nI len2) hx hb hr (fun t ht hW => ⟨_, rfl, rfl, ht⟩) hS.2.2 d_X_count_71
  · refine lv_tableIn (tgt := 72) (off := 71) hx hb d_X_count_1 (by decide) (by decide) rfl (by decide) ?_
    refine lv_aload_n hx hb d_X_count_72 rfl (lv_at hl 0 rfl) ?_
    refine va_get (D := D) (ci := 6) (v := .int cu) (C := R_X) (T := F_X) (N := 12) hx hb hts in_X hown hG.1 hP 0 rfl rfl 7 (by decide) (hts _ k_210) (fun _ h9 => h9) rfl d_X_count_73 ?_
    exact W.iret (v := cu) hx hb hr (fun t ht hW => ⟨_, rfl, rfl, ht⟩) hS.2.2 d_X_count_76
  · refine lv_tableIn (tgt := 77) (off := 76) hx hb d_X_count_1 (by decide) (by decide) rfl (by decide) ?_
    refine lv_aload_n hx hb d_X_count_77 rfl (lv_at hl 0 rfl) ?_
    refine va_get (D := D) (ci := 6) (v := .ref hg) (C := R_X) (T := F_X) (N := 12) hx hb hts in_X hown hG.1 hP 0 rfl rfl 4 (by decide) (hts _ k_207) (fun _ h9 => h9) rfl d_X_count_78 ?_
    refine va_get (D := D) (ci := 1) (v := .int gtu) (C := R_G) (T := F_G) (N := 8) hx hb hts in_G hown hG.1 hP 4 rfl rfl 4 (by decide) (hts _ k_137) (fun x9 h9 => u_same (hts _ k_134) x9 h9) rfl d_X_count_81 ?_
    refine lv_aload_n hx hb d_X_count_84 rfl (lv_at hl 0 rfl) ?_
    refine va_get (D := D) (ci := 6) (v := .ref hh) (C := R_X) (T := F_X) (N := 12) hx hb hts in_X hown hG.1 hP 0 rfl rfl 5 (by decide) (hts _ k_208) (fun _ h9 => h9) rfl d_X_count_85 ?_
    refine va_get (D := D) (ci := 2) (v := .int htu) (C := R_H) (T := F_H) (N := 8) hx hb hts in_H hown hG.1 hP 5 rfl rfl 4 (by decide) (hts _ k_138) (fun x9 h9 => u_same (hts _ k_136) x9 h9) rfl d_X_count_88 ?_
    refine lv_iadd hx hb d_X_count_91 ?_
    exact W.iret (v := gtu + htu) hx hb hr (fun t ht hW => ⟨_, rfl, rfl, ht⟩) hS.2.2 d_X_count_92
  · refine lv_tableIn (tgt := 93) (off := 92) hx hb d_X_count_1 (by decide) (by decide) rfl (by decide) ?_
    refine lv_aload_n hx hb d_X_count_93 rfl (lv_at hl 0 rfl) ?_
    refine va_get (D := D) (ci := 6) (v := .int se) (C := R_X) (T := F_X) (N := 12) hx hb hts in_X hown hG.1 hP 0 rfl rfl 9 (by decide) (hts _ k_212) (fun _ h9 => h9) rfl d_X_count_94 ?_
    exact W.iret (v := se) hx hb hr (fun t ht hW => ⟨_, rfl, rfl, ht⟩) hS.2.2 d_X_count_97
  · refine lv_tableIn (tgt := 98) (off := 97) hx hb d_X_count_1 (by decide) (by decide) rfl (by decide) ?_
    refine lv_aload_n hx hb d_X_count_98 rfl (lv_at hl 0 rfl) ?_
    refine va_get (D := D) (ci := 6) (v := .int op) (C := R_X) (T := F_X) (N := 12) hx hb hts in_X hown hG.1 hP 0 rfl rfl 10 (by decide) (hts _ k_213) (fun _ h9 => h9) rfl d_X_count_99 ?_
    exact W.iret (v := op) hx hb hr (fun t ht hW => ⟨_, rfl, rfl, ht⟩) hS.2.2 d_X_count_102
  · refine lv_tableIn (tgt := 103) (off := 102) hx hb d_X_count_1 (by decide) (by decide) rfl (by decide) ?_
    refine lv_aload_n hx hb d_X_count_103 rfl (lv_at hl 0 rfl) ?_
    refine va_get (D := D) (ci := 6) (v := .int fa) (C := R_X) (T := F_X) (N := 12) hx hb hts in_X hown hG.1 hP 0 rfl rfl 11 (by decide) (hts _ k_214) (fun _ h9 => h9) rfl d_X_count_104 ?_
    exact W.iret (v := fa) hx hb hr (fun t ht hW => ⟨_, rfl, rfl, ht⟩) hS.2.2 d_X_count_107
  · refine lv_tableOut (tgt := 108) hx hb d_X_count_1 hsw (by decide) ?_
    refine lv_iconst (v := (-1)) hx hb d_X_count_108 (by decide) ?_
    exact W.iret (v := (-1)) hx hb hr (fun t ht hW => ⟨_, rfl, (xcnt_out hsw), ht⟩) hS.2.2 d_X_count_109

def rm_X_feedR (mc ms : Nat) : Room := { frames := 3, cells := mc, slots := ms, locals := 61 }
set_option maxHeartbeats 4000000 in
set_option maxRecDepth 100000 in
theorem c_X_feedR (l : Launch) (D : va_G) (cI cL cB : ClassId) (tS tF : Nat) (x : Nat) (t1 : Nat) (t2 : Nat) (t3 : Nat) (qi : Nat) (hg : Nat) (hh : Nat) (cu : Int32) (num : Int64) (se : Int32) (op : Int32) (fa : Int32) (iu : Nat) (v1 : Nat) (len1 : Nat) (cp1 : Nat) (f1 : Nat → Int32) (a : Int32) (b : Int32) (c0 : Int32) (d0 : Int32) (e0 : Int32) (sz : Nat) (hl1 : len1 ≤ cp1) (hc1 : cp1 ≤ 50000) (hf1 : ∀ x, fits .byte (.int (f1 x)) = true) (hlim : len1 ≤ 20000) : Met l y_X_feed (sbw y_X_feed b_X_feed 7 (some .int)) (rm_X_feedR 1 (rsz (len1 + 20) cp1)) (sbPc D cI cL cB tS tF [.ref x, .int a, .int b, .int c0, .int d0, .int e0] sz [(x, .inr (6, [.ref t1, .ref t2, .ref t3, .ref qi, .ref hg, .ref hh, .ref iu, .int cu, .long num, .int se, .int op, .int fa])), (t1, .inr (5, [.ref v1, .int (nI len1)])), (v1, .inl (cB, cp1, .inl f1))]) (sbQi D (fun (r : Int32) (u : Nat × (Nat → Int32)) => match u with | (nb, nf) => r = nI (len1 + 20) ∧ (∀ j, j < cp1 → nf j = f1 j) ∧ (∀ x, fits .byte (.int (nf x)) = true)) (fun (u : Nat × (Nat → Int32)) => match u with | (nb, nf) => [(x, .inr (6, [.ref t1, .ref t2, .ref t3, .ref qi, .ref hg, .ref hh, .ref iu, .int cu, .long num, .int se, .int op, .int fa])), (t1, .inr (5, [.ref nb, .int (nI (len1 + 20))])), (nb, .inl (cB, rnew (len1 + 20) cp1, .inl (feed5 nf (len1 + 20) len1 a b c0 d0 e0)))]) (va_A [(x, .inr (6, [.ref t1, .ref t2, .ref t3, .ref qi, .ref hg, .ref hh, .ref iu, .int cu, .long num, .int se, .int op, .int fa])), (t1, .inr (5, [.ref v1, .int (nI len1)])), (v1, .inl (cB, cp1, .inl f1))] sz)) 1 (rsz (len1 + 20) cp1) (va_A [(x, .inr (6, [.ref t1, .ref t2, .ref t3, .ref qi, .ref hg, .ref hh, .ref iu, .int cu, .long num, .int se, .int op, .int fa])), (t1, .inr (5, [.ref v1, .int (nI len1)])), (v1, .inl (cB, cp1, .inl f1))] sz) := by
  refine sb_ofW (Qc := fun A => (sbQi D (fun (r : Int32) (u : Nat × (Nat → Int32)) => match u with | (nb, nf) => r = nI (len1 + 20) ∧ (∀ j, j < cp1 → nf j = f1 j) ∧ (∀ x, fits .byte (.int (nf x)) = true)) (fun (u : Nat × (Nat → Int32)) => match u with | (nb, nf) => [(x, .inr (6, [.ref t1, .ref t2, .ref t3, .ref qi, .ref hg, .ref hh, .ref iu, .int cu, .long num, .int se, .int op, .int fa])), (t1, .inr (5, [.ref nb, .int (nI (len1 + 20))])), (nb, .inl (cB, rnew (len1 + 20) cp1, .inl (feed5 nf (len1 + 20) len1 a b c0 d0 e0)))]) A)) (by decide) (Nat.le_of_ble_eq_true rfl) ?_
  intro p e s m args below meth c A ls hx hb hr hml hts hown hlocks hin hsz hP hG hD hA hS hl
  have hl : lv_has ls 7 [(0, .ref x), (1, .int a), (2, .int b), (3, .int c0), (4, .int d0), (5, .int e0)] := hl
  refine lv_aload_n hx hb d_X_feed_0 rfl (lv_at hl 0 rfl) ?_
  refine va_get (D := D) (ci := 6) (v := .ref t1) (C := R_X) (T := F_X) (N := 12) hx hb hts in_X hown hG.1 hP 0 rfl rfl 0 (by decide) (hts _ k_203) (fun _ h9 => h9) rfl d_X_feed_1 ?_
  refine va_getN (D := D) (ci := 5) (v := .int (nI len1)) (C := R_R) (T := F_R) (N := 2) hx hb hts in_R hown hG.1 hP 1 rfl rfl 1 (by decide) (hG.nest _ n_59) (fun _ h9 => h9) rfl d_X_feed_4 ?_
  refine lv_istore (lv' := [(6, .int (nI len1)), (0, .ref x), (1, .int a), (2, .int b), (3, .int c0), (4, .int d0), (5, .int e0)]) hx hb d_X_feed_7 hl (by decide) rfl (fun ls hl => ?_)
  refine lv_iload hx hb d_X_feed_9 (lv_at hl 0 rfl) ?_
  refine lv_ldc (v := 65516) hx hb hown (hts (.constant R_X 64 65516) (by decide +kernel)) d_X_feed_11 ?_
  refine lv_icmp_le (tgt := 26) hx hb d_X_feed_13 (by decide) (fun c_1 => ?_) (fun c_1 => absurd (sb_leT (a := len1) (b := 65516) rfl rfl (by omega) (by omega) (by omega)) c_1)
  refine lv_aload_n hx hb d_X_feed_26 rfl (lv_at hl 1 rfl) ?_
  refine va_get (D := D) (ci := 6) (v := .ref t1) (C := R_X) (T := F_X) (N := 12) hx hb hts in_X hown hG.1 hP 0 rfl rfl 0 (by decide) (hts _ k_203) (fun _ h9 => h9) rfl d_X_feed_27 ?_
  refine lv_iload hx hb d_X_feed_30 (lv_at hl 0 rfl) ?_
  refine lv_bipush (v := 20) hx hb d_X_feed_32 (by decide) ?_
  refine lv_iadd hx hb d_X_feed_34 ?_
  refine sb_topn (len1 + 20) (nI_add len1 20) ?_
  refine sb_callv (wr := [(x, .inr (6, [.ref t1, .ref t2, .ref t3, .ref qi, .ref hg, .ref hh, .ref iu, .int cu, .long num, .int se, .int op, .int fa]))]) (va_runV (As := [.int (nI (len1 + 20))]) (rest := []) ⟨hx, hb, hml, hown, hts⟩ (c_R_resize l D cI cL cB tS tF t1 v1 len1 cp1 f1 (len1 + 20) _ hf1 (by omega) (by omega)) (cwV 1 hts (sb_gV k_276 k_253 k_254 k_23 k_255) rfl rfl rfl (by decide +kernel) ⟨Nat.le_of_ble_eq_true rfl, Nat.le_of_ble_eq_true rfl⟩) (sb_pV hG hP hD hS hA [1, 2] (by decide) rfl (ci := 5) (q0 := 1) rfl rfl) rfl rfl hl.1 rfl (lv_room (Nat.le_of_ble_eq_true rfl)) d_X_feed_35 ⟨Nat.le_of_ble_eq_true rfl, Nat.le_of_eq (Nat.zero_add _)⟩) hP hD hS hA [1, 2] [0] rfl rfl (by decide) (by decide) (fun u H locs hw_4 hP hD hS => ?_)
  obtain ⟨nb_2, nf_3⟩ := u
  try dsimp only at hw_4
  have hP : va_P D vwCl [(x, .inr (6, [.ref t1, .ref t2, .ref t3, .ref qi, .ref hg, .ref hh, .ref iu, .int cu, .long num, .int se, .int op, .int fa])), (t1, .inr (5, [.ref nb_2, .int (nI (len1 + 20))])), (nb_2, .inl (cB, rnew (len1 + 20) cp1, .inl nf_3))] H := hP
  have hD : va_D A [(x, .inr (6, [.ref t1, .ref t2, .ref t3, .ref qi, .ref hg, .ref hh, .ref iu, .int cu, .long num, .int se, .int op, .int fa])), (t1, .inr (5, [.ref nb_2, .int (nI (len1 + 20))])), (nb_2, .inl (cB, rnew (len1 + 20) cp1, .inl nf_3))] := hD
  refine W.widen (k := 1) (n := 0 + rsz (len1 + 20) cp1) (by omega) (by omega) ?_
  have hgeA := rnew_le (len1 + 20) cp1
  have hcapA := rnew_cap (len1 + 20) cp1 (by omega) (by omega)
  refine lv_aload_n hx hb d_X_feed_38 rfl (lv_at hl 1 rfl) ?_
  refine va_get (D := D) (ci := 6) (v := .ref t1) (C := R_X) (T := F_X) (N := 12) hx hb hts in_X hown hG.1 hP 0 rfl rfl 0 (by decide) (hts _ k_203) (fun _ h9 => h9) rfl d_X_feed_39 ?_
  refine lv_iload hx hb d_X_feed_42 (lv_at hl 0 rfl) ?_
  refine lv_iload_n hx hb d_X_feed_44 rfl (lv_at hl 2 rfl) ?_
  refine sb_callv (wr := [(x, .inr (6, [.ref t1, .ref t2, .ref t3, .ref qi, .ref hg, .ref hh, .ref iu, .int cu, .long num, .int se, .int op, .int fa]))]) (va_runV (As := [.int (nI len1), .int a]) (rest := []) ⟨hx, hb, hml, hown, hts⟩ (c_R_setWord l D cI cL cB tS tF t1 nb_2 (len1 + 20) (rnew (len1 + 20) cp1) nf_3 (nI len1) a _ hgeA (by omega)) (cwV 2 hts (sb_gV k_363 k_364 k_365 k_23 k_366) rfl rfl rfl (by decide +kernel) ⟨Nat.le_of_ble_eq_true rfl, Nat.le_of_ble_eq_true rfl⟩) (sb_pV hG hP hD hS hA [1, 2] (by decide) rfl (ci := 5) (q0 := 1) rfl rfl) rfl rfl hl.1 rfl (lv_room (Nat.le_of_ble_eq_true rfl)) d_X_feed_45 ⟨by show 1 + 0 ≤ 1; omega, by show 0 + rsz (len1 + 20) cp1 + 0 ≤ rsz (len1 + 20) cp1; omega⟩) hP hD hS hA [1, 2] [0] rfl rfl (by decide) (by decide) (fun u H locs hw_5 hP hD hS => ?_)
  have hP : va_P D vwCl [(x, .inr (6, [.ref t1, .ref t2, .ref t3, .ref qi, .ref hg, .ref hh, .ref iu, .int cu, .long num, .int se, .int op, .int fa])), (t1, .inr (5, [.ref nb_2, .int (nI (len1 + 20))])), (nb_2, .inl (cB, (rnew (len1 + 20) cp1), .inl (rsetw nf_3 (len1 + 20) (nI len1) a)))] H := hP
  have hD : va_D A [(x, .inr (6, [.ref t1, .ref t2, .ref t3, .ref qi, .ref hg, .ref hh, .ref iu, .int cu, .long num, .int se, .int op, .int fa])), (t1, .inr (5, [.ref nb_2, .int (nI (len1 + 20))])), (nb_2, .inl (cB, (rnew (len1 + 20) cp1), .inl (rsetw nf_3 (len1 + 20) (nI len1) a)))] := hD
  refine lv_aload_n hx hb d_X_feed_48 rfl (lv_at hl 1 rfl) ?_
  refine va_get (D := D) (ci := 6) (v := .ref t1) (C := R_X) (T := F_X) (N := 12) hx hb hts in_X hown hG.1 hP 0 rfl rfl 0 (by decide) (hts _ k_203) (fun _ h9 => h9) rfl d_X_feed_49 ?_
  refine lv_iload hx hb d_X_feed_52 (lv_at hl 0 rfl) ?_
  refine lv_iconst (v := 4) hx hb d_X_feed_54 (by decide) ?_
  refine lv_iadd hx hb d_X_feed_55 ?_
  refine sb_topn (len1 + 4) (nI_add len1 4) ?_
  refine lv_iload_n hx hb d_X_feed_56 rfl (lv_at hl 3 rfl) ?_
  refine sb_callv (wr := [(x, .inr (6, [.ref t1, .ref t2, .ref t3, .ref qi, .ref hg, .ref hh, .ref iu, .int cu, .long num, .int se, .int op, .int fa]))]) (va_runV (As := [.int (nI (len1 + 4)), .int b]) (rest := []) ⟨hx, hb, hml, hown, hts⟩ (c_R_setWord l D cI cL cB tS tF t1 nb_2 (len1 + 20) (rnew (len1 + 20) cp1) (rsetw nf_3 (len1 + 20) (nI len1) a) (nI (len1 + 4)) b _ hgeA (by omega)) (cwV 2 hts (sb_gV k_363 k_364 k_365 k_23 k_366) rfl rfl rfl (by decide +kernel) ⟨Nat.le_of_ble_eq_true rfl, Nat.le_of_ble_eq_true rfl⟩) (sb_pV hG hP hD hS hA [1, 2] (by decide) rfl (ci := 5) (q0 := 1) rfl rfl) rfl rfl hl.1 rfl (lv_room (Nat.le_of_ble_eq_true rfl)) d_X_feed_57 ⟨by show 1 + 0 ≤ 1; omega, by show 0 + rsz (len1 + 20) cp1 + 0 ≤ rsz (len1 + 20) cp1; omega⟩) hP hD hS hA [1, 2] [0] rfl rfl (by decide) (by decide) (fun u H locs hw_6 hP hD hS => ?_)
  have hP : va_P D vwCl [(x, .inr (6, [.ref t1, .ref t2, .ref t3, .ref qi, .ref hg, .ref hh, .ref iu, .int cu, .long num, .int se, .int op, .int fa])), (t1, .inr (5, [.ref nb_2, .int (nI (len1 + 20))])), (nb_2, .inl (cB, (rnew (len1 + 20) cp1), .inl (rsetw (rsetw nf_3 (len1 + 20) (nI len1) a) (len1 + 20) (nI (len1 + 4)) b)))] H := hP
  have hD : va_D A [(x, .inr (6, [.ref t1, .ref t2, .ref t3, .ref qi, .ref hg, .ref hh, .ref iu, .int cu, .long num, .int se, .int op, .int fa])), (t1, .inr (5, [.ref nb_2, .int (nI (len1 + 20))])), (nb_2, .inl (cB, (rnew (len1 + 20) cp1), .inl (rsetw (rsetw nf_3 (len1 + 20) (nI len1) a) (len1 + 20) (nI (len1 + 4)) b)))] := hD
  refine lv_aload_n hx hb d_X_feed_60 rfl (lv_at hl 1 rfl) ?_
  refine va_get (D := D) (ci := 6) (v := .ref t1) (C := R_X) (T := F_X) (N := 12) hx hb hts in_X hown hG.1 hP 0 rfl rfl 0 (by decide) (hts _ k_203) (fun _ h9 => h9) rfl d_X_feed_61 ?_
  refine lv_iload hx hb d_X_feed_64 (lv_at hl 0 rfl) ?_
  refine lv_bipush (v := 8) hx hb d_X_feed_66 (by decide) ?_
  refine lv_iadd hx hb d_X_feed_68 ?_
  refine sb_topn (len1 + 8) (nI_add len1 8) ?_
  refine lv_iload_n hx hb d_X_feed_69 rfl (lv_at hl 4 rfl) ?_
  refine sb_callv (wr := [(x, .inr (6, [.ref t1, .ref t2, .ref t3, .ref qi, .ref hg, .ref hh, .ref iu, .int cu, .long num, .int se, .int op, .int fa]))]) (va_runV (As := [.int (nI (len1 + 8)), .int c0]) (rest := []) ⟨hx, hb, hml, hown, hts⟩ (c_R_setWord l D cI cL cB tS tF t1 nb_2 (len1 + 20) (rnew (len1 + 20) cp1) (rsetw (rsetw nf_3 (len1 + 20) (nI len1) a) (len1 + 20) (nI (len1 + 4)) b) (nI (len1 + 8)) c0 _ hgeA (by omega)) (cwV 2 hts (sb_gV k_363 k_364 k_365 k_23 k_366) rfl rfl rfl (by decide +kernel) ⟨Nat.le_of_ble_eq_true rfl, Nat.le_of_ble_eq_true rfl⟩) (sb_pV hG hP hD hS hA [1, 2] (by decide) rfl (ci := 5) (q0 := 1) rfl rfl) rfl rfl hl.1 rfl (lv_room (Nat.le_of_ble_eq_true rfl)) d_X_feed_70 ⟨by show 1 + 0 ≤ 1; omega, by show 0 + rsz (len1 + 20) cp1 + 0 ≤ rsz (len1 + 20) cp1; omega⟩) hP hD hS hA [1, 2] [0] rfl rfl (by decide) (by decide) (fun u H locs hw_7 hP hD hS => ?_)
  have hP : va_P D vwCl [(x, .inr (6, [.ref t1, .ref t2, .ref t3, .ref qi, .ref hg, .ref hh, .ref iu, .int cu, .long num, .int se, .int op, .int fa])), (t1, .inr (5, [.ref nb_2, .int (nI (len1 + 20))])), (nb_2, .inl (cB, (rnew (len1 + 20) cp1), .inl (rsetw (rsetw (rsetw nf_3 (len1 + 20) (nI len1) a) (len1 + 20) (nI (len1 + 4)) b) (len1 + 20) (nI (len1 + 8)) c0)))] H := hP
  have hD : va_D A [(x, .inr (6, [.ref t1, .ref t2, .ref t3, .ref qi, .ref hg, .ref hh, .ref iu, .int cu, .long num, .int se, .int op, .int fa])), (t1, .inr (5, [.ref nb_2, .int (nI (len1 + 20))])), (nb_2, .inl (cB, (rnew (len1 + 20) cp1), .inl (rsetw (rsetw (rsetw nf_3 (len1 + 20) (nI len1) a) (len1 + 20) (nI (len1 + 4)) b) (len1 + 20) (nI (len1 + 8)) c0)))] := hD
  refine lv_aload_n hx hb d_X_feed_73 rfl (lv_at hl 1 rfl) ?_
  refine va_get (D := D) (ci := 6) (v := .ref t1) (C := R_X) (T := F_X) (N := 12) hx hb hts in_X hown hG.1 hP 0 rfl rfl 0 (by decide) (hts _ k_203) (fun _ h9 => h9) rfl d_X_feed_74 ?_
  refine lv_iload hx hb d_X_feed_77 (lv_at hl 0 rfl) ?_
  refine lv_bipush (v := 12) hx hb d_X_feed_79 (by decide) ?_
  refine lv_iadd hx hb d_X_feed_81 ?_
  refine sb_topn (len1 + 12) (nI_add len1 12) ?_
  refine lv_iload hx hb d_X_feed_82 (lv_at hl 5 rfl) ?_
  refine sb_callv (wr := [(x, .inr (6, [.ref t1, .ref t2, .ref t3, .ref qi, .ref hg, .ref hh, .ref iu, .int cu, .long num, .int se, .int op, .int fa]))]) (va_runV (As := [.int (nI (len1 + 12)), .int d0]) (rest := []) ⟨hx, hb, hml, hown, hts⟩ (c_R_setWord l D cI cL cB tS tF t1 nb_2 (len1 + 20) (rnew (len1 + 20) cp1) (rsetw (rsetw (rsetw nf_3 (len1 + 20) (nI len1) a) (len1 + 20) (nI (len1 + 4)) b) (len1 + 20) (nI (len1 + 8)) c0) (nI (len1 + 12)) d0 _ hgeA (by omega)) (cwV 2 hts (sb_gV k_363 k_364 k_365 k_23 k_366) rfl rfl rfl (by decide +kernel) ⟨Nat.le_of_ble_eq_true rfl, Nat.le_of_ble_eq_true rfl⟩) (sb_pV hG hP hD hS hA [1, 2] (by decide) rfl (ci := 5) (q0 := 1) rfl rfl) rfl rfl hl.1 rfl (lv_room (Nat.le_of_ble_eq_true rfl)) d_X_feed_84 ⟨by show 1 + 0 ≤ 1; omega, by show 0 + rsz (len1 + 20) cp1 + 0 ≤ rsz (len1 + 20) cp1; omega⟩) hP hD hS hA [1, 2] [0] rfl rfl (by decide) (by decide) (fun u H locs hw_8 hP hD hS => ?_)
  have hP : va_P D vwCl [(x, .inr (6, [.ref t1, .ref t2, .ref t3, .ref qi, .ref hg, .ref hh, .ref iu, .int cu, .long num, .int se, .int op, .int fa])), (t1, .inr (5, [.ref nb_2, .int (nI (len1 + 20))])), (nb_2, .inl (cB, (rnew (len1 + 20) cp1), .inl (rsetw (rsetw (rsetw (rsetw nf_3 (len1 + 20) (nI len1) a) (len1 + 20) (nI (len1 + 4)) b) (len1 + 20) (nI (len1 + 8)) c0) (len1 + 20) (nI (len1 + 12)) d0)))] H := hP
  have hD : va_D A [(x, .inr (6, [.ref t1, .ref t2, .ref t3, .ref qi, .ref hg, .ref hh, .ref iu, .int cu, .long num, .int se, .int op, .int fa])), (t1, .inr (5, [.ref nb_2, .int (nI (len1 + 20))])), (nb_2, .inl (cB, (rnew (len1 + 20) cp1), .inl (rsetw (rsetw (rsetw (rsetw nf_3 (len1 + 20) (nI len1) a) (len1 + 20) (nI (len1 + 4)) b) (len1 + 20) (nI (len1 + 8)) c0) (len1 + 20) (nI (len1 + 12)) d0)))] := hD
  refine lv_aload_n hx hb d_X_feed_87 rfl (lv_at hl 1 rfl) ?_
  refine va_get (D := D) (ci := 6) (v := .ref t1) (C := R_X) (T := F_X) (N := 12) hx hb hts in_X hown hG.1 hP 0 rfl rfl 0 (by decide) (hts _ k_203) (fun _ h9 => h9) rfl d_X_feed_88 ?_
  refine lv_iload hx hb d_X_feed_91 (lv_at hl 0 rfl) ?_
  refine lv_bipush (v := 16) hx hb d_X_feed_93 (by decide) ?_
  refine lv_iadd hx hb d_X_feed_95 ?_
  refine sb_topn (len1 + 16) (nI_add len1 16) ?_
  refine lv_iload hx hb d_X_feed_96 (lv_at hl 6 rfl) ?_
  refine sb_callv (wr := [(x, .inr (6, [.ref t1, .ref t2, .ref t3, .ref qi, .ref hg, .ref hh, .ref iu, .int cu, .long num, .int se, .int op, .int fa]))]) (va_runV (As := [.int (nI (len1 + 16)), .int e0]) (rest := []) ⟨hx, hb, hml, hown, hts⟩ (c_R_setWord l D cI cL cB tS tF t1 nb_2 (len1 + 20) (rnew (len1 + 20) cp1) (rsetw (rsetw (rsetw (rsetw nf_3 (len1 + 20) (nI len1) a) (len1 + 20) (nI (len1 + 4)) b) (len1 + 20) (nI (len1 + 8)) c0) (len1 + 20) (nI (len1 + 12)) d0) (nI (len1 + 16)) e0 _ hgeA (by omega)) (cwV 2 hts (sb_gV k_363 k_364 k_365 k_23 k_366) rfl rfl rfl (by decide +kernel) ⟨Nat.le_of_ble_eq_true rfl, Nat.le_of_ble_eq_true rfl⟩) (sb_pV hG hP hD hS hA [1, 2] (by decide) rfl (ci := 5) (q0 := 1) rfl rfl) rfl rfl hl.1 rfl (lv_room (Nat.le_of_ble_eq_true rfl)) d_X_feed_98 ⟨by show 1 + 0 ≤ 1; omega, by show 0 + rsz (len1 + 20) cp1 + 0 ≤ rsz (len1 + 20) cp1; omega⟩) hP hD hS hA [1, 2] [0] rfl rfl (by decide) (by decide) (fun u H locs hw_9 hP hD hS => ?_)
  have hP : va_P D vwCl [(x, .inr (6, [.ref t1, .ref t2, .ref t3, .ref qi, .ref hg, .ref hh, .ref iu, .int cu, .long num, .int se, .int op, .int fa])), (t1, .inr (5, [.ref nb_2, .int (nI (len1 + 20))])), (nb_2, .inl (cB, (rnew (len1 + 20) cp1), .inl (rsetw (rsetw (rsetw (rsetw (rsetw nf_3 (len1 + 20) (nI len1) a) (len1 + 20) (nI (len1 + 4)) b) (len1 + 20) (nI (len1 + 8)) c0) (len1 + 20) (nI (len1 + 12)) d0) (len1 + 20) (nI (len1 + 16)) e0)))] H := hP
  have hD : va_D A [(x, .inr (6, [.ref t1, .ref t2, .ref t3, .ref qi, .ref hg, .ref hh, .ref iu, .int cu, .long num, .int se, .int op, .int fa])), (t1, .inr (5, [.ref nb_2, .int (nI (len1 + 20))])), (nb_2, .inl (cB, (rnew (len1 + 20) cp1), .inl (rsetw (rsetw (rsetw (rsetw (rsetw nf_3 (len1 + 20) (nI len1) a) (len1 + 20) (nI (len1 + 4)) b) (len1 + 20) (nI (len1 + 8)) c0) (len1 + 20) (nI (len1 + 12)) d0) (len1 + 20) (nI (len1 + 16)) e0)))] := hD
  refine lv_aload_n hx hb d_X_feed_101 rfl (lv_at hl 1 rfl) ?_
  refine va_get (D := D) (ci := 6) (v := .ref t1) (C := R_X) (T := F_X) (N := 12) hx hb hts in_X hown hG.1 hP 0 rfl rfl 0 (by decide) (hts _ k_203) (fun _ h9 => h9) rfl d_X_feed_102 ?_
  refine va_getN (D := D) (ci := 5) (v := .int (nI (len1 + 20))) (C := R_R) (T := F_R) (N := 2) hx hb hts in_R hown hG.1 hP 1 rfl rfl 1 (by decide) (hG.nest _ n_59) (fun _ h9 => h9) rfl d_X_feed_105 ?_
  have hP9 := hP.sub (ws' := [(x, .inr (6, [.ref t1, .ref t2, .ref t3, .ref qi, .ref hg, .ref hh, .ref iu, .int cu, .long num, .int se, .int op, .int fa])), (t1, .inr (5, [.ref nb_2, .int (nI (len1 + 20))])), (nb_2, .inl (cB, (rnew (len1 + 20) cp1), .inl (rsetw (rsetw (rsetw (rsetw (rsetw nf_3 (len1 + 20) (nI len1) a) (len1 + 20) (nI (len1 + 4)) b) (len1 + 20) (nI (len1 + 8)) c0) (len1 + 20) (nI (len1 + 12)) d0) (len1 + 20) (nI (len1 + 16)) e0)))]) [0, 1, 2] rfl
  have hD9 := hD.sub (ws' := [(x, .inr (6, [.ref t1, .ref t2, .ref t3, .ref qi, .ref hg, .ref hh, .ref iu, .int cu, .long num, .int se, .int op, .int fa])), (t1, .inr (5, [.ref nb_2, .int (nI (len1 + 20))])), (nb_2, .inl (cB, (rnew (len1 + 20) cp1), .inl (rsetw (rsetw (rsetw (rsetw (rsetw nf_3 (len1 + 20) (nI len1) a) (len1 + 20) (nI (len1 + 4)) b) (len1 + 20) (nI (len1 + 8)) c0) (len1 + 20) (nI (len1 + 12)) d0) (len1 + 20) (nI (len1 + 16)) e0)))]) [0, 1, 2] (by decide) rfl
  refine W.widen (k := 1) (n := rsz (len1 + 20) cp1) (by omega) (by omega) ?_
  exact W.iret (v := nI (len1 + 20)) hx hb hr (fun t ht hW => ⟨⟨_, (nb_2, nf_3), rfl, ⟨rfl, hw_4⟩, by rw [ht]; exact hP9, hD9⟩, hS.F ht⟩) hS.2.2 d_X_feed_108

def rm_X_endR (mc ms : Nat) : Room := { frames := 3, cells := mc, slots := ms, locals := 61 }
set_option maxHeartbeats 4000000 in
set_option maxRecDepth 100000 in
theorem c_X_endR (l : Launch) (D : va_G) (cI cL cB : ClassId) (tS tF : Nat) (x : Nat) (t1 : Nat) (t2 : Nat) (t3 : Nat) (qi : Nat) (hg : Nat) (hh : Nat) (cu : Int32) (num : Int64) (se : Int32) (op : Int32) (fa : Int32) (iu : Nat) (v1 : Nat) (len1 : Nat) (cp1 : Nat) (f1 : Nat → Int32) (k : Nat) (sz : Nat) (hl1 : len1 ≤ cp1) (hc1 : cp1 ≤ 50000) (hf1 : ∀ x, fits .byte (.int (f1 x)) = true) (hk : k ≤ len1) : Met l y_X_end (sbw y_X_end b_X_end 2 (some .int)) (rm_X_endR 1 (rsz k cp1)) (sbPc D cI cL cB tS tF [.ref x, .int (nI k)] sz [(x, .inr (6, [.ref t1, .ref t2, .ref t3, .ref qi, .ref hg, .ref hh, .ref iu, .int cu, .long num, .int se, .int op, .int fa])), (t1, .inr (5, [.ref v1, .int (nI len1)])), (v1, .inl (cB, cp1, .inl f1))]) (sbQi D (fun (r : Int32) (u : Nat × (Nat → Int32)) => match u with | (nb, nf) => r = nI k ∧ (∀ j, j < cp1 → nf j = f1 j) ∧ (∀ x, fits .byte (.int (nf x)) = true)) (fun (u : Nat × (Nat → Int32)) => match u with | (nb, nf) => [(x, .inr (6, [.ref t1, .ref t2, .ref t3, .ref qi, .ref hg, .ref hh, .ref iu, .int cu, .long num, .int se, .int op, .int fa])), (t1, .inr (5, [.ref nb, .int (nI k)])), (nb, .inl (cB, rnew k cp1, .inl nf))]) (va_A [(x, .inr (6, [.ref t1, .ref t2, .ref t3, .ref qi, .ref hg, .ref hh, .ref iu, .int cu, .long num, .int se, .int op, .int fa])), (t1, .inr (5, [.ref v1, .int (nI len1)])), (v1, .inl (cB, cp1, .inl f1))] sz)) 1 (rsz k cp1) (va_A [(x, .inr (6, [.ref t1, .ref t2, .ref t3, .ref qi, .ref hg, .ref hh, .ref iu, .int cu, .long num, .int se, .int op, .int fa])), (t1, .inr (5, [.ref v1, .int (nI len1)])), (v1, .inl (cB, cp1, .inl f1))] sz) := by
  refine sb_ofW (Qc := fun A => (sbQi D (fun (r : Int32) (u : Nat × (Nat → Int32)) => match u with | (nb, nf) => r = nI k ∧ (∀ j, j < cp1 → nf j = f1 j) ∧ (∀ x, fits .byte (.int (nf x)) = true)) (fun (u : Nat × (Nat → Int32)) => match u with | (nb, nf) => [(x, .inr (6, [.ref t1, .ref t2, .ref t3, .ref qi, .ref hg, .ref hh, .ref iu, .int cu, .long num, .int se, .int op, .int fa])), (t1, .inr (5, [.ref nb, .int (nI k)])), (nb, .inl (cB, rnew k cp1, .inl nf))]) A)) (by decide) (Nat.le_of_ble_eq_true rfl) ?_
  intro p e s m args below meth c A ls hx hb hr hml hts hown hlocks hin hsz hP hG hD hA hS hl
  have hl : lv_has ls 2 [(0, .ref x), (1, .int (nI k))] := hl
  refine lv_iload_n hx hb d_X_end_0 rfl (lv_at hl 1 rfl) ?_
  refine lv_if_lt (tgt := 15) hx hb d_X_end_1 (by decide) (fun c_1 => absurd c_1 (nI_pos (by omega))) (fun c_1 => ?_)
  refine lv_iload_n hx hb d_X_end_4 rfl (lv_at hl 1 rfl) ?_
  refine lv_aload_n hx hb d_X_end_5 rfl (lv_at hl 0 rfl) ?_
  refine va_get (D := D) (ci := 6) (v := .ref t1) (C := R_X) (T := F_X) (N := 12) hx hb hts in_X hown hG.1 hP 0 rfl rfl 0 (by decide) (hts _ k_203) (fun _ h9 => h9) rfl d_X_end_6 ?_
  refine va_getN (D := D) (ci := 5) (v := .int (nI len1)) (C := R_R) (T := F_R) (N := 2) hx hb hts in_R hown hG.1 hP 1 rfl rfl 1 (by decide) (hG.nest _ n_59) (fun _ h9 => h9) rfl d_X_end_9 ?_
  refine lv_icmp_le (tgt := 25) hx hb d_X_end_12 (by decide) (fun c_2 => ?_) (fun c_2 => absurd (sb_leT (a := k) (b := len1) rfl rfl (by omega) (by omega) (by omega)) c_2)
  refine lv_aload_n hx hb d_X_end_25 rfl (lv_at hl 0 rfl) ?_
  refine va_get (D := D) (ci := 6) (v := .ref t1) (C := R_X) (T := F_X) (N := 12) hx hb hts in_X hown hG.1 hP 0 rfl rfl 0 (by decide) (hts _ k_203) (fun _ h9 => h9) rfl d_X_end_26 ?_
  refine lv_iload_n hx hb d_X_end_29 rfl (lv_at hl 1 rfl) ?_
  refine sb_callv (wr := [(x, .inr (6, [.ref t1, .ref t2, .ref t3, .ref qi, .ref hg, .ref hh, .ref iu, .int cu, .long num, .int se, .int op, .int fa]))]) (va_runV (As := [.int (nI k)]) (rest := []) ⟨hx, hb, hml, hown, hts⟩ (c_R_resize l D cI cL cB tS tF t1 v1 len1 cp1 f1 k _ hf1 (by omega) (by omega)) (cwV 1 hts (sb_gV k_276 k_253 k_254 k_23 k_255) rfl rfl rfl (by decide +kernel) ⟨Nat.le_of_ble_eq_true rfl, Nat.le_of_ble_eq_true rfl⟩) (sb_pV hG hP hD hS hA [1, 2] (by decide) rfl (ci := 5) (q0 := 1) rfl rfl) rfl rfl hl.1 rfl (lv_room (Nat.le_of_ble_eq_true rfl)) d_X_end_30 ⟨Nat.le_of_ble_eq_true rfl, Nat.le_of_eq (Nat.zero_add _)⟩) hP hD hS hA [1, 2] [0] rfl rfl (by decide) (by decide) (fun u H locs hw_5 hP hD hS => ?_)
  obtain ⟨nb_3, nf_4⟩ := u
  try dsimp only at hw_5
  have hP : va_P D vwCl [(x, .inr (6, [.ref t1, .ref t2, .ref t3, .ref qi, .ref hg, .ref hh, .ref iu, .int cu, .long num, .int se, .int op, .int fa])), (t1, .inr (5, [.ref nb_3, .int (nI k)])), (nb_3, .inl (cB, rnew k cp1, .inl nf_4))] H := hP
  have hD : va_D A [(x, .inr (6, [.ref t1, .ref t2, .ref t3, .ref qi, .ref hg, .ref hh, .ref iu, .int cu, .long num, .int se, .int op, .int fa])), (t1, .inr (5, [.ref nb_3, .int (nI k)])), (nb_3, .inl (cB, rnew k cp1, .inl nf_4))] := hD
  refine W.widen (k := 1) (n := 0 + rsz k cp1) (by omega) (by omega) ?_
  have hgeA := rnew_le k cp1
  have hcapA := rnew_cap k cp1 (by omega) (by omega)
  refine lv_iload_n hx hb d_X_end_33 rfl (lv_at hl 1 rfl) ?_
  have hP9 := hP.sub (ws' := [(x, .inr (6, [.ref t1, .ref t2, .ref t3, .ref qi, .ref hg, .ref hh, .ref iu, .int cu, .long num, .int se, .int op, .int fa])), (t1, .inr (5, [.ref nb_3, .int (nI k)])), (nb_3, .inl (cB, rnew k cp1, .inl nf_4))]) [0, 1, 2] rfl
  have hD9 := hD.sub (ws' := [(x, .inr (6, [.ref t1, .ref t2, .ref t3, .ref qi, .ref hg, .ref hh, .ref iu, .int cu, .long num, .int se, .int op, .int fa])), (t1, .inr (5, [.ref nb_3, .int (nI k)])), (nb_3, .inl (cB, rnew k cp1, .inl nf_4))]) [0, 1, 2] (by decide) rfl
  refine W.widen (k := 1) (n := rsz k cp1) (by omega) (by omega) ?_
  exact W.iret (v := nI k) hx hb hr (fun t ht hW => ⟨⟨_, (nb_3, nf_4), rfl, ⟨rfl, hw_5⟩, by rw [ht]; exact hP9, hD9⟩, hS.F ht⟩) hS.2.2 d_X_end_34

def rm_X_ivR (mc ms : Nat) : Room := { frames := 3, cells := mc, slots := ms, locals := 61 }
set_option maxHeartbeats 4000000 in
set_option maxRecDepth 100000 in
theorem c_X_ivR (l : Launch) (D : va_G) (cI cL cB : ClassId) (tS tF : Nat) (x : Nat) (t1 : Nat) (t2 : Nat) (t3 : Nat) (qi : Nat) (hg : Nat) (hh : Nat) (cu : Int32) (num : Int64) (se : Int32) (op : Int32) (fa : Int32) (iu : Nat) (v1 : Nat) (cp1 : Nat) (f1 : Nat → Int32) (i0 : Int32) (i1 : Int32) (i2 : Int32) (sz : Nat) (hl1 : 12 ≤ cp1) (hc1 : cp1 ≤ 50000) (hf1 : ∀ x, fits .byte (.int (f1 x)) = true) : Met l y_X_iv (sbw y_X_iv b_X_iv 2 none) (rm_X_ivR 1 (rsz 0 cp1)) (sbPc D cI cL cB tS tF [.ref x] sz [(x, .inr (6, [.ref t1, .ref t2, .ref t3, .ref qi, .ref hg, .ref hh, .ref iu, .int cu, .long num, .int se, .int op, .int fa])), (t1, .inr (5, [.ref v1, .int (nI 12)])), (v1, .inl (cB, cp1, .inl f1)), (qi, .inl (cI, 3, .inl (i3 i0 i1 i2)))]) (sbQv D (fun (u : Nat × (Nat → Int32)) => match u with | (nb, nf) => (∀ x, fits .byte (.int (nf x)) = true)) (fun (u : Nat × (Nat → Int32)) => match u with | (nb, nf) => [(x, .inr (6, [.ref t1, .ref t2, .ref t3, .ref qi, .ref hg, .ref hh, .ref iu, .int cu, .long 0, .int se, .int op, .int fa])), (t1, .inr (5, [.ref nb, .int (nI 0)])), (nb, .inl (cB, rnew 0 cp1, .inl nf)), (qi, .inl (cI, 3, .inl (i3 (rword f1 12 0 12) (rword f1 12 4 12) (rword f1 12 8 12))))]) (va_A [(x, .inr (6, [.ref t1, .ref t2, .ref t3, .ref qi, .ref hg, .ref hh, .ref iu, .int cu, .long num, .int se, .int op, .int fa])), (t1, .inr (5, [.ref v1, .int (nI 12)])), (v1, .inl (cB, cp1, .inl f1)), (qi, .inl (cI, 3, .inl (i3 i0 i1 i2)))] sz)) 1 (rsz 0 cp1) (va_A [(x, .inr (6, [.ref t1, .ref t2, .ref t3, .ref qi, .ref hg, .ref hh, .ref iu, .int cu, .long num, .int se, .int op, .int fa])), (t1, .inr (5, [.ref v1, .int (nI 12)])), (v1, .inl (cB, cp1, .inl f1)), (qi, .inl (cI, 3, .inl (i3 i0 i1 i2)))] sz) := by
  refine sb_ofW (Qc := fun A => (sbQv D (fun (u : Nat × (Nat → Int32)) => match u with | (nb, nf) => (∀ x, fits .byte (.int (nf x)) = true)) (fun (u : Nat × (Nat → Int32)) => match u with | (nb, nf) => [(x, .inr (6, [.ref t1, .ref t2, .ref t3, .ref qi, .ref hg, .ref hh, .ref iu, .int cu, .long 0, .int se, .int op, .int fa])), (t1, .inr (5, [.ref nb, .int (nI 0)])), (nb, .inl (cB, rnew 0 cp1, .inl nf)), (qi, .inl (cI, 3, .inl (i3 (rword f1 12 0 12) (rword f1 12 4 12) (rword f1 12 8 12))))]) A)) (by decide) (Nat.le_of_ble_eq_true rfl) ?_
  intro p e s m args below meth c A ls hx hb hr hml hts hown hlocks hin hsz hP hG hD hA hS hl
  have hl : lv_has ls 2 [(0, .ref x)] := hl
  refine lv_aload_n hx hb d_X_iv_0 rfl (lv_at hl 0 rfl) ?_
  refine va_get (D := D) (ci := 6) (v := .ref t1) (C := R_X) (T := F_X) (N := 12) hx hb hts in_X hown hG.1 hP 0 rfl rfl 0 (by decide) (hts _ k_203) (fun _ h9 => h9) rfl d_X_iv_1 ?_
  refine va_getN (D := D) (ci := 5) (v := .int (nI 12)) (C := R_R) (T := F_R) (N := 2) hx hb hts in_R hown hG.1 hP 1 rfl rfl 1 (by decide) (hG.nest _ n_59) (fun _ h9 => h9) rfl d_X_iv_4 ?_
  refine lv_bipush (v := 12) hx hb d_X_iv_7 (by decide) ?_
  refine lv_icmp_eq (tgt := 22) hx hb d_X_iv_9 (by decide) (fun c_1 => ?_) (fun c_1 => absurd (sb_eqT (a := 12) (b := 12) rfl rfl (by omega) (by omega) (by omega)) c_1)
  refine lv_iconst (v := 0) hx hb d_X_iv_22 (by decide) ?_
  refine lv_istore_n (lv' := [(1, .int 0), (0, .ref x)]) hx hb d_X_iv_23 rfl hl (by decide) rfl (fun ls hl => ?_)
  refine lv_iload_n hx hb d_X_iv_24 rfl (lv_at hl 0 rfl) ?_
  refine lv_iconst (v := 3) hx hb d_X_iv_25 (by decide) ?_
  refine lv_icmp_ge (tgt := 53) hx hb d_X_iv_26 (by decide) (fun c_2 => absurd c_2 (sb_geF (a := 0) (b := 3) rfl rfl (by omega) (by omega) (by omega))) (fun c_2 => ?_)
  refine lv_aload_n hx hb d_X_iv_29 rfl (lv_at hl 1 rfl) ?_
  refine va_get (D := D) (ci := 6) (v := .ref qi) (C := R_X) (T := F_X) (N := 12) hx hb hts in_X hown hG.1 hP 0 rfl rfl 3 (by decide) (hts _ k_206) (fun _ h9 => h9) rfl d_X_iv_30 ?_
  refine lv_iload_n hx hb d_X_iv_33 rfl (lv_at hl 0 rfl) ?_
  refine lv_aload_n hx hb d_X_iv_34 rfl (lv_at hl 1 rfl) ?_
  refine va_get (D := D) (ci := 6) (v := .ref t1) (C := R_X) (T := F_X) (N := 12) hx hb hts in_X hown hG.1 hP 0 rfl rfl 0 (by decide) (hts _ k_203) (fun _ h9 => h9) rfl d_X_iv_35 ?_
  refine lv_iconst (v := 4) hx hb d_X_iv_38 (by decide) ?_
  refine lv_iload_n hx hb d_X_iv_39 rfl (lv_at hl 0 rfl) ?_
  refine lv_imul hx hb d_X_iv_40 ?_
  refine sb_topn 0 (sb_eqn (a := 4 * 0) (b := 0) (sb_mul (a := 4) (b := 0) rfl rfl) (by omega)) ?_
  refine lv_bipush (v := 12) hx hb d_X_iv_41 (by decide) ?_
  refine vp_callSi (va_runV (As := [.int (nI 0), .int 12]) (rest := [.int 0, .ref qi]) ⟨hx, hb, hml, hown, hts⟩ (c_R_word l D cI cL cB tS tF t1 v1 12 cp1 f1 0 12 hl1 (by omega) (by omega) (by omega)) (cwV 2 hts (sb_gV k_483 k_425 k_426 k_23 k_427) rfl rfl rfl (by decide +kernel) ⟨Nat.le_of_ble_eq_true rfl, Nat.le_of_ble_eq_true rfl⟩) (sb_rV hG hP hS [1, 2] rfl (ci := 5) (q0 := 1) rfl rfl) rfl rfl hl.1 rfl (lv_room (Nat.le_of_ble_eq_true rfl)) d_X_iv_43 ⟨Nat.le_of_ble_eq_true rfl, Nat.le_of_ble_eq_true rfl⟩).run (fun r_3 er_3 => ?_)
  subst er_3
  refine lv_topi (fun x_4 ex_4 => ?_)
  refine sb_ist hx hb hG.1 hP hD hS 3 rfl 0 rfl (by omega) (by omega) d_X_iv_46 (fun f_5 H locs ef_5 hP hD hS => ?_)
  have hP : va_P D vwCl [(x, .inr (6, [.ref t1, .ref t2, .ref t3, .ref qi, .ref hg, .ref hh, .ref iu, .int cu, .long num, .int se, .int op, .int fa])), (t1, .inr (5, [.ref v1, .int (nI 12)])), (v1, .inl (cB, cp1, .inl f1)), (qi, .inl (cI, 3, .inl f_5))] H := hP
  have hD : va_D A [(x, .inr (6, [.ref t1, .ref t2, .ref t3, .ref qi, .ref hg, .ref hh, .ref iu, .int cu, .long num, .int se, .int op, .int fa])), (t1, .inr (5, [.ref v1, .int (nI 12)])), (v1, .inl (cB, cp1, .inl f1)), (qi, .inl (cI, 3, .inl f_5))] := hD
  obtain rfl : f_5 = i3 x_4 i1 i2 := ef_5.trans (i3_set0 ..)
  refine lv_iinc (v := nI 1) (lv' := [(1, .int (nI 1)), (0, .ref x)]) hx hb d_X_iv_47 hl (k := 0) rfl (sb_inc (a := 0) (b := 1) (d := 1) rfl (by decide) (by omega)) (by decide) rfl (fun ls hl => ?_)
  refine lv_goto (tgt := 24) hx hb d_X_iv_50 (by decide) ?_
  refine lv_iload_n hx hb d_X_iv_24 rfl (lv_at hl 0 rfl) ?_
  refine lv_iconst (v := 3) hx hb d_X_iv_25 (by decide) ?_
  refine lv_icmp_ge (tgt := 53) hx hb d_X_iv_26 (by decide) (fun c_6 => absurd c_6 (sb_geF (a := 1) (b := 3) rfl rfl (by omega) (by omega) (by omega))) (fun c_6 => ?_)
  refine lv_aload_n hx hb d_X_iv_29 rfl (lv_at hl 1 rfl) ?_
  refine va_get (D := D) (ci := 6) (v := .ref qi) (C := R_X) (T := F_X) (N := 12) hx hb hts in_X hown hG.1 hP 0 rfl rfl 3 (by decide) (hts _ k_206) (fun _ h9 => h9) rfl d_X_iv_30 ?_
  refine lv_iload_n hx hb d_X_iv_33 rfl (lv_at hl 0 rfl) ?_
  refine lv_aload_n hx hb d_X_iv_34 rfl (lv_at hl 1 rfl) ?_
  refine va_get (D := D) (ci := 6) (v := .ref t1) (C := R_X) (T := F_X) (N := 12) hx hb hts in_X hown hG.1 hP 0 rfl rfl 0 (by decide) (hts _ k_203) (fun _ h9 => h9) rfl d_X_iv_35 ?_
  refine lv_iconst (v := 4) hx hb d_X_iv_38 (by decide) ?_
  refine lv_iload_n hx hb d_X_iv_39 rfl (lv_at hl 0 rfl) ?_
  refine lv_imul hx hb d_X_iv_40 ?_
  refine sb_topn 4 (sb_eqn (a := 4 * 1) (b := 4) (sb_mul (a := 4) (b := 1) rfl rfl) (by omega)) ?_
  refine lv_bipush (v := 12) hx hb d_X_iv_41 (by decide) ?_
  refine vp_callSi (va_runV (As := [.int (nI 4), .int 12]) (rest := [.int (nI 1), .ref qi]) ⟨hx, hb, hml, hown, hts⟩ (c_R_word l D cI cL cB tS tF t1 v1 12 cp1 f1 4 12 hl1 (by omega) (by omega) (by omega)) (cwV 2 hts (sb_gV k_483 k_425 k_426 k_23 k_427) rfl rfl rfl (by decide +kernel) ⟨Nat.le_of_ble_eq_true rfl, Nat.le_of_ble_eq_true rfl⟩) (sb_rV hG hP hS [1, 2] rfl (ci := 5) (q0 := 1) rfl rfl) rfl rfl hl.1 rfl (lv_room (Nat.le_of_ble_eq_true rfl)) d_X_iv_43 ⟨Nat.le_of_ble_eq_true rfl, Nat.le_of_ble_eq_true rfl⟩).run (fun r_7 er_7 => ?_)
  subst er_7
  refine lv_topi (fun x_8 ex_8 => ?_)
  refine sb_ist hx hb hG.1 hP hD hS 3 rfl 1 rfl (by omega) (by omega) d_X_iv_46 (fun f_9 H locs ef_9 hP hD hS => ?_)
  have hP : va_P D vwCl [(x, .inr (6, [.ref t1, .ref t2, .ref t3, .ref qi, .ref hg, .ref hh, .ref iu, .int cu, .long num, .int se, .int op, .int fa])), (t1, .inr (5, [.ref v1, .int (nI 12)])), (v1, .inl (cB, cp1, .inl f1)), (qi, .inl (cI, 3, .inl f_9))] H := hP
  have hD : va_D A [(x, .inr (6, [.ref t1, .ref t2, .ref t3, .ref qi, .ref hg, .ref hh, .ref iu, .int cu, .long num, .int se, .int op, .int fa])), (t1, .inr (5, [.ref v1, .int (nI 12)])), (v1, .inl (cB, cp1, .inl f1)), (qi, .inl (cI, 3, .inl f_9))] := hD
  obtain rfl : f_9 = i3 x_4 x_8 i2 := ef_9.trans (i3_set1 ..)
  refine lv_iinc (v := nI 2) (lv' := [(1, .int (nI 2)), (0, .ref x)]) hx hb d_X_iv_47 hl (k := 0) rfl (sb_inc (a := 1) (b := 2) (d := 1) rfl (by decide) (by omega)) (by decide) rfl (fun ls hl => ?_)
  refine lv_goto (tgt := 24) hx hb d_X_iv_50 (by decide) ?_
  refine lv_iload_n hx hb d_X_iv_24 rfl (lv_at hl 0 rfl) ?_
  refine lv_iconst (v := 3) hx hb d_X_iv_25 (by decide) ?_
  refine lv_icmp_ge (tgt := 53) hx hb d_X_iv_26 (by decide) (fun c_10 => absurd c_10 (sb_geF (a := 2) (b := 3) rfl rfl (by omega) (by omega) (by omega))) (fun c_10 => ?_)
  refine lv_aload_n hx hb d_X_iv_29 rfl (lv_at hl 1 rfl) ?_
  refine va_get (D := D) (ci := 6) (v := .ref qi) (C := R_X) (T := F_X) (N := 12) hx hb hts in_X hown hG.1 hP 0 rfl rfl 3 (by decide) (hts _ k_206) (fun _ h9 => h9) rfl d_X_iv_30 ?_
  refine lv_iload_n hx hb d_X_iv_33 rfl (lv_at hl 0 rfl) ?_
  refine lv_aload_n hx hb d_X_iv_34 rfl (lv_at hl 1 rfl) ?_
  refine va_get (D := D) (ci := 6) (v := .ref t1) (C := R_X) (T := F_X) (N := 12) hx hb hts in_X hown hG.1 hP 0 rfl rfl 0 (by decide) (hts _ k_203) (fun _ h9 => h9) rfl d_X_iv_35 ?_
  refine lv_iconst (v := 4) hx hb d_X_iv_38 (by decide) ?_
  refine lv_iload_n hx hb d_X_iv_39 rfl (lv_at hl 0 rfl) ?_
  refine lv_imul hx hb d_X_iv_40 ?_
  refine sb_topn 8 (sb_eqn (a := 4 * 2) (b := 8) (sb_mul (a := 4) (b := 2) rfl rfl) (by omega)) ?_
  refine lv_bipush (v := 12) hx hb d_X_iv_41 (by decide) ?_
  refine vp_callSi (va_runV (As := [.int (nI 8), .int 12]) (rest := [.int (nI 2), .ref qi]) ⟨hx, hb, hml, hown, hts⟩ (c_R_word l D cI cL cB tS tF t1 v1 12 cp1 f1 8 12 hl1 (by omega) (by omega) (by omega)) (cwV 2 hts (sb_gV k_483 k_425 k_426 k_23 k_427) rfl rfl rfl (by decide +kernel) ⟨Nat.le_of_ble_eq_true rfl, Nat.le_of_ble_eq_true rfl⟩) (sb_rV hG hP hS [1, 2] rfl (ci := 5) (q0 := 1) rfl rfl) rfl rfl hl.1 rfl (lv_room (Nat.le_of_ble_eq_true rfl)) d_X_iv_43 ⟨Nat.le_of_ble_eq_true rfl, Nat.le_of_ble_eq_true rfl⟩).run (fun r_11 er_11 => ?_)
  subst er_11
  refine lv_topi (fun x_12 ex_12 => ?_)
  refine sb_ist hx hb hG.1 hP hD hS 3 rfl 2 rfl (by omega) (by omega) d_X_iv_46 (fun f_13 H locs ef_13 hP hD hS => ?_)
  have hP : va_P D vwCl [(x, .inr (6, [.ref t1, .ref t2, .ref t3, .ref qi, .ref hg, .ref hh, .ref iu, .int cu, .long num, .int se, .int op, .int fa])), (t1, .inr (5, [.ref v1, .int (nI 12)])), (v1, .inl (cB, cp1, .inl f1)), (qi, .inl (cI, 3, .inl f_13))] H := hP
  have hD : va_D A [(x, .inr (6, [.ref t1, .ref t2, .ref t3, .ref qi, .ref hg, .ref hh, .ref iu, .int cu, .long num, .int se, .int op, .int fa])), (t1, .inr (5, [.ref v1, .int (nI 12)])), (v1, .inl (cB, cp1, .inl f1)), (qi, .inl (cI, 3, .inl f_13))] := hD
  obtain rfl : f_13 = i3 x_4 x_8 x_12 := ef_13.trans (i3_set2 ..)
  refine lv_iinc (v := nI 3) (lv' := [(1, .int (nI 3)), (0, .ref x)]) hx hb d_X_iv_47 hl (k := 0) rfl (sb_inc (a := 2) (b := 3) (d := 1) rfl (by decide) (by omega)) (by decide) rfl (fun ls hl => ?_)
  refine lv_goto (tgt := 24) hx hb d_X_iv_50 (by decide) ?_
  refine lv_iload_n hx hb d_X_iv_24 rfl (lv_at hl 0 rfl) ?_
  refine lv_iconst (v := 3) hx hb d_X_iv_25 (by decide) ?_
  refine lv_icmp_ge (tgt := 53) hx hb d_X_iv_26 (by decide) (fun c_14 => ?_) (fun c_14 => absurd (sb_geT (a := 3) (b := 3) rfl rfl (by omega) (by omega) (by omega)) c_14)
  refine lv_aload_n hx hb d_X_iv_53 rfl (lv_at hl 1 rfl) ?_
  refine lv_lconst (v := 0) hx hb d_X_iv_54 (by decide) ?_
  refine va_put (D := D) (ci := 6) (v := .long 0) (ty := .long) (C := R_X) (T := F_X) (N := 12) hx hb hts in_X tq_X tq_X_ok nq_X hown hG.1 hP hD hS 0 rfl rfl 8 (by decide) (hts _ k_211) (fun _ h9 => h9) rfl (by decide +kernel) rfl rfl (Nat.le_of_ble_eq_true rfl) d_X_iv_55 (fun H locs hP hD hS => ?_)
  have hP : va_P D vwCl [(x, .inr (6, [.ref t1, .ref t2, .ref t3, .ref qi, .ref hg, .ref hh, .ref iu, .int cu, .long 0, .int se, .int op, .int fa])), (t1, .inr (5, [.ref v1, .int (nI 12)])), (v1, .inl (cB, cp1, .inl f1)), (qi, .inl (cI, 3, .inl (i3 x_4 x_8 x_12)))] H := hP
  have hD : va_D A [(x, .inr (6, [.ref t1, .ref t2, .ref t3, .ref qi, .ref hg, .ref hh, .ref iu, .int cu, .long 0, .int se, .int op, .int fa])), (t1, .inr (5, [.ref v1, .int (nI 12)])), (v1, .inl (cB, cp1, .inl f1)), (qi, .inl (cI, 3, .inl (i3 x_4 x_8 x_12)))] := hD
  refine lv_aload_n hx hb d_X_iv_58 rfl (lv_at hl 1 rfl) ?_
  refine va_get (D := D) (ci := 6) (v := .ref t1) (C := R_X) (T := F_X) (N := 12) hx hb hts in_X hown hG.1 hP 0 rfl rfl 0 (by decide) (hts _ k_203) (fun _ h9 => h9) rfl d_X_iv_59 ?_
  refine lv_iconst (v := 0) hx hb d_X_iv_62 (by decide) ?_
  refine sb_callv (wr := [(x, .inr (6, [.ref t1, .ref t2, .ref t3, .ref qi, .ref hg, .ref hh, .ref iu, .int cu, .long 0, .int se, .int op, .int fa])), (qi, .inl (cI, 3, .inl (i3 x_4 x_8 x_12)))]) (va_runV (As := [.int 0]) (rest := []) ⟨hx, hb, hml, hown, hts⟩ (c_R_resize l D cI cL cB tS tF t1 v1 12 cp1 f1 0 _ hf1 (by omega) (by omega)) (cwV 1 hts (sb_gV k_276 k_253 k_254 k_23 k_255) rfl rfl rfl (by decide +kernel) ⟨Nat.le_of_ble_eq_true rfl, Nat.le_of_ble_eq_true rfl⟩) (sb_pV hG hP hD hS hA [1, 2] (by decide) rfl (ci := 5) (q0 := 1) rfl rfl) rfl rfl hl.1 rfl (lv_room (Nat.le_of_ble_eq_true rfl)) d_X_iv_63 ⟨Nat.le_of_ble_eq_true rfl, Nat.le_of_eq (Nat.zero_add _)⟩) hP hD hS hA [1, 2] [0, 3] rfl rfl (by decide) (by decide) (fun u H locs hw_17 hP hD hS => ?_)
  obtain ⟨nb_15, nf_16⟩ := u
  try dsimp only at hw_17
  have hP : va_P D vwCl [(x, .inr (6, [.ref t1, .ref t2, .ref t3, .ref qi, .ref hg, .ref hh, .ref iu, .int cu, .long 0, .int se, .int op, .int fa])), (qi, .inl (cI, 3, .inl (i3 x_4 x_8 x_12))), (t1, .inr (5, [.ref nb_15, .int (nI 0)])), (nb_15, .inl (cB, rnew 0 cp1, .inl nf_16))] H := hP
  have hD : va_D A [(x, .inr (6, [.ref t1, .ref t2, .ref t3, .ref qi, .ref hg, .ref hh, .ref iu, .int cu, .long 0, .int se, .int op, .int fa])), (qi, .inl (cI, 3, .inl (i3 x_4 x_8 x_12))), (t1, .inr (5, [.ref nb_15, .int (nI 0)])), (nb_15, .inl (cB, rnew 0 cp1, .inl nf_16))] := hD
  refine W.widen (k := 1) (n := 0 + rsz 0 cp1) (by omega) (by omega) ?_
  have hgeA := rnew_le 0 cp1
  have hcapA := rnew_cap 0 cp1 (by omega) (by omega)
  subst ex_12
  subst ex_8
  subst ex_4
  have hP9 := hP.sub (ws' := [(x, .inr (6, [.ref t1, .ref t2, .ref t3, .ref qi, .ref hg, .ref hh, .ref iu, .int cu, .long 0, .int se, .int op, .int fa])), (t1, .inr (5, [.ref nb_15, .int (nI 0)])), (nb_15, .inl (cB, rnew 0 cp1, .inl nf_16)), (qi, .inl (cI, 3, .inl (i3 (rword f1 12 0 12) (rword f1 12 4 12) (rword f1 12 8 12))))]) [0, 2, 3, 1] rfl
  have hD9 := hD.sub (ws' := [(x, .inr (6, [.ref t1, .ref t2, .ref t3, .ref qi, .ref hg, .ref hh, .ref iu, .int cu, .long 0, .int se, .int op, .int fa])), (t1, .inr (5, [.ref nb_15, .int (nI 0)])), (nb_15, .inl (cB, rnew 0 cp1, .inl nf_16)), (qi, .inl (cI, 3, .inl (i3 (rword f1 12 0 12) (rword f1 12 4 12) (rword f1 12 8 12))))]) [0, 2, 3, 1] (by decide) rfl
  refine W.widen (k := 1) (n := rsz 0 cp1) (by omega) (by omega) ?_
  exact W.vret hx hb hr (fun t ht hW => ⟨⟨(nb_15, nf_16), rfl, hw_17.2, by rw [ht]; exact hP9, hD9⟩, hS.F ht⟩) hS.2.2 d_X_iv_66

def rm_X_besideR (mc ms : Nat) : Room := { frames := 4, cells := mc, slots := ms, locals := 82 }
set_option maxHeartbeats 4000000 in
set_option maxRecDepth 100000 in
theorem c_X_besideR (l : Launch) (D : va_G) (cI cL cB : ClassId) (tS tF : Nat) (x : Nat) (t1 : Nat) (t2 : Nat) (t3 : Nat) (qi : Nat) (hg : Nat) (hh : Nat) (cu : Int32) (num : Int64) (se : Int32) (op : Int32) (fa : Int32) (iu : Nat) (v1 : Nat) (len1 : Nat) (cp1 : Nat) (f1 : Nat → Int32) (v2 : Nat) (len2 : Nat) (cp2 : Nat) (f2 : Nat → Int32) (sz : Nat) (hl1 : len1 ≤ cp1) (hc1 : cp1 ≤ 50000) (hf1 : ∀ x, fits .byte (.int (f1 x)) = true) (hl2 : len2 ≤ cp2) (hc2 : cp2 ≤ 50000) (hf2 : ∀ x, fits .byte (.int (f2 x)) = true) (hlim : len1 ≤ 20000) : Met l y_X_beside (sbw y_X_beside b_X_beside 1 (some .int)) (rm_X_besideR 2 (rsz len1 cp2 + rsz 0 cp1)) (sbPc D cI cL cB tS tF [.ref x] sz [(x, .inr (6, [.ref t1, .ref t2, .ref t3, .ref qi, .ref hg, .ref hh, .ref iu, .int cu, .long num, .int se, .int op, .int fa])), (t1, .inr (5, [.ref v1, .int (nI len1)])), (v1, .inl (cB, cp1, .inl f1)), (t2, .inr (5, [.ref v2, .int (nI len2)])), (v2, .inl (cB, cp2, .inl f2))]) (sbQi D (fun (r : Int32) (u : Nat × (Nat → Int32) × Nat × (Nat → Int32)) => match u with | (nb, nf, mb, mf) => r = nI len1 ∧ (∀ j, j < len1 → mf j = f1 j) ∧ (∀ x, fits .byte (.int (mf x)) = true) ∧ (∀ x, fits .byte (.int (nf x)) = true)) (fun (u : Nat × (Nat → Int32) × Nat × (Nat → Int32)) => match u with | (nb, nf, mb, mf) => [(x, .inr (6, [.ref t1, .ref t2, .ref t3, .ref qi, .ref hg, .ref hh, .ref iu, .int cu, .long num, .int se, .int op, .int fa])), (t1, .inr (5, [.ref nb, .int (nI 0)])), (nb, .inl (cB, rnew 0 cp1, .inl nf)), (t2, .inr (5, [.ref mb, .int (nI len1)])), (mb, .inl (cB, rnew len1 cp2, .inl mf))]) (va_A [(x, .inr (6, [.ref t1, .ref t2, .ref t3, .ref qi, .ref hg, .ref hh, .ref iu, .int cu, .long num, .int se, .int op, .int fa])), (t1, .inr (5, [.ref v1, .int (nI len1)])), (v1, .inl (cB, cp1, .inl f1)), (t2, .inr (5, [.ref v2, .int (nI len2)])), (v2, .inl (cB, cp2, .inl f2))] sz)) 2 (rsz len1 cp2 + rsz 0 cp1) (va_A [(x, .inr (6, [.ref t1, .ref t2, .ref t3, .ref qi, .ref hg, .ref hh, .ref iu, .int cu, .long num, .int se, .int op, .int fa])), (t1, .inr (5, [.ref v1, .int (nI len1)])), (v1, .inl (cB, cp1, .inl f1)), (t2, .inr (5, [.ref v2, .int (nI len2)])), (v2, .inl (cB, cp2, .inl f2))] sz) := by
  refine sb_ofW (Qc := fun A => (sbQi D (fun (r : Int32) (u : Nat × (Nat → Int32) × Nat × (Nat → Int32)) => match u with | (nb, nf, mb, mf) => r = nI len1 ∧ (∀ j, j < len1 → mf j = f1 j) ∧ (∀ x, fits .byte (.int (mf x)) = true) ∧ (∀ x, fits .byte (.int (nf x)) = true)) (fun (u : Nat × (Nat → Int32) × Nat × (Nat → Int32)) => match u with | (nb, nf, mb, mf) => [(x, .inr (6, [.ref t1, .ref t2, .ref t3, .ref qi, .ref hg, .ref hh, .ref iu, .int cu, .long num, .int se, .int op, .int fa])), (t1, .inr (5, [.ref nb, .int (nI 0)])), (nb, .inl (cB, rnew 0 cp1, .inl nf)), (t2, .inr (5, [.ref mb, .int (nI len1)])), (mb, .inl (cB, rnew len1 cp2, .inl mf))]) A)) (by decide) (Nat.le_of_ble_eq_true rfl) ?_
  intro p e s m args below meth c A ls hx hb hr hml hts hown hlocks hin hsz hP hG hD hA hS hl
  have hl : lv_has ls 1 [(0, .ref x)] := hl
  refine lv_aload_n hx hb d_X_beside_0 rfl (lv_at hl 0 rfl) ?_
  refine va_get (D := D) (ci := 6) (v := .ref t2) (C := R_X) (T := F_X) (N := 12) hx hb hts in_X hown hG.1 hP 0 rfl rfl 1 (by decide) (hts _ k_204) (fun _ h9 => h9) rfl d_X_beside_1 ?_
  refine lv_aload_n hx hb d_X_beside_4 rfl (lv_at hl 0 rfl) ?_
  refine va_get (D := D) (ci := 6) (v := .ref t1) (C := R_X) (T := F_X) (N := 12) hx hb hts in_X hown hG.1 hP 0 rfl rfl 0 (by decide) (hts _ k_203) (fun _ h9 => h9) rfl d_X_beside_5 ?_
  refine sb_callv (wr := [(x, .inr (6, [.ref t1, .ref t2, .ref t3, .ref qi, .ref hg, .ref hh, .ref iu, .int cu, .long num, .int se, .int op, .int fa]))]) (va_runV (As := [.ref t1]) (rest := []) ⟨hx, hb, hml, hown, hts⟩ (c_R_copyFrom l D cI cL cB tS tF t2 v2 len2 cp2 f2 t1 v1 len1 cp1 f1 _ hf2 hf1 (by omega) (by omega) (by omega) (by omega)) (cwV 1 hts (sb_gV k_248 k_249 k_250 k_23 k_251) rfl rfl rfl (by decide +kernel) ⟨Nat.le_of_ble_eq_true rfl, Nat.le_of_ble_eq_true rfl⟩) (sb_pV hG hP hD hS hA [3, 4, 1, 2] (by decide) rfl (ci := 5) (q0 := 3) rfl rfl) rfl rfl hl.1 rfl (lv_room (Nat.le_of_ble_eq_true rfl)) d_X_beside_8 ⟨Nat.le_of_ble_eq_true rfl, by show 0 + rsz len1 cp2 ≤ rsz len1 cp2 + rsz 0 cp1; omega⟩) hP hD hS hA [3, 4, 1, 2] [0] rfl rfl (by decide) (by decide) (fun u H locs hw_3 hP hD hS => ?_)
  obtain ⟨nb_1, nf_2⟩ := u
  try dsimp only at hw_3
  have hP : va_P D vwCl [(x, .inr (6, [.ref t1, .ref t2, .ref t3, .ref qi, .ref hg, .ref hh, .ref iu, .int cu, .long num, .int se, .int op, .int fa])), (t2, .inr (5, [.ref nb_1, .int (nI len1)])), (nb_1, .inl (cB, rnew len1 cp2, .inl nf_2)), (t1, .inr (5, [.ref v1, .int (nI len1)])), (v1, .inl (cB, cp1, .inl f1))] H := hP
  have hD : va_D A [(x, .inr (6, [.ref t1, .ref t2, .ref t3, .ref qi, .ref hg, .ref hh, .ref iu, .int cu, .long num, .int se, .int op, .int fa])), (t2, .inr (5, [.ref nb_1, .int (nI len1)])), (nb_1, .inl (cB, rnew len1 cp2, .inl nf_2)), (t1, .inr (5, [.ref v1, .int (nI len1)])), (v1, .inl (cB, cp1, .inl f1))] := hD
  refine W.widen (k := 1) (n := 0 + rsz len1 cp2) (by omega) (by omega) ?_
  have hgeA := rnew_le len1 cp2
  have hcapA := rnew_cap len1 cp2 (by omega) (by omega)
  refine lv_aload_n hx hb d_X_beside_11 rfl (lv_at hl 0 rfl) ?_
  refine va_get (D := D) (ci := 6) (v := .ref t1) (C := R_X) (T := F_X) (N := 12) hx hb hts in_X hown hG.1 hP 0 rfl rfl 0 (by decide) (hts _ k_203) (fun _ h9 => h9) rfl d_X_beside_12 ?_
  refine lv_iconst (v := 0) hx hb d_X_beside_15 (by decide) ?_
  refine sb_callv (wr := [(x, .inr (6, [.ref t1, .ref t2, .ref t3, .ref qi, .ref hg, .ref hh, .ref iu, .int cu, .long num, .int se, .int op, .int fa])), (t2, .inr (5, [.ref nb_1, .int (nI len1)])), (nb_1, .inl (cB, rnew len1 cp2, .inl nf_2))]) (va_runV (As := [.int 0]) (rest := []) ⟨hx, hb, hml, hown, hts⟩ (c_R_resize l D cI cL cB tS tF t1 v1 len1 cp1 f1 0 _ hf1 (by omega) (by omega)) (cwV 1 hts (sb_gV k_276 k_253 k_254 k_23 k_255) rfl rfl rfl (by decide +kernel) ⟨Nat.le_of_ble_eq_true rfl, Nat.le_of_ble_eq_true rfl⟩) (sb_pV hG hP hD hS hA [3, 4] (by decide) rfl (ci := 5) (q0 := 3) rfl rfl) rfl rfl hl.1 rfl (lv_room (Nat.le_of_ble_eq_true rfl)) d_X_beside_16 ⟨Nat.le_of_ble_eq_true rfl, by show 0 + rsz len1 cp2 + rsz 0 cp1 ≤ rsz len1 cp2 + rsz 0 cp1; omega⟩) hP hD hS hA [3, 4] [0, 1, 2] rfl rfl (by decide) (by decide) (fun u H locs hw_6 hP hD hS => ?_)
  obtain ⟨nb_4, nf_5⟩ := u
  try dsimp only at hw_6
  have hP : va_P D vwCl [(x, .inr (6, [.ref t1, .ref t2, .ref t3, .ref qi, .ref hg, .ref hh, .ref iu, .int cu, .long num, .int se, .int op, .int fa])), (t2, .inr (5, [.ref nb_1, .int (nI len1)])), (nb_1, .inl (cB, rnew len1 cp2, .inl nf_2)), (t1, .inr (5, [.ref nb_4, .int (nI 0)])), (nb_4, .inl (cB, rnew 0 cp1, .inl nf_5))] H := hP
  have hD : va_D A [(x, .inr (6, [.ref t1, .ref t2, .ref t3, .ref qi, .ref hg, .ref hh, .ref iu, .int cu, .long num, .int se, .int op, .int fa])), (t2, .inr (5, [.ref nb_1, .int (nI len1)])), (nb_1, .inl (cB, rnew len1 cp2, .inl nf_2)), (t1, .inr (5, [.ref nb_4, .int (nI 0)])), (nb_4, .inl (cB, rnew 0 cp1, .inl nf_5))] := hD
  refine W.widen (k := 2) (n := 0 + rsz len1 cp2 + rsz 0 cp1) (by omega) (by omega) ?_
  have hgeB := rnew_le 0 cp1
  have hcapB := rnew_cap 0 cp1 (by omega) (by omega)
  refine lv_aload_n hx hb d_X_beside_19 rfl (lv_at hl 0 rfl) ?_
  refine va_get (D := D) (ci := 6) (v := .ref t2) (C := R_X) (T := F_X) (N := 12) hx hb hts in_X hown hG.1 hP 0 rfl rfl 1 (by decide) (hts _ k_204) (fun _ h9 => h9) rfl d_X_beside_20 ?_
  refine va_getN (D := D) (ci := 5) (v := .int (nI len1)) (C := R_R) (T := F_R) (N := 2) hx hb hts in_R hown hG.1 hP 1 rfl rfl 1 (by decide) (hG.nest _ n_59) (fun _ h9 => h9) rfl d_X_beside_23 ?_
  have hP9 := hP.sub (ws' := [(x, .inr (6, [.ref t1, .ref t2, .ref t3, .ref qi, .ref hg, .ref hh, .ref iu, .int cu, .long num, .int se, .int op, .int fa])), (t1, .inr (5, [.ref nb_4, .int (nI 0)])), (nb_4, .inl (cB, rnew 0 cp1, .inl nf_5)), (t2, .inr (5, [.ref nb_1, .int (nI len1)])), (nb_1, .inl (cB, rnew len1 cp2, .inl nf_2))]) [0, 3, 4, 1, 2] rfl
  have hD9 := hD.sub (ws' := [(x, .inr (6, [.ref t1, .ref t2, .ref t3, .ref qi, .ref hg, .ref hh, .ref iu, .int cu, .long num, .int se, .int op, .int fa])), (t1, .inr (5, [.ref nb_4, .int (nI 0)])), (nb_4, .inl (cB, rnew 0 cp1, .inl nf_5)), (t2, .inr (5, [.ref nb_1, .int (nI len1)])), (nb_1, .inl (cB, rnew len1 cp2, .inl nf_2))]) [0, 3, 4, 1, 2] (by decide) rfl
  refine W.widen (k := 2) (n := rsz len1 cp2 + rsz 0 cp1) (by omega) (by omega) ?_
  exact W.iret (v := nI len1) hx hb hr (fun t ht hW => ⟨⟨_, (nb_4, nf_5, nb_1, nf_2), rfl, ⟨rfl, hw_3.1, hw_3.2, hw_6.2⟩, by rw [ht]; exact hP9, hD9⟩, hS.F ht⟩) hS.2.2 d_X_beside_26

def rm_X_boxR : Room := { frames := 1, cells := 0, slots := 0, locals := 21 }
set_option maxHeartbeats 4000000 in
set_option maxRecDepth 100000 in
theorem c_X_boxR (l : Launch) (D : va_G) (cI cL cB : ClassId) (tS tF : Nat) (x : Nat) (t1 : Nat) (t2 : Nat) (t3 : Nat) (qi : Nat) (hg : Nat) (hh : Nat) (cu : Int32) (num : Int64) (se : Int32) (op : Int32) (fa : Int32) (iu : Nat) (v3 : Nat) (len3 : Nat) (cp3 : Nat) (f3 : Nat → Int32) (i : Nat) (hl3 : len3 ≤ cp3) (hc3 : cp3 ≤ 50000) (hf3 : ∀ x, fits .byte (.int (f3 x)) = true) (hi : i < len3) : Met l y_X_box (sbw y_X_box b_X_box 2 (some .int)) rm_X_boxR (sbPr D cI cL cB tS tF [.ref x, .int (nI i)] [(x, .inr (6, [.ref t1, .ref t2, .ref t3, .ref qi, .ref hg, .ref hh, .ref iu, .int cu, .long num, .int se, .int op, .int fa])), (t3, .inr (5, [.ref v3, .int (nI len3)])), (v3, .inl (cB, cp3, .inl f3))]) (vp_Si (fun r => r = rget f3 len3 (nI i))) 0 0 (fun _ => False) := by
  refine sb_ofR (by decide) (Nat.le_of_ble_eq_true rfl) ?_
  intro p e s m args below meth c ls hx hb hr hml hts hown hlocks hP hG hS hl
  have hl : lv_has ls 2 [(0, .ref x), (1, .int (nI i))] := hl
  refine lv_iload_n hx hb d_X_box_0 rfl (lv_at hl 1 rfl) ?_
  refine lv_if_lt (tgt := 15) hx hb d_X_box_1 (by decide) (fun c_1 => absurd c_1 (nI_pos (by omega))) (fun c_1 => ?_)
  refine lv_iload_n hx hb d_X_box_4 rfl (lv_at hl 1 rfl) ?_
  refine lv_aload_n hx hb d_X_box_5 rfl (lv_at hl 0 rfl) ?_
  refine va_get (D := D) (ci := 6) (v := .ref t3) (C := R_X) (T := F_X) (N := 12) hx hb hts in_X hown hG.1 hP 0 rfl rfl 2 (by decide) (hts _ k_205) (fun _ h9 => h9) rfl d_X_box_6 ?_
  refine va_getN (D := D) (ci := 5) (v := .int (nI len3)) (C := R_R) (T := F_R) (N := 2) hx hb hts in_R hown hG.1 hP 1 rfl rfl 1 (by decide) (hG.nest _ n_59) (fun _ h9 => h9) rfl d_X_box_9 ?_
  refine lv_icmp_lt (tgt := 25) hx hb d_X_box_12 (by decide) (fun c_2 => ?_) (fun c_2 => absurd (sb_ltT (a := i) (b := len3) rfl rfl (by omega) (by omega) (by omega)) c_2)
  refine lv_aload_n hx hb d_X_box_25 rfl (lv_at hl 0 rfl) ?_
  refine va_get (D := D) (ci := 6) (v := .ref t3) (C := R_X) (T := F_X) (N := 12) hx hb hts in_X hown hG.1 hP 0 rfl rfl 2 (by decide) (hts _ k_205) (fun _ h9 => h9) rfl d_X_box_26 ?_
  refine lv_iload_n hx hb d_X_box_29 rfl (lv_at hl 1 rfl) ?_
  refine vp_callSi (va_runV (As := [.int (nI i)]) (rest := []) ⟨hx, hb, hml, hown, hts⟩ (c_R_get l D cI cL cB tS tF t3 v3 len3 cp3 f3 (nI i) hl3 (by omega)) (cwV 1 hts (sb_gV k_678 k_429 k_430 k_23 k_431) rfl rfl rfl (by decide +kernel) ⟨Nat.le_of_ble_eq_true rfl, Nat.le_of_ble_eq_true rfl⟩) (sb_rV hG hP hS [1, 2] rfl (ci := 5) (q0 := 1) rfl rfl) rfl rfl hl.1 rfl (lv_room (Nat.le_of_ble_eq_true rfl)) d_X_box_30 ⟨Nat.le_of_ble_eq_true rfl, Nat.le_of_ble_eq_true rfl⟩).run (fun r_3 er_3 => ?_)
  subst er_3
  exact W.iret (v := rget f3 len3 (nI i)) hx hb hr (fun t ht hW => ⟨_, rfl, rfl, ht⟩) hS.2.2 d_X_box_33

def rm_X_backMR (mc ms : Nat) : Room := { frames := 4, cells := mc, slots := ms, locals := 82 }
set_option maxHeartbeats 4000000 in
set_option maxRecDepth 100000 in
theorem c_X_backMR (l : Launch) (D : va_G) (cI cL cB : ClassId) (tS tF : Nat) (x : Nat) (t1 : Nat) (t2 : Nat) (t3 : Nat) (qi : Nat) (hg : Nat) (hh : Nat) (cu : Int32) (num : Int64) (se : Int32) (op : Int32) (fa : Int32) (iu : Nat) (v1 : Nat) (len1 : Nat) (cp1 : Nat) (f1 : Nat → Int32) (v3 : Nat) (len3 : Nat) (cp3 : Nat) (f3 : Nat → Int32) (v : Int32) (sz : Nat) (hl1 : len1 ≤ cp1) (hc1 : cp1 ≤ 50000) (hf1 : ∀ x, fits .byte (.int (f1 x)) = true) (hl3 : len3 ≤ cp3) (hc3 : cp3 ≤ 50000) (hf3 : ∀ x, fits .byte (.int (f3 x)) = true) (hlim : len3 ≤ 20000) : Met l y_X_back (sbw y_X_back b_X_back 3 (some .int)) (rm_X_backMR 1 (rsz len3 cp1)) (sbPc D cI cL cB tS tF [.ref x, .int (-1), .int v] sz [(x, .inr (6, [.ref t1, .ref t2, .ref t3, .ref qi, .ref hg, .ref hh, .ref iu, .int cu, .long num, .int se, .int op, .int fa])), (t1, .inr (5, [.ref v1, .int (nI len1)])), (v1, .inl (cB, cp1, .inl f1)), (t3, .inr (5, [.ref v3, .int (nI len3)])), (v3, .inl (cB, cp3, .inl f3))]) (sbQi D (fun (r : Int32) (u : Nat × (Nat → Int32)) => match u with | (nb, nf) => r = nI len3 ∧ (∀ j, j < len3 → nf j = f3 j) ∧ (∀ x, fits .byte (.int (nf x)) = true)) (fun (u : Nat × (Nat → Int32)) => match u with | (nb, nf) => [(x, .inr (6, [.ref t1, .ref t2, .ref t3, .ref qi, .ref hg, .ref hh, .ref iu, .int cu, .long num, .int se, .int op, .int fa])), (t1, .inr (5, [.ref nb, .int (nI len3)])), (nb, .inl (cB, rnew len3 cp1, .inl nf)), (t3, .inr (5, [.ref v3, .int (nI len3)])), (v3, .inl (cB, cp3, .inl f3))]) (va_A [(x, .inr (6, [.ref t1, .ref t2, .ref t3, .ref qi, .ref hg, .ref hh, .ref iu, .int cu, .long num, .int se, .int op, .int fa])), (t1, .inr (5, [.ref v1, .int (nI len1)])), (v1, .inl (cB, cp1, .inl f1)), (t3, .inr (5, [.ref v3, .int (nI len3)])), (v3, .inl (cB, cp3, .inl f3))] sz)) 1 (rsz len3 cp1) (va_A [(x, .inr (6, [.ref t1, .ref t2, .ref t3, .ref qi, .ref hg, .ref hh, .ref iu, .int cu, .long num, .int se, .int op, .int fa])), (t1, .inr (5, [.ref v1, .int (nI len1)])), (v1, .inl (cB, cp1, .inl f1)), (t3, .inr (5, [.ref v3, .int (nI len3)])), (v3, .inl (cB, cp3, .inl f3))] sz) := by
  refine sb_ofW (Qc := fun A => (sbQi D (fun (r : Int32) (u : Nat × (Nat → Int32)) => match u with | (nb, nf) => r = nI len3 ∧ (∀ j, j < len3 → nf j = f3 j) ∧ (∀ x, fits .byte (.int (nf x)) = true)) (fun (u : Nat × (Nat → Int32)) => match u with | (nb, nf) => [(x, .inr (6, [.ref t1, .ref t2, .ref t3, .ref qi, .ref hg, .ref hh, .ref iu, .int cu, .long num, .int se, .int op, .int fa])), (t1, .inr (5, [.ref nb, .int (nI len3)])), (nb, .inl (cB, rnew len3 cp1, .inl nf)), (t3, .inr (5, [.ref v3, .int (nI len3)])), (v3, .inl (cB, cp3, .inl f3))]) A)) (by decide) (Nat.le_of_ble_eq_true rfl) ?_
  intro p e s m args below meth c A ls hx hb hr hml hts hown hlocks hin hsz hP hG hD hA hS hl
  have hl : lv_has ls 3 [(0, .ref x), (1, .int (-1)), (2, .int v)] := hl
  refine lv_iload_n hx hb d_X_back_0 rfl (lv_at hl 1 rfl) ?_
  refine lv_iconst (v := (-1)) hx hb d_X_back_1 (by decide) ?_
  refine lv_icmp_lt (tgt := 16) hx hb d_X_back_2 (by decide) (fun c_1 => absurd c_1 (by decide)) (fun c_1 => ?_)
  refine lv_iload_n hx hb d_X_back_5 rfl (lv_at hl 1 rfl) ?_
  refine lv_aload_n hx hb d_X_back_6 rfl (lv_at hl 0 rfl) ?_
  refine va_get (D := D) (ci := 6) (v := .ref t3) (C := R_X) (T := F_X) (N := 12) hx hb hts in_X hown hG.1 hP 0 rfl rfl 2 (by decide) (hts _ k_205) (fun _ h9 => h9) rfl d_X_back_7 ?_
  refine va_getN (D := D) (ci := 5) (v := .int (nI len3)) (C := R_R) (T := F_R) (N := 2) hx hb hts in_R hown hG.1 hP 3 rfl rfl 1 (by decide) (hG.nest _ n_59) (fun _ h9 => h9) rfl d_X_back_10 ?_
  refine lv_icmp_lt (tgt := 26) hx hb d_X_back_13 (by decide) (fun c_2 => ?_) (fun c_2 => absurd (sb_m1lt (by omega)) c_2)
  refine lv_aload_n hx hb d_X_back_26 rfl (lv_at hl 0 rfl) ?_
  refine va_get (D := D) (ci := 6) (v := .ref t1) (C := R_X) (T := F_X) (N := 12) hx hb hts in_X hown hG.1 hP 0 rfl rfl 0 (by decide) (hts _ k_203) (fun _ h9 => h9) rfl d_X_back_27 ?_
  refine lv_aload_n hx hb d_X_back_30 rfl (lv_at hl 0 rfl) ?_
  refine va_get (D := D) (ci := 6) (v := .ref t3) (C := R_X) (T := F_X) (N := 12) hx hb hts in_X hown hG.1 hP 0 rfl rfl 2 (by decide) (hts _ k_205) (fun _ h9 => h9) rfl d_X_back_31 ?_
  refine sb_callv (wr := [(x, .inr (6, [.ref t1, .ref t2, .ref t3, .ref qi, .ref hg, .ref hh, .ref iu, .int cu, .long num, .int se, .int op, .int fa]))]) (va_runV (As := [.ref t3]) (rest := []) ⟨hx, hb, hml, hown, hts⟩ (c_R_copyFrom l D cI cL cB tS tF t1 v1 len1 cp1 f1 t3 v3 len3 cp3 f3 _ hf1 hf3 (by omega) (by omega) (by omega) (by omega)) (cwV 1 hts (sb_gV k_248 k_249 k_250 k_23 k_251) rfl rfl rfl (by decide +kernel) ⟨Nat.le_of_ble_eq_true rfl, Nat.le_of_ble_eq_true rfl⟩) (sb_pV hG hP hD hS hA [1, 2, 3, 4] (by decide) rfl (ci := 5) (q0 := 1) rfl rfl) rfl rfl hl.1 rfl (lv_room (Nat.le_of_ble_eq_true rfl)) d_X_back_34 ⟨Nat.le_of_ble_eq_true rfl, Nat.le_of_eq (Nat.zero_add _)⟩) hP hD hS hA [1, 2, 3, 4] [0] rfl rfl (by decide) (by decide) (fun u H locs hw_5 hP hD hS => ?_)
  obtain ⟨nb_3, nf_4⟩ := u
  try dsimp only at hw_5
  have hP : va_P D vwCl [(x, .inr (6, [.ref t1, .ref t2, .ref t3, .ref qi, .ref hg, .ref hh, .ref iu, .int cu, .long num, .int se, .int op, .int fa])), (t1, .inr (5, [.ref nb_3, .int (nI len3)])), (nb_3, .inl (cB, rnew len3 cp1, .inl nf_4)), (t3, .inr (5, [.ref v3, .int (nI len3)])), (v3, .inl (cB, cp3, .inl f3))] H := hP
  have hD : va_D A [(x, .inr (6, [.ref t1, .ref t2, .ref t3, .ref qi, .ref hg, .ref hh, .ref iu, .int cu, .long num, .int se, .int op, .int fa])), (t1, .inr (5, [.ref nb_3, .int (nI len3)])), (nb_3, .inl (cB, rnew len3 cp1, .inl nf_4)), (t3, .inr (5, [.ref v3, .int (nI len3)])), (v3, .inl (cB, cp3, .inl f3))] := hD
  refine W.widen (k := 1) (n := 0 + rsz len3 cp1) (by omega) (by omega) ?_
  have hgeA := rnew_le len3 cp1
  have hcapA := rnew_cap len3 cp1 (by omega) (by omega)
  refine lv_iload_n hx hb d_X_back_37 rfl (lv_at hl 1 rfl) ?_
  refine lv_if_lt (tgt := 59) hx hb d_X_back_38 (by decide) (fun c_6 => ?_) (fun c_6 => absurd (by decide) c_6)
  refine lv_aload_n hx hb d_X_back_59 rfl (lv_at hl 0 rfl) ?_
  refine va_get (D := D) (ci := 6) (v := .ref t1) (C := R_X) (T := F_X) (N := 12) hx hb hts in_X hown hG.1 hP 0 rfl rfl 0 (by decide) (hts _ k_203) (fun _ h9 => h9) rfl d_X_back_60 ?_
  refine va_getN (D := D) (ci := 5) (v := .int (nI len3)) (C := R_R) (T := F_R) (N := 2) hx hb hts in_R hown hG.1 hP 1 rfl rfl 1 (by decide) (hG.nest _ n_59) (fun _ h9 => h9) rfl d_X_back_63 ?_
  have hP9 := hP.sub (ws' := [(x, .inr (6, [.ref t1, .ref t2, .ref t3, .ref qi, .ref hg, .ref hh, .ref iu, .int cu, .long num, .int se, .int op, .int fa])), (t1, .inr (5, [.ref nb_3, .int (nI len3)])), (nb_3, .inl (cB, rnew len3 cp1, .inl nf_4)), (t3, .inr (5, [.ref v3, .int (nI len3)])), (v3, .inl (cB, cp3, .inl f3))]) [0, 1, 2, 3, 4] rfl
  have hD9 := hD.sub (ws' := [(x, .inr (6, [.ref t1, .ref t2, .ref t3, .ref qi, .ref hg, .ref hh, .ref iu, .int cu, .long num, .int se, .int op, .int fa])), (t1, .inr (5, [.ref nb_3, .int (nI len3)])), (nb_3, .inl (cB, rnew len3 cp1, .inl nf_4)), (t3, .inr (5, [.ref v3, .int (nI len3)])), (v3, .inl (cB, cp3, .inl f3))]) [0, 1, 2, 3, 4] (by decide) rfl
  refine W.widen (k := 1) (n := rsz len3 cp1) (by omega) (by omega) ?_
  exact W.iret (v := nI len3) hx hb hr (fun t ht hW => ⟨⟨_, (nb_3, nf_4), rfl, ⟨rfl, hw_5⟩, by rw [ht]; exact hP9, hD9⟩, hS.F ht⟩) hS.2.2 d_X_back_66

def rm_X_backR (mc ms : Nat) : Room := { frames := 4, cells := mc, slots := ms, locals := 82 }
set_option maxHeartbeats 4000000 in
set_option maxRecDepth 100000 in
theorem c_X_backR (l : Launch) (D : va_G) (cI cL cB : ClassId) (tS tF : Nat) (x : Nat) (t1 : Nat) (t2 : Nat) (t3 : Nat) (qi : Nat) (hg : Nat) (hh : Nat) (cu : Int32) (num : Int64) (se : Int32) (op : Int32) (fa : Int32) (iu : Nat) (v1 : Nat) (len1 : Nat) (cp1 : Nat) (f1 : Nat → Int32) (v3 : Nat) (len3 : Nat) (cp3 : Nat) (f3 : Nat → Int32) (i : Nat) (v : Int32) (sz : Nat) (hl1 : len1 ≤ cp1) (hc1 : cp1 ≤ 50000) (hf1 : ∀ x, fits .byte (.int (f1 x)) = true) (hl3 : len3 ≤ cp3) (hc3 : cp3 ≤ 50000) (hf3 : ∀ x, fits .byte (.int (f3 x)) = true) (hlim : len3 ≤ 20000) (hi : i < len3) : Met l y_X_back (sbw y_X_back b_X_back 3 (some .int)) (rm_X_backR 1 (rsz len3 cp1)) (sbPc D cI cL cB tS tF [.ref x, .int (nI i), .int v] sz [(x, .inr (6, [.ref t1, .ref t2, .ref t3, .ref qi, .ref hg, .ref hh, .ref iu, .int cu, .long num, .int se, .int op, .int fa])), (t1, .inr (5, [.ref v1, .int (nI len1)])), (v1, .inl (cB, cp1, .inl f1)), (t3, .inr (5, [.ref v3, .int (nI len3)])), (v3, .inl (cB, cp3, .inl f3))]) (sbQi D (fun (r : Int32) (u : Nat × (Nat → Int32)) => match u with | (nb, nf) => r = nI len3 ∧ (∀ j, j < len3 → nf j = f3 j) ∧ (∀ x, fits .byte (.int (nf x)) = true)) (fun (u : Nat × (Nat → Int32)) => match u with | (nb, nf) => [(x, .inr (6, [.ref t1, .ref t2, .ref t3, .ref qi, .ref hg, .ref hh, .ref iu, .int cu, .long num, .int se, .int op, .int fa])), (t1, .inr (5, [.ref nb, .int (nI len3)])), (nb, .inl (cB, rnew len3 cp1, .inl (rset nf len3 (nI i) (rget nf len3 (nI i) ^^^ v)))), (t3, .inr (5, [.ref v3, .int (nI len3)])), (v3, .inl (cB, cp3, .inl f3))]) (va_A [(x, .inr (6, [.ref t1, .ref t2, .ref t3, .ref qi, .ref hg, .ref hh, .ref iu, .int cu, .long num, .int se, .int op, .int fa])), (t1, .inr (5, [.ref v1, .int (nI len1)])), (v1, .inl (cB, cp1, .inl f1)), (t3, .inr (5, [.ref v3, .int (nI len3)])), (v3, .inl (cB, cp3, .inl f3))] sz)) 1 (rsz len3 cp1) (va_A [(x, .inr (6, [.ref t1, .ref t2, .ref t3, .ref qi, .ref hg, .ref hh, .ref iu, .int cu, .long num, .int se, .int op, .int fa])), (t1, .inr (5, [.ref v1, .int (nI len1)])), (v1, .inl (cB, cp1, .inl f1)), (t3, .inr (5, [.ref v3, .int (nI len3)])), (v3, .inl (cB, cp3, .inl f3))] sz) := by
  refine sb_ofW (Qc := fun A => (sbQi D (fun (r : Int32) (u : Nat × (Nat → Int32)) => match u with | (nb, nf) => r = nI len3 ∧ (∀ j, j < len3 → nf j = f3 j) ∧ (∀ x, fits .byte (.int (nf x)) = true)) (fun (u : Nat × (Nat → Int32)) => match u with | (nb, nf) => [(x, .inr (6, [.ref t1, .ref t2, .ref t3, .ref qi, .ref hg, .ref hh, .ref iu, .int cu, .long num, .int se, .int op, .int fa])), (t1, .inr (5, [.ref nb, .int (nI len3)])), (nb, .inl (cB, rnew len3 cp1, .inl (rset nf len3 (nI i) (rget nf len3 (nI i) ^^^ v)))), (t3, .inr (5, [.ref v3, .int (nI len3)])), (v3, .inl (cB, cp3, .inl f3))]) A)) (by decide) (Nat.le_of_ble_eq_true rfl) ?_
  intro p e s m args below meth c A ls hx hb hr hml hts hown hlocks hin hsz hP hG hD hA hS hl
  have hl : lv_has ls 3 [(0, .ref x), (1, .int (nI i)), (2, .int v)] := hl
  refine lv_iload_n hx hb d_X_back_0 rfl (lv_at hl 1 rfl) ?_
  refine lv_iconst (v := (-1)) hx hb d_X_back_1 (by decide) ?_
  refine lv_icmp_lt (tgt := 16) hx hb d_X_back_2 (by decide) (fun c_1 => absurd c_1 (sb_ltm1 (by omega))) (fun c_1 => ?_)
  refine lv_iload_n hx hb d_X_back_5 rfl (lv_at hl 1 rfl) ?_
  refine lv_aload_n hx hb d_X_back_6 rfl (lv_at hl 0 rfl) ?_
  refine va_get (D := D) (ci := 6) (v := .ref t3) (C := R_X) (T := F_X) (N := 12) hx hb hts in_X hown hG.1 hP 0 rfl rfl 2 (by decide) (hts _ k_205) (fun _ h9 => h9) rfl d_X_back_7 ?_
  refine va_getN (D := D) (ci := 5) (v := .int (nI len3)) (C := R_R) (T := F_R) (N := 2) hx hb hts in_R hown hG.1 hP 3 rfl rfl 1 (by decide) (hG.nest _ n_59) (fun _ h9 => h9) rfl d_X_back_10 ?_
  refine lv_icmp_lt (tgt := 26) hx hb d_X_back_13 (by decide) (fun c_2 => ?_) (fun c_2 => absurd (sb_ltT (a := i) (b := len3) rfl rfl (by omega) (by omega) (by omega)) c_2)
  refine lv_aload_n hx hb d_X_back_26 rfl (lv_at hl 0 rfl) ?_
  refine va_get (D := D) (ci := 6) (v := .ref t1) (C := R_X) (T := F_X) (N := 12) hx hb hts in_X hown hG.1 hP 0 rfl rfl 0 (by decide) (hts _ k_203) (fun _ h9 => h9) rfl d_X_back_27 ?_
  refine lv_aload_n hx hb d_X_back_30 rfl (lv_at hl 0 rfl) ?_
  refine va_get (D := D) (ci := 6) (v := .ref t3) (C := R_X) (T := F_X) (N := 12) hx hb hts in_X hown hG.1 hP 0 rfl rfl 2 (by decide) (hts _ k_205) (fun _ h9 => h9) rfl d_X_back_31 ?_
  refine sb_callv (wr := [(x, .inr (6, [.ref t1, .ref t2, .ref t3, .ref qi, .ref hg, .ref hh, .ref iu, .int cu, .long num, .int se, .int op, .int fa]))]) (va_runV (As := [.ref t3]) (rest := []) ⟨hx, hb, hml, hown, hts⟩ (c_R_copyFrom l D cI cL cB tS tF t1 v1 len1 cp1 f1 t3 v3 len3 cp3 f3 _ hf1 hf3 (by omega) (by omega) (by omega) (by omega)) (cwV 1 hts (sb_gV k_248 k_249 k_250 k_23 k_251) rfl rfl rfl (by decide +kernel) ⟨Nat.le_of_ble_eq_true rfl, Nat.le_of_ble_eq_true rfl⟩) (sb_pV hG hP hD hS hA [1, 2, 3, 4] (by decide) rfl (ci := 5) (q0 := 1) rfl rfl) rfl rfl hl.1 rfl (lv_room (Nat.le_of_ble_eq_true rfl)) d_X_back_34 ⟨Nat.le_of_ble_eq_true rfl, Nat.le_of_eq (Nat.zero_add _)⟩) hP hD hS hA [1, 2, 3, 4] [0] rfl rfl (by decide) (by decide) (fun u H locs hw_5 hP hD hS => ?_)
  obtain ⟨nb_3, nf_4⟩ := u
  try dsimp only at hw_5
  have hP : va_P D vwCl [(x, .inr (6, [.ref t1, .ref t2, .ref t3, .ref qi, .ref hg, .ref hh, .ref iu, .int cu, .long num, .int se, .int op, .int fa])), (t1, .inr (5, [.ref nb_3, .int (nI len3)])), (nb_3, .inl (cB, rnew len3 cp1, .inl nf_4)), (t3, .inr (5, [.ref v3, .int (nI len3)])), (v3, .inl (cB, cp3, .inl f3))] H := hP
  have hD : va_D A [(x, .inr (6, [.ref t1, .ref t2, .ref t3, .ref qi, .ref hg, .ref hh, .ref iu, .int cu, .long num, .int se, .int op, .int fa])), (t1, .inr (5, [.ref nb_3, .int (nI len3)])), (nb_3, .inl (cB, rnew len3 cp1, .inl nf_4)), (t3, .inr (5, [.ref v3, .int (nI len3)])), (v3, .inl (cB, cp3, .inl f3))] := hD
  refine W.widen (k := 1) (n := 0 + rsz len3 cp1) (by omega) (by omega) ?_
  have hgeA := rnew_le len3 cp1
  have hcapA := rnew_cap len3 cp1 (by omega) (by omega)
  refine lv_iload_n hx hb d_X_back_37 rfl (lv_at hl 1 rfl) ?_
  refine lv_if_lt (tgt := 59) hx hb d_X_back_38 (by decide) (fun c_6 => absurd c_6 (nI_pos (by omega))) (fun c_6 => ?_)
  refine lv_aload_n hx hb d_X_back_41 rfl (lv_at hl 0 rfl) ?_
  refine va_get (D := D) (ci := 6) (v := .ref t1) (C := R_X) (T := F_X) (N := 12) hx hb hts in_X hown hG.1 hP 0 rfl rfl 0 (by decide) (hts _ k_203) (fun _ h9 => h9) rfl d_X_back_42 ?_
  refine lv_iload_n hx hb d_X_back_45 rfl (lv_at hl 1 rfl) ?_
  refine lv_aload_n hx hb d_X_back_46 rfl (lv_at hl 0 rfl) ?_
  refine va_get (D := D) (ci := 6) (v := .ref t1) (C := R_X) (T := F_X) (N := 12) hx hb hts in_X hown hG.1 hP 0 rfl rfl 0 (by decide) (hts _ k_203) (fun _ h9 => h9) rfl d_X_back_47 ?_
  refine lv_iload_n hx hb d_X_back_50 rfl (lv_at hl 1 rfl) ?_
  refine vp_callSi (va_runV (As := [.int (nI i)]) (rest := [.int (nI i), .ref t1]) ⟨hx, hb, hml, hown, hts⟩ (c_R_get l D cI cL cB tS tF t1 nb_3 len3 (rnew len3 cp1) nf_4 (nI i) hgeA (by omega)) (cwV 1 hts (sb_gV k_678 k_429 k_430 k_23 k_431) rfl rfl rfl (by decide +kernel) ⟨Nat.le_of_ble_eq_true rfl, Nat.le_of_ble_eq_true rfl⟩) (sb_rV hG hP hS [1, 2] rfl (ci := 5) (q0 := 1) rfl rfl) rfl rfl hl.1 rfl (lv_room (Nat.le_of_ble_eq_true rfl)) d_X_back_51 ⟨by show 1 + 0 ≤ 1; omega, by show 0 + rsz len3 cp1 + 0 ≤ rsz len3 cp1; omega⟩).run (fun r_7 er_7 => ?_)
  subst er_7
  refine lv_iload_n hx hb d_X_back_54 rfl (lv_at hl 2 rfl) ?_
  refine lv_ixor hx hb d_X_back_55 ?_
  refine sb_callv (wr := [(x, .inr (6, [.ref t1, .ref t2, .ref t3, .ref qi, .ref hg, .ref hh, .ref iu, .int cu, .long num, .int se, .int op, .int fa])), (t3, .inr (5, [.ref v3, .int (nI len3)])), (v3, .inl (cB, cp3, .inl f3))]) (va_runV (As := [.int (nI i), .int ((rget nf_4 len3 (nI i)) ^^^ v)]) (rest := []) ⟨hx, hb, hml, hown, hts⟩ (c_R_set l D cI cL cB tS tF t1 nb_3 len3 (rnew len3 cp1) nf_4 (nI i) ((rget nf_4 len3 (nI i)) ^^^ v) _ hgeA (by omega)) (cwV 2 hts (sb_gV k_679 k_368 k_369 k_23 k_370) rfl rfl rfl (by decide +kernel) ⟨Nat.le_of_ble_eq_true rfl, Nat.le_of_ble_eq_true rfl⟩) (sb_pV hG hP hD hS hA [1, 2] (by decide) rfl (ci := 5) (q0 := 1) rfl rfl) rfl rfl hl.1 rfl (lv_room (Nat.le_of_ble_eq_true rfl)) d_X_back_56 ⟨by show 1 + 0 ≤ 1; omega, by show 0 + rsz len3 cp1 + 0 ≤ rsz len3 cp1; omega⟩) hP hD hS hA [1, 2] [0, 3, 4] rfl rfl (by decide) (by decide) (fun u H locs hw_8 hP hD hS => ?_)
  have hP : va_P D vwCl [(x, .inr (6, [.ref t1, .ref t2, .ref t3, .ref qi, .ref hg, .ref hh, .ref iu, .int cu, .long num, .int se, .int op, .int fa])), (t3, .inr (5, [.ref v3, .int (nI len3)])), (v3, .inl (cB, cp3, .inl f3)), (t1, .inr (5, [.ref nb_3, .int (nI len3)])), (nb_3, .inl (cB, (rnew len3 cp1), .inl (rset nf_4 len3 (nI i) ((rget nf_4 len3 (nI i)) ^^^ v))))] H := hP
  have hD : va_D A [(x, .inr (6, [.ref t1, .ref t2, .ref t3, .ref qi, .ref hg, .ref hh, .ref iu, .int cu, .long num, .int se, .int op, .int fa])), (t3, .inr (5, [.ref v3, .int (nI len3)])), (v3, .inl (cB, cp3, .inl f3)), (t1, .inr (5, [.ref nb_3, .int (nI len3)])), (nb_3, .inl (cB, (rnew len3 cp1), .inl (rset nf_4 len3 (nI i) ((rget nf_4 len3 (nI i)) ^^^ v))))] := hD
  refine lv_aload_n hx hb d_X_back_59 rfl (lv_at hl 0 rfl) ?_
  refine va_get (D := D) (ci := 6) (v := .ref t1) (C := R_X) (T := F_X) (N := 12) hx hb hts in_X hown hG.1 hP 0 rfl rfl 0 (by decide) (hts _ k_203) (fun _ h9 => h9) rfl d_X_back_60 ?_
  refine va_getN (D := D) (ci := 5) (v := .int (nI len3)) (C := R_R) (T := F_R) (N := 2) hx hb hts in_R hown hG.1 hP 3 rfl rfl 1 (by decide) (hG.nest _ n_59) (fun _ h9 => h9) rfl d_X_back_63 ?_
  have hP9 := hP.sub (ws' := [(x, .inr (6, [.ref t1, .ref t2, .ref t3, .ref qi, .ref hg, .ref hh, .ref iu, .int cu, .long num, .int se, .int op, .int fa])), (t1, .inr (5, [.ref nb_3, .int (nI len3)])), (nb_3, .inl (cB, (rnew len3 cp1), .inl (rset nf_4 len3 (nI i) ((rget nf_4 len3 (nI i)) ^^^ v)))), (t3, .inr (5, [.ref v3, .int (nI len3)])), (v3, .inl (cB, cp3, .inl f3))]) [0, 3, 4, 1, 2] rfl
  have hD9 := hD.sub (ws' := [(x, .inr (6, [.ref t1, .ref t2, .ref t3, .ref qi, .ref hg, .ref hh, .ref iu, .int cu, .long num, .int se, .int op, .int fa])), (t1, .inr (5, [.ref nb_3, .int (nI len3)])), (nb_3, .inl (cB, (rnew len3 cp1), .inl (rset nf_4 len3 (nI i) ((rget nf_4 len3 (nI i)) ^^^ v)))), (t3, .inr (5, [.ref v3, .int (nI len3)])), (v3, .inl (cB, cp3, .inl f3))]) [0, 3, 4, 1, 2] (by decide) rfl
  refine W.widen (k := 1) (n := rsz len3 cp1) (by omega) (by omega) ?_
  exact W.iret (v := nI len3) hx hb hr (fun t ht hW => ⟨⟨_, (nb_3, nf_4), rfl, ⟨rfl, hw_5⟩, by rw [ht]; exact hP9, hD9⟩, hS.F ht⟩) hS.2.2 d_X_back_66
