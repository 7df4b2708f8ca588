/-! what the law's entry gives: the classes, the tables, what throws ask -/
abbrev gn1 : Cond := Jvm.Cond.and given_1 narrow_1
def sbEl (T : Term) : List Cond → List Int32 → Nat → Bool
  | _, [], _ => true
  | [], _ :: _, _ => false
  | c :: l, v :: vs, j => decide (c = Cond.eq (Term.elem T (.int (Int32.ofNat j))) (.int v)) && sbEl T l vs (j + 1)
theorem sbEl_at {T : Term} : ∀ (l : List Cond) (vs : List Int32) (j0 : Nat), sbEl T l vs j0 = true → ∀ j, j < vs.length → Cond.eq (Term.elem T (.int (Int32.ofNat (j0 + j)))) (.int (vs.getD j 0)) ∈ l
  | _, [], _, _, j, hj => absurd hj (Nat.not_lt_zero j)
  | [], _ :: _, _, h, _, _ => by cases h
  | c :: l, v :: vs, j0, h, j, hj => by
    have h9 : (decide (c = Cond.eq (Term.elem T (.int (Int32.ofNat j0))) (.int v)) && sbEl T l vs (j0 + 1)) = true := h
    rw [Bool.and_eq_true, decide_eq_true_eq] at h9
    cases j with
    | zero => exact List.mem_cons.mpr (Or.inl h9.1.symm)
    | succ j =>
      have q := sbEl_at l vs (j0 + 1) h9.2 j (Nat.lt_of_succ_lt_succ hj)
      rw [show j0 + (j + 1) = j0 + 1 + j by omega]
      exact List.mem_cons.mpr (Or.inr q)
theorem sx_el : sbEl (Term.static "SealBox" "S_BOX" "[I") ((flatC gn1).drop 9) sbSl 0 = true := by decide +kernel
theorem fo_el : sbEl (Term.static "SealBox" "FOLD" "[I") ((flatC gn1).drop 268) sbFl 0 = true := by decide +kernel
theorem sl_len : sbSl.length = 256 := by decide +kernel
theorem fl_len : sbFl.length = 16 := by decide +kernel
section ENT
variable {args : Array Value} {s : State} {A : Nat → Prop}
theorem st_box (h : gn1.before args s = true) (hl : ∀ w ∈ lw_tbl, w.before args s = true) (hA : ∀ a : Nat, a < s.heap.size → ¬ A a) : ∃ t : Nat, va_Z "SealBox" "S_BOX" "[I" (.ref t) A s s.heap ∧ va_T .int t 256 (fun j => .int (sbS j)) A s s.heap := by
  have hs := flat_of_before _ h
  obtain ⟨t, ht, hT⟩ := va_Tof (tm := Term.static "SealBox" "S_BOX" "[I") (ty := .int) (N := 256) (f := fun j => .int (sbS j)) (A := A) (args := args) (s := s) (by omega) (hs _ (List.mem_of_getElem? (i := 7) (by decide +kernel))) (va_eqt (hs _ (List.mem_of_getElem? (i := 8) (by decide +kernel)))) (fun j hj => va_eqt (hs _ (by
    have q := sbEl_at _ _ _ sx_el j (by rw [sl_len]; exact hj)
    rw [Nat.zero_add] at q
    exact List.mem_of_mem_drop q))) hA
  exact ⟨t, va_Zof (hl _ (List.mem_of_getElem? (i := 453) (by decide +kernel))) (hl (.initialized "SealBox") (List.mem_of_getElem? (i := 22) (by decide +kernel))) ht hA, hT⟩
theorem st_fold (h : gn1.before args s = true) (hl : ∀ w ∈ lw_tbl, w.before args s = true) (hA : ∀ a : Nat, a < s.heap.size → ¬ A a) : ∃ t : Nat, va_Z "SealBox" "FOLD" "[I" (.ref t) A s s.heap ∧ va_T .int t 16 (fun j => .int (sbF j)) A s s.heap := by
  have hs := flat_of_before _ h
  obtain ⟨t, ht, hT⟩ := va_Tof (tm := Term.static "SealBox" "FOLD" "[I") (ty := .int) (N := 16) (f := fun j => .int (sbF j)) (A := A) (args := args) (s := s) (by omega) (hs _ (List.mem_of_getElem? (i := 266) (by decide +kernel))) (va_eqt (hs _ (List.mem_of_getElem? (i := 267) (by decide +kernel)))) (fun j hj => va_eqt (hs _ (by
    have q := sbEl_at _ _ _ fo_el j (by rw [fl_len]; exact hj)
    rw [Nat.zero_add] at q
    exact List.mem_of_mem_drop q))) hA
  exact ⟨t, va_Zof (hl _ (List.mem_of_getElem? (i := 578) (by decide +kernel))) (hl (.initialized "SealBox") (List.mem_of_getElem? (i := 22) (by decide +kernel))) ht hA, hT⟩
theorem st_arr {ty : FieldType} (h : (Cond.arrayClass ty).before args s = true) : ∃ cA : ClassId, ArrOfT s cA ty ∧ s.vm.findClass ("[" ++ ty.toString) = some cA := by
  obtain ⟨cA, k, comp, h1, h2, h3⟩ := Cond.arrayClass_spec h
  exact ⟨cA, fun n z => ⟨fun k h => (by cases h), k, h2, comp, h3⟩, h1⟩
theorem st_cls (hts : ∀ w ∈ sbW, w.before args s = true) : ∃ D : va_G, ∀ (c : Nat) (q : vw_C), vwCl[c]? = some q → u_Kn s q.1 q.2.1 q.2.2 (D.1 c) (D.2 c) := by
  obtain ⟨c0, i0, h0⟩ := u_known (C := R_A) (T := F_A) (N := 2) (n := 2) hts in_A (hts _ k_78)
  obtain ⟨c1, i1, h1⟩ := u_known (C := R_G) (T := F_G) (N := 8) (n := 8) hts in_G (hts _ k_69)
  obtain ⟨c2, i2, h2⟩ := u_known (C := R_H) (T := F_H) (N := 8) (n := 8) hts in_H (hts _ k_157)
  obtain ⟨c3, i3, h3⟩ := u_known (C := R_S) (T := F_S) (N := 4) (n := 4) hts in_S (hts _ k_92)
  obtain ⟨c4, i4, h4⟩ := u_known (C := R_P) (T := F_P) (N := 5) (n := 5) hts in_P (hts _ k_167)
  obtain ⟨c5, i5, h5⟩ := u_known (C := R_R) (T := F_R) (N := 2) (n := 2) hts in_R (hts _ k_51)
  obtain ⟨c6, i6, h6⟩ := u_known (C := R_X) (T := F_X) (N := 12) (n := 12) hts in_X (hts _ k_43)
  obtain ⟨c7, i7, h7⟩ := u_known (C := R_M) (T := F_M) (N := 35) (n := 35) hts in_M (hts _ k_688)
  refine ⟨(fun k => match k with | 0 => c0 | 1 => c1 | 2 => c2 | 3 => c3 | 4 => c4 | 5 => c5 | 6 => c6 | _ => c7, fun k => match k with | 0 => i0 | 1 => i1 | 2 => i2 | 3 => i3 | 4 => i4 | 5 => i5 | 6 => i6 | _ => i7), ?_⟩
  intro c q hq
  match c, hq with
  | 0, hq => cases hq; exact h0
  | 1, hq => cases hq; exact h1
  | 2, hq => cases hq; exact h2
  | 3, hq => cases hq; exact h3
  | 4, hq => cases hq; exact h4
  | 5, hq => cases hq; exact h5
  | 6, hq => cases hq; exact h6
  | 7, hq => cases hq; exact h7
  | k + 8, hq => simp [vwCl] at hq
theorem st_G (h : gn1.before args s = true) (hl : ∀ w ∈ lw_tbl, w.before args s = true) (hA : ∀ a : Nat, a < s.heap.size → ¬ A a) : ∃ (D : va_G) (cI cL cB : ClassId) (tS tF : Nat), sbG D cI cL cB tS tF A s s.heap := by
  have hts : ∀ w ∈ sbW, w.before args s = true := fun w hw => hl w (List.mem_filter.mp hw).1
  obtain ⟨D, hD⟩ := st_cls hts
  obtain ⟨cI, a1, a2⟩ := st_arr (hts _ k_90)
  obtain ⟨cL, b1, b2⟩ := st_arr (hts _ k_112)
  obtain ⟨cB, d1, d2⟩ := st_arr (hts _ k_67)
  obtain ⟨tS, z1, z2⟩ := st_box h hl hA
  obtain ⟨tF, z3, z4⟩ := st_fold h hl hA
  refine ⟨D, cI, cL, cB, tS, tF, ⟨hD, fun k q hq => ?_⟩, fun w hw => va_Nw.of (sbOk_tab (List.all_eq_true.mp sbN_ok w hw)) (hl w (List.mem_filter.mp hw).1), z1, z2, z3, z4⟩
  match k, hq with
  | 0, hq => cases hq; exact ⟨a1, a2⟩
  | 1, hq => cases hq; exact ⟨b1, b2⟩
  | 2, hq => cases hq; exact ⟨d1, d2⟩
  | k + 3, hq => simp at hq
theorem st_str {k : Nat} {tx : String} (h : (Cond.stringRef "SealBox" k tx).before args s = true) : ∃ q : Nat, vk_R "SealBox" k tx q s := by
  have hcur : ∃ cur, s.vm.findClass "SealBox" = some cur := by
    have h1 := h
    simp only [Cond.before, Cond.holds, Cond.value] at h1
    cases hc : s.vm.findClass "SealBox" with
    | none => simp [hc] at h1
    | some cur => exact ⟨cur, rfl⟩
  obtain ⟨cur, hcur⟩ := hcur
  obtain ⟨-, -, -, a, -, -, -, -, -, ev⟩ := Cond.stringRef_spec hcur h
  exact ⟨a, vk_R.of h ev⟩
theorem st_nc {a b : String} (h : (Cond.not (.castable a b)).before args s = true) : (Cond.not (.castable a b)).before #[] s = true := by
  have q := Cond.notCastable_moved (args' := #[]) (T := s) (Vm.Alike.refl s.vm) h
  exact q
theorem st_Th (h : gn1.before args s = true) (hl : ∀ w ∈ lw_tbl, w.before args s = true) (hA : ∀ a : Nat, a < s.heap.size → ¬ A a) : sbTh A s s.heap := by
  have hs := flat_of_before _ h
  have g : ∀ {w : Cond} (i : Nat), lw_tbl[i]? = some w → w.before args s = true := fun i e => hl _ (List.mem_of_getElem? e)
  refine ⟨thS.of (g 321 (by decide +kernel)) (hs _ (List.mem_of_getElem? (i := 4) (by decide +kernel))) hA, thS.of (g 323 (by decide +kernel)) (hs _ (List.mem_of_getElem? (i := 5) (by decide +kernel))) hA, ?_, ?_⟩
  · unfold sbStr
    refine List.forall_mem_cons.mpr ⟨st_str (g 337 (by decide +kernel)), List.forall_mem_cons.mpr ⟨st_str (g 388 (by decide +kernel)), List.forall_mem_cons.mpr ⟨st_str (g 412 (by decide +kernel)), List.forall_mem_cons.mpr ⟨st_str (g 419 (by decide +kernel)), List.forall_mem_cons.mpr ⟨st_str (g 482 (by decide +kernel)), List.forall_mem_cons.mpr ⟨st_str (g 491 (by decide +kernel)), List.forall_mem_cons.mpr ⟨st_str (g 647 (by decide +kernel)), List.forall_mem_cons.mpr ⟨st_str (g 671 (by decide +kernel)), fun _ q => absurd q List.not_mem_nil⟩⟩⟩⟩⟩⟩⟩⟩
  · unfold sbNc
    refine List.forall_mem_cons.mpr ⟨st_nc (hs _ (List.mem_of_getElem? (i := 317) (by decide +kernel))), List.forall_mem_cons.mpr ⟨st_nc (hs _ (List.mem_of_getElem? (i := 294) (by decide +kernel))), fun _ q => absurd q List.not_mem_nil⟩⟩
end ENT
theorem i3_z : i3 0 0 0 = fun _ => 0 := by
  funext j
  unfold i3
  split <;> (try rfl) <;> split <;> (try rfl) <;> split <;> rfl
theorem i4_z : i4 0 0 0 0 = fun _ => 0 := by
  funext j
  unfold i4
  split <;> (try rfl) <;> split <;> (try rfl) <;> split <;> (try rfl) <;> split <;> rfl
theorem l5_z : l5 0 0 0 0 0 = fun _ => 0 := by
  funext j
  unfold l5
  split <;> (try rfl) <;> split <;> (try rfl) <;> split <;> (try rfl) <;> split <;> (try rfl) <;> split <;> rfl
theorem by_0 : By (fun _ => 0) := fun _ => show (0 : Nat) < 256 by omega
theorem Rw_0 : Rw 0 0 64 (fun _ => 0) (fun _ => 0) := ⟨Nat.le_refl _, Nat.zero_le _, by omega, fun _ => rfl, fun j hj => absurd hj (Nat.not_lt_zero j), by_0⟩
theorem IvR_0 : IvR 0 0 0 (fun _ => 0) := ⟨by decide, by decide, by decide⟩
