/-! the table of the class is the reference's -/
theorem sx_0 : (List.range' 0 16).all (fun x => decide (sbS x = nI (sxN x))) = true := by decide +kernel
theorem sx_1 : (List.range' 16 16).all (fun x => decide (sbS x = nI (sxN x))) = true := by decide +kernel
theorem sx_2 : (List.range' 32 16).all (fun x => decide (sbS x = nI (sxN x))) = true := by decide +kernel
theorem sx_3 : (List.range' 48 16).all (fun x => decide (sbS x = nI (sxN x))) = true := by decide +kernel
theorem sx_4 : (List.range' 64 16).all (fun x => decide (sbS x = nI (sxN x))) = true := by decide +kernel
theorem sx_5 : (List.range' 80 16).all (fun x => decide (sbS x = nI (sxN x))) = true := by decide +kernel
theorem sx_6 : (List.range' 96 16).all (fun x => decide (sbS x = nI (sxN x))) = true := by decide +kernel
theorem sx_7 : (List.range' 112 16).all (fun x => decide (sbS x = nI (sxN x))) = true := by decide +kernel
theorem sx_8 : (List.range' 128 16).all (fun x => decide (sbS x = nI (sxN x))) = true := by decide +kernel
theorem sx_9 : (List.range' 144 16).all (fun x => decide (sbS x = nI (sxN x))) = true := by decide +kernel
theorem sx_10 : (List.range' 160 16).all (fun x => decide (sbS x = nI (sxN x))) = true := by decide +kernel
theorem sx_11 : (List.range' 176 16).all (fun x => decide (sbS x = nI (sxN x))) = true := by decide +kernel
theorem sx_12 : (List.range' 192 16).all (fun x => decide (sbS x = nI (sxN x))) = true := by decide +kernel
theorem sx_13 : (List.range' 208 16).all (fun x => decide (sbS x = nI (sxN x))) = true := by decide +kernel
theorem sx_14 : (List.range' 224 16).all (fun x => decide (sbS x = nI (sxN x))) = true := by decide +kernel
theorem sx_15 : (List.range' 240 16).all (fun x => decide (sbS x = nI (sxN x))) = true := by decide +kernel
theorem sx_B : sbTb sxT := fun b h => by
  rw [sxT_at, if_pos h]
  have c : ((0 ≤ b ∧ b < 0+16)) ∨ ((16 ≤ b ∧ b < 16+16)) ∨ ((32 ≤ b ∧ b < 32+16)) ∨ ((48 ≤ b ∧ b < 48+16)) ∨ ((64 ≤ b ∧ b < 64+16)) ∨ ((80 ≤ b ∧ b < 80+16)) ∨ ((96 ≤ b ∧ b < 96+16)) ∨ ((112 ≤ b ∧ b < 112+16)) ∨ ((128 ≤ b ∧ b < 128+16)) ∨ ((144 ≤ b ∧ b < 144+16)) ∨ ((160 ≤ b ∧ b < 160+16)) ∨ ((176 ≤ b ∧ b < 176+16)) ∨ ((192 ≤ b ∧ b < 192+16)) ∨ ((208 ≤ b ∧ b < 208+16)) ∨ ((224 ≤ b ∧ b < 224+16)) ∨ ((240 ≤ b ∧ b < 240+16)) := by omega
  rcases c with c | c | c | c | c | c | c | c | c | c | c | c | c | c | c | c
  · exact of_decide_eq_true (List.all_eq_true.1 sx_0 b (List.mem_range'_1.2 c))
  · exact of_decide_eq_true (List.all_eq_true.1 sx_1 b (List.mem_range'_1.2 c))
  · exact of_decide_eq_true (List.all_eq_true.1 sx_2 b (List.mem_range'_1.2 c))
  · exact of_decide_eq_true (List.all_eq_true.1 sx_3 b (List.mem_range'_1.2 c))
  · exact of_decide_eq_true (List.all_eq_true.1 sx_4 b (List.mem_range'_1.2 c))
  · exact of_decide_eq_true (List.all_eq_true.1 sx_5 b (List.mem_range'_1.2 c))
  · exact of_decide_eq_true (List.all_eq_true.1 sx_6 b (List.mem_range'_1.2 c))
  · exact of_decide_eq_true (List.all_eq_true.1 sx_7 b (List.mem_range'_1.2 c))
  · exact of_decide_eq_true (List.all_eq_true.1 sx_8 b (List.mem_range'_1.2 c))
  · exact of_decide_eq_true (List.all_eq_true.1 sx_9 b (List.mem_range'_1.2 c))
  · exact of_decide_eq_true (List.all_eq_true.1 sx_10 b (List.mem_range'_1.2 c))
  · exact of_decide_eq_true (List.all_eq_true.1 sx_11 b (List.mem_range'_1.2 c))
  · exact of_decide_eq_true (List.all_eq_true.1 sx_12 b (List.mem_range'_1.2 c))
  · exact of_decide_eq_true (List.all_eq_true.1 sx_13 b (List.mem_range'_1.2 c))
  · exact of_decide_eq_true (List.all_eq_true.1 sx_14 b (List.mem_range'_1.2 c))
  · exact of_decide_eq_true (List.all_eq_true.1 sx_15 b (List.mem_range'_1.2 c))
