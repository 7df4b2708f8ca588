/-- the table of the class is the reference's -/
theorem sx_all : (List.range 256).all (fun x => decide (sbS x = nI (sxN x))) = true := by decide +kernel
theorem sx_B : sbTb sxT := fun b h => by
  have q := List.all_eq_true.1 sx_all b (List.mem_range.2 h)
  rw [sxT_at, if_pos h]
  exact of_decide_eq_true q
