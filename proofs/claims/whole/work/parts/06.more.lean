/-! more rows of the frame -/
theorem sb_ix {i : Int32} (h0 : ¬ i < 0) : i = nI i.toNatClampNeg := by
  obtain ⟨j, hj, rfl⟩ := nI_of h0
  rw [nI_clamp hj]
theorem sb_ixlt {i : Int32} {len n : Nat} (h0 : ¬ i < 0) (h1 : ¬ nI len ≤ i) (hn : len ≤ n) (hl : n < 2 ^ 31) : i.toNatClampNeg < n := by
  obtain ⟨j, hj, rfl⟩ := nI_of h0
  rw [nI_clamp hj]
  rw [nI_leI (by omega) hj] at h1
  omega
theorem iter_s {α : Type} (step : Nat → α → α) (i : Nat) (a : α) : iter step (i + 1) a = step i (iter step i a) := rfl
