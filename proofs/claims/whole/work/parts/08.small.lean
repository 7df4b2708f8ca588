/-! small arrays by their values -/
def l5 (a b c d e : Int64) : Nat → Int64 := fun j => if j = 0 then a else if j = 1 then b else if j = 2 then c else if j = 3 then d else if j = 4 then e else 0
theorem l5_set0 (a b c d e x : Int64) : vp_updL (l5 a b c d e) 0 x = l5 x b c d e := by
  funext j; unfold vp_updL l5; by_cases h : j = 0 <;> simp [h]
theorem l5_set1 (a b c d e x : Int64) : vp_updL (l5 a b c d e) 1 x = l5 a x c d e := by
  funext j; unfold vp_updL l5; by_cases h : j = 1 <;> simp [h]
theorem l5_set2 (a b c d e x : Int64) : vp_updL (l5 a b c d e) 2 x = l5 a b x d e := by
  funext j; unfold vp_updL l5; by_cases h : j = 2 <;> simp [h]
theorem l5_set3 (a b c d e x : Int64) : vp_updL (l5 a b c d e) 3 x = l5 a b c x e := by
  funext j; unfold vp_updL l5; by_cases h : j = 3 <;> simp [h]
theorem l5_set4 (a b c d e x : Int64) : vp_updL (l5 a b c d e) 4 x = l5 a b c d x := by
  funext j; unfold vp_updL l5; by_cases h : j = 4 <;> simp [h]
theorem l5_cpy (a b c d e a' b' c' d' e' : Int64) : va_cpy (l5 a b c d e) (l5 a' b' c' d' e') 0 0 5 = l5 a b c d e := by
  funext j; unfold va_cpy l5
  by_cases h : j < 5
  · simp [h]
  · simp [h, show ¬ j = 0 by omega, show ¬ j = 1 by omega, show ¬ j = 2 by omega, show ¬ j = 3 by omega, show ¬ j = 4 by omega]
theorem l5_zero : (fun _ => 0 : Nat → Int64) = l5 0 0 0 0 0 := by
  funext j; unfold l5; split <;> (try rfl); split <;> (try rfl); split <;> (try rfl); split <;> (try rfl); split <;> rfl
def i4 (a b c d : Int32) : Nat → Int32 := fun j => if j = 0 then a else if j = 1 then b else if j = 2 then c else if j = 3 then d else 0
theorem i4_set0 (a b c d x : Int32) : upd (i4 a b c d) 0 x = i4 x b c d := by
  funext j; unfold upd i4; by_cases h : j = 0 <;> simp [h]
theorem i4_set1 (a b c d x : Int32) : upd (i4 a b c d) 1 x = i4 a x c d := by
  funext j; unfold upd i4; by_cases h : j = 1 <;> simp [h]
theorem i4_set2 (a b c d x : Int32) : upd (i4 a b c d) 2 x = i4 a b x d := by
  funext j; unfold upd i4; by_cases h : j = 2 <;> simp [h]
theorem i4_set3 (a b c d x : Int32) : upd (i4 a b c d) 3 x = i4 a b c x := by
  funext j; unfold upd i4; by_cases h : j = 3 <;> simp [h]
theorem i4_cpy (a b c d a' b' c' d' : Int32) : va_cpy (i4 a b c d) (i4 a' b' c' d') 0 0 4 = i4 a b c d := by
  funext j; unfold va_cpy i4
  by_cases h : j < 4
  · simp [h]
  · simp [h, show ¬ j = 0 by omega, show ¬ j = 1 by omega, show ¬ j = 2 by omega, show ¬ j = 3 by omega]
theorem i4_zero : (fun _ => 0 : Nat → Int32) = i4 0 0 0 0 := by
  funext j; unfold i4; split <;> (try rfl); split <;> (try rfl); split <;> (try rfl); split <;> rfl
def i3 (a b c : Int32) : Nat → Int32 := fun j => if j = 0 then a else if j = 1 then b else if j = 2 then c else 0
theorem i3_set0 (a b c x : Int32) : upd (i3 a b c) 0 x = i3 x b c := by
  funext j; unfold upd i3; by_cases h : j = 0 <;> simp [h]
theorem i3_set1 (a b c x : Int32) : upd (i3 a b c) 1 x = i3 a x c := by
  funext j; unfold upd i3; by_cases h : j = 1 <;> simp [h]
theorem i3_set2 (a b c x : Int32) : upd (i3 a b c) 2 x = i3 a b x := by
  funext j; unfold upd i3; by_cases h : j = 2 <;> simp [h]
theorem i3_zero : (fun _ => 0 : Nat → Int32) = i3 0 0 0 := by
  funext j; unfold i3; split <;> (try rfl); split <;> (try rfl); split <;> rfl
theorem st4_i4 (a b c d : Int32) (q : Int32 × Int32 × Int32 × Int32) : upd (upd (upd (upd (i4 a b c d) 0 q.1) 1 q.2.1) 2 q.2.2.1) 3 q.2.2.2 = i4 q.1 q.2.1 q.2.2.1 q.2.2.2 := by rw [i4_set0, i4_set1, i4_set2, i4_set3]
