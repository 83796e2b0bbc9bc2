theorem m_fz {v : Int32} (h : v = 0 ∨ v = 1) : mm_fv .boolean (.int v) = true := by
  rcases h with rfl | rfl <;> rfl
theorem m_fc {v : Int32} (h : 0 ≤ v ∧ v ≤ 65535) : mm_fv .char (.int v) = true := decide_eq_true h
