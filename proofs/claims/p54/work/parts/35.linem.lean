/-! edges by rows -/
theorem S_X_r {m : BA} {r c : Int} (hr : 0 ≤ r ∧ r < 7) (hc : 0 ≤ c ∧ c < 6) : S_X m (6 * r + c) = (m (7 * r + c) != m (7 * r + c + 1)) := by
  unfold S_X; rw [show E_u (6 * r + c) = 7 * r + c by unfold E_u; rw [if_pos (by omega)]; omega, show E_v (6 * r + c) = 7 * r + c + 1 by unfold E_v; rw [if_pos (by omega)]; omega]
theorem S_X_b {m : BA} {r c : Int} (hr : 0 ≤ r ∧ r < 6) (hc : 0 ≤ c ∧ c < 7) : S_X m (42 + 7 * r + c) = (m (7 * r + c) != m (7 * r + c + 7)) := by
  unfold S_X; rw [show E_u (42 + 7 * r + c) = 7 * r + c by unfold E_u; rw [if_neg (by omega)]; omega, show E_v (42 + 7 * r + c) = 7 * r + c + 7 by unfold E_v; rw [if_neg (by omega)]; omega]
