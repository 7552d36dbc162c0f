/-! WHAT THE METHODS ANSWER, as functions of whole numbers -/
def S_pointAt (r c : Int) : Int := if r < 0 ∨ 7 ≤ r ∨ c < 0 ∨ 7 ≤ c then -1 else r * 7 + c
def S_step (p s : Int) : Int := if 0 ≤ p ∧ p < 49 ∧ 0 ≤ s ∧ s < 8 then S_pointAt (p / 7 + ROWS s) (p % 7 + COLS s) else -1
theorem ROWS_b (s : Int) : -1 ≤ ROWS s ∧ ROWS s ≤ 1 := by unfold ROWS; repeat' split <;> omega
theorem COLS_b (s : Int) : -1 ≤ COLS s ∧ COLS s ≤ 1 := by unfold COLS; repeat' split <;> omega
theorem CROW_b (s : Int) : 0 ≤ CROW s ∧ CROW s ≤ 1 := by unfold CROW; repeat' split <;> omega
theorem CCOL_b (s : Int) : 0 ≤ CCOL s ∧ CCOL s ≤ 1 := by unfold CCOL; repeat' split <;> omega
theorem LEVS_b (s : Int) : 10 ≤ LEVS s ∧ LEVS s ≤ 70 := by unfold LEVS; repeat' split <;> omega
def S_at (h : IA) (p : Int) : Int := if 0 ≤ p ∧ p < 49 then h p else 0
def S_put (h : IA) (p v : Int) : IA := if 0 ≤ p ∧ p < 49 then zu h p (zmax 0 (zmin 99 v)) else h
def clip (v : Int) : Int := zmax 0 (zmin 99 v)
theorem clip_b (v : Int) : 0 ≤ clip v ∧ clip v ≤ 99 := by unfold clip zmax zmin; split <;> split <;> omega
theorem clip_id {v : Int} (h : 0 ≤ v ∧ v ≤ 99) : clip v = v := by unfold clip zmax zmin; split <;> split <;> omega
