/-! THE FACE, plainly: crossings by points -/
def crP (m : BA) (p : Int) : Int := (if p % 7 = 6 then 0 else z1 (m p != m (p + 1))) + (if 42 ≤ p then 0 else z1 (m p != m (p + 7)))
theorem cr_r (m : BA) : ∀ r, 0 ≤ r → r ≤ 7 → zS (fun p => if p % 7 = 6 then 0 else z1 (m p != m (p + 1))) (7 * r) = zC (S_X m) (6 * r) := by
  refine z_ind (P := fun r => r ≤ 7 → zS (fun p => if p % 7 = 6 then 0 else z1 (m p != m (p + 1))) (7 * r) = zC (S_X m) (6 * r)) (fun _ => rfl) (fun r hr ih h7 => ?_)
  have e := ih (by omega)
  have x : ∀ c, 0 ≤ c → c < 6 → S_X m (6 * r + c) = (m (7 * r + c) != m (7 * r + c + 1)) := fun c a b => S_X_r ⟨hr, by omega⟩ ⟨a, b⟩
  rw [show 7 * (r + 1) = 7 * r + 1 + 1 + 1 + 1 + 1 + 1 + 1 by omega, show 6 * (r + 1) = 6 * r + 1 + 1 + 1 + 1 + 1 + 1 by omega]
  rw [zS_up (by omega), zS_up (by omega), zS_up (by omega), zS_up (by omega), zS_up (by omega), zS_up (by omega), zS_up (by omega), zC_up (by omega), zC_up (by omega), zC_up (by omega), zC_up (by omega), zC_up (by omega), zC_up (by omega), e]
  have x0 := x 0 (by omega) (by omega); have x1 := x 1 (by omega) (by omega); have x2 := x 2 (by omega) (by omega); have x3 := x 3 (by omega) (by omega); have x4 := x 4 (by omega) (by omega); have x5 := x 5 (by omega) (by omega)
  rw [Int.add_zero, Int.add_zero] at x0
  simp only [Int.add_assoc, Int.reduceAdd] at x0 x1 x2 x3 x4 x5 ⊢
  rw [if_neg (show ¬ (7 * r) % 7 = 6 by omega), if_neg (show ¬ (7 * r + 1) % 7 = 6 by omega), if_neg (show ¬ (7 * r + 2) % 7 = 6 by omega), if_neg (show ¬ (7 * r + 3) % 7 = 6 by omega), if_neg (show ¬ (7 * r + 4) % 7 = 6 by omega), if_neg (show ¬ (7 * r + 5) % 7 = 6 by omega), if_pos (show (7 * r + 6) % 7 = 6 by omega), x0, x1, x2, x3, x4, x5]
  omega
theorem cr_b (m : BA) : ∀ i, 0 ≤ i → i ≤ 42 → zC (S_X m) 42 + zS (fun p => if 42 ≤ p then 0 else z1 (m p != m (p + 7))) i = zC (S_X m) (42 + i) := by
  refine z_ind (P := fun i => i ≤ 42 → zC (S_X m) 42 + zS (fun p => if 42 ≤ p then 0 else z1 (m p != m (p + 7))) i = zC (S_X m) (42 + i)) (fun _ => by rw [zS_0, Int.add_zero, Int.add_zero]) (fun i hi ih h => ?_)
  rw [zS_up hi, show 42 + (i + 1) = 42 + i + 1 by omega, zC_up (by omega), ← ih (by omega), if_neg (by omega)]
  have x := S_X_b (m := m) (r := i / 7) (c := i % 7) (by omega) (by omega)
  rw [show 42 + 7 * (i / 7) + i % 7 = 42 + i by omega, show 7 * (i / 7) + i % 7 = i by omega] at x
  rw [x]; omega
theorem cr_tail (m : BA) : ∀ i, 0 ≤ i → zS (fun p => if 42 ≤ p then 0 else z1 (m p != m (p + 7))) (42 + i) = zS (fun p => if 42 ≤ p then 0 else z1 (m p != m (p + 7))) 42 := by
  refine z_ind (by rw [Int.add_zero]) (fun i hi ih => ?_)
  rw [show 42 + (i + 1) = 42 + i + 1 by omega, zS_up (by omega), ih, if_pos (by omega)]; omega
theorem cr_all (m : BA) : zS (crP m) 49 = S_ncross m := by
  have h1 := cr_r m 7 (by omega) (by omega)
  have h2 := cr_b m 42 (by omega) (by omega)
  have h3 := cr_tail m 7 (by omega)
  have h4 : zS (crP m) 49 = zS (fun p => if p % 7 = 6 then 0 else z1 (m p != m (p + 1))) 49 + zS (fun p => if 42 ≤ p then 0 else z1 (m p != m (p + 7))) 49 := zS_add 49 (by omega)
  rw [show (7 : Int) * 7 = 49 from rfl, show (6 : Int) * 7 = 42 from rfl] at h1
  rw [show (42 : Int) + 7 = 49 from rfl] at h3
  rw [show (42 : Int) + 42 = 84 from rfl] at h2
  unfold S_ncross; omega
theorem S_hi_cg {m : BA} {h : IA} {L : Int} {hi8 : BA} (e : m = bmix 49 (S_hi h L) hi8) : ∀ k, 0 ≤ k → k < 49 → m k = S_hi h L k := fun k a b => by rw [e, bmix_at ⟨a, b⟩]
theorem pie_cg {m : BA} {h : IA} {L r c : Int} (e : ∀ k, 0 ≤ k → k < 49 → m k = S_hi h L k) (hr : 0 ≤ r ∧ r < 6) (hc : 0 ≤ c ∧ c < 6) : zC (S_xk m (r * 6 + c)) 4 / 2 = S_pie h r c L := by
  unfold S_pie; rw [S_xk_N, S_xk_N]
  have q : ∀ i, m (S_cn (r * 6 + c) i) = S_hi h L (S_cn (r * 6 + c) i) := fun i => by have z := @S_cn_b (r * 6 + c) i (by omega); exact e _ z.1 z.2
  rw [q, q, q, q]
