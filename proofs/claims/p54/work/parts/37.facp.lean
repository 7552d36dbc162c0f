/-! DIGESTS, plainly; rows for doubles and long constants -/
section ZE
variable {p : Program} {l : Launch} {e : Env} {R : Room} {s : State} {m : MethodId} {args : Array Value} {below : List Frame} {meth : Method} {c : Code} {H : Heap} {locs : List Loc} {cells slots : Nat} {Q : State → Prop}
variable {cc : ByteArray} {pc : Nat} {ls : Array Slot} {rest : List Value}
theorem z_dconst0 (hx : p.tables.exec = Jvm.exec) (hb : c.code = cc) (hdg : decode cc pc = .ok (.dconst 0, 1)) (k : W p l e R s m args below meth c H locs cells slots Q (F0 m (pc + 1) ls (.double 0 :: rest))) : W p l e R s m args below meth c H locs cells slots Q (F0 m pc ls rest) := lv_dconst0 hx hb hdg k
theorem z_dconst1 (hx : p.tables.exec = Jvm.exec) (hb : c.code = cc) (hdg : decode cc pc = .ok (.dconst 1, 1)) (k : W p l e R s m args below meth c H locs cells slots Q (F0 m (pc + 1) ls (.double D1 :: rest))) : W p l e R s m args below meth c H locs cells slots Q (F0 m pc ls rest) := lv_dconst1 hx hb hdg k
theorem z_ldc2 {own : String} {index : Nat} {n : Int} {v : Int64} (hx : p.tables.exec = Jvm.exec) (hb : c.code = cc) (hown : s.vm.findClass own = some m.cls) (hconst : (Jvm.Cond.constantLong own index v).before args s = true) (hv : v = zL n) (hdg : decode cc pc = .ok (.ldc2_w index, 3)) (k : W p l e R s m args below meth c H locs cells slots Q (F0 m (pc + 3) ls (.long (zL n) :: rest))) : W p l e R s m args below meth c H locs cells slots Q (F0 m pc ls rest) :=
  lv_ldc2 hx hb hown (hv ▸ hconst) hdg k
end ZE

noncomputable def S_pond (h : IA) : BA := fun k => decide (h k < S_spill h k)
theorem S_dsum_b {h : IA} (hh : ∀ k, 0 ≤ k → k < 49 → 0 ≤ h k ∧ h k ≤ 99) : 0 ≤ zS (S_drop h) 49 ∧ zS (S_drop h) 49 ≤ 4900 := by
  have := zS_bnd (f := S_drop h) (a := 0) (b := 99) 49 (by omega) (fun k a b => S_drop_b hh ⟨a, b⟩); omega
theorem zmix_cg {n : Int} {f f' g : IA} (h : ∀ k, 0 ≤ k → k < n → f k = f' k) : zmix n f g = zmix n f' g := by
  funext k; unfold zmix; split
  · next q => exact h k q.1 q.2
  · rfl
def S_sab (h : IA) (L : Int) : Int := zS (fun k => if L < h k then h k - L else 0) 49
def S_pie (h : IA) (r c L : Int) : Int := zC (S_xk (S_hi h L) (r * 6 + c)) 4 / 2
theorem pA4 {m : BA} {r c : Int} (hr : 0 ≤ r ∧ r < 6) (hc : 0 ≤ c ∧ c < 6) : zC (S_xk m (r * 6 + c)) 4 = z1 (m (7 * r + c) != m (7 * r + c + 1)) + z1 (m (7 * r + c + 1) != m (7 * r + c + 8)) + z1 (m (7 * r + c + 7) != m (7 * r + c + 8)) + z1 (m (7 * r + c) != m (7 * r + c + 7)) := by
  have e : ∀ s, S_cn (r * 6 + c) s = 7 * r + c + (if s = 0 then 0 else if s = 1 then 1 else if s = 2 then 8 else 7) := fun s => by unfold S_cn; omega
  rw [S_xk_N, e, e, e, e]; unfold kN
  simp only [reduceIte, Int.reduceEq, Int.add_zero]
  rw [show (m (7 * r + c + 7) != m (7 * r + c + 8)) = (m (7 * r + c + 8) != m (7 * r + c + 7)) from bne_comm, show (m (7 * r + c) != m (7 * r + c + 7)) = (m (7 * r + c + 7) != m (7 * r + c)) from bne_comm]
/-! THE FACE, plainly -/
theorem pt_in {r c : Int} (h : (0 ≤ r ∧ r ≤ 6) ∧ (0 ≤ c ∧ c ≤ 6)) : S_pointAt r c = 7 * r + c ∧ 0 ≤ 7 * r + c ∧ 7 * r + c < 49 := by
  rw [S_pointAt_in (by omega) (by omega)]; omega
theorem pt_no {r c : Int} : S_pointAt r c = -1 ↔ ¬ ((0 ≤ r ∧ r ≤ 6) ∧ (0 ≤ c ∧ c ≤ 6)) := by
  unfold S_pointAt; split <;> omega
theorem marks {w wt : BA} {P : BA} {i : Int} (h : w = bmix i P (bmix 49 (fun _ => false) wt)) (hi : 49 ≤ i) : ∀ k, 0 ≤ k → k < 49 → w k = P k := fun k a b => by rw [h, bmix_at ⟨a, by omega⟩]
theorem S_hi_t {h : IA} {L k : Int} (q : L < h k) : S_hi h L k = true := decide_eq_true q
theorem S_hi_f {h : IA} {L k : Int} (q : ¬ L < h k) : S_hi h L k = false := decide_eq_false q

/-! THE FACE, plainly: crossings by points -/
def crP (m : BA) (p : Int) : Int := (if p % 7 = 6 then 0 else z1 (m p != m (p + 1))) + (if 42 ≤ p then 0 else z1 (m p != m (p + 7)))
theorem cr_r (m : BA) : ∀ r, 0 ≤ r → r ≤ 7 → zS (fun p => if p % 7 = 6 then 0 else z1 (m p != m (p + 1))) (7 * r) = zC (S_X m) (6 * r) := by
  refine z_ind (P := fun r => r ≤ 7 → zS (fun p => if p % 7 = 6 then 0 else z1 (m p != m (p + 1))) (7 * r) = zC (S_X m) (6 * r)) (fun _ => rfl) (fun r hr ih h7 => ?_)
  have e := ih (by omega)
  have x : ∀ c, 0 ≤ c → c < 6 → S_X m (6 * r + c) = (m (7 * r + c) != m (7 * r + c + 1)) := fun c a b => S_X_r ⟨hr, by omega⟩ ⟨a, b⟩
  rw [show 7 * (r + 1) = 7 * r + 1 + 1 + 1 + 1 + 1 + 1 + 1 by omega, show 6 * (r + 1) = 6 * r + 1 + 1 + 1 + 1 + 1 + 1 by omega]
  rw [zS_up (by omega), zS_up (by omega), zS_up (by omega), zS_up (by omega), zS_up (by omega), zS_up (by omega), zS_up (by omega), zC_up (by omega), zC_up (by omega), zC_up (by omega), zC_up (by omega), zC_up (by omega), zC_up (by omega), e]
  have x0 := x 0 (by omega) (by omega); have x1 := x 1 (by omega) (by omega); have x2 := x 2 (by omega) (by omega); have x3 := x 3 (by omega) (by omega); have x4 := x 4 (by omega) (by omega); have x5 := x 5 (by omega) (by omega)
  rw [Int.add_zero, Int.add_zero] at x0
  simp only [Int.add_assoc, Int.reduceAdd] at x0 x1 x2 x3 x4 x5 ⊢
  rw [if_neg (show ¬ (7 * r) % 7 = 6 by omega), if_neg (show ¬ (7 * r + 1) % 7 = 6 by omega), if_neg (show ¬ (7 * r + 2) % 7 = 6 by omega), if_neg (show ¬ (7 * r + 3) % 7 = 6 by omega), if_neg (show ¬ (7 * r + 4) % 7 = 6 by omega), if_neg (show ¬ (7 * r + 5) % 7 = 6 by omega), if_pos (show (7 * r + 6) % 7 = 6 by omega), x0, x1, x2, x3, x4, x5]
  omega
theorem cr_b (m : BA) : ∀ i, 0 ≤ i → i ≤ 42 → zC (S_X m) 42 + zS (fun p => if 42 ≤ p then 0 else z1 (m p != m (p + 7))) i = zC (S_X m) (42 + i) := by
  refine z_ind (P := fun i => i ≤ 42 → zC (S_X m) 42 + zS (fun p => if 42 ≤ p then 0 else z1 (m p != m (p + 7))) i = zC (S_X m) (42 + i)) (fun _ => by rw [zS_0, Int.add_zero, Int.add_zero]) (fun i hi ih h => ?_)
  rw [zS_up hi, show 42 + (i + 1) = 42 + i + 1 by omega, zC_up (by omega), ← ih (by omega), if_neg (by omega)]
  have x := S_X_b (m := m) (r := i / 7) (c := i % 7) (by omega) (by omega)
  rw [show 42 + 7 * (i / 7) + i % 7 = 42 + i by omega, show 7 * (i / 7) + i % 7 = i by omega] at x
  rw [x]; omega
theorem cr_tail (m : BA) : ∀ i, 0 ≤ i → zS (fun p => if 42 ≤ p then 0 else z1 (m p != m (p + 7))) (42 + i) = zS (fun p => if 42 ≤ p then 0 else z1 (m p != m (p + 7))) 42 := by
  refine z_ind (by rw [Int.add_zero]) (fun i hi ih => ?_)
  rw [show 42 + (i + 1) = 42 + i + 1 by omega, zS_up (by omega), ih, if_pos (by omega)]; omega
theorem cr_all (m : BA) : zS (crP m) 49 = S_ncross m := by
  have h1 := cr_r m 7 (by omega) (by omega)
  have h2 := cr_b m 42 (by omega) (by omega)
  have h3 := cr_tail m 7 (by omega)
  have h4 : zS (crP m) 49 = zS (fun p => if p % 7 = 6 then 0 else z1 (m p != m (p + 1))) 49 + zS (fun p => if 42 ≤ p then 0 else z1 (m p != m (p + 7))) 49 := zS_add 49 (by omega)
  rw [show (7 : Int) * 7 = 49 from rfl, show (6 : Int) * 7 = 42 from rfl] at h1
  rw [show (42 : Int) + 7 = 49 from rfl] at h3
  rw [show (42 : Int) + 42 = 84 from rfl] at h2
  unfold S_ncross; omega
theorem S_hi_cg {m : BA} {h : IA} {L : Int} {hi8 : BA} (e : m = bmix 49 (S_hi h L) hi8) : ∀ k, 0 ≤ k → k < 49 → m k = S_hi h L k := fun k a b => by rw [e, bmix_at ⟨a, b⟩]
theorem pie_cg {m : BA} {h : IA} {L r c : Int} (e : ∀ k, 0 ≤ k → k < 49 → m k = S_hi h L k) (hr : 0 ≤ r ∧ r < 6) (hc : 0 ≤ c ∧ c < 6) : zC (S_xk m (r * 6 + c)) 4 / 2 = S_pie h r c L := by
  unfold S_pie; rw [S_xk_N, S_xk_N]
  have q : ∀ i, m (S_cn (r * 6 + c) i) = S_hi h L (S_cn (r * 6 + c) i) := fun i => by have z := @S_cn_b (r * 6 + c) i (by omega); exact e _ z.1 z.2
  rw [q, q, q, q]

