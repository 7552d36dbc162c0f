/-! THE FACE, plainly -/
theorem pt_in {r c : Int} (h : (0 ≤ r ∧ r ≤ 6) ∧ (0 ≤ c ∧ c ≤ 6)) : S_pointAt r c = 7 * r + c ∧ 0 ≤ 7 * r + c ∧ 7 * r + c < 49 := by
  rw [S_pointAt_in (by omega) (by omega)]; omega
theorem pt_no {r c : Int} : S_pointAt r c = -1 ↔ ¬ ((0 ≤ r ∧ r ≤ 6) ∧ (0 ≤ c ∧ c ≤ 6)) := by
  unfold S_pointAt; split <;> omega
theorem O_run_st {f : IA} {n le ro co nu : Int} (hv : OV 0 le ro co nu) : (O_run f n 0 (0, le, ro, co, nu)).1 = (O_run f n 0 OS0).1 ∧ (O_run f n 0 (0, le, ro, co, nu)).2.1 = (O_run f n 0 OS0).2.1 := by
  have h := O_run_rel (f := f) (n := n) (n - 0).toNat 0 (0, le, ro, co, nu) OS0 hv O_rel_0
  exact ⟨h.1, h.2.1⟩
theorem O_draw_st {f : IA} {n le ro co nu : Int} {h : IA} (hn : 0 ≤ n) (hv : OV 0 le ro co nu) {e2 : OS} (h5 : 5 ≤ e2.1) (hr : O_run f n 0 (0, le, ro, co, nu) = (n, e2)) : O_draw f n 0 (0, le, ro, co, nu) h 0 = O_draw f n 0 OS0 h 0 :=
  O_draw_rel h5 (n - 0).toNat 0 (0, le, ro, co, nu) OS0 h 0 rfl hn hv O_rel_0 hr
theorem marks {w wt : BA} {P : BA} {i : Int} (h : w = bmix i P (bmix 49 (fun _ => false) wt)) (hi : 49 ≤ i) : ∀ k, 0 ≤ k → k < 49 → w k = P k := fun k a b => by rw [h, bmix_at ⟨a, by omega⟩]
theorem S_hi_t {h : IA} {L k : Int} (q : L < h k) : S_hi h L k = true := decide_eq_true q
theorem S_hi_f {h : IA} {L k : Int} (q : ¬ L < h k) : S_hi h L k = false := decide_eq_false q
