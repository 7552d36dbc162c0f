/-! WHAT THE LAW ASKS, plainly: counting, slopes, ponds, cuts -/
theorem q_pos {P : BA} {k : Int} : ∀ n, 0 ≤ n → 0 ≤ k → k < n → P k = true → 1 ≤ zC P n := by
  refine z_ind (fun a b => by omega) (fun n hn ih a b p => ?_)
  rw [zC_up hn]
  have hb := zC_b P hn; have hz := z1_b (P n)
  by_cases e : k = n
  · subst e; rw [z1_t p]; omega
  · have := ih a (by omega) p; omega
theorem q_zero {P : BA} {n : Int} (hn : 0 ≤ n) : zC P n = 0 ↔ ∀ k, 0 ≤ k → k < n → P k = false := by
  constructor
  · intro h k a b
    cases hp : P k
    · rfl
    · have := q_pos n hn a b hp; omega
  · exact zC_zero n hn
theorem q_two {P : BA} {j k : Int} (hjk : j < k) (hj : 0 ≤ j) : ∀ n, 0 ≤ n → k < n → P j = true → P k = true → 2 ≤ zC P n := by
  refine z_ind (fun a => by omega) (fun n hn ih b p q => ?_)
  rw [zC_up hn]
  have hz := z1_b (P n)
  by_cases e : k = n
  · subst e; rw [z1_t q]; have := q_pos k hn hj hjk p; omega
  · have := ih (by omega) p q; omega
theorem q_ge {f : IA} {k : Int} : ∀ n, 0 ≤ n → (∀ j, 0 ≤ j → j < n → 0 ≤ f j) → 0 ≤ k → k < n → f k ≤ zS f n := by
  refine z_ind (fun _ a b => by omega) (fun n hn ih h a b => ?_)
  rw [zS_up hn]
  have h0 := h n hn (by omega)
  have hs : 0 ≤ zS f n := by
    have := zS_le (f := fun _ => 0) (g := f) n hn (fun j x y => h j x (by omega))
    have e : ∀ i, 0 ≤ i → zS (fun _ => (0:Int)) i = 0 := z_ind rfl (fun i hi z => by rw [zS_up hi, z]; rfl)
    rw [e n hn] at this; exact this
  by_cases e : k = n
  · subst e; omega
  · have := ih (fun j x y => h j x (by omega)) a (by omega); omega
theorem q_s0 {f : IA} : ∀ n, 0 ≤ n → (∀ j, 0 ≤ j → j < n → 0 ≤ f j) → 0 ≤ zS f n := by
  refine z_ind (fun _ => by rw [zS_0]; omega) (fun n hn ih h => ?_)
  rw [zS_up hn]; have := ih (fun j x y => h j x (by omega)); have := h n hn (by omega); omega
theorem q_top {f : IA} {k : Int} : ∀ n, 0 ≤ n → 0 ≤ k → k < n → f k ≤ S_top f n := by
  refine z_ind (fun a b => by omega) (fun n hn ih a b => ?_)
  rw [S_top_up hn]
  have hz := zmax_spec (S_top f n) (f n)
  by_cases e : k = n
  · subst e; omega
  · have := ih a (by omega); omega
theorem q_arg {f : IA} {k : Int} : ∀ n, 0 ≤ n → 0 ≤ k → k < n → f k ≤ f (S_arg f n) ∧ (k < S_arg f n → f k < f (S_arg f n)) := by
  refine z_ind (fun a b => by omega) (fun n hn ih a b => ?_)
  rw [S_arg_up hn]
  by_cases e : k = n
  · subst e
    split
    · exact ⟨Int.le_refl _, fun h => by omega⟩
    · next q =>
      refine ⟨by omega, fun h => ?_⟩
      have := (S_arg_b (f := f) k hn).2; omega
  · have h := ih a (by omega)
    split
    · next q => exact ⟨by omega, fun _ => by omega⟩
    · exact h
theorem q_delta {x : Int} : ∀ n, 0 ≤ n → 0 ≤ x → zS (fun p => z1 (decide (x = p))) n = if x < n then 1 else 0 := by
  refine z_ind (fun a => by rw [zS_0, if_neg (by omega)]) (fun n hn ih a => ?_)
  rw [zS_up hn, ih a]
  by_cases e : x = n
  · subst e; rw [if_neg (by omega), if_pos (by omega), z1_t (decide_eq_true rfl)]; rfl
  · rw [z1_f (decide_eq_false e)]
    by_cases q : x < n
    · rw [if_pos q, if_pos (by omega)]; rfl
    · rw [if_neg q, if_neg (by omega)]; rfl
theorem q_const {c : Int} : ∀ n, 0 ≤ n → zS (fun _ => c) n = c * n := by
  refine z_ind (by rw [zS_0]; omega) (fun n hn ih => ?_)
  rw [zS_up hn, ih, Int.mul_add]; omega
/-- each k counted once, by what it is sent to -/
theorem q_fib {g : IA} : ∀ n, 0 ≤ n → n ≤ 49 → (∀ k, 0 ≤ k → k < n → 0 ≤ g k ∧ g k < 49) → zS (fun p => zC (fun k => decide (g k = p)) n) 49 = n := by
  refine z_ind (fun _ _ => ?_) (fun n hn ih h9 h => ?_)
  · have : (fun p => zC (fun k => decide (g k = p)) 0) = fun _ => (0:Int) := funext fun p => zC_0 _
    rw [this, q_const 49 (by omega)]; rfl
  · have e : (fun p => zC (fun k => decide (g k = p)) (n + 1)) = fun p => zC (fun k => decide (g k = p)) n + z1 (decide (g n = p)) := funext fun p => zC_up hn
    have hg := h n hn (by omega)
    rw [e, zS_add 49 (by omega), ih (by omega) (fun k a b => h k a (by omega)), q_delta 49 (by omega) hg.1, if_pos hg.2]
theorem q_basins (h : IA) : zS (S_basin h) 49 = 49 := by
  have e : S_basin h = fun p => zC (fun k => decide (S_sink h k = p)) 49 := funext fun p => S_basin_eq.symm
  rw [e]
  exact q_fib 49 (by omega) (by omega) (fun k a b => (S_sink_ok (h := h) ⟨a, b⟩).2 (fun z => 0 ≤ z ∧ z < 49) ⟨a, b⟩ (fun x y _ hr => by
    obtain ⟨r1, r2, r3⟩ := hr
    rw [← r2]; exact (S_next_ok r1 (by rw [r2]; exact r3)).1))
/-! slopes -/
theorem q_sink_b {h : IA} {p : Int} (hp : 0 ≤ p ∧ p < 49) : 0 ≤ S_sink h p ∧ S_sink h p < 49 := (S_sink_ok (h := h) hp).2 (fun z => 0 ≤ z ∧ z < 49) hp (fun x y _ hr => by
  obtain ⟨r1, r2, r3⟩ := hr
  rw [← r2]; exact (S_next_ok r1 (by rw [r2]; exact r3)).1)
theorem q_drop0 {h : IA} {p : Int} (hp : 0 ≤ p ∧ p < 49) : S_next h p = -1 ↔ S_drop h p = 0 := by
  constructor
  · exact S_drop_next hp
  · intro e
    refine Classical.byContradiction (fun q => ?_)
    have h1 := S_drop_to q; have h2 := (S_next_ok hp q).2.1; omega
theorem q_drop_nn {h : IA} {p : Int} (hp : 0 ≤ p ∧ p < 49) : 0 ≤ S_drop h p := by
  by_cases q : S_next h p = -1
  · rw [S_drop_next hp q]; omega
  · have h1 := S_drop_to q; have h2 := (S_next_ok hp q).2.1; omega
theorem q_sink_le {h : IA} {p : Int} (hp : 0 ≤ p ∧ p < 49) : h (S_sink h p) ≤ h p := S_dr_lt (S_sink_ok hp).2
theorem q_steps0 {h : IA} {p : Int} (hp : 0 ≤ p ∧ p < 49) : S_steps h p = 0 ↔ S_drop h p = 0 := by
  constructor
  · intro e
    refine Classical.byContradiction (fun q => ?_)
    have q1 : S_next h p ≠ -1 := fun z => q ((q_drop0 hp).mp z)
    have h1 := (S_sink_un hp q1).2
    have h2 := (S_stepsN_b (h := h) 49 (S_next h p)).1
    have h3 : 0 ≤ S_steps h (S_next h p) := h2
    omega
  · intro e; exact (S_sink_s ((q_drop0 hp).mpr e)).2
theorem q_flow1 {h : IA} {p : Int} (hp : 0 ≤ p ∧ p < 49) : 1 ≤ S_flow h p := q_pos 49 (by omega) hp.1 hp.2 (cb_iff.mpr Cn.rf)
theorem q_flow_up {h : IA} {p : Int} (hp : 0 ≤ p ∧ p < 49) (q : S_next h p ≠ -1) : S_flow h p < S_flow h (S_next h p) := by
  have h1 := S_next_ok hp q
  refine zC_lt (n := S_next h p) (by omega) (fun k a b c => ?_) h1.1.1 h1.1.2 (cb_f.mpr (fun z => ?_)) (cb_iff.mpr Cn.rf)
  · exact cb_iff.mpr ((cb_iff.mp c).st ⟨hp, rfl, q⟩)
  · have := S_dr_lt z; omega
theorem q_basin0 {h : IA} {p : Int} (hp : 0 ≤ p ∧ p < 49) : S_basin h p = 0 ↔ 0 < S_drop h p := by
  have h1 := q_drop0 (h := h) hp; have h2 := q_drop_nn (h := h) hp
  unfold S_basin
  by_cases q : S_next h p = -1
  · rw [if_pos q]; have := q_flow1 (h := h) hp; have := h1.mp q; omega
  · rw [if_neg q]; have : ¬ S_drop h p = 0 := fun z => q (h1.mpr z); omega
theorem q_basin_f {h : IA} {p : Int} (q : S_next h p = -1) : S_basin h p = S_flow h p := by unfold S_basin; rw [if_pos q]
theorem q_away {h : IA} {p : Int} (hp : 0 ≤ p ∧ p < 49) (q : S_next h p ≠ -1) : S_next h p - p = 7 ∨ S_next h p - p = -7 ∨ (S_next h p - p = 1 ∧ p % 7 < 6) ∨ (S_next h p - p = -1 ∧ 0 < p % 7) := by
  obtain ⟨h1, h2, t, t0, t1, t2⟩ := S_next_ok hp q
  obtain ⟨a0, a1, a2, a3⟩ := S_step_4 hp
  rcases z4 ⟨t0, t1⟩ with e | e | e | e <;> subst e
  · rw [a0] at t2; split at t2 <;> omega
  · rw [a1] at t2; split at t2 <;> omega
  · rw [a2] at t2; split at t2 <;> omega
  · rw [a3] at t2; split at t2 <;> omega
/-! ponds -/
theorem q_spill {h : IA} (hh : ∀ k, 0 ≤ k → k < 49 → 0 ≤ h k ∧ h k ≤ 99) {k : Int} (hk : 0 ≤ k ∧ k < 49) : (0 ≤ S_spill h k ∧ S_spill h k ≤ 99) ∧ ∀ t, 0 ≤ t → t ≤ 99 → (S_con h t k ↔ S_spill h k ≤ t) := by
  have hall : S_con h 99 k := S_con_all (fun j a b => (hh j a b).2) (k / 7) (by omega) k rfl hk.1 hk.2
  obtain ⟨v, v0, v1, v2, v3⟩ := least (P := fun t => S_con h t k) 100 (by omega) ⟨99, by omega, by omega, hall⟩
  have key : ∀ t, 0 ≤ t → (S_con h t k ↔ v ≤ t) := fun t t0 => by
    constructor
    · intro c
      by_cases e : v ≤ t
      · exact e
      · exact absurd c (v3 t t0 (by omega))
    · intro c; exact S_con_le c v2
  have e : S_spill h k = v := S_spill_eq ⟨v0, by omega⟩ (fun t t0 _ => key t t0) hall
  rw [e]; exact ⟨⟨v0, by omega⟩, fun t t0 _ => key t t0⟩
theorem q_spill_ge {h : IA} (hh : ∀ k, 0 ≤ k → k < 49 → 0 ≤ h k ∧ h k ≤ 99) {k : Int} (hk : 0 ≤ k ∧ k < 49) : h k ≤ S_spill h k := by
  have h1 := q_spill hh hk
  exact (S_con_m ((h1.2 (S_spill h k) h1.1.1 h1.1.2).mpr (Int.le_refl _))).2
theorem q_spill_bd {h : IA} (hh : ∀ k, 0 ≤ k → k < 49 → 0 ≤ h k ∧ h k ≤ 99) {k : Int} (hk : 0 ≤ k ∧ k < 49) (hb : k / 7 = 0 ∨ k / 7 = 6 ∨ k % 7 = 0 ∨ k % 7 = 6) : S_spill h k = h k := by
  have h1 := q_spill hh hk; have h2 := q_spill_ge hh hk; have h3 := hh k hk.1 hk.2
  have := (h1.2 (h k) h3.1 h3.2).mp (S_con_b hk (by unfold S_bd; omega) (Int.le_refl _))
  omega
theorem q_spill_dn {h : IA} (hh : ∀ k, 0 ≤ k → k < 49 → 0 ≤ h k ∧ h k ≤ 99) {k : Int} (hk : 0 ≤ k ∧ k < 42) : S_spill h k ≤ h k ∨ S_spill h k ≤ S_spill h (k + 7) := by
  have h1 := q_spill hh (k := k) (by omega); have h2 := q_spill hh (k := k + 7) (by omega); have h3 := hh k hk.1 (by omega)
  have ad : S_adj 4 (k + 7) k := ⟨by omega, by omega, 0, by omega, by omega, by rw [(S_step_4 (p := k + 7) (by omega)).1, if_neg (by omega)]; omega⟩
  by_cases q : h k ≤ S_spill h (k + 7)
  · right
    have c := (h2.2 (S_spill h (k + 7)) h2.1.1 h2.1.2).mpr (Int.le_refl _)
    exact (h1.2 _ h2.1.1 h2.1.2).mp (S_con_st c ad q)
  · left
    have c := (h2.2 (h k) h3.1 h3.2).mpr (by omega)
    exact (h1.2 _ h3.1 h3.2).mp (S_con_st c ad (Int.le_refl _))
theorem q_water {h : IA} (hh : ∀ k, 0 ≤ k → k < 49 → 0 ≤ h k ∧ h k ≤ 99) : S_comps 4 (S_pond h) = 0 ↔ zS (fun k => S_spill h k - h k) 49 = 0 := by
  have nn : ∀ j, 0 ≤ j → j < 49 → 0 ≤ (fun k => S_spill h k - h k) j := fun j a b => by
    have := q_spill_ge hh (k := j) ⟨a, b⟩; show 0 ≤ S_spill h j - h j; omega
  constructor
  · intro e
    have hz := (q_zero (by omega)).mp e
    have all : ∀ k, 0 ≤ k → k < 49 → S_pond h k = false := fun k a b => by
      cases hp : S_pond h k
      · rfl
      · exfalso
        obtain ⟨j, j0, j1, j2, j3⟩ := least (P := fun t => S_pond h t = true) 49 (by omega) ⟨k, a, b, hp⟩
        have := cb_f.mp (hz j j0 j1)
        exact this ⟨j2, fun i i0 i1 i2 => absurd i2 (j3 i i0 i1)⟩
    have e0 := zS_congr (f := fun k => S_spill h k - h k) (g := fun _ => 0) 49 (by omega) (fun k a b => by
      have h1 := of_decide_eq_false (all k a b); have h2 := q_spill_ge hh (k := k) ⟨a, b⟩; show S_spill h k - h k = 0; omega)
    rw [e0, q_const 49 (by omega)]; rfl
  · intro e
    refine (q_zero (by omega)).mpr (fun k a b => cb_f.mpr (fun z => ?_))
    have h1 := of_decide_eq_true z.1
    have h2 := q_ge (k := k) 49 (by omega) nn a b
    rw [e] at h2
    have h3 : S_spill h k - h k ≤ 0 := h2
    omega
/-! cuts -/
theorem q_cutn_sy (a b : Int) : S_cutn b a = S_cutn a b := by
  unfold S_cutn
  rw [show a / 7 - b / 7 = -(b / 7 - a / 7) by omega, show a % 7 - b % 7 = -(b % 7 - a % 7) by omega]
  have e : ∀ x, zabs (-x) = zabs x := fun x => by have h1 := zabs_spec (-x); have h2 := zabs_spec x; omega
  rw [e, e]
theorem q_rise_n {h : IA} {a b : Int} : zS (fun i => zmax 0 (h (S_on a b (i + 1)) - h (S_on a b i))) (S_cutn a b) = S_rise h a b := rfl
theorem q_seen {h : IA} {a : Int} (ha : 0 ≤ a ∧ a < 49) : 2 ≤ S_seen h a ∧ S_seen h a < 49 := by
  have cl : ∀ b, S_cutn a b ≤ 1 → S_clear h a b := fun b hb i i0 i1 => by omega
  constructor
  · have c1 : ∀ b, b ≠ a → S_cutn a b ≤ 1 → S_sees h a b = true := fun b hn hb => cb_iff.mpr ⟨hn, cl b hb⟩
    have cu : ∀ b, (b / 7 = a / 7 ∧ (b % 7 - a % 7 = 1 ∨ b % 7 - a % 7 = -1)) ∨ (b % 7 = a % 7 ∧ (b / 7 - a / 7 = 1 ∨ b / 7 - a / 7 = -1)) → S_cutn a b ≤ 1 := fun b hb => by
      unfold S_cutn
      have h1 := zabs_spec (b / 7 - a / 7); have h2 := zabs_spec (b % 7 - a % 7); have h3 := zmax_spec (zabs (b / 7 - a / 7)) (zabs (b % 7 - a % 7)); omega
    have hx : ∃ x, (0 ≤ x ∧ x < 49) ∧ S_sees h a x = true ∧ (x - a = 1 ∨ x - a = -1) := by
      by_cases q : a % 7 < 6
      · exact ⟨a + 1, by omega, c1 _ (by omega) (cu _ (by omega)), by omega⟩
      · exact ⟨a - 1, by omega, c1 _ (by omega) (cu _ (by omega)), by omega⟩
    have hy : ∃ y, (0 ≤ y ∧ y < 49) ∧ S_sees h a y = true ∧ (y - a = 7 ∨ y - a = -7) := by
      by_cases q : a < 42
      · exact ⟨a + 7, by omega, c1 _ (by omega) (cu _ (by omega)), by omega⟩
      · exact ⟨a - 7, by omega, c1 _ (by omega) (cu _ (by omega)), by omega⟩
    obtain ⟨x, hx1, hx2, hx3⟩ := hx; obtain ⟨y, hy1, hy2, hy3⟩ := hy
    by_cases q : x < y
    · exact q_two q hx1.1 49 (by omega) hy1.2 hx2 hy2
    · exact q_two (show y < x by omega) hy1.1 49 (by omega) hx1.2 hy2 hx2
  · have h1 := zC_lt (P := S_sees h a) (Q := fun _ => true) (i := 49) (n := a) (by omega) (fun _ _ _ _ => rfl) ha.1 ha.2 (cb_f.mpr (fun z => z.1 rfl)) rfl
    have h2 := (zC_b (fun _ => true) (i := 49) (by omega)).2
    show zC (S_sees h a) 49 < 49; omega
/-! what changes heights -/
theorem q_heap_at {h : IA} {p a : Int} (hp : 0 ≤ p ∧ p < 49) (ha : a ≠ 0) : S_heap h p a p = clip (h p + a) := by
  unfold S_heap; rw [zmix_at hp]
  have hs := zabs_spec a
  have e : S_left p a p = zabs a := by unfold S_left; rw [Int.sub_self, Int.sub_self]; show zabs a - (zabs 0 + zabs 0) * _ = _; rw [show zabs 0 + zabs 0 = 0 from rfl, Int.zero_mul]; omega
  by_cases q : 0 < a
  · rw [S_heapv_pos (by omega) q, e]; congr 1; omega
  · rw [S_heapv_neg (by omega) (by omega), e]; congr 1; omega
theorem q_clip (v : Int) : clip v = if v < 0 then 0 else if 99 < v then 99 else v := by unfold clip zmax zmin; split <;> split <;> (repeat' split) <;> omega
theorem q_heap_k {h : IA} (hh : ∀ k, 0 ≤ k → k < 49 → 0 ≤ h k ∧ h k ≤ 99) {p a k : Int} (hk : 0 ≤ k ∧ k < 49) : (0 < a → h k + z1 (!decide (S_heap h p a k = h k)) ≤ S_heap h p a k) ∧ (a < 0 → S_heap h p a k ≤ h k - z1 (!decide (S_heap h p a k = h k))) := by
  have h0 := hh k hk.1 hk.2
  have e : S_heap h p a k = S_heapv h p a k := by unfold S_heap; exact zmix_at hk
  rw [e]
  have hz : ∀ v, z1 (!decide (v = h k)) = if v = h k then 0 else 1 := fun v => by
    by_cases q : v = h k
    · rw [if_pos q, decide_eq_true q]; rfl
    · rw [if_neg q, decide_eq_false q]; rfl
  rw [hz]
  by_cases hl : 0 < S_left p a k
  · constructor
    · intro ha; rw [S_heapv_pos hl ha, q_clip]; (repeat' split) <;> omega
    · intro ha; rw [S_heapv_neg hl ha, q_clip]; (repeat' split) <;> omega
  · rw [S_heapv_0 (by omega) h0, if_pos rfl]; omega
theorem q_heap_s {h : IA} (hh : ∀ k, 0 ≤ k → k < 49 → 0 ≤ h k ∧ h k ≤ 99) {p a : Int} : (0 < a → zS h 49 + S_diff (S_heap h p a) h ≤ zS (S_heap h p a) 49) ∧ (a < 0 → zS (S_heap h p a) 49 ≤ zS h 49 - S_diff (S_heap h p a) h) := by
  constructor
  · intro ha
    have := zS_le (f := fun k => h k + z1 (!decide (S_heap h p a k = h k))) (g := S_heap h p a) 49 (by omega) (fun k x y => (q_heap_k hh ⟨x, y⟩).1 ha)
    rw [zS_add 49 (by omega)] at this; exact this
  · intro ha
    have := zS_le (f := fun k => S_heap h p a k + z1 (!decide (S_heap h p a k = h k))) (g := h) 49 (by omega) (fun k x y => by have := (q_heap_k hh (p := p) (a := a) ⟨x, y⟩).2 ha; omega)
    rw [zS_add 49 (by omega)] at this
    have e : zS (fun k => z1 (!decide (S_heap h p a k = h k))) 49 = S_diff (S_heap h p a) h := rfl
    rw [e] at this; omega
theorem q_heap_d {h : IA} {p a : Int} (hp : 0 ≤ p ∧ p < 49) (q : S_heap h p a p ≠ h p) : 0 < S_diff (S_heap h p a) h := by
  have := q_pos (P := fun k => !decide (S_heap h p a k = h k)) 49 (by omega) hp.1 hp.2 (by show (!decide (S_heap h p a p = h p)) = true; rw [decide_eq_false q]; rfl)
  show 0 < zC (fun k => !decide (S_heap h p a k = h k)) 49; omega
theorem q_diff_b (h o : IA) : 0 ≤ S_diff h o ∧ S_diff h o ≤ 49 := zC_b _ (by omega)
theorem q_mean {h : IA} {lo hi p : Int} (hp : 0 ≤ p ∧ p < 49) (hb : ∀ k, 0 ≤ k → k < 49 → lo ≤ h k ∧ h k ≤ hi) : lo ≤ S_mean h p ∧ S_mean h p ≤ hi := by
  have hn : 0 ≤ zS (S_mc p) 4 := q_s0 4 (by omega) (fun j _ _ => by unfold S_mc; split <;> omega)
  have h0 := hb p hp.1 hp.2
  have hl : zS (fun s => lo * S_mc p s) 4 ≤ zS (S_mt h p) 4 := zS_le 4 (by omega) (fun s _ _ => by
    unfold S_mc S_mt; have hs := S_step_b p s
    split
    · omega
    · have := hb (S_step p s) (by omega) hs.2; omega)
  have hu : zS (S_mt h p) 4 ≤ zS (fun s => hi * S_mc p s) 4 := zS_le 4 (by omega) (fun s _ _ => by
    unfold S_mc S_mt; have hs := S_step_b p s
    split
    · omega
    · have := hb (S_step p s) (by omega) hs.2; omega)
  have hm : ∀ c : Int, ∀ n, 0 ≤ n → zS (fun s => c * S_mc p s) n = c * zS (S_mc p) n := fun c => z_ind (by rw [zS_0, zS_0]; omega) (fun n hn ih => by rw [zS_up hn, zS_up hn, ih, Int.mul_add])
  rw [hm lo 4 (by omega)] at hl; rw [hm hi 4 (by omega)] at hu
  unfold S_mean
  constructor
  · refine (Int.le_ediv_iff_mul_le (by omega)).mpr ?_
    rw [Int.mul_add]; omega
  · refine Int.le_of_lt_add_one ((Int.ediv_lt_iff_lt_mul (by omega)).mpr ?_)
    rw [Int.add_mul, Int.mul_add]; omega
theorem q_smooth {h : IA} (hh : ∀ k, 0 ≤ k → k < 49 → 0 ≤ h k ∧ h k ≤ 99) {lo hi : Int} (hb : ∀ k, 0 ≤ k → k < 49 → lo ≤ h k ∧ h k ≤ hi) : ∀ k, 0 ≤ k → k < 49 → lo ≤ S_smooth h k ∧ S_smooth h k ≤ hi := fun k a b => by
  have h1 := q_mean ⟨a, b⟩ hb; have h2 := q_mean ⟨a, b⟩ hh
  unfold S_smooth; rw [zmix_at ⟨a, b⟩, clip_id h2]; exact h1
