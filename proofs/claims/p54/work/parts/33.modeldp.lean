/-! THE MODEL'S WAYS, plainly: slopes without fuel, regions by labels, floods, cuts -/
theorem S_cnt_b {h : IA} {x : Int} (hx : 0 ≤ x ∧ x < 49) : zC (fun k => decide (h k < h x)) 49 ≤ 48 := by
  have h1 := zC_lt (P := fun k => decide (h k < h x)) (Q := fun _ => true) (i := 49) (n := x) (by omega) (fun _ _ _ _ => rfl) hx.1 hx.2 (by simp) rfl
  have h2 := (zC_b (fun _ => true) (i := 49) (by omega)).2
  omega
theorem S_fuel {h : IA} : ∀ (n : Nat) (x : Int), 0 ≤ x ∧ x < 49 → zC (fun k => decide (h k < h x)) 49 ≤ n → (S_sinkN h n x = S_sinkN h (n + 1) x ∧ S_stepsN h n x = S_stepsN h (n + 1) x) ∧ S_next h (S_sinkN h n x) = -1 ∧ Cn (S_dr h) x (S_sinkN h n x) := by
  intro n; induction n with
  | zero =>
    intro x hx hc
    have e : S_next h x = -1 := Classical.byContradiction (fun q => by
      have h1 := S_next_ok hx q
      have h2 := zC_lt (P := fun _ => false) (Q := fun k => decide (h k < h x)) (i := 49) (n := S_next h x) (by omega) (fun _ _ _ z => by cases z) h1.1.1 h1.1.2 rfl (decide_eq_true h1.2.1)
      have h3 := (zC_b (fun _ => false) (i := 49) (by omega)).1
      omega)
    rw [S_sinkN_s e, S_sinkN_s e, S_stepsN_s e, S_stepsN_s e]; exact ⟨⟨rfl, rfl⟩, e, Cn.rf⟩
  | succ n ih =>
    intro x hx hc
    by_cases e : S_next h x = -1
    · rw [S_sinkN_s e, S_sinkN_s e, S_stepsN_s e, S_stepsN_s e]; exact ⟨⟨rfl, rfl⟩, e, Cn.rf⟩
    · have h1 := S_next_ok hx e
      have h2 := zC_lt (P := fun k => decide (h k < h (S_next h x))) (Q := fun k => decide (h k < h x)) (i := 49) (n := S_next h x) (by omega) (fun k _ _ z => by have z := of_decide_eq_true z; exact decide_eq_true (Int.lt_trans z h1.2.1)) h1.1.1 h1.1.2 (by simp) (decide_eq_true h1.2.1)
      have h3 := ih (S_next h x) h1.1 (by omega)
      have e1 : S_sinkN h (n + 1) x = S_sinkN h n (S_next h x) := S_sinkN_t e
      have e2 : S_sinkN h (n + 1 + 1) x = S_sinkN h (n + 1) (S_next h x) := S_sinkN_t e
      have e3 : S_stepsN h (n + 1) x = 1 + S_stepsN h n (S_next h x) := S_stepsN_t e
      have e4 : S_stepsN h (n + 1 + 1) x = 1 + S_stepsN h (n + 1) (S_next h x) := S_stepsN_t e
      rw [e1, e2, e3, e4]
      exact ⟨⟨h3.1.1, congrArg (1 + ·) h3.1.2⟩, h3.2.1, (Cn.one ⟨hx, rfl, e⟩).tr h3.2.2⟩
theorem S_sink_un {h : IA} {x : Int} (hx : 0 ≤ x ∧ x < 49) (e : S_next h x ≠ -1) : S_sink h x = S_sink h (S_next h x) ∧ S_steps h x = 1 + S_steps h (S_next h x) := by
  have h1 := S_next_ok hx e
  have h2 := (S_fuel (h := h) 48 (S_next h x) h1.1 (S_cnt_b h1.1)).1
  have e1 : S_sinkN h (48 + 1) x = S_sinkN h 48 (S_next h x) := S_sinkN_t e
  have e2 : S_stepsN h (48 + 1) x = 1 + S_stepsN h 48 (S_next h x) := S_stepsN_t e
  exact ⟨e1.trans h2.1, e2.trans (congrArg (1 + ·) h2.2)⟩
theorem S_sink_s {h : IA} {x : Int} (e : S_next h x = -1) : S_sink h x = x ∧ S_steps h x = 0 := ⟨S_sinkN_s e, S_stepsN_s e⟩
theorem S_sink_ok {h : IA} {x : Int} (hx : 0 ≤ x ∧ x < 49) : S_next h (S_sink h x) = -1 ∧ Cn (S_dr h) x (S_sink h x) :=
  (S_fuel (h := h) 49 x hx (by have := S_cnt_b (h := h) hx; omega)).2
theorem S_dr_un {h : IA} {x p : Int} (hx : 0 ≤ x ∧ x < 49) (hne : x ≠ p) : Cn (S_dr h) x p ↔ S_next h x ≠ -1 ∧ Cn (S_dr h) (S_next h x) p := by
  constructor
  · intro hc
    have := hc (fun z => z = x ∨ (S_next h x ≠ -1 ∧ Cn (S_dr h) (S_next h x) z)) (Or.inl rfl) (fun a b ha hr => by
      obtain ⟨r1, r2, r3⟩ := hr
      rcases ha with ha | ha
      · rw [ha] at r2; exact Or.inr ⟨by rw [r2]; exact r3, by rw [r2]; exact Cn.rf⟩
      · exact Or.inr ⟨ha.1, ha.2.st ⟨r1, r2, r3⟩⟩)
    exact this.elim (fun z => absurd z.symm hne) id
  · intro ⟨h1, h2⟩; exact (Cn.one ⟨hx, rfl, h1⟩).tr h2
noncomputable def S_basin (h : IA) (p : Int) : Int := if S_next h p = -1 then S_flow h p else 0
theorem S_flow_b (h : IA) (p : Int) : 0 ≤ S_flow h p ∧ S_flow h p ≤ 49 := zC_b _ (by omega)
theorem S_basin_b (h : IA) (p : Int) : 0 ≤ S_basin h p ∧ S_basin h p ≤ 49 := by
  unfold S_basin; split; exact S_flow_b h p; omega
theorem S_basin_eq {h : IA} {p : Int} : zC (fun k => decide (S_sink h k = p)) 49 = S_basin h p := by
  unfold S_basin
  by_cases e : S_next h p = -1
  · rw [if_pos e]
    refine zC_congr (by omega) (fun k a b => ?_)
    have hs := S_sink_ok (h := h) ⟨a, b⟩
    by_cases q : S_sink h k = p
    · rw [decide_eq_true q]; exact (cb_iff.mpr (q ▸ hs.2)).symm
    · rw [decide_eq_false q]; refine (cb_f.mpr (fun hc => q ?_)).symm
      have := hc (fun z => (0 ≤ z ∧ z < 49) ∧ S_sink h z = S_sink h k) ⟨⟨a, b⟩, rfl⟩ (fun x y hx hr => by
        obtain ⟨r1, r2, r3⟩ := hr
        have e1 : S_next h x ≠ -1 := by rw [r2]; exact r3
        rw [← r2]; exact ⟨(S_next_ok r1 e1).1, (S_sink_un r1 e1).1.symm.trans hx.2⟩)
      rw [← this.2]; exact (S_sink_s e).1
  · rw [if_neg e]
    exact zC_zero 49 (by omega) (fun k a b => decide_eq_false (fun q => e (by have hs := (S_sink_ok (h := h) ⟨a, b⟩).1; rw [q] at hs; exact hs)))
/-! sums of a row that is set -/
theorem zS_set {f : IA} {i v : Int} (hi : 0 ≤ i) : ∀ n, 0 ≤ n → zS (zu f i v) n = zS f n + (if i < n then v - f i else 0) := by
  refine z_ind (by rw [zS_0, zS_0, if_neg (by omega)]; rfl) (fun n hn ih => ?_)
  rw [zS_up hn, zS_up hn, ih]
  by_cases e : n = i
  · rw [e, zu_s, if_neg (by omega), if_pos (by omega)]; omega
  · rw [zu_n e]
    by_cases q : i < n
    · rw [if_pos q, if_pos (by omega)]; omega
    · rw [if_neg q, if_neg (by omega)]; omega
/-! near points -/
theorem near4 {k j : Int} (hk : 0 ≤ k ∧ k < 49) (hj : 0 ≤ j ∧ j < 49) : S_adj 4 k j ↔ zabs (k / 7 - j / 7) + zabs (k % 7 - j % 7) = 1 := by
  obtain ⟨a0, a1, a2, a3⟩ := S_step_4 hk
  have z1 := zabs_spec (k / 7 - j / 7); have z2 := zabs_spec (k % 7 - j % 7)
  constructor
  · intro ⟨_, _, s, s0, s1, s2⟩
    rcases z4 ⟨s0, s1⟩ with e | e | e | e <;> subst e
    · rw [a0] at s2; split at s2 <;> omega
    · rw [a1] at s2; split at s2 <;> omega
    · rw [a2] at s2; split at s2 <;> omega
    · rw [a3] at s2; split at s2 <;> omega
  · intro h
    refine ⟨hk, hj, ?_⟩
    have hc : (k / 7 - j / 7 = 1 ∧ k % 7 = j % 7) ∨ (k / 7 - j / 7 = -1 ∧ k % 7 = j % 7) ∨ (k / 7 = j / 7 ∧ k % 7 - j % 7 = 1) ∨ (k / 7 = j / 7 ∧ k % 7 - j % 7 = -1) := by omega
    rcases hc with hc | hc | hc | hc
    · exact ⟨0, by omega, by omega, by rw [a0, if_neg (by omega)]; omega⟩
    · exact ⟨2, by omega, by omega, by rw [a2, if_neg (by omega)]; omega⟩
    · exact ⟨3, by omega, by omega, by rw [a3, if_neg (by omega)]; omega⟩
    · exact ⟨1, by omega, by omega, by rw [a1, if_neg (by omega)]; omega⟩
def S_nb (b : Bool) : Int := if b = true then 8 else 4
theorem S_nb_or (b : Bool) : S_nb b = 4 ∨ S_nb b = 8 := by cases b; exact Or.inl rfl; exact Or.inr rfl
theorem near9 {b : Bool} {k j : Int} (hk : 0 ≤ k ∧ k < 49) (hj : 0 ≤ j ∧ j < 49) : S_adj (S_nb b) k j ↔ (zabs (k / 7 - j / 7) + zabs (k % 7 - j % 7) = 1 ∨ (b = true ∧ zabs (k / 7 - j / 7) = 1 ∧ zabs (k % 7 - j % 7) = 1)) := by
  cases b
  · rw [show S_nb false = 4 from rfl, near4 hk hj]
    exact ⟨Or.inl, fun h => h.elim id (fun q => by cases q.1)⟩
  · rw [show S_nb true = 8 from rfl]
    obtain ⟨a0, a1, a2, a3⟩ := S_step_8 hk
    have z1 := zabs_spec (k / 7 - j / 7); have z2 := zabs_spec (k % 7 - j % 7)
    constructor
    · intro ⟨h1, h2, s, s0, s1, s2⟩
      rcases z8 ⟨s0, s1⟩ with e | e | e | e | e
      · exact Or.inl ((near4 hk hj).mp ⟨h1, h2, s, e.1, e.2, s2⟩)
      · subst e; rw [a0] at s2; right; refine ⟨rfl, ?_, ?_⟩ <;> split at s2 <;> omega
      · subst e; rw [a1] at s2; right; refine ⟨rfl, ?_, ?_⟩ <;> split at s2 <;> omega
      · subst e; rw [a2] at s2; right; refine ⟨rfl, ?_, ?_⟩ <;> split at s2 <;> omega
      · subst e; rw [a3] at s2; right; refine ⟨rfl, ?_, ?_⟩ <;> split at s2 <;> omega
    · intro h
      rcases h with h | ⟨-, h1, h2⟩
      · obtain ⟨g1, g2, s, g3, g4, g5⟩ := (near4 hk hj).mpr h; exact ⟨g1, g2, s, g3, by omega, g5⟩
      · refine ⟨hk, hj, ?_⟩
        have hc : (k / 7 - j / 7 = 1 ∧ k % 7 - j % 7 = -1) ∨ (k / 7 - j / 7 = -1 ∧ k % 7 - j % 7 = -1) ∨ (k / 7 - j / 7 = -1 ∧ k % 7 - j % 7 = 1) ∨ (k / 7 - j / 7 = 1 ∧ k % 7 - j % 7 = 1) := by omega
        rcases hc with hc | hc | hc | hc
        · exact ⟨4, by omega, by omega, by rw [a0, if_neg (by omega)]; omega⟩
        · exact ⟨5, by omega, by omega, by rw [a1, if_neg (by omega)]; omega⟩
        · exact ⟨6, by omega, by omega, by rw [a2, if_neg (by omega)]; omega⟩
        · exact ⟨7, by omega, by omega, by rw [a3, if_neg (by omega)]; omega⟩
/-! regions by labels -/
def RGI (n : Int) (mk : BA) (rg : IA) : Prop := ∀ k, 0 ≤ k → k < 49 → (mk k = false → rg k = -1) ∧ (mk k = true → (0 ≤ rg k ∧ rg k ≤ k) ∧ mk (rg k) = true ∧ Cn (S_rr n mk) (rg k) k)
def RGO (n : Int) (mk : BA) (rg : IA) (i : Int) : Prop := ∀ k j, 0 ≤ k → k < i → S_rr n mk k j → rg k ≤ rg j
def RGP (n : Int) (mk : BA) (rg : IA) (i j : Int) : Prop := ∀ q, 0 ≤ q → q < j → S_rr n mk i q → rg i ≤ rg q
theorem RGI_0 {n : Int} {mk : BA} {rg : IA} (h : ∀ k, 0 ≤ k → k < 49 → rg k = (if mk k = true then k else -1)) : RGI n mk rg := fun k a b => by
  rw [h k a b]
  refine ⟨fun q => by rw [if_neg (by rw [q]; decide)], fun q => ?_⟩
  rw [if_pos q]; exact ⟨⟨a, Int.le_refl _⟩, q, Cn.rf⟩
theorem RGI_b {n : Int} {mk : BA} {rg : IA} (H : RGI n mk rg) : ∀ k, 0 ≤ k → k < 49 → -1 ≤ rg k ∧ rg k ≤ 48 := fun k a b => by
  have h := H k a b
  cases q : mk k
  · rw [h.1 q]; omega
  · have := (h.2 q).1; omega
theorem RGI_m {n : Int} {mk : BA} {rg : IA} (H : RGI n mk rg) {k : Int} (hk : 0 ≤ k ∧ k < 49) : mk k = true ↔ rg k ≠ -1 := by
  have h := H k hk.1 hk.2
  cases q : mk k
  · exact ⟨fun z => (by cases z), fun z => absurd (h.1 q) z⟩
  · refine ⟨fun _ z => ?_, fun _ => rfl⟩
    have := (h.2 q).1; omega
theorem RGI_sum {n : Int} {mk : BA} {rg : IA} (H : RGI n mk rg) : -49 ≤ zS rg 49 := by
  have := (zS_bnd (f := rg) (a := -1) (b := 48) 49 (by omega) (RGI_b H)).1
  omega
theorem RGI_put {n : Int} {mk : BA} {rg : IA} (hn : n = 4 ∨ n = 8) (H : RGI n mk rg) {i j : Int} (hi : 0 ≤ i ∧ i < 49) (hr : S_rr n mk i j) (hlt : rg j < rg i) : RGI n mk (zu rg i (rg j)) := fun k a b => by
  have hj := hr.1.2.1
  by_cases e : k = i
  · rw [e, zu_s]
    refine ⟨fun q => (by rw [hr.2.1] at q; cases q), fun _ => ?_⟩
    have h1 := (H j hj.1 hj.2).2 hr.2.2; have h2 := (H i hi.1 hi.2).2 hr.2.1
    exact ⟨⟨h1.1.1, by omega⟩, h1.2.1, h1.2.2.st (S_rr_sy hn _ _ hr)⟩
  · rw [zu_n e]; exact H k a b
theorem RG_end {n : Int} {mk : BA} {rg : IA} (hn : n = 4 ∨ n = 8) (H : RGI n mk rg) (hO : RGO n mk rg 49) : zC (fun k => decide (rg k = k)) 49 = S_comps n mk := by
  refine zC_congr (by omega) (fun k a b => ?_)
  have h := H k a b
  have hst : ∀ x y, S_rr n mk x y → rg x = rg y := fun x y hr => by
    have h1 := hO x y hr.1.1.1 hr.1.1.2 hr; have h2 := hO y x hr.1.2.1.1 hr.1.2.1.2 (S_rr_sy hn _ _ hr); omega
  rcases Bool.eq_false_or_eq_true (mk k) with q | q
  case inr => rw [h.1 q, decide_eq_false (by omega)]; exact (cb_f.mpr (fun z => by have z1 := z.1; rw [q] at z1; cases z1)).symm
  case inl =>
    have h2 := h.2 q
    by_cases e : rg k = k
    · rw [decide_eq_true e]
      refine (cb_iff.mpr ⟨q, fun j j0 j1 j2 j3 => ?_⟩).symm
      have e1 : rg j = rg k := j3 (fun z => rg j = rg z) rfl (fun x y hx hr => hx.trans (hst x y hr))
      have := ((H j j0 (by omega)).2 j2).1; omega
    · rw [decide_eq_false e]
      exact (cb_f.mpr (fun z => z.2 (rg k) h2.1.1 (by omega) h2.2.1 h2.2.2)).symm
theorem S_comps_cg {n : Int} {w w' : BA} (h : ∀ k, 0 ≤ k → k < 49 → w k = w' k) : S_comps n w = S_comps n w' := by
  have hr : ∀ x y, S_rr n w x y → S_rr n w' x y := fun x y q => ⟨q.1, by rw [← h x q.1.1.1 q.1.1.2]; exact q.2.1, by rw [← h y q.1.2.1.1 q.1.2.1.2]; exact q.2.2⟩
  have hr' : ∀ x y, S_rr n w' x y → S_rr n w x y := fun x y q => ⟨q.1, by rw [h x q.1.1.1 q.1.1.2]; exact q.2.1, by rw [h y q.1.2.1.1 q.1.2.1.2]; exact q.2.2⟩
  refine zC_congr (by omega) (fun k a b => cb_congr ⟨fun z => ⟨by rw [← h k a b]; exact z.1, fun j j0 j1 j2 j3 => z.2 j j0 j1 (by rw [h j j0 (by omega)]; exact j2) (j3.mono hr')⟩, fun z => ⟨by rw [h k a b]; exact z.1, fun j j0 j1 j2 j3 => z.2 j j0 j1 (by rw [← h j j0 (by omega)]; exact j2) (j3.mono hr)⟩⟩)
/-! floods -/
theorem WI_0 {h w : IA} (hh : ∀ k, 0 ≤ k → k < 49 → 0 ≤ h k ∧ h k ≤ 99) (hw : ∀ k, 0 ≤ k → k < 49 → w k = (if cb (S_bd k) = true then h k else 99)) : WI h w := (WO_init hh hw).1
theorem WI_b {h w : IA} (hh : ∀ k, 0 ≤ k → k < 49 → 0 ≤ h k ∧ h k ≤ 99) (H : WI h w) : ∀ k, 0 ≤ k → k < 49 → 0 ≤ w k ∧ w k ≤ 99 := fun k a b => by
  have h1 := H k a b; have h2 := hh k a b; omega
theorem WI_sum {h w : IA} (hh : ∀ k, 0 ≤ k → k < 49 → 0 ≤ h k ∧ h k ≤ 99) (H : WI h w) : 0 ≤ zS w 49 := by
  have := (zS_bnd (f := w) (a := 0) (b := 99) 49 (by omega) (WI_b hh H)).1
  omega
theorem WI_put {h w : IA} (H : WI h w) {i s v : Int} (hi : 0 ≤ i ∧ i < 49) (hs : 0 ≤ s ∧ s < 4) (hb : ¬ S_bd i) (hj : 0 ≤ S_step i s) (hv : v = zmax (h i) (w (S_step i s))) (hlt : v < w i) : WI h (zu w i v) := fun k a b => by
  have hsb := S_step_b i s
  by_cases e : k = i
  · rw [e, zu_s]
    have h1 := H i hi.1 hi.2
    have h2 := zmax_spec (h i) (w (S_step i s))
    refine ⟨by omega, by omega, fun q => absurd q hb, fun t t1 t2 => ?_⟩
    have h3 := (H (S_step i s) hj hsb.2).2.2.2 t t1 (by omega)
    exact S_con_st h3 (S_adj_sy (Or.inl rfl) ⟨hi, ⟨hj, hsb.2⟩, s, hs.1, hs.2, rfl⟩) (by omega)
  · rw [zu_n e]; exact H k a b
theorem WX_in {h w : IA} {i : Int} (hi : 0 ≤ i ∧ i < 49) (hw : ∀ s, 0 ≤ s → s < 4 → 0 ≤ S_step i s → w i ≤ zmax (h i) (w (S_step i s))) : WX h w i := fun j hj => by
  obtain ⟨h1, h2, s, s0, s1, s2⟩ := S_adj_sy (Or.inl rfl) hj
  have := hw s s0 s1 (by omega); rw [s2] at this; exact this
theorem WX_bd {h w : IA} (H : WI h w) {i : Int} (hi : 0 ≤ i ∧ i < 49) (hb : S_bd i) : WX h w i := fun j hj => by
  have h1 := (H i hi.1 hi.2).2.2.1 hb; have h2 := zmax_spec (h i) (w j); omega
theorem WI_end {h w : IA} (hh : ∀ k, 0 ≤ k → k < 49 → 0 ≤ h k ∧ h k ≤ 99) (H : WI h w) (hx : ∀ k, 0 ≤ k → k < 49 → WX h w k) : ∀ k, 0 ≤ k → k < 49 → w k = S_spill h k := fun k a b =>
  WO_end (r := 0) (c8 := 0) hh ⟨H, fun j t ht => (by
    obtain ⟨r1, r2, r3⟩ : (0 ≤ j ∧ j < 49) ∧ S_bd j ∧ h j ≤ t := ht
    have := (H j r1.1 r1.2).2.2.1 r2; omega), fun _ => hx⟩ (Or.inl rfl) ⟨a, b⟩
theorem S_step_nb {i s : Int} (hi : 0 ≤ i ∧ i < 49) (hb : ¬ S_bd i) (hs : 0 ≤ s ∧ s < 4) : 0 ≤ S_step i s := by
  obtain ⟨a0, a1, a2, a3⟩ := S_step_4 hi
  unfold S_bd at hb
  rcases z4 hs with e | e | e | e <;> subst e
  · rw [a0]; split <;> omega
  · rw [a1]; split <;> omega
  · rw [a2]; split <;> omega
  · rw [a3]; split <;> omega
/-! cuts -/
theorem S_on_z {a b i : Int} (h : S_cutn a b = 0) : S_on a b i = a := by
  unfold S_on S_along; rw [h, if_pos (by omega), if_pos (by omega)]; omega
def S_tcut (r c r' c' : Int) : Int := if ((0 ≤ r ∧ r ≤ 6) ∧ (0 ≤ c ∧ c ≤ 6)) ∧ ((0 ≤ r' ∧ r' ≤ 6) ∧ (0 ≤ c' ∧ c' ≤ 6)) then 0 else 1
def S_tch (r c r' c' i : Int) : Int := if ((0 ≤ r ∧ r ≤ 6) ∧ (0 ≤ c ∧ c ≤ 6)) ∧ ((0 ≤ r' ∧ r' ≤ 6) ∧ (0 ≤ c' ∧ c' ≤ 6)) then (if 0 ≤ i ∧ i ≤ S_cutn (7 * r + c) (7 * r' + c') then 0 else 1) else 1
def S_tdr (h : IA) (r c : Int) : Int := if (0 ≤ r ∧ r ≤ 6) ∧ (0 ≤ c ∧ c ≤ 6) then (if S_next h (7 * r + c) = -1 then 2 else 0) else 1
theorem arg_up {f : IA} {i q mo : Int} (hi : 0 ≤ i) (hq : q = S_arg f i) (hm : (i = 0 ∧ mo ≤ f 0 ∧ (f 0 ≤ mo → mo = f 0)) ∨ (1 ≤ i ∧ mo = f q)) : (mo < f i → i = S_arg f (i + 1) ∧ 1 ≤ i + 1) ∧ (¬ mo < f i → q = S_arg f (i + 1) ∧ mo = f q) := by
  rw [S_arg_up hi, ← hq]
  rcases hm with ⟨h1, h2, h3⟩ | ⟨h1, h2⟩
  · have e0 : q = 0 := by rw [hq, h1]; exact S_arg_0 f
    rw [h1, e0]
    refine ⟨fun _ => ⟨by rw [if_neg (Int.lt_irrefl _)], by omega⟩, fun h => ⟨by rw [if_neg (Int.lt_irrefl _)], h3 (by omega)⟩⟩
  · rw [← h2]
    refine ⟨fun h => ⟨by rw [if_pos h], by omega⟩, fun h => ⟨by rw [if_neg h], rfl⟩⟩
