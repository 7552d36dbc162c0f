/-! SLOPES: where a point drains, plainly -/
theorem S_step_in {p s : Int} (hp : 0 ≤ p ∧ p < 49) (hs : 0 ≤ s ∧ s < 8) : S_step p s = S_pointAt (p / 7 + ROWS s) (p % 7 + COLS s) := by unfold S_step; rw [if_pos ⟨hp.1, hp.2, hs.1, hs.2⟩]
theorem S_step_4 {p : Int} (hp : 0 ≤ p ∧ p < 49) : S_step p 0 = (if p < 7 then -1 else p - 7) ∧ S_step p 1 = (if p % 7 = 6 then -1 else p + 1) ∧ S_step p 2 = (if 42 ≤ p then -1 else p + 7) ∧ S_step p 3 = (if p % 7 = 0 then -1 else p - 1) := by
  refine ⟨?_, ?_, ?_, ?_⟩ <;> rw [S_step_in hp (by omega)] <;> unfold S_pointAt ROWS COLS <;> simp only [reduceIte, Int.reduceEq] <;> split <;> split <;> omega
theorem z4 {s : Int} (h : 0 ≤ s ∧ s < 4) : s = 0 ∨ s = 1 ∨ s = 2 ∨ s = 3 := by omega
theorem S_step_sym {a b t : Int} (ha : 0 ≤ a ∧ a < 49) (ht : 0 ≤ t ∧ t < 4) (h : S_step a t = b) (hb : b ≠ -1) : ∃ s, 0 ≤ s ∧ s < 4 ∧ S_step b s = a := by
  have hb2 := S_step_b a t
  obtain ⟨a0, a1, a2, a3⟩ := S_step_4 ha
  obtain ⟨b0, b1, b2, b3⟩ := S_step_4 (p := b) (by omega)
  rcases z4 ht with rfl | rfl | rfl | rfl
  · refine ⟨2, by omega, by omega, ?_⟩; rw [a0] at h; rw [b2]; split at h <;> split <;> omega
  · refine ⟨3, by omega, by omega, ?_⟩; rw [a1] at h; rw [b3]; split at h <;> split <;> omega
  · refine ⟨0, by omega, by omega, ?_⟩; rw [a2] at h; rw [b0]; split at h <;> split <;> omega
  · refine ⟨1, by omega, by omega, ?_⟩; rw [a3] at h; rw [b1]; split at h <;> split <;> omega
theorem S_step_inj {a s t : Int} (ha : 0 ≤ a ∧ a < 49) (hs : 0 ≤ s ∧ s < 4) (ht : 0 ≤ t ∧ t < 4) (h : S_step a s = S_step a t) (hn : S_step a s ≠ -1) : s = t := by
  obtain ⟨a0, a1, a2, a3⟩ := S_step_4 ha
  rcases z4 hs with rfl | rfl | rfl | rfl <;> rcases z4 ht with rfl | rfl | rfl | rfl <;> first | rfl | (exfalso; rw [h] at hn; simp only [a0, a1, a2, a3] at h hn; split at h <;> split at h <;> omega)
def lowStep (h : IA) (p cur s : Int) : Int := if S_step p s = -1 then cur else if h (S_step p s) < h cur then S_step p s else cur
def S_lowK (h : IA) (p : Int) : Nat → Int | 0 => p | n + 1 => lowStep h p (S_lowK h p n) n
def S_lowI (h : IA) (p s : Int) : Int := S_lowK h p s.toNat
theorem S_lowI_0 (h : IA) (p : Int) : S_lowI h p 0 = p := rfl
theorem S_lowI_up {h : IA} {p s : Int} (hs : 0 ≤ s) : S_lowI h p (s + 1) = lowStep h p (S_lowI h p s) s := by
  unfold S_lowI
  rw [show (s + 1).toNat = s.toNat + 1 by omega]
  show lowStep h p (S_lowK h p s.toNat) ((s.toNat : Nat) : Int) = _
  rw [Int.toNat_of_nonneg hs]
def S_low (h : IA) (p : Int) : Int := S_lowI h p 4
def S_next (h : IA) (p : Int) : Int := if S_low h p = p then -1 else S_low h p
def S_drop (h : IA) (p : Int) : Int := h p - h (S_low h p)
theorem S_lowI_ok {h : IA} {p : Int} (hp : 0 ≤ p ∧ p < 49) : ∀ s, 0 ≤ s → s ≤ 4 → (0 ≤ S_lowI h p s ∧ S_lowI h p s < 49) ∧ (S_lowI h p s = p ∨ (h (S_lowI h p s) < h p ∧ ∃ t, 0 ≤ t ∧ t < s ∧ S_step p t = S_lowI h p s)) := by
  refine z_ind (fun _ => ⟨hp, Or.inl rfl⟩) (fun s hs ih h4 => ?_)
  obtain ⟨h1, h2⟩ := ih (by omega)
  have hb := S_step_b p s
  rw [S_lowI_up hs]; unfold lowStep
  split
  · exact ⟨h1, h2.imp id fun ⟨q, t, t1, t2, t3⟩ => ⟨q, t, t1, by omega, t3⟩⟩
  · split
    · refine ⟨by omega, Or.inr ⟨?_, s, hs, by omega, rfl⟩⟩
      rcases h2 with e | ⟨e, -⟩
      · rename_i q1 q2; rw [e] at q2; exact q2
      · omega
    · exact ⟨h1, h2.imp id fun ⟨q, t, t1, t2, t3⟩ => ⟨q, t, t1, by omega, t3⟩⟩
theorem S_next_b {h : IA} {p : Int} (hp : 0 ≤ p ∧ p < 49) : -1 ≤ S_next h p ∧ S_next h p < 49 := by
  have := (S_lowI_ok (h := h) hp 4 (by omega) (by omega)).1
  unfold S_next S_low; split <;> omega
theorem S_next_ok {h : IA} {p : Int} (hp : 0 ≤ p ∧ p < 49) (hn : S_next h p ≠ -1) : (0 ≤ S_next h p ∧ S_next h p < 49) ∧ h (S_next h p) < h p ∧ ∃ t, 0 ≤ t ∧ t < 4 ∧ S_step p t = S_next h p := by
  obtain ⟨h1, h2⟩ := S_lowI_ok (h := h) hp 4 (by omega) (by omega)
  unfold S_next at *
  by_cases e : S_low h p = p
  · rw [if_pos e] at hn; exact absurd rfl hn
  · rw [if_neg e]; unfold S_low at *
    rcases h2 with q | q
    · exact absurd q e
    · exact ⟨h1, q⟩
theorem S_drop_b {h : IA} {p : Int} (hh : ∀ k, 0 ≤ k → k < 49 → 0 ≤ h k ∧ h k ≤ 99) (hp : 0 ≤ p ∧ p < 49) : 0 ≤ S_drop h p ∧ S_drop h p ≤ 99 := by
  obtain ⟨h1, h2⟩ := S_lowI_ok (h := h) hp 4 (by omega) (by omega)
  have a := hh p hp.1 hp.2; have b := hh _ h1.1 h1.2
  unfold S_drop S_low
  rcases h2 with q | q
  · rw [q]; omega
  · omega
/-! following -/
def S_sinkN (h : IA) : Nat → Int → Int | 0, p => p | n + 1, p => if S_next h p = -1 then p else S_sinkN h n (S_next h p)
def S_sink (h : IA) (p : Int) : Int := S_sinkN h 49 p
def S_stepsN (h : IA) : Nat → Int → Int | 0, _ => 0 | n + 1, p => if S_next h p = -1 then 0 else 1 + S_stepsN h n (S_next h p)
def S_steps (h : IA) (p : Int) : Int := S_stepsN h 49 p
theorem S_sinkN_s {h : IA} {n : Nat} {p : Int} (e : S_next h p = -1) : S_sinkN h n p = p := by cases n; rfl; show (if _ then _ else _) = _; rw [if_pos e]
theorem S_sinkN_t {h : IA} {n : Nat} {p : Int} (e : ¬ S_next h p = -1) : S_sinkN h (n + 1) p = S_sinkN h n (S_next h p) := by show (if _ then _ else _) = _; rw [if_neg e]
theorem S_stepsN_s {h : IA} {n : Nat} {p : Int} (e : S_next h p = -1) : S_stepsN h n p = 0 := by cases n; rfl; show (if _ then _ else _) = _; rw [if_pos e]
theorem S_stepsN_t {h : IA} {n : Nat} {p : Int} (e : ¬ S_next h p = -1) : S_stepsN h (n + 1) p = 1 + S_stepsN h n (S_next h p) := by show (if _ then _ else _) = _; rw [if_neg e]
theorem S_stepsN_b {h : IA} : ∀ (n : Nat) (p : Int), 0 ≤ S_stepsN h n p ∧ S_stepsN h n p ≤ n := by
  intro n; induction n with
  | zero => intro p; exact ⟨Int.le_refl _, Int.le_refl _⟩
  | succ n ih =>
    intro p; have := ih (S_next h p)
    by_cases e : S_next h p = -1
    · rw [S_stepsN_s e]; omega
    · rw [S_stepsN_t e]; omega
/-! going up -/
def S_dr (h : IA) (x y : Int) : Prop := (0 ≤ x ∧ x < 49) ∧ S_next h x = y ∧ y ≠ -1
noncomputable def S_flow (h : IA) (p : Int) : Int := zC (fun k => cb (Cn (S_dr h) k p)) 49
theorem S_dr_lt {h : IA} {k p : Int} (hc : Cn (S_dr h) k p) : h p ≤ h k := hc (fun z => h z ≤ h k) (Int.le_refl _) (fun x y hx hr => by
  obtain ⟨h1, h2, h3⟩ := hr
  have := (S_next_ok h1 (by rw [h2]; exact h3)).2.1
  rw [h2] at this; omega)
def BQi (h : IA) (p : Int) (q : IA) (e hd s : Int) : Prop := ∃ V : BA, (1 ≤ e ∧ e ≤ 49 ∧ 0 ≤ hd ∧ hd ≤ e) ∧ (∀ j, 0 ≤ j → j < e → (0 ≤ q j ∧ q j < 49) ∧ V (q j) = true) ∧ (∀ k, 0 ≤ k → k < 49 → V k = true → ∃ j, 0 ≤ j ∧ j < e ∧ q j = k) ∧
  (∀ i j, 0 ≤ i → i < e → 0 ≤ j → j < e → q i = q j → i = j) ∧ (∀ k, V k = true → (0 ≤ k ∧ k < 49) ∧ Cn (S_dr h) k p) ∧ V p = true ∧ (∀ j k, 0 ≤ j → j < hd → 0 ≤ k → k < 49 → S_next h k = q j → V k = true) ∧
  (∀ t, 0 ≤ t → t < s → S_step (q hd) t ≠ -1 → S_next h (S_step (q hd) t) = q hd → V (S_step (q hd) t) = true) ∧
  (∀ k, V k = true → k = p ∨ (∃ j, 0 ≤ j ∧ j < hd ∧ S_next h k = q j) ∨ (0 < s ∧ hd < e ∧ S_next h k = q hd ∧ ∃ t, 0 ≤ t ∧ t < s ∧ S_step (q hd) t = k)) ∧ e = zC V 49
theorem BQ_init {h : IA} {p : Int} {q0 : IA} (hp : 0 ≤ p ∧ p < 49) : BQi h p (zu q0 0 p) 1 0 0 := by
  refine ⟨bu (fun _ => false) p true, ⟨by omega, by omega, by omega, by omega⟩, ?_, ?_, ?_, ?_, bu_s, ?_, ?_, ?_, ?_⟩
  · intro j h1 h2; obtain rfl : j = 0 := by omega
    rw [zu_s]; exact ⟨hp, bu_s⟩
  · intro k h1 h2 hv
    by_cases e : k = p
    · exact ⟨0, by omega, by omega, by rw [zu_s, e]⟩
    · rw [bu_n e] at hv; cases hv
  · intro i j h1 h2 h3 h4 _; omega
  · intro k hv
    by_cases e : k = p
    · rw [e]; exact ⟨hp, Cn.rf⟩
    · rw [bu_n e] at hv; cases hv
  · intro j k h1 h2; omega
  · intro t h1 h2; omega
  · intro k hv
    by_cases e : k = p
    · exact Or.inl e
    · rw [bu_n e] at hv; cases hv
  · rw [zC_set hp.1 rfl 49 (by omega), zC_zero 49 (by omega) (fun _ _ _ => rfl), if_pos hp.2]; rfl
theorem BQ_rng {h : IA} {p : Int} {q : IA} {e hd s : Int} (H : BQi h p q e hd s) : (1 ≤ e ∧ e ≤ 49 ∧ 0 ≤ hd ∧ hd ≤ e) ∧ ∀ j, 0 ≤ j → j < e → 0 ≤ q j ∧ q j < 49 := by
  obtain ⟨V, h1, h2, -⟩ := H
  exact ⟨h1, fun j a b => (h2 j a b).1⟩
theorem BQ_skip {h : IA} {p : Int} {q : IA} {e hd s : Int} (H : BQi h p q e hd s) (hn : S_step (q hd) s = -1 ∨ ¬ S_next h (S_step (q hd) s) = q hd) : BQi h p q e hd (s + 1) := by
  obtain ⟨V, h1, h2, h3, h4, h5, h6, h7, h8, h9, h10⟩ := H
  refine ⟨V, h1, h2, h3, h4, h5, h6, h7, ?_, ?_, h10⟩
  · intro t t1 t2 t3 t4
    by_cases es : t = s
    · subst es; rcases hn with q | q
      · exact absurd q t3
      · exact absurd t4 q
    · exact h8 t t1 (by omega) t3 t4
  · intro k hk
    rcases h9 k hk with a | a | ⟨a1, a2, a3, t, t1, t2, t3⟩
    · exact Or.inl a
    · exact Or.inr (Or.inl a)
    · exact Or.inr (Or.inr ⟨by omega, a2, a3, t, t1, by omega, t3⟩)
theorem BQ_new {h : IA} {p : Int} {q : IA} {e hd s : Int} (H : BQi h p q e hd s) (hs : 0 ≤ s ∧ s < 4) (hh : hd < e) (hn : S_step (q hd) s ≠ -1) (hx : S_next h (S_step (q hd) s) = q hd) : e < 49 ∧ BQi h p (zu q e (S_step (q hd) s)) (e + 1) hd (s + 1) := by
  obtain ⟨V, h1, h2, h3, h4, h5, h6, h7, h8, h9, h10⟩ := H
  obtain ⟨q1, q2⟩ := h2 hd h1.2.2.1 hh
  have hb := S_step_b (q hd) s
  generalize en : S_step (q hd) s = n at hn hx hb
  have hnr : 0 ≤ n ∧ n < 49 := by omega
  have hV : V n = false := by
    cases hv : V n
    · rfl
    · exfalso
      rcases h9 n hv with a | ⟨j, j1, j2, j3⟩ | ⟨-, -, -, t, t1, t2, t3⟩
      · have hl := (S_next_ok hnr (by rw [hx]; omega)).2.1
        have hc := S_dr_lt (h5 _ q2).2
        rw [hx] at hl; rw [← a] at hc; omega
      · have := h4 j hd j1 (by omega) h1.2.2.1 hh (by rw [← j3, hx]); omega
      · have := S_step_inj q1 ⟨t1, by omega⟩ hs (t3.trans en.symm) (by rw [t3]; exact hn); omega
  have he : e < 49 := by
    rcases Int.lt_or_le e 49 with a | a
    · exact a
    · have : V n = true := zC_full 49 (by omega) (by omega) n hnr.1 hnr.2
      rw [this] at hV; cases hV
  refine ⟨he, bu V n true, ⟨by omega, by omega, h1.2.2.1, by omega⟩, ?_, ?_, ?_, ?_, ?_, ?_, ?_, ?_, ?_⟩
  · intro j a b
    by_cases ej : j = e
    · rw [ej, zu_s]; exact ⟨hnr, bu_s⟩
    · rw [zu_n ej]
      obtain ⟨c1, c2⟩ := h2 j a (by omega)
      refine ⟨c1, ?_⟩
      by_cases en : q j = n
      · rw [en]; exact bu_s
      · rw [bu_n en]; exact c2
  · intro k a b hk
    by_cases ek : k = n
    · exact ⟨e, by omega, by omega, by rw [zu_s, ek]⟩
    · rw [bu_n ek] at hk
      obtain ⟨j, j1, j2, j3⟩ := h3 k a b hk
      exact ⟨j, j1, by omega, by rw [zu_n (by omega)]; exact j3⟩
  · have nq : ∀ j, 0 ≤ j → j < e → q j ≠ n := fun j a b c => by have := (h2 j a b).2; rw [c, hV] at this; cases this
    intro i j a b c d eq
    by_cases ei : i = e
    · by_cases ej : j = e
      · omega
      · rw [ei, zu_s, zu_n ej] at eq; exact absurd eq.symm (nq j c (by omega))
    · by_cases ej : j = e
      · rw [ej, zu_s, zu_n ei] at eq; exact absurd eq (nq i a (by omega))
      · rw [zu_n ei, zu_n ej] at eq; exact h4 i j a (by omega) c (by omega) eq
  · intro k hk
    by_cases ek : k = n
    · rw [ek]
      have hd1 : S_dr h n (q hd) := ⟨hnr, hx, by omega⟩
      exact ⟨hnr, (Cn.one hd1).tr (h5 _ q2).2⟩
    · rw [bu_n ek] at hk; exact h5 k hk
  · by_cases ep : p = n
    · rw [ep]; exact bu_s
    · rw [bu_n ep]; exact h6
  · intro j k a b c d eq
    rw [zu_n (by omega)] at eq
    by_cases ek : k = n
    · rw [ek]; exact bu_s
    · rw [bu_n ek]; exact h7 j k a b c d eq
  · intro t t1 t2
    rw [zu_n (by omega : ¬ hd = e)]
    intro t3 t4
    by_cases ek : S_step (q hd) t = n
    · rw [ek]; exact bu_s
    · rw [bu_n ek]
      by_cases es : t = s
      · rw [es, en] at ek; exact absurd rfl ek
      · exact h8 t t1 (by omega) t3 t4
  · intro k hk
    rw [zu_n (by omega : ¬ hd = e)]
    by_cases ek : k = n
    · rw [ek]; exact Or.inr (Or.inr ⟨by omega, by omega, hx, s, hs.1, by omega, en⟩)
    · rw [bu_n ek] at hk
      rcases h9 k hk with a | ⟨j, j1, j2, j3⟩ | ⟨a1, a2, a3, t, t1, t2, t3⟩
      · exact Or.inl a
      · exact Or.inr (Or.inl ⟨j, j1, j2, by rw [zu_n (by omega)]; exact j3⟩)
      · exact Or.inr (Or.inr ⟨by omega, by omega, a3, t, t1, by omega, t3⟩)
  · rw [zC_set hnr.1 hV 49 (by omega), if_pos hnr.2, h10]
theorem BQ_out {h : IA} {p : Int} {q : IA} {e hd : Int} (H : BQi h p q e hd 4) (hh : hd < e) : BQi h p q e (hd + 1) 0 := by
  obtain ⟨V, h1, h2, h3, h4, h5, h6, h7, h8, h9, h10⟩ := H
  refine ⟨V, ⟨h1.1, h1.2.1, by omega, by omega⟩, h2, h3, h4, h5, h6, ?_, ?_, ?_, h10⟩
  · intro j k a b c d eq
    by_cases ej : j = hd
    · rw [ej] at eq
      have hq := (h2 hd h1.2.2.1 hh).1
      obtain ⟨-, -, t, t1, t2, t3⟩ := S_next_ok (h := h) ⟨c, d⟩ (by rw [eq]; omega)
      obtain ⟨s, s1, s2, s3⟩ := S_step_sym ⟨c, d⟩ ⟨t1, t2⟩ t3 (by rw [eq]; omega)
      rw [eq] at s3
      have := h8 s s1 s2 (by rw [s3]; omega) (by rw [s3]; exact eq)
      rw [s3] at this; exact this
    · exact h7 j k a (by omega) c d eq
  · intro t t1 t2; omega
  · intro k hk
    rcases h9 k hk with a | ⟨j, j1, j2, j3⟩ | ⟨a1, a2, a3, t, t1, t2, t3⟩
    · exact Or.inl a
    · exact Or.inr (Or.inl ⟨j, j1, by omega, j3⟩)
    · exact Or.inr (Or.inl ⟨hd, h1.2.2.1, by omega, a3⟩)
theorem BQ_end {h : IA} {p : Int} {q : IA} {e hd : Int} (H : BQi h p q e hd 0) (hh : e ≤ hd) : e = S_flow h p := by
  obtain ⟨V, h1, h2, h3, h4, h5, h6, h7, h8, h9, h10⟩ := H
  rw [h10]
  refine zC_congr (by omega) (fun k a b => ?_)
  have key : Cn (S_dr h) k p → V k = true := fun hc => by
    have hS := hc (fun z => V z = true → V k = true) (fun z => z) (fun x y hx hr hy => by
      obtain ⟨r1, r2, r3⟩ := hr
      obtain ⟨j, j1, j2, j3⟩ := h3 y (h5 y hy).1.1 (h5 y hy).1.2 hy
      exact hx (h7 j x j1 (by omega) r1.1 r1.2 (by rw [r2, j3])))
    exact hS h6
  cases hv : V k
  · exact (cb_f.mpr (fun q => by rw [key q] at hv; cases hv)).symm
  · exact (cb_iff.mpr (h5 k hv).2).symm
