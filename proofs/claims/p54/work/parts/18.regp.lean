/-! REGIONS: points that hang together, plainly -/
theorem S_step_8 {p : Int} (hp : 0 ≤ p ∧ p < 49) : S_step p 4 = (if p < 7 ∨ p % 7 = 6 then -1 else p - 6) ∧ S_step p 5 = (if 42 ≤ p ∨ p % 7 = 6 then -1 else p + 8) ∧ S_step p 6 = (if 42 ≤ p ∨ p % 7 = 0 then -1 else p + 6) ∧ S_step p 7 = (if p < 7 ∨ p % 7 = 0 then -1 else p - 8) := by
  refine ⟨?_, ?_, ?_, ?_⟩ <;> rw [S_step_in hp (by omega)] <;> unfold S_pointAt ROWS COLS <;> simp only [reduceIte, Int.reduceEq] <;> split <;> split <;> omega
theorem z8 {s : Int} (h : 0 ≤ s ∧ s < 8) : (0 ≤ s ∧ s < 4) ∨ s = 4 ∨ s = 5 ∨ s = 6 ∨ s = 7 := by omega
theorem S_step_sym8 {a b t : Int} (ha : 0 ≤ a ∧ a < 49) (ht : 4 ≤ t ∧ t < 8) (h : S_step a t = b) (hb : b ≠ -1) : ∃ s, 4 ≤ s ∧ s < 8 ∧ S_step b s = a := by
  have hb2 := S_step_b a t
  obtain ⟨a0, a1, a2, a3⟩ := S_step_8 ha
  obtain ⟨b0, b1, b2, b3⟩ := S_step_8 (p := b) (by omega)
  rcases (show t = 4 ∨ t = 5 ∨ t = 6 ∨ t = 7 by omega) with rfl | rfl | rfl | rfl
  · refine ⟨6, by omega, by omega, ?_⟩; rw [a0] at h; rw [b2]; split at h <;> split <;> omega
  · refine ⟨7, by omega, by omega, ?_⟩; rw [a1] at h; rw [b3]; split at h <;> split <;> omega
  · refine ⟨4, by omega, by omega, ?_⟩; rw [a2] at h; rw [b0]; split at h <;> split <;> omega
  · refine ⟨5, by omega, by omega, ?_⟩; rw [a3] at h; rw [b1]; split at h <;> split <;> omega
def S_adj (n x y : Int) : Prop := (0 ≤ x ∧ x < 49) ∧ (0 ≤ y ∧ y < 49) ∧ ∃ s, 0 ≤ s ∧ s < n ∧ S_step x s = y
theorem S_adj_sy {n x y : Int} (hn : n = 4 ∨ n = 8) (h : S_adj n x y) : S_adj n y x := by
  obtain ⟨h1, h2, s, s1, s2, s3⟩ := h
  refine ⟨h2, h1, ?_⟩
  by_cases e : s < 4
  · obtain ⟨t, t1, t2, t3⟩ := S_step_sym h1 ⟨s1, e⟩ s3 (by omega)
    exact ⟨t, t1, by omega, t3⟩
  · obtain ⟨t, t1, t2, t3⟩ := S_step_sym8 h1 ⟨by omega, by omega⟩ s3 (by omega)
    exact ⟨t, by omega, by omega, t3⟩
def S_rr (n : Int) (m : BA) (x y : Int) : Prop := S_adj n x y ∧ m x = true ∧ m y = true
theorem S_rr_sy {n : Int} {m : BA} (hn : n = 4 ∨ n = 8) : ∀ x y, S_rr n m x y → S_rr n m y x := fun _ _ h => ⟨S_adj_sy hn h.1, h.2.2, h.2.1⟩
theorem S_rr_m {n : Int} {m : BA} {x y : Int} (hx : m x = true) (h : Cn (S_rr n m) x y) : m y = true := h (fun z => m z = true) hx (fun _ _ _ hr => hr.2.2)
theorem S_rr_b {n : Int} {m : BA} {x y : Int} (hx : 0 ≤ x ∧ x < 49) (h : Cn (S_rr n m) x y) : 0 ≤ y ∧ y < 49 := h (fun z => 0 ≤ z ∧ z < 49) hx (fun _ _ _ hr => hr.1.2.1)
noncomputable def S_rem (n : Int) (w : BA) (p : Int) : BA := fun k => w k && !cb (Cn (S_rr n w) p k)
def RQ (n : Int) (w0 : BA) (p : Int) (w : BA) (q : IA) (e hd s : Int) : Prop := (1 ≤ e ∧ e ≤ 49 ∧ 0 ≤ hd ∧ hd ≤ e) ∧ (∀ k, w k = true → w0 k = true) ∧ (∀ j, 0 ≤ j → j < e → (0 ≤ q j ∧ q j < 49) ∧ w0 (q j) = true ∧ w (q j) = false) ∧
  (∀ k, w0 k = true → w k = false → ∃ j, 0 ≤ j ∧ j < e ∧ q j = k) ∧ (∀ k, w0 k = true → w k = false → Cn (S_rr n w0) p k) ∧ (w0 p = true ∧ w p = false) ∧
  (∀ j y, 0 ≤ j → j < hd → S_rr n w0 (q j) y → w y = false) ∧ (∀ t, 0 ≤ t → t < s → 0 ≤ S_step (q hd) t → w (S_step (q hd) t) = false) ∧ e = zC (fun k => w0 k && !w k) 49
theorem RQ_init {n : Int} {w0 : BA} {p : Int} {q0 : IA} (hp : 0 ≤ p ∧ p < 49) (hw : w0 p = true) : RQ n w0 p (bu w0 p false) (zu q0 0 p) 1 0 0 := by
  have hx : ∀ k, w0 k = true → bu w0 p false k = false → k = p := fun k h1 h2 => by
    by_cases e : k = p
    · exact e
    · rw [bu_n e, h1] at h2; cases h2
  refine ⟨by omega, ?_, ?_, ?_, ?_, ⟨hw, bu_s⟩, ?_, ?_, ?_⟩
  · intro k h; by_cases e : k = p
    · rw [e]; exact hw
    · rw [bu_n e] at h; exact h
  · intro j h1 h2; obtain rfl : j = 0 := by omega
    rw [zu_s]; exact ⟨hp, hw, bu_s⟩
  · intro k h1 h2; exact ⟨0, by omega, by omega, by rw [zu_s, hx k h1 h2]⟩
  · intro k h1 h2; rw [hx k h1 h2]; exact Cn.rf
  · intro j y h1 h2; omega
  · intro t h1 h2; omega
  · have e : zC (fun k => w0 k && !bu w0 p false k) 49 = zC (bu (fun _ => false) p true) 49 := zC_congr (by omega) (fun k _ _ => by
      by_cases e : k = p
      · rw [e, bu_s, bu_s, hw]; rfl
      · rw [bu_n e, bu_n e]; cases w0 k <;> rfl)
    rw [e, zC_set hp.1 rfl 49 (by omega), zC_zero 49 (by omega) (fun _ _ _ => rfl), if_pos hp.2]; rfl
theorem RQ_skip {n : Int} {w0 : BA} {p : Int} {w : BA} {q : IA} {e hd s : Int} (H : RQ n w0 p w q e hd s) (hn : 0 ≤ S_step (q hd) s → w (S_step (q hd) s) = false) : RQ n w0 p w q e hd (s + 1) := by
  obtain ⟨h1, h2, h3, h4, h5, h6, h7, h8, h9⟩ := H
  refine ⟨h1, h2, h3, h4, h5, h6, h7, ?_, h9⟩
  intro t t1 t2 t3
  by_cases es : t = s
  · rw [es] at t3 ⊢; exact hn t3
  · exact h8 t t1 (by omega) t3
theorem RQ_new {n : Int} {w0 : BA} {p : Int} {w : BA} {q : IA} {e hd s : Int} (H : RQ n w0 p w q e hd s) (hs : 0 ≤ s ∧ s < n) (hh : hd < e) (hr : 0 ≤ S_step (q hd) s ∧ S_step (q hd) s < 49) (hw : w (S_step (q hd) s) = true) : e < 49 ∧ RQ n w0 p (bu w (S_step (q hd) s) false) (zu q e (S_step (q hd) s)) (e + 1) hd (s + 1) := by
  obtain ⟨h1, h2, h3, h4, h5, h6, h7, h8, h9⟩ := H
  obtain ⟨q1, q2, q3⟩ := h3 hd h1.2.2.1 hh
  generalize ek : S_step (q hd) s = y at hr hw
  have hy0 := h2 y hw
  have hV : (w0 y && !w y) = false := by rw [hw, hy0]; rfl
  have he : e < 49 := by
    rcases Int.lt_or_le e 49 with a | a
    · exact a
    · have := zC_full (P := fun k => w0 k && !w k) 49 (by omega) (by omega) y hr.1 hr.2
      rw [hV] at this; cases this
  have hadj : S_rr n w0 (q hd) y := ⟨⟨q1, hr, s, hs.1, hs.2, ek⟩, q2, hy0⟩
  have hf : ∀ k, w k = false → bu w y false k = false := fun k h => by
    by_cases e1 : k = y
    · rw [e1]; exact bu_s
    · rw [bu_n e1]; exact h
  refine ⟨he, by omega, ?_, ?_, ?_, ?_, ⟨h6.1, hf _ h6.2⟩, ?_, ?_, ?_⟩
  · intro k hk
    by_cases e1 : k = y
    · rw [e1, bu_s] at hk; cases hk
    · rw [bu_n e1] at hk; exact h2 k hk
  · intro j a b
    by_cases ej : j = e
    · rw [ej, zu_s]; exact ⟨hr, hy0, bu_s⟩
    · rw [zu_n ej]
      obtain ⟨c1, c2, c3⟩ := h3 j a (by omega)
      exact ⟨c1, c2, hf _ c3⟩
  · intro k a b
    by_cases e1 : k = y
    · exact ⟨e, by omega, by omega, by rw [zu_s, e1]⟩
    · rw [bu_n e1] at b
      obtain ⟨j, j1, j2, j3⟩ := h4 k a b
      exact ⟨j, j1, by omega, by rw [zu_n (by omega)]; exact j3⟩
  · intro k a b
    by_cases e1 : k = y
    · rw [e1]; exact (h5 _ q2 q3).st hadj
    · rw [bu_n e1] at b; exact h5 k a b
  · intro j z a b c
    rw [zu_n (by omega)] at c
    exact hf _ (h7 j z a b c)
  · intro t t1 t2
    rw [zu_n (by omega : ¬ hd = e)]
    intro t3
    by_cases es : t = s
    · rw [es, ek]; exact bu_s
    · exact hf _ (h8 t t1 (by omega) t3)
  · have e1 : zC (fun k => w0 k && !bu w y false k) 49 = zC (bu (fun k => w0 k && !w k) y true) 49 := zC_congr (by omega) (fun k _ _ => by
      by_cases e1 : k = y
      · rw [e1, bu_s, bu_s, hy0]; rfl
      · rw [bu_n e1, bu_n e1])
    rw [e1, zC_set hr.1 hV 49 (by omega), if_pos hr.2, h9]
theorem RQ_out {n : Int} {w0 : BA} {p : Int} {w : BA} {q : IA} {e hd : Int} (H : RQ n w0 p w q e hd n) (hh : hd < e) : RQ n w0 p w q e (hd + 1) 0 := by
  obtain ⟨h1, h2, h3, h4, h5, h6, h7, h8, h9⟩ := H
  refine ⟨by omega, h2, h3, h4, h5, h6, ?_, ?_, h9⟩
  · intro j y a b c
    by_cases ej : j = hd
    · rw [ej] at c
      obtain ⟨⟨-, c2, s, s1, s2, s3⟩, -, -⟩ := c
      have := h8 s s1 s2 (by omega); rw [s3] at this; exact this
    · exact h7 j y a (by omega) c
  · intro t t1 t2; omega
theorem RQ_rng {n : Int} {w0 : BA} {p : Int} {w : BA} {q : IA} {e hd s : Int} (H : RQ n w0 p w q e hd s) : ∀ j, 0 ≤ j → j < e → 0 ≤ q j ∧ q j < 49 := fun j a b => (H.2.2.1 j a b).1
theorem RQ_end {n : Int} {w0 : BA} {p : Int} {w : BA} {q : IA} {e hd : Int} (H : RQ n w0 p w q e hd 0) (hh : e ≤ hd) : w = S_rem n w0 p := by
  obtain ⟨h1, h2, h3, h4, h5, h6, h7, h8, h9⟩ := H
  have key : ∀ k, Cn (S_rr n w0) p k → w0 k = true ∧ w k = false := fun k hc => hc (fun z => w0 z = true ∧ w z = false) h6 (fun x y hx hr => by
    obtain ⟨j, j1, j2, j3⟩ := h4 x hx.1 hx.2
    exact ⟨hr.2.2, h7 j y j1 (by omega) (by rw [j3]; exact hr)⟩)
  funext k; unfold S_rem
  cases hk : w k
  · cases h0 : w0 k
    · rfl
    · rw [cb_iff.mpr (h5 k h0 hk)]; rfl
  · rw [h2 k hk, cb_f.mpr (fun q => by have := (key k q).2; rw [hk] at this; cases this)]; rfl
/-! counting them -/
noncomputable def S_comps (n : Int) (w : BA) : Int := zC (fun k => cb (w k = true ∧ ∀ j, 0 ≤ j → j < k → w j = true → ¬ Cn (S_rr n w) j k)) 49
noncomputable def S_left8 (n : Int) (w : BA) (i : Int) : BA := fun k => w k && !cb (∃ j, 0 ≤ j ∧ j < i ∧ w j = true ∧ Cn (S_rr n w) j k)
theorem S_left8_0 (n : Int) (w : BA) : w = S_left8 n w 0 := by
  funext k; unfold S_left8; rw [cb_f.mpr (fun ⟨j, a, b, _⟩ => by omega)]; cases w k <;> rfl
theorem S_left8_t {n : Int} {w : BA} {i k : Int} (h : S_left8 n w i k = true) : w k = true ∧ ∀ j, 0 ≤ j → j < i → w j = true → ¬ Cn (S_rr n w) j k := by
  unfold S_left8 at h
  cases hk : w k
  · rw [hk] at h; cases h
  · rw [hk] at h
    refine ⟨rfl, fun j a b c d => ?_⟩
    rw [cb_iff.mpr ⟨j, a, b, c, d⟩] at h; cases h
theorem S_left8_f {n : Int} {w : BA} {i k : Int} (h : S_left8 n w i k = false) (hk : w k = true) : ∃ j, 0 ≤ j ∧ j < i ∧ w j = true ∧ Cn (S_rr n w) j k := by
  unfold S_left8 at h; rw [hk] at h
  cases hc : cb (∃ j, 0 ≤ j ∧ j < i ∧ w j = true ∧ Cn (S_rr n w) j k)
  · rw [hc] at h; cases h
  · exact cb_iff.mp hc
theorem S_left8_skip {n : Int} {w : BA} {i : Int} (h : S_left8 n w i i = false) : S_left8 n w i = S_left8 n w (i + 1) := by
  funext k
  cases hk : w k
  · unfold S_left8; rw [hk]; rfl
  · unfold S_left8; rw [hk]; congr 1; congr 1
    refine cb_congr ⟨fun ⟨j, a, b, c, d⟩ => ⟨j, a, by omega, c, d⟩, fun ⟨j, a, b, c, d⟩ => ?_⟩
    by_cases e : j = i
    · obtain ⟨j2, a2, b2, c2, d2⟩ := S_left8_f h (e ▸ c)
      exact ⟨j2, a2, b2, c2, d2.tr (e ▸ d)⟩
    · exact ⟨j, a, by omega, c, d⟩
theorem S_left8_up {n : Int} (hn : n = 4 ∨ n = 8) {w : BA} {i : Int} (hi : 0 ≤ i) (h : S_left8 n w i i = true) : S_rem n (S_left8 n w i) i = S_left8 n w (i + 1) := by
  obtain ⟨hwi, hno⟩ := S_left8_t h
  have hmono : ∀ x y, S_rr n (S_left8 n w i) x y → S_rr n w x y := fun x y hr => ⟨hr.1, (S_left8_t hr.2.1).1, (S_left8_t hr.2.2).1⟩
  have hin : ∀ k, Cn (S_rr n w) i k → S_left8 n w i k = true := fun k hc => by
    cases hx : S_left8 n w i k
    · obtain ⟨j, a, b, c, d⟩ := S_left8_f hx (S_rr_m hwi hc)
      exact absurd (d.tr (hc.sy (S_rr_sy hn))) (hno j a b c)
    · rfl
  have hsame : ∀ k, Cn (S_rr n (S_left8 n w i)) i k ↔ Cn (S_rr n w) i k := fun k => ⟨fun hc => hc.mono hmono, fun hc =>
    (hc (fun z => Cn (S_rr n w) i z ∧ Cn (S_rr n (S_left8 n w i)) i z) ⟨Cn.rf, Cn.rf⟩ (fun x y hx hr => ⟨hx.1.st hr, hx.2.st ⟨hr.1, hin x hx.1, hin y (hx.1.st hr)⟩⟩)).2⟩
  funext k
  unfold S_rem
  rw [cb_congr (hsame k)]
  unfold S_left8
  cases hk : w k
  · rfl
  · have hc : cb (∃ j, 0 ≤ j ∧ j < i + 1 ∧ w j = true ∧ Cn (S_rr n w) j k) = (cb (∃ j, 0 ≤ j ∧ j < i ∧ w j = true ∧ Cn (S_rr n w) j k) || cb (Cn (S_rr n w) i k)) := by
      cases h1 : cb (Cn (S_rr n w) i k)
      · have h1' := cb_f.mp h1
        rw [Bool.or_false]
        refine cb_congr ⟨fun ⟨j, a, b, c, d⟩ => ⟨j, a, ?_, c, d⟩, fun ⟨j, a, b, c, d⟩ => ⟨j, a, by omega, c, d⟩⟩
        by_cases e : j = i
        · exact absurd (e ▸ d) h1'
        · omega
      · rw [Bool.or_true]; exact cb_iff.mpr ⟨i, hi, by omega, hwi, cb_iff.mp h1⟩
    rw [hc]
    cases cb (∃ j, 0 ≤ j ∧ j < i ∧ w j = true ∧ Cn (S_rr n w) j k) <;> cases cb (Cn (S_rr n w) i k) <;> rfl
theorem S_left8_c {n : Int} {w : BA} {i : Int} : S_left8 n w i i = cb (w i = true ∧ ∀ j, 0 ≤ j → j < i → w j = true → ¬ Cn (S_rr n w) j i) := by
  cases h : S_left8 n w i i
  · refine (cb_f.mpr fun ⟨a, b⟩ => ?_).symm
    obtain ⟨j, j1, j2, j3, j4⟩ := S_left8_f h a
    exact b j j1 j2 j3 j4
  · exact (cb_iff.mpr (S_left8_t h)).symm
theorem S_comps_b (n : Int) (w : BA) : 0 ≤ S_comps n w ∧ S_comps n w ≤ 49 := zC_b _ (by omega)
