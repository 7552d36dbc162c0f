/-! LINES, plainly: edges, squares, pieces -/
theorem zC_ins {P Q : BA} {a n : Int} (ha : 0 ≤ a ∧ a < n) (hp : P a = false) (h : ∀ k, 0 ≤ k → k < n → Q k = (P k || decide (k = a))) : zC Q n = zC P n + 1 := by
  have h1 := zC_set ha.1 hp n (by omega); rw [if_pos ha.2] at h1
  rw [← h1]; refine zC_congr (by omega) (fun k h1 h2 => ?_)
  rw [h k h1 h2]
  by_cases e : k = a
  · rw [e, bu_s, decide_eq_true rfl, Bool.or_true]
  · rw [bu_n e, decide_eq_false e, Bool.or_false]
/-- counting by a relation -/
theorem zC_rel {R : Int → Int → Prop} : ∀ n, 0 ≤ n → ∀ (P Q : BA) (m : Int), 0 ≤ m → (∀ a, 0 ≤ a → a < n → P a = true → ∃ b, 0 ≤ b ∧ b < m ∧ Q b = true ∧ R a b) → (∀ a a' b, 0 ≤ a → a < n → 0 ≤ a' → a' < n → P a = true → P a' = true → 0 ≤ b → b < m → R a b → R a' b → a = a') → zC P n ≤ zC Q m := by
  refine z_ind (fun P Q m hm _ _ => by rw [zC_0]; exact (zC_b Q hm).1) (fun i hi ih P Q m hm h1 h2 => ?_)
  rw [zC_up hi]
  by_cases hp : P i = true
  · obtain ⟨b, b0, b1, bq, br⟩ := h1 i hi (by omega) hp
    have h3 := ih P (bu Q b false) m hm (fun a a0 a1 pa => by
      obtain ⟨c, c0, c1, cq, cr⟩ := h1 a a0 (by omega) pa
      refine ⟨c, c0, c1, ?_, cr⟩
      rw [bu_n (fun q => by subst q; have := h2 a i c a0 (by omega) hi (by omega) pa hp c0 c1 cr br; omega)]; exact cq) (fun a a' c a0 a1 a0' a1' pa pa' c0 c1 r1 r2 => h2 a a' c a0 (by omega) a0' (by omega) pa pa' c0 c1 r1 r2)
    have h4 : zC Q m = zC (bu Q b false) m + 1 := zC_ins ⟨b0, b1⟩ bu_s (fun k _ _ => by
      by_cases e : k = b
      · rw [e, bu_s, decide_eq_true rfl, bq]; rfl
      · rw [bu_n e, decide_eq_false e, Bool.or_false])
    rw [z1_t hp]; omega
  · rw [z1_f (by simpa using hp)]
    have := ih P Q m hm (fun a a0 a1 => h1 a a0 (by omega)) (fun a a' c a0 a1 a0' a1' => h2 a a' c a0 (by omega) a0' (by omega))
    omega
def E_u (e : Int) : Int := if e < 42 then e + e / 6 else e - 42
def E_v (e : Int) : Int := if e < 42 then e + e / 6 + 1 else e - 35
def S_X (m : BA) (e : Int) : Bool := m (E_u e) != m (E_v e)
def E_q1 (e : Int) : Int := if e < 42 then (if e < 6 then e else e - 6) else (if (e - 42) % 7 = 0 then (e - 42) - (e - 42) / 7 else (e - 42) - (e - 42) / 7 - 1)
def E_q2 (e : Int) : Int := if e < 42 then (if e < 6 ∨ 36 ≤ e then 36 else e) else (if (e - 42) % 7 = 0 ∨ (e - 42) % 7 = 6 then 36 else (e - 42) - (e - 42) / 7)
def S_sd (q s : Int) : Int := if s = 0 then q else if s = 1 then 43 + (q + q / 6) else if s = 2 then q + 6 else 42 + (q + q / 6)
def S_cn (q s : Int) : Int := q + q / 6 + (if s = 0 then 0 else if s = 1 then 1 else if s = 2 then 8 else 7)
def S_xk (m : BA) (q s : Int) : Bool := m (S_cn q s) != m (S_cn q ((s + 1) % 4))
theorem E_uv_b {e : Int} (h : 0 ≤ e ∧ e < 84) : (0 ≤ E_u e ∧ E_u e < 49) ∧ 0 ≤ E_v e ∧ E_v e < 49 := by unfold E_u E_v; split <;> omega
theorem E_q_b {e : Int} (h : 0 ≤ e ∧ e < 84) : 0 ≤ E_q1 e ∧ E_q1 e < 36 ∧ E_q1 e < E_q2 e ∧ E_q2 e ≤ 36 := by unfold E_q1 E_q2; (repeat' split) <;> omega
theorem E_sd {e q : Int} (h : 0 ≤ e ∧ e < 84) (hq : 0 ≤ q ∧ q < 36) : (E_q1 e = q ∨ E_q2 e = q) ↔ (e = q ∨ e = 43 + (q + q / 6) ∨ e = q + 6 ∨ e = 42 + (q + q / 6)) := by
  unfold E_q1 E_q2; (repeat' split) <;> omega
theorem S_sd_b {q s : Int} (hq : 0 ≤ q ∧ q < 36) : 0 ≤ S_sd q s ∧ S_sd q s < 84 := by unfold S_sd; (repeat' split) <;> omega
theorem S_sd_inj {q s t : Int} (hq : 0 ≤ q ∧ q < 36) (hs : 0 ≤ s ∧ s < 4) (ht : 0 ≤ t ∧ t < 4) (h : S_sd q s = S_sd q t) : s = t := by
  unfold S_sd at h; (repeat' split at h) <;> omega
theorem E_sd_iff {e q : Int} (h : 0 ≤ e ∧ e < 84) (hq : 0 ≤ q ∧ q < 36) : (E_q1 e = q ∨ E_q2 e = q) ↔ ∃ s, 0 ≤ s ∧ s < 4 ∧ e = S_sd q s := by
  rw [E_sd h hq]
  constructor
  · intro q1; rcases q1 with q1 | q1 | q1 | q1
    · exact ⟨0, by omega, by omega, q1⟩
    · exact ⟨1, by omega, by omega, q1⟩
    · exact ⟨2, by omega, by omega, q1⟩
    · exact ⟨3, by omega, by omega, q1⟩
  · intro ⟨s, h1, h2, h3⟩
    rw [h3]; rcases z4 ⟨h1, h2⟩ with e1 | e1 | e1 | e1 <;> subst e1
    · exact Or.inl rfl
    · exact Or.inr (Or.inl rfl)
    · exact Or.inr (Or.inr (Or.inl rfl))
    · exact Or.inr (Or.inr (Or.inr rfl))
def kX (b0 b1 b2 b3 : Bool) (s : Int) : Bool := if s = 0 then b0 != b1 else if s = 1 then b1 != b2 else if s = 2 then b2 != b3 else b3 != b0
def kS (b0 b1 b2 b3 : Bool) : Bool := (b0 != b1) && (b1 != b2) && (b2 != b3)
def kE (b0 b1 b2 b3 : Bool) (t : Int) : Bool := if t = 0 then (b0 != b1) || (b1 != b2) || (b2 != b3) else kS b0 b1 b2 b3
def kA (b0 b1 b2 b3 : Bool) (t : Int) : Int := if kS b0 b1 b2 b3 = true then (if b0 = true then (if t = 0 then 3 else 1) else (if t = 0 then 0 else 2)) else (if (b0 != b1) = true then 0 else if (b1 != b2) = true then 1 else 2)
def kB (b0 b1 b2 b3 : Bool) (t : Int) : Int := if kS b0 b1 b2 b3 = true then (if b0 = true then (if t = 0 then 0 else 2) else (if t = 0 then 1 else 3)) else (if (b3 != b0) = true then 3 else if (b2 != b3) = true then 2 else 1)
theorem k_ab (b0 b1 b2 b3 : Bool) : ∀ t : Int, t = 0 ∨ t = 1 → kE b0 b1 b2 b3 t = true → (0 ≤ kA b0 b1 b2 b3 t ∧ kA b0 b1 b2 b3 t < 4) ∧ (0 ≤ kB b0 b1 b2 b3 t ∧ kB b0 b1 b2 b3 t < 4) ∧ kA b0 b1 b2 b3 t ≠ kB b0 b1 b2 b3 t ∧ kX b0 b1 b2 b3 (kA b0 b1 b2 b3 t) = true ∧ kX b0 b1 b2 b3 (kB b0 b1 b2 b3 t) = true := by
  intro t ht; rcases ht with e | e <;> subst e <;> cases b0 <;> cases b1 <;> cases b2 <;> cases b3 <;> decide
theorem k_on (b0 b1 b2 b3 : Bool) : ∀ s : Int, 0 ≤ s → s < 4 → kX b0 b1 b2 b3 s = true → (kE b0 b1 b2 b3 0 = true ∧ (s = kA b0 b1 b2 b3 0 ∨ s = kB b0 b1 b2 b3 0)) ∨ (kE b0 b1 b2 b3 1 = true ∧ (s = kA b0 b1 b2 b3 1 ∨ s = kB b0 b1 b2 b3 1)) := by
  intro s h1 h2; rcases z4 ⟨h1, h2⟩ with e | e | e | e <;> subst e <;> cases b0 <;> cases b1 <;> cases b2 <;> cases b3 <;> decide
theorem k_two (b0 b1 b2 b3 : Bool) : kE b0 b1 b2 b3 1 = true → kE b0 b1 b2 b3 0 = true ∧ kA b0 b1 b2 b3 0 ≠ kA b0 b1 b2 b3 1 ∧ kA b0 b1 b2 b3 0 ≠ kB b0 b1 b2 b3 1 ∧ kB b0 b1 b2 b3 0 ≠ kA b0 b1 b2 b3 1 ∧ kB b0 b1 b2 b3 0 ≠ kB b0 b1 b2 b3 1 := by
  cases b0 <;> cases b1 <;> cases b2 <;> cases b3 <;> decide
theorem k_none (b0 b1 b2 b3 : Bool) : kE b0 b1 b2 b3 0 = false → ∀ s : Int, 0 ≤ s → s < 4 → kX b0 b1 b2 b3 s = false := by
  intro h s h1 h2; rcases z4 ⟨h1, h2⟩ with e | e | e | e <;> subst e <;> revert h <;> cases b0 <;> cases b1 <;> cases b2 <;> cases b3 <;> decide
def P_x (m : BA) (q s : Int) : Bool := kX (m (S_cn q 0)) (m (S_cn q 1)) (m (S_cn q 2)) (m (S_cn q 3)) s
def P_e (m : BA) (q t : Int) : Bool := kE (m (S_cn q 0)) (m (S_cn q 1)) (m (S_cn q 2)) (m (S_cn q 3)) t
def P_a (m : BA) (q t : Int) : Int := S_sd q (kA (m (S_cn q 0)) (m (S_cn q 1)) (m (S_cn q 2)) (m (S_cn q 3)) t)
def P_b (m : BA) (q t : Int) : Int := S_sd q (kB (m (S_cn q 0)) (m (S_cn q 1)) (m (S_cn q 2)) (m (S_cn q 3)) t)
theorem S_X_sd {m : BA} {q s : Int} (hq : 0 ≤ q ∧ q < 36) (hs : 0 ≤ s ∧ s < 4) : S_X m (S_sd q s) = P_x m q s := by
  rcases z4 hs with e | e | e | e <;> subst e
  · show (m (E_u q) != m (E_v q)) = (m (S_cn q 0) != m (S_cn q 1))
    rw [show E_u q = S_cn q 0 by unfold E_u S_cn; rw [if_pos (by omega), if_pos rfl]; omega, show E_v q = S_cn q 1 by unfold E_v S_cn; rw [if_pos (by omega), if_neg (by omega), if_pos rfl]]
  · show (m (E_u (43 + (q + q / 6))) != m (E_v (43 + (q + q / 6)))) = (m (S_cn q 1) != m (S_cn q 2))
    rw [show E_u (43 + (q + q / 6)) = S_cn q 1 by unfold E_u S_cn; rw [if_neg (by omega), if_neg (by omega), if_pos rfl]; omega, show E_v (43 + (q + q / 6)) = S_cn q 2 by unfold E_v S_cn; rw [if_neg (by omega), if_neg (by omega), if_neg (by omega), if_pos rfl]; omega]
  · show (m (E_u (q + 6)) != m (E_v (q + 6))) = (m (S_cn q 2) != m (S_cn q 3))
    rw [show E_u (q + 6) = S_cn q 3 by unfold E_u S_cn; rw [if_pos (by omega), if_neg (by omega), if_neg (by omega), if_neg (by omega)]; omega, show E_v (q + 6) = S_cn q 2 by unfold E_v S_cn; rw [if_pos (by omega), if_neg (by omega), if_neg (by omega), if_pos rfl]; omega]
    exact bne_comm
  · show (m (E_u (42 + (q + q / 6))) != m (E_v (42 + (q + q / 6)))) = (m (S_cn q 3) != m (S_cn q 0))
    rw [show E_u (42 + (q + q / 6)) = S_cn q 0 by unfold E_u S_cn; rw [if_neg (by omega), if_pos rfl]; omega, show E_v (42 + (q + q / 6)) = S_cn q 3 by unfold E_v S_cn; rw [if_neg (by omega), if_neg (by omega), if_neg (by omega), if_neg (by omega)]; omega]
    exact bne_comm
def S_pe (m : BA) (i : Int) : Bool := P_e m (i / 2) (i % 2)
def S_pa (m : BA) (i : Int) : Int := P_a m (i / 2) (i % 2)
def S_pb (m : BA) (i : Int) : Int := P_b m (i / 2) (i % 2)
theorem S_p_X {m : BA} {i : Int} (hi : 0 ≤ i ∧ i < 72) (h : S_pe m i = true) : (0 ≤ S_pa m i ∧ S_pa m i < 84) ∧ (0 ≤ S_pb m i ∧ S_pb m i < 84) ∧ S_pa m i ≠ S_pb m i ∧ S_X m (S_pa m i) = true ∧ S_X m (S_pb m i) = true := by
  have hq : 0 ≤ i / 2 ∧ i / 2 < 36 := by omega
  have h1 := k_ab _ _ _ _ _ (by omega) h
  refine ⟨S_sd_b hq, S_sd_b hq, fun q => h1.2.2.1 (S_sd_inj hq h1.1 h1.2.1 q), ?_, ?_⟩
  · unfold S_pa P_a; rw [S_X_sd hq h1.1]; exact h1.2.2.2.1
  · unfold S_pb P_b; rw [S_X_sd hq h1.2.1]; exact h1.2.2.2.2
def S_J (m : BA) (e f : Int) : Prop := ∃ i, 0 ≤ i ∧ i < 72 ∧ S_pe m i = true ∧ ((S_pa m i = e ∧ S_pb m i = f) ∨ (S_pa m i = f ∧ S_pb m i = e))
theorem S_J_sy {m : BA} : ∀ e f, S_J m e f → S_J m f e := fun _ _ ⟨i, a, b, c, d⟩ => ⟨i, a, b, c, d.symm⟩
theorem S_J_X {m : BA} {e f : Int} (h : S_J m e f) : ((0 ≤ e ∧ e < 84) ∧ S_X m e = true) ∧ (0 ≤ f ∧ f < 84) ∧ S_X m f = true := by
  obtain ⟨i, a, b, c, d⟩ := h
  have := S_p_X ⟨a, b⟩ c
  rcases d with ⟨d1, d2⟩ | ⟨d1, d2⟩ <;> rw [← d1, ← d2]
  · exact ⟨⟨this.1, this.2.2.2.1⟩, this.2.1, this.2.2.2.2⟩
  · exact ⟨⟨this.2.1, this.2.2.2.2⟩, this.1, this.2.2.2.1⟩
theorem S_J_C {m : BA} {e f : Int} (he : (0 ≤ e ∧ e < 84) ∧ S_X m e = true) (h : Cn (S_J m) e f) : (0 ≤ f ∧ f < 84) ∧ S_X m f = true := h (fun z => (0 ≤ z ∧ z < 84) ∧ S_X m z = true) he (fun _ _ _ hr => (S_J_X hr).2)
noncomputable def S_lrep (m : BA) : BA := fun e => cb (S_X m e = true ∧ ∀ j, 0 ≤ j → j < e → S_X m j = true → ¬ Cn (S_J m) j e)
noncomputable def S_nlines (m : BA) : Int := zC (S_lrep m) 84
def S_lopen (m : BA) (e : Int) : Prop := ∃ b, 0 ≤ b ∧ b < 84 ∧ S_X m b = true ∧ E_q2 b = 36 ∧ Cn (S_J m) e b
noncomputable def S_nclosed (m : BA) : Int := zC (fun e => S_lrep m e && !cb (S_lopen m e)) 84
noncomputable def S_psz (m : BA) (e : Int) : Int := zC (fun i => S_pe m i && cb (Cn (S_J m) e (S_pa m i))) 72
noncomputable def S_long (m : BA) : Int := S_top (fun e => if S_X m e = true then S_psz m e else 0) 84
def S_ncross (m : BA) : Int := zC (S_X m) 84
/-! what the class keeps -/
abbrev LT : Type := IA × IA × IA × IA × Int
def A_fp (fp : IA) (e p : Int) : IA := if fp e = -1 then zu fp e p else fp
def A_sp (fp sp : IA) (e p : Int) : IA := if fp e = -1 then sp else zu sp e p
def A_add (fe se fp sp : IA) (np a b : Int) : LT := (zu fe np a, zu se np b, A_fp (A_fp fp a np) b np, A_sp (A_fp fp a np) (A_sp fp sp a np) b np, np + 1)
def A_addT (T : LT) (a b : Int) : LT := A_add T.1 T.2.1 T.2.2.1 T.2.2.2.1 T.2.2.2.2 a b
theorem A_fp_at {fp : IA} {a p e : Int} : A_fp fp a p e = if e = a ∧ fp e = -1 then p else fp e := by
  unfold A_fp
  by_cases q : e = a
  · subst q
    by_cases r : fp e = -1
    · rw [if_pos r, if_pos ⟨rfl, r⟩, zu_s]
    · rw [if_neg r, if_neg (fun h => r h.2)]
  · rw [if_neg (show ¬ (e = a ∧ fp e = -1) from fun h => q h.1)]; split; exact zu_n q; rfl
theorem A_sp_at {fp sp : IA} {a p e : Int} : A_sp fp sp a p e = if e = a ∧ fp e ≠ -1 then p else sp e := by
  unfold A_sp
  by_cases q : e = a
  · subst q
    by_cases r : fp e = -1
    · rw [if_pos r, if_neg (fun h => h.2 r)]
    · rw [if_neg r, if_pos ⟨rfl, r⟩, zu_s]
  · rw [if_neg (show ¬ (e = a ∧ fp e ≠ -1) from fun h => q h.1)]; split; rfl; exact zu_n q
theorem A_fp2 {fp : IA} {a b p e : Int} (hab : a ≠ b) : A_fp (A_fp fp a p) b p e = if (e = a ∨ e = b) ∧ fp e = -1 then p else fp e := by
  rw [A_fp_at, A_fp_at]
  (repeat' split) <;> omega
theorem A_sp2 {fp sp : IA} {a b p e : Int} (hab : a ≠ b) : A_sp (A_fp fp a p) (A_sp fp sp a p) b p e = if (e = a ∨ e = b) ∧ fp e ≠ -1 then p else sp e := by
  rw [A_sp_at, A_sp_at, A_fp_at]
  (repeat' split) <;> omega
def LJo (fe se fp sp : IA) (np : Int) : Prop := 0 ≤ np ∧
  (∀ p, 0 ≤ p → p < np → (0 ≤ fe p ∧ fe p < 84) ∧ (0 ≤ se p ∧ se p < 84) ∧ fe p ≠ se p) ∧
  (∀ e, 0 ≤ e → e < 84 → (-1 ≤ fp e ∧ fp e < np) ∧ (-1 ≤ sp e ∧ sp e < np) ∧ (fp e = -1 → sp e = -1) ∧ (fp e = sp e → fp e = -1)) ∧
  (∀ e p, 0 ≤ e → e < 84 → 0 ≤ p → p < np → ((fe p = e ∨ se p = e) ↔ (p = fp e ∨ p = sp e))) ∧
  zC (fun e => decide (fp e ≠ -1)) 84 + zC (fun e => decide (sp e ≠ -1)) 84 = 2 * np
theorem LJo_end {fp sp fp1 sp1 : IA} {a p N : Int} (ha : 0 ≤ a ∧ a < 84) (hs : sp a = -1) (hp : p ≠ -1) (e1 : ∀ e, fp1 e = if e = a ∧ fp e = -1 then p else fp e) (e2 : ∀ e, sp1 e = if e = a ∧ fp e ≠ -1 then p else sp e)
    (h : zC (fun e => decide (fp e ≠ -1)) 84 + zC (fun e => decide (sp e ≠ -1)) 84 = N) : zC (fun e => decide (fp1 e ≠ -1)) 84 + zC (fun e => decide (sp1 e ≠ -1)) 84 = N + 1 := by
  by_cases q : fp a = -1
  · have h1 := zC_ins (P := fun e => decide (fp e ≠ -1)) (Q := fun e => decide (fp1 e ≠ -1)) ha (by simp [q]) (fun k _ _ => by
      show decide (fp1 k ≠ -1) = (decide (fp k ≠ -1) || decide (k = a))
      rw [e1]; by_cases r : k = a
      · subst r; rw [if_pos ⟨rfl, q⟩, decide_eq_true hp, decide_eq_true rfl, Bool.or_true]
      · rw [if_neg (fun z => r z.1), decide_eq_false r, Bool.or_false])
    have h2 : zC (fun e => decide (sp1 e ≠ -1)) 84 = zC (fun e => decide (sp e ≠ -1)) 84 := zC_congr (by omega) (fun k _ _ => by
      rw [e2, if_neg (fun z => by rw [z.1] at z; exact z.2 q)])
    omega
  · have h1 := zC_ins (P := fun e => decide (sp e ≠ -1)) (Q := fun e => decide (sp1 e ≠ -1)) ha (by simp [hs]) (fun k _ _ => by
      show decide (sp1 k ≠ -1) = (decide (sp k ≠ -1) || decide (k = a))
      rw [e2]; by_cases r : k = a
      · subst r; rw [if_pos ⟨rfl, q⟩, decide_eq_true hp, decide_eq_true rfl, Bool.or_true]
      · rw [if_neg (fun z => r z.1), decide_eq_false r, Bool.or_false])
    have h2 : zC (fun e => decide (fp1 e ≠ -1)) 84 = zC (fun e => decide (fp e ≠ -1)) 84 := zC_congr (by omega) (fun k _ _ => by
      rw [e1, if_neg (fun z => by rw [z.1] at z; exact q z.2)])
    omega
theorem LJo_add {fe se fp sp : IA} {np a b : Int} (H : LJo fe se fp sp np) (ha : 0 ≤ a ∧ a < 84) (hb : 0 ≤ b ∧ b < 84) (hab : a ≠ b) (sa : sp a = -1) (sb : sp b = -1) :
    LJo (zu fe np a) (zu se np b) (A_fp (A_fp fp a np) b np) (A_sp (A_fp fp a np) (A_sp fp sp a np) b np) (np + 1) ∧
    (∀ e, 0 ≤ e → e < 84 → (A_fp (A_fp fp a np) b np e ≠ -1 ↔ fp e ≠ -1 ∨ e = a ∨ e = b)) ∧
    (∀ e, 0 ≤ e → e < 84 → (A_sp (A_fp fp a np) (A_sp fp sp a np) b np e ≠ -1 ↔ sp e ≠ -1 ∨ ((e = a ∨ e = b) ∧ fp e ≠ -1))) := by
  obtain ⟨h0, h1, h2, h3, h4⟩ := H
  refine ⟨⟨by omega, ?_, ?_, ?_, ?_⟩, ?_, ?_⟩
  · intro p p0 p1
    by_cases q : p = np
    · subst q; rw [zu_s, zu_s]; exact ⟨ha, hb, hab⟩
    · rw [zu_n q, zu_n q]; exact h1 p p0 (by omega)
  · intro e e0 e1
    have := h2 e e0 e1
    rw [A_fp2 hab, A_sp2 hab]
    (repeat' split) <;> omega
  · intro e p e0 e1 p0 p1
    have k2 := h2 e e0 e1
    have e3 : sp e = -1 ∨ (e ≠ a ∧ e ≠ b) := by
      by_cases q : e = a; exact Or.inl (q ▸ sa)
      by_cases r : e = b; exact Or.inl (r ▸ sb)
      exact Or.inr ⟨q, r⟩
    rw [A_fp2 hab, A_sp2 hab]
    by_cases q : p = np
    · subst q; rw [zu_s, zu_s]
      (repeat' split) <;> omega
    · rw [zu_n q, zu_n q]
      have k3 := h3 e p e0 e1 p0 (by omega)
      rw [k3]
      (repeat' split) <;> omega
  · have k1 := LJo_end (fp1 := A_fp fp a np) (sp1 := A_sp fp sp a np) ha sa (by omega) (fun e => A_fp_at) (fun e => A_sp_at) h4
    have sb1 : A_sp fp sp a np b = -1 := by rw [A_sp_at, if_neg (fun z => hab z.1.symm)]; exact sb
    have k2 := LJo_end (fp1 := A_fp (A_fp fp a np) b np) (sp1 := A_sp (A_fp fp a np) (A_sp fp sp a np) b np) hb sb1 (by omega : np ≠ -1) (fun e => A_fp_at) (fun e => A_sp_at) k1
    rw [k2]; omega
  · intro e e0 e1; rw [A_fp2 hab]; split <;> omega
  · intro e e0 e1; rw [A_sp2 hab]; split <;> omega
def LK (m : BA) (K : Int) (fe se : IA) (np : Int) : Prop := 0 ≤ np ∧ np ≤ K ∧
  (∀ p, 0 ≤ p → p < np → ∃ i, 0 ≤ i ∧ i < K ∧ S_pe m i = true ∧ fe p = S_pa m i ∧ se p = S_pb m i) ∧
  (∀ i, 0 ≤ i → i < K → S_pe m i = true → ∃ p, 0 ≤ p ∧ p < np ∧ fe p = S_pa m i ∧ se p = S_pb m i) ∧
  (∀ F : BA, zC (fun p => F (fe p)) np = zC (fun i => S_pe m i && F (S_pa m i)) K)
theorem LK_0 (m : BA) (fe se : IA) : LK m 0 fe se 0 := ⟨Int.le_refl _, Int.le_refl _, fun p a b => by omega, fun p a b => by omega, fun F => by rw [zC_0, zC_0]⟩
theorem LK_skip {m : BA} {K : Int} {fe se : IA} {np : Int} (hK : 0 ≤ K) (H : LK m K fe se np) (h : S_pe m K = false) : LK m (K + 1) fe se np := by
  obtain ⟨h0, h1, h2, h3, h4⟩ := H
  refine ⟨h0, by omega, ?_, ?_, ?_⟩
  · intro p a b; obtain ⟨i, i0, i1, r⟩ := h2 p a b; exact ⟨i, i0, by omega, r⟩
  · intro i a b c
    exact h3 i a (by by_cases q : i = K; (subst q; rw [h] at c; cases c); omega) c
  · intro F; rw [zC_up hK, ← h4, z1_f (by rw [h]; rfl)]; omega
theorem LK_add {m : BA} {K : Int} {fe se : IA} {np : Int} (hK : 0 ≤ K) (H : LK m K fe se np) (h : S_pe m K = true) : LK m (K + 1) (zu fe np (S_pa m K)) (zu se np (S_pb m K)) (np + 1) := by
  obtain ⟨h0, h1, h2, h3, h4⟩ := H
  refine ⟨by omega, by omega, ?_, ?_, ?_⟩
  · intro p a b
    by_cases q : p = np
    · subst q; exact ⟨K, hK, by omega, h, zu_s, zu_s⟩
    · rw [zu_n q, zu_n q]; obtain ⟨i, i0, i1, r⟩ := h2 p a (by omega); exact ⟨i, i0, by omega, r⟩
  · intro i a b c
    by_cases q : i = K
    · subst q; exact ⟨np, h0, by omega, zu_s, zu_s⟩
    · obtain ⟨p, p0, p1, r⟩ := h3 i a (by omega) c
      exact ⟨p, p0, by omega, by rw [zu_n (by omega)]; exact r.1, by rw [zu_n (by omega)]; exact r.2⟩
  · intro F; rw [zC_up hK, zC_up h0, ← h4, zu_s]
    rw [zC_congr (Q := fun p => F (fe p)) h0 (fun k a b => by rw [zu_n (by omega)])]
    rw [h, Bool.true_and]
def S_sq (m : BA) (q : Int) (T : LT) : LT :=
  if P_e m q 0 = true then (if P_e m q 1 = true then A_addT (A_addT T (P_a m q 0) (P_b m q 0)) (P_a m q 1) (P_b m q 1) else A_addT T (P_a m q 0) (P_b m q 0)) else T
def LI (m : BA) (k : Int) (T : LT) : Prop := LJo T.1 T.2.1 T.2.2.1 T.2.2.2.1 T.2.2.2.2 ∧ LK m (2 * k) T.1 T.2.1 T.2.2.2.2 ∧
  (∀ e, 0 ≤ e → e < 84 → (T.2.2.1 e ≠ -1 ↔ S_X m e = true ∧ E_q1 e < k)) ∧ (∀ e, 0 ≤ e → e < 84 → (T.2.2.2.1 e ≠ -1 ↔ S_X m e = true ∧ E_q2 e < k))
theorem LI_0 {m : BA} {fe se fp sp : IA} (h1 : ∀ e, 0 ≤ e → e < 84 → fp e = -1) (h2 : ∀ e, 0 ≤ e → e < 84 → sp e = -1) : LI m 0 (fe, se, fp, sp, 0) := by
  refine ⟨⟨Int.le_refl _, fun p a b => ?_, fun e a b => ?_, fun e p a b c d => ?_, ?_⟩, LK_0 m fe se, fun e a b => ?_, fun e a b => ?_⟩
  · exact absurd b (by show ¬ p < 0; omega)
  · show (-1 ≤ fp e ∧ fp e < 0) ∧ (-1 ≤ sp e ∧ sp e < 0) ∧ (fp e = -1 → sp e = -1) ∧ (fp e = sp e → fp e = -1); rw [h1 e a b, h2 e a b]; decide
  · exact absurd d (by show ¬ p < 0; omega)
  · show zC (fun e => decide (fp e ≠ -1)) 84 + zC (fun e => decide (sp e ≠ -1)) 84 = 2 * 0
    rw [zC_zero 84 (by omega) (fun k a b => by rw [h1 k a b]; rfl), zC_zero 84 (by omega) (fun k a b => by rw [h2 k a b]; rfl)]; rfl
  · show fp e ≠ -1 ↔ _; have := E_q_b ⟨a, b⟩; rw [h1 e a b]; constructor; exact fun h => absurd rfl h; intro h; omega
  · show sp e ≠ -1 ↔ _; have := E_q_b ⟨a, b⟩; rw [h2 e a b]; constructor; exact fun h => absurd rfl h; intro h; omega
/-- one square -/
theorem LI_sq {m : BA} {k : Int} {T : LT} (hk : 0 ≤ k ∧ k < 36) (H : LI m k T) : LI m (k + 1) (S_sq m k T) := by
  obtain ⟨fe, se, fp, sp, np⟩ := T
  obtain ⟨hJ, hK, hF, hS⟩ := H
  simp only at hJ hK hF hS
  have ex : ∀ t, (t = 0 ∨ t = 1) → S_pe m (2 * k + t) = P_e m k t ∧ S_pa m (2 * k + t) = P_a m k t ∧ S_pb m (2 * k + t) = P_b m k t := fun t ht => by
    unfold S_pe S_pa S_pb; rw [show (2 * k + t) / 2 = k by omega, show (2 * k + t) % 2 = t by omega]; exact ⟨rfl, rfl, rfl⟩
  -- which edges end pieces here
  have side : ∀ e, 0 ≤ e → e < 84 → ((E_q1 e = k ∨ E_q2 e = k) ∧ S_X m e = true ↔ (P_e m k 0 = true ∧ (e = P_a m k 0 ∨ e = P_b m k 0)) ∨ (P_e m k 1 = true ∧ (e = P_a m k 1 ∨ e = P_b m k 1))) := by
    intro e e0 e1
    rw [E_sd_iff ⟨e0, e1⟩ hk]
    constructor
    · intro ⟨⟨s, s0, s1, s2⟩, hx⟩
      rw [s2, S_X_sd hk ⟨s0, s1⟩] at hx
      rcases k_on _ _ _ _ s s0 s1 hx with ⟨h1, h2⟩ | ⟨h1, h2⟩
      · exact Or.inl ⟨h1, h2.elim (fun z => Or.inl (by rw [s2, z]; rfl)) (fun z => Or.inr (by rw [s2, z]; rfl))⟩
      · exact Or.inr ⟨h1, h2.elim (fun z => Or.inl (by rw [s2, z]; rfl)) (fun z => Or.inr (by rw [s2, z]; rfl))⟩
    · intro h
      have go : ∀ t, (t = 0 ∨ t = 1) → P_e m k t = true → (e = P_a m k t ∨ e = P_b m k t) → (∃ s, 0 ≤ s ∧ s < 4 ∧ e = S_sd k s) ∧ S_X m e = true := fun t ht h1 h2 => by
        have h3 := k_ab _ _ _ _ t ht h1
        rcases h2 with h2 | h2
        · refine ⟨⟨_, h3.1.1, h3.1.2, h2⟩, ?_⟩; rw [h2]; unfold P_a; rw [S_X_sd hk h3.1]; exact h3.2.2.2.1
        · refine ⟨⟨_, h3.2.1.1, h3.2.1.2, h2⟩, ?_⟩; rw [h2]; unfold P_b; rw [S_X_sd hk h3.2.1]; exact h3.2.2.2.2
      rcases h with ⟨h1, h2⟩ | ⟨h1, h2⟩
      · exact go 0 (Or.inl rfl) h1 h2
      · exact go 1 (Or.inr rfl) h1 h2
  have ab : ∀ t, (t = 0 ∨ t = 1) → P_e m k t = true → (0 ≤ P_a m k t ∧ P_a m k t < 84) ∧ (0 ≤ P_b m k t ∧ P_b m k t < 84) ∧ P_a m k t ≠ P_b m k t := fun t ht h1 => by
    have h3 := k_ab _ _ _ _ t ht h1
    exact ⟨S_sd_b hk, S_sd_b hk, fun q => h3.2.2.1 (S_sd_inj hk h3.1 h3.2.1 q)⟩
  have sp0 : ∀ e, 0 ≤ e → e < 84 → (E_q1 e = k ∨ E_q2 e = k) → sp e = -1 := fun e e0 e1 h => Classical.byContradiction (fun q => by
    have h1 := ((hS e e0 e1).mp q).2; have h2 := E_q_b ⟨e0, e1⟩; omega)
  have hx1 : P_e m k 1 = true → P_e m k 0 = true := fun h => (k_two _ _ _ _ h).1
  by_cases q0 : P_e m k 0 = true
  · have a0 := ab 0 (Or.inl rfl) q0
    have s0a := (side _ a0.1.1 a0.1.2).mpr (Or.inl ⟨q0, Or.inl rfl⟩)
    have s0b := (side _ a0.2.1.1 a0.2.1.2).mpr (Or.inl ⟨q0, Or.inr rfl⟩)
    obtain ⟨j1, j2, j3⟩ := LJo_add hJ a0.1 a0.2.1 a0.2.2 (sp0 _ a0.1.1 a0.1.2 s0a.1) (sp0 _ a0.2.1.1 a0.2.1.2 s0b.1)
    have k1 := LK_add (by omega) hK (by have := (ex 0 (Or.inl rfl)).1; rw [Int.add_zero] at this; rw [this]; exact q0)
    have exa := (ex 0 (Or.inl rfl)).2; rw [Int.add_zero] at exa
    rw [exa.1, exa.2] at k1
    by_cases q1 : P_e m k 1 = true
    · have a1 := ab 1 (Or.inr rfl) q1
      have s1a := (side _ a1.1.1 a1.1.2).mpr (Or.inr ⟨q1, Or.inl rfl⟩)
      have s1b := (side _ a1.2.1.1 a1.2.1.2).mpr (Or.inr ⟨q1, Or.inr rfl⟩)
      have t3 := k_two _ _ _ _ q1
      have r0 := k_ab _ _ _ _ 0 (Or.inl rfl) q0; have r1 := k_ab _ _ _ _ 1 (Or.inr rfl) q1
      have n1 : P_a m k 1 ≠ P_a m k 0 := fun z => t3.2.1 (S_sd_inj hk r0.1 r1.1 z.symm)
      have n2 : P_a m k 1 ≠ P_b m k 0 := fun z => t3.2.2.2.1 (S_sd_inj hk r0.2.1 r1.1 z.symm)
      have n3 : P_b m k 1 ≠ P_a m k 0 := fun z => t3.2.2.1 (S_sd_inj hk r0.1 r1.2.1 z.symm)
      have n4 : P_b m k 1 ≠ P_b m k 0 := fun z => t3.2.2.2.2 (S_sd_inj hk r0.2.1 r1.2.1 z.symm)
      have u1 : A_sp (A_fp fp (P_a m k 0) np) (A_sp fp sp (P_a m k 0) np) (P_b m k 0) np (P_a m k 1) = -1 := Classical.byContradiction (fun z => by
        have z1 := (j3 _ a1.1.1 a1.1.2).mp z; have z2 := sp0 _ a1.1.1 a1.1.2 s1a.1; omega)
      have u2 : A_sp (A_fp fp (P_a m k 0) np) (A_sp fp sp (P_a m k 0) np) (P_b m k 0) np (P_b m k 1) = -1 := Classical.byContradiction (fun z => by
        have z1 := (j3 _ a1.2.1.1 a1.2.1.2).mp z; have z2 := sp0 _ a1.2.1.1 a1.2.1.2 s1b.1; omega)
      obtain ⟨i1, i2, i3⟩ := LJo_add j1 a1.1 a1.2.1 a1.2.2 u1 u2
      have k2 := LK_add (by omega) k1 (by rw [(ex 1 (Or.inr rfl)).1]; exact q1)
      rw [(ex 1 (Or.inr rfl)).2.1, (ex 1 (Or.inr rfl)).2.2] at k2
      unfold S_sq; rw [if_pos q0, if_pos q1]
      refine ⟨i1, ?_, ?_, ?_⟩
      · rw [show 2 * (k + 1) = 2 * k + 1 + 1 by omega]; exact k2
      · intro e e0 e1
        have h1 := i2 e e0 e1; have h2 := j2 e e0 e1; have h3 := hF e e0 e1; have h4 := side e e0 e1; have h5 := E_q_b ⟨e0, e1⟩
        simp only [q0, q1, true_and] at h4
        refine h1.trans ?_; rw [h2, h3]
        by_cases x : S_X m e = true
        · simp only [x, true_and, and_true] at h4 ⊢; omega
        · have n4 : ¬ ((e = P_a m k 0 ∨ e = P_b m k 0) ∨ e = P_a m k 1 ∨ e = P_b m k 1) := fun z => x (h4.mpr z).2
          clear h1 h2 h3 h4; exact ⟨fun z => by rcases z with (z | z) | z; exact absurd z.1 x; exact absurd (Or.inl z) n4; exact absurd (Or.inr z) n4, fun z => absurd z.1 x⟩
      · intro e e0 e1
        have h1 := i3 e e0 e1; have h1' := j2 e e0 e1; have h2 := j3 e e0 e1; have h3 := hF e e0 e1; have h3' := hS e e0 e1; have h4 := side e e0 e1; have h5 := E_q_b ⟨e0, e1⟩
        simp only [q0, q1, true_and] at h4
        have h6 : (e = P_a m k 1 ∨ e = P_b m k 1) → ¬ (e = P_a m k 0 ∨ e = P_b m k 0) := by omega
        refine h1.trans ?_; rw [h2, h1', h3, h3']
        by_cases x : S_X m e = true
        · simp only [x, true_and, and_true] at h4 ⊢; omega
        · have n4 : ¬ ((e = P_a m k 0 ∨ e = P_b m k 0) ∨ e = P_a m k 1 ∨ e = P_b m k 1) := fun z => x (h4.mpr z).2
          clear h1 h1' h2 h3 h3' h4 h6
          exact ⟨fun z => by rcases z with (z | z) | z; exact absurd z.1 x; exact absurd (Or.inl z.1) n4; exact absurd (Or.inr z.1) n4, fun z => absurd z.1 x⟩
    · have k2 := LK_skip (by omega) k1 (by rw [(ex 1 (Or.inr rfl)).1]; simpa using q1)
      unfold S_sq; rw [if_pos q0, if_neg q1]
      refine ⟨j1, ?_, ?_, ?_⟩
      · rw [show 2 * (k + 1) = 2 * k + 1 + 1 by omega]; exact k2
      · intro e e0 e1
        have h2 := j2 e e0 e1; have h3 := hF e e0 e1; have h4 := side e e0 e1; have h5 := E_q_b ⟨e0, e1⟩
        simp only [q0, q1, true_and, false_and, or_false] at h4
        refine h2.trans ?_; rw [h3]
        by_cases x : S_X m e = true
        · simp only [x, true_and, and_true] at h4 ⊢; simp only [Bool.false_eq_true, false_and, or_false] at h4; omega
        · simp only [x, false_and, and_false, false_iff] at h4 ⊢; simp only [Bool.false_eq_true, false_and, and_false, false_or, or_false, iff_false, false_iff] at h4 ⊢; omega
      · intro e e0 e1
        have h2 := j3 e e0 e1; have h3 := hF e e0 e1; have h3' := hS e e0 e1; have h4 := side e e0 e1; have h5 := E_q_b ⟨e0, e1⟩
        simp only [q0, q1, true_and, false_and, or_false] at h4
        refine h2.trans ?_; rw [h3, h3']
        by_cases x : S_X m e = true
        · simp only [x, true_and, and_true] at h4 ⊢; simp only [Bool.false_eq_true, false_and, or_false] at h4; omega
        · simp only [x, false_and, and_false, false_iff] at h4 ⊢; simp only [Bool.false_eq_true, false_and, and_false, false_or, or_false, iff_false, false_iff] at h4 ⊢; try omega
  · have q1 : ¬ P_e m k 1 = true := fun h => q0 (hx1 h)
    have k1 := LK_skip (by omega) hK (by have := (ex 0 (Or.inl rfl)).1; rw [Int.add_zero] at this; rw [this]; simpa using q0)
    have k2 := LK_skip (by omega) k1 (by rw [(ex 1 (Or.inr rfl)).1]; simpa using q1)
    unfold S_sq; rw [if_neg q0]
    have h9 : ∀ e, 0 ≤ e → e < 84 → ¬ ((E_q1 e = k ∨ E_q2 e = k) ∧ S_X m e = true) := fun e e0 e1 h => by
      rcases (side e e0 e1).mp h with h | h; exact q0 h.1; exact q1 h.1
    refine ⟨hJ, ?_, ?_, ?_⟩
    · rw [show 2 * (k + 1) = 2 * k + 1 + 1 by omega]; exact k2
    · intro e e0 e1
      have h3 := hF e e0 e1; have h4 := h9 e e0 e1
      refine h3.trans ⟨fun h => ⟨h.1, by omega⟩, fun h => ⟨h.1, ?_⟩⟩
      by_cases z : E_q1 e = k; exact absurd ⟨Or.inl z, h.1⟩ h4; omega
    · intro e e0 e1
      have h3 := hS e e0 e1; have h4 := h9 e e0 e1
      refine h3.trans ⟨fun h => ⟨h.1, by omega⟩, fun h => ⟨h.1, ?_⟩⟩
      by_cases z : E_q2 e = k; exact absurd ⟨Or.inr z, h.1⟩ h4; omega
