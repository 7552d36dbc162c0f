/-! LINES: one square, as the class reads it -/
theorem S_corner {a b s : Int} (ha : 0 ≤ a ∧ a < 6) (hb : 0 ≤ b ∧ b < 6) (hs : 0 ≤ s ∧ s < 4) : S_pointAt (a + CROW s) (b + CCOL s) = S_cn (a * 6 + b) s ∧ 0 ≤ S_cn (a * 6 + b) s ∧ S_cn (a * 6 + b) s < 49 := by
  have h1 := CROW_b s; have h2 := CCOL_b s
  have e : S_pointAt (a + CROW s) (b + CCOL s) = S_cn (a * 6 + b) s := by
    rw [S_pointAt_in (by omega) (by omega)]
    unfold S_cn CROW CCOL
    (repeat' split) <;> omega
  refine ⟨e, ?_⟩
  rw [← e, S_pointAt_in (by omega) (by omega)]; omega
theorem S_sd_of {a b s : Int} (ha : 0 ≤ a ∧ a < 6) (hb : 0 ≤ b ∧ b < 6) (hs : 0 ≤ s ∧ s < 4) : S_sd (a * 6 + b) s = if s = 0 then a * 6 + b else if s = 1 then 42 + a * 7 + b + 1 else if s = 2 then (a + 1) * 6 + b else 42 + a * 7 + b := by
  unfold S_sd; (repeat' split) <;> omega
theorem A_fp_b {fp : IA} {a p : Int} (hp : 0 ≤ p ∧ p ≤ 72) (h : ∀ k, 0 ≤ k → k < 84 → -1 ≤ fp k ∧ fp k ≤ 72) : ∀ k, 0 ≤ k → k < 84 → -1 ≤ A_fp fp a p k ∧ A_fp fp a p k ≤ 72 := fun k h1 h2 => by
  have := h k h1 h2
  rw [A_fp_at]; split <;> omega
def F_s1 (m : BA) (q : Int) (i : Int) (T : LT) : LT := if m (S_cn q i) = true then A_addT T (S_sd q ((i + 3) % 4)) (S_sd q i) else T
def F_sN (m : BA) (q : Int) (T : LT) : Nat → LT | 0 => T | n + 1 => F_s1 m q n (F_sN m q T n)
def F_s (m : BA) (q : Int) (T : LT) (i : Int) : LT := F_sN m q T i.toNat
theorem F_s_0 (m : BA) (q : Int) (T : LT) : F_s m q T 0 = T := rfl
theorem F_s_up {m : BA} {q i : Int} {T : LT} (hi : 0 ≤ i) : F_s m q T (i + 1) = F_s1 m q i (F_s m q T i) := by
  unfold F_s; rw [show (i + 1).toNat = i.toNat + 1 by omega]; show F_s1 m q (i.toNat : Int) _ = _; rw [Int.toNat_of_nonneg hi]
abbrev XT : Type := LT × Int
def F_x1 (m : BA) (q : Int) (i : Int) (T : XT) : XT := if S_xk m q i = true then (if T.2 = -1 then (T.1, S_sd q i) else (A_addT T.1 T.2 (S_sd q i), T.2)) else T
def F_xN (m : BA) (q : Int) (T : LT) : Nat → XT | 0 => (T, -1) | n + 1 => F_x1 m q n (F_xN m q T n)
def F_x (m : BA) (q : Int) (T : LT) (i : Int) : XT := F_xN m q T i.toNat
theorem F_x_0 (m : BA) (q : Int) (T : LT) : F_x m q T 0 = (T, -1) := rfl
theorem F_x_up {m : BA} {q i : Int} {T : LT} (hi : 0 ≤ i) : F_x m q T (i + 1) = F_x1 m q i (F_x m q T i) := by
  unfold F_x; rw [show (i + 1).toNat = i.toNat + 1 by omega]; show F_x1 m q (i.toNat : Int) _ = _; rw [Int.toNat_of_nonneg hi]
def kN (b0 b1 b2 b3 : Bool) : Int := z1 (b0 != b1) + z1 (b1 != b2) + z1 (b2 != b3) + z1 (b3 != b0)
theorem S_xk_N (m : BA) (q : Int) : zC (S_xk m q) 4 = kN (m (S_cn q 0)) (m (S_cn q 1)) (m (S_cn q 2)) (m (S_cn q 3)) := by
  rw [show (4 : Int) = 3 + 1 from rfl, zC_up (by omega), show (3 : Int) = 2 + 1 from rfl, zC_up (by omega), show (2 : Int) = 1 + 1 from rfl, zC_up (by omega), show (1 : Int) = 0 + 1 from rfl, zC_up (by omega), zC_0]
  show 0 + z1 (S_xk m q 0) + z1 (S_xk m q 1) + z1 (S_xk m q 2) + z1 (S_xk m q 3) = _
  unfold kN; rw [Int.zero_add]; rfl
theorem kN_4 : ∀ b0 b1 b2 b3 : Bool, kN b0 b1 b2 b3 = 4 → kS b0 b1 b2 b3 = true := by decide
theorem kN_n : ∀ b0 b1 b2 b3 : Bool, ¬ kN b0 b1 b2 b3 = 4 → kS b0 b1 b2 b3 = false := by decide
theorem kN_0 : ∀ b0 b1 b2 b3 : Bool, kN b0 b1 b2 b3 ≤ 0 → kE b0 b1 b2 b3 0 = false := by decide
theorem kN_2 : ∀ b0 b1 b2 b3 : Bool, kN b0 b1 b2 b3 / 2 = z1 (kE b0 b1 b2 b3 0) + z1 (kE b0 b1 b2 b3 1) := by decide
theorem F_s_4 {m : BA} {q : Int} {T : LT} (h : zC (S_xk m q) 4 = 4) : F_s m q T 4 = S_sq m q T := by
  rw [S_xk_N] at h
  have h1 := kN_4 _ _ _ _ h
  rw [show (4 : Int) = 3 + 1 from rfl, F_s_up (by omega), show (3 : Int) = 2 + 1 from rfl, F_s_up (by omega), show (2 : Int) = 1 + 1 from rfl, F_s_up (by omega), show (1 : Int) = 0 + 1 from rfl, F_s_up (by omega), F_s_0]
  show F_s1 m q 3 (F_s1 m q 2 (F_s1 m q 1 (F_s1 m q 0 T))) = _
  unfold F_s1 S_sq P_e P_a P_b
  generalize m (S_cn q 0) = b0 at h1 ⊢; generalize m (S_cn q 1) = b1 at h1 ⊢; generalize m (S_cn q 2) = b2 at h1 ⊢; generalize m (S_cn q 3) = b3 at h1 ⊢
  revert h1
  cases b0 <;> cases b1 <;> cases b2 <;> cases b3 <;> intro h1 <;> first | (exact absurd h1 (by decide)) | rfl
theorem F_s_np {m : BA} {q : Int} {T : LT} (h : zC (S_xk m q) 4 = 4) {i : Int} (hi : 0 ≤ i ∧ i < 4) (hm : m (S_cn q i) = true) : T.2.2.2.2 ≤ (F_s m q T i).2.2.2.2 ∧ (F_s m q T i).2.2.2.2 ≤ T.2.2.2.2 + 1 := by
  rw [S_xk_N] at h
  have h1 := kN_4 _ _ _ _ h
  have ad : ∀ (T : LT) a b, (A_addT T a b).2.2.2.2 = T.2.2.2.2 + 1 := fun _ _ _ => rfl
  rcases z4 hi with e | e | e | e <;> subst e
  · rw [F_s_0]; omega
  · rw [show (1 : Int) = 0 + 1 from rfl, F_s_up (by omega), F_s_0]; unfold F_s1
    split
    · rw [ad]; omega
    · omega
  · rw [show (2 : Int) = 1 + 1 from rfl, F_s_up (by omega), show (1 : Int) = 0 + 1 from rfl, F_s_up (by omega), F_s_0]
    show T.2.2.2.2 ≤ (F_s1 m q 1 (F_s1 m q 0 T)).2.2.2.2 ∧ (F_s1 m q 1 (F_s1 m q 0 T)).2.2.2.2 ≤ _
    unfold F_s1
    generalize m (S_cn q 0) = b0 at h1 ⊢; generalize m (S_cn q 1) = b1 at h1 ⊢; generalize m (S_cn q 2) = b2 at h1 hm ⊢; generalize m (S_cn q 3) = b3 at h1 ⊢
    revert h1 hm
    cases b0 <;> cases b1 <;> cases b2 <;> cases b3 <;> intro h1 hm <;> first | (exact absurd h1 (by decide)) | (exact absurd hm (by decide)) | (simp [ad]; omega) | (simp [ad])
  · rw [show (3 : Int) = 2 + 1 from rfl, F_s_up (by omega), show (2 : Int) = 1 + 1 from rfl, F_s_up (by omega), show (1 : Int) = 0 + 1 from rfl, F_s_up (by omega), F_s_0]
    show T.2.2.2.2 ≤ (F_s1 m q 2 (F_s1 m q 1 (F_s1 m q 0 T))).2.2.2.2 ∧ (F_s1 m q 2 (F_s1 m q 1 (F_s1 m q 0 T))).2.2.2.2 ≤ _
    unfold F_s1
    generalize m (S_cn q 0) = b0 at h1 ⊢; generalize m (S_cn q 1) = b1 at h1 ⊢; generalize m (S_cn q 2) = b2 at h1 ⊢; generalize m (S_cn q 3) = b3 at h1 hm ⊢
    revert h1 hm
    cases b0 <;> cases b1 <;> cases b2 <;> cases b3 <;> intro h1 hm <;> first | (exact absurd h1 (by decide)) | (exact absurd hm (by decide)) | (simp [ad]; omega) | (simp [ad])
theorem S_sd_ne {q s : Int} (hq : 0 ≤ q ∧ q < 36) : ¬ S_sd q s = -1 := by have := @S_sd_b q s hq; omega
theorem F_x_4 {m : BA} {q : Int} {T : LT} (hq : 0 ≤ q ∧ q < 36) (h : ¬ zC (S_xk m q) 4 = 4) : (F_x m q T 4).1 = S_sq m q T := by
  rw [S_xk_N] at h
  have h1 := kN_n _ _ _ _ h
  rw [show (4 : Int) = 3 + 1 from rfl, F_x_up (by omega), show (3 : Int) = 2 + 1 from rfl, F_x_up (by omega), show (2 : Int) = 1 + 1 from rfl, F_x_up (by omega), show (1 : Int) = 0 + 1 from rfl, F_x_up (by omega), F_x_0]
  show (F_x1 m q 3 (F_x1 m q 2 (F_x1 m q 1 (F_x1 m q 0 (T, -1))))).1 = _
  unfold F_x1 S_sq P_e P_a P_b
  show (if (m (S_cn q 3) != m (S_cn q 0)) = true then _ else _ : XT).1 = _
  simp only [show S_xk m q 0 = (m (S_cn q 0) != m (S_cn q 1)) from rfl, show S_xk m q 1 = (m (S_cn q 1) != m (S_cn q 2)) from rfl, show S_xk m q 2 = (m (S_cn q 2) != m (S_cn q 3)) from rfl]
  generalize m (S_cn q 0) = b0 at h1 ⊢; generalize m (S_cn q 1) = b1 at h1 ⊢; generalize m (S_cn q 2) = b2 at h1 ⊢; generalize m (S_cn q 3) = b3 at h1 ⊢
  revert h1
  cases b0 <;> cases b1 <;> cases b2 <;> cases b3 <;> intro h1 <;> first | (exact absurd h1 (by decide)) | (simp [S_sd_ne hq, kE, kS, kA, kB])
theorem F_x_np {m : BA} {q : Int} {T : LT} (hq : 0 ≤ q ∧ q < 36) (h : ¬ zC (S_xk m q) 4 = 4) {i : Int} (hi : 0 ≤ i ∧ i < 4) (hm : S_xk m q i = true) (hf : ¬ (F_x m q T i).2 = -1) : (F_x m q T i).1.2.2.2.2 = T.2.2.2.2 := by
  rw [S_xk_N] at h
  have h1 := kN_n _ _ _ _ h
  rcases z4 hi with e | e | e | e <;> subst e
  · rfl
  · rw [show (1 : Int) = 0 + 1 from rfl, F_x_up (by omega), F_x_0] at hf ⊢
    unfold F_x1 at hf ⊢
    split
    · rfl
    · rfl
  · rw [show (2 : Int) = 1 + 1 from rfl, F_x_up (by omega), show (1 : Int) = 0 + 1 from rfl, F_x_up (by omega), F_x_0] at hf ⊢
    revert hf
    show ¬ (F_x1 m q 1 (F_x1 m q 0 (T, -1))).2 = -1 → (F_x1 m q 1 (F_x1 m q 0 (T, -1))).1.2.2.2.2 = _
    unfold F_x1
    simp only [show S_xk m q 0 = (m (S_cn q 0) != m (S_cn q 1)) from rfl, show S_xk m q 1 = (m (S_cn q 1) != m (S_cn q 2)) from rfl, show S_xk m q 2 = (m (S_cn q 2) != m (S_cn q 3)) from rfl] at hm ⊢
    generalize m (S_cn q 0) = b0 at h1 hm ⊢; generalize m (S_cn q 1) = b1 at h1 hm ⊢; generalize m (S_cn q 2) = b2 at h1 hm ⊢; generalize m (S_cn q 3) = b3 at h1 hm ⊢
    revert h1 hm
    cases b0 <;> cases b1 <;> cases b2 <;> cases b3 <;> intro h1 hm <;> first | (exact absurd h1 (by decide)) | (exact absurd hm (by decide)) | (simp [S_sd_ne hq])
  · rw [show (3 : Int) = 2 + 1 from rfl, F_x_up (by omega), show (2 : Int) = 1 + 1 from rfl, F_x_up (by omega), show (1 : Int) = 0 + 1 from rfl, F_x_up (by omega), F_x_0] at hf ⊢
    revert hf
    show ¬ (F_x1 m q 2 (F_x1 m q 1 (F_x1 m q 0 (T, -1)))).2 = -1 → (F_x1 m q 2 (F_x1 m q 1 (F_x1 m q 0 (T, -1)))).1.2.2.2.2 = _
    unfold F_x1
    simp only [show S_xk m q 0 = (m (S_cn q 0) != m (S_cn q 1)) from rfl, show S_xk m q 1 = (m (S_cn q 1) != m (S_cn q 2)) from rfl, show S_xk m q 2 = (m (S_cn q 2) != m (S_cn q 3)) from rfl, show S_xk m q 3 = (m (S_cn q 3) != m (S_cn q 0)) from rfl] at hm ⊢
    generalize m (S_cn q 0) = b0 at h1 hm ⊢; generalize m (S_cn q 1) = b1 at h1 hm ⊢; generalize m (S_cn q 2) = b2 at h1 hm ⊢; generalize m (S_cn q 3) = b3 at h1 hm ⊢
    revert h1 hm
    cases b0 <;> cases b1 <;> cases b2 <;> cases b3 <;> intro h1 hm <;> first | (exact absurd h1 (by decide)) | (exact absurd hm (by decide)) | (simp [S_sd_ne hq])
theorem S_sq_none {m : BA} {q : Int} {T : LT} (h : zC (S_xk m q) 4 ≤ 0) : S_sq m q T = T := by
  rw [S_xk_N] at h
  unfold S_sq P_e; rw [if_neg (by rw [kN_0 _ _ _ _ h]; decide)]
theorem A_addT_b {T : LT} {a b : Int} (hn : 0 ≤ T.2.2.2.2 ∧ T.2.2.2.2 ≤ 72) (h : ∀ k, 0 ≤ k → k < 84 → -1 ≤ T.2.2.1 k ∧ T.2.2.1 k ≤ 72) : ∀ k, 0 ≤ k → k < 84 → -1 ≤ (A_addT T a b).2.2.1 k ∧ (A_addT T a b).2.2.1 k ≤ 72 := A_fp_b hn (A_fp_b hn h)
theorem LI_b {m : BA} {q : Int} {fe se fp sp : IA} {np : Int} (hq : 0 ≤ q ∧ q ≤ 36) (H : LI m q (fe, se, fp, sp, np)) : (0 ≤ np ∧ np ≤ 2 * q) ∧ ∀ k, 0 ≤ k → k < 84 → -1 ≤ fp k ∧ fp k ≤ 72 := by
  obtain ⟨hJ, hK, -, -⟩ := H
  simp only at hJ hK
  obtain ⟨j0, j1, j2, j3, j4⟩ := hJ
  obtain ⟨k0, k1, -⟩ := hK
  refine ⟨⟨k0, k1⟩, fun k a b => ?_⟩
  have := j2 k a b
  omega
theorem LF_b {m : BA} {fe se fp sp : IA} {np : Int} (H : LF m fe se fp sp np) : (0 ≤ np ∧ np ≤ 72) ∧ (∀ k, 0 ≤ k → k < 84 → -1 ≤ fp k ∧ fp k ≤ 71) ∧ (∀ k, 0 ≤ k → k < 84 → -1 ≤ sp k ∧ sp k ≤ 71) := by
  obtain ⟨f0, f1, f2, f3, f4, f5, f6, f7, f8⟩ := H
  refine ⟨f0, fun k a b => ?_, fun k a b => ?_⟩ <;> have := f2 k a b <;> omega
theorem LF_BD {m : BA} {fe se fp sp : IA} {np : Int} (H : LF m fe se fp sp np) {e : Int} (he : 0 ≤ e ∧ e < 84) : (¬ fp e = -1 ∧ sp e = -1) ↔ S_BD m e := by
  obtain ⟨f0, f1, f2, f3, f4, f5, f6, f7, f8⟩ := H
  have a := f6 e he.1 he.2; have b := f7 e he.1 he.2; have c := E_q_b he
  constructor
  · intro ⟨h1, h2⟩
    refine ⟨a.mp h1, Classical.byContradiction (fun q => b.mpr ⟨a.mp h1, by omega⟩ h2)⟩
  · intro ⟨h1, h2⟩
    refine ⟨a.mpr h1, Classical.byContradiction (fun q => ?_)⟩
    have := (b.mp q).2; omega
theorem GQ_stop {m : BA} {fe se fp sp : IA} {np : Int} {gn0 : BA} {p0 e0 : Int} {gn : BA} {pc ed ln : Int} (Q : GQ m fe se fp sp np gn0 p0 e0 gn pc ed ln) (h : ¬ (0 ≤ pc ∧ pc < np ∧ gn pc = false)) : pc = -1 ∨ gn pc = true := by
  rcases Q.2.2.2.1 with q | ⟨q1, q2, -⟩
  · exact Or.inl q
  · right
    cases hg : gn pc
    · exact absurd ⟨q1, q2, hg⟩ h
    · rfl
theorem GQ_full {m : BA} {fe se fp sp : IA} {np : Int} {gn0 : BA} {p0 e0 : Int} {gn : BA} {pc ed ln : Int} (H : LF m fe se fp sp np) (Q : GQ m fe se fp sp np gn0 p0 e0 gn pc ed ln) (h : ln = 72) : pc = -1 ∨ gn pc = true := by
  have hb := (LF_b H).1
  rcases Q.2.2.2.1 with q | ⟨q1, q2, -⟩
  · exact Or.inl q
  · right
    have h1 := zC_full (P := fun p => gn p && !gn0 p) 72 (by omega) (by rw [← Q.2.2.2.2.1, h]) pc q1 (by omega)
    revert h1; cases gn pc
    · intro h1; exact h1
    · intro _; rfl
theorem GQ_b {m : BA} {fe se fp sp : IA} {np : Int} {gn0 : BA} {p0 e0 : Int} {gn : BA} {pc ed ln : Int} (H : LF m fe se fp sp np) (Q : GQ m fe se fp sp np gn0 p0 e0 gn pc ed ln) : (0 ≤ ed ∧ ed < 84) ∧ (-1 ≤ pc ∧ pc < np) ∧ (0 ≤ ln ∧ ln ≤ 72) := by
  have hb := (LF_b H).1
  refine ⟨Q.1.1, ?_, ?_⟩
  · rcases Q.2.2.2.1 with q | ⟨q1, q2, -⟩ <;> omega
  · rw [Q.2.2.2.2.1]; exact zC_b _ (by omega)
/-! only the points count -/
theorem S_cn_b {q s : Int} (hq : 0 ≤ q ∧ q < 36) : 0 ≤ S_cn q s ∧ S_cn q s < 49 := by unfold S_cn; (repeat' split) <;> omega
theorem S_X_cg {m m' : BA} (h : ∀ k, 0 ≤ k → k < 49 → m k = m' k) {e : Int} (he : 0 ≤ e ∧ e < 84) : S_X m e = S_X m' e := by
  have := E_uv_b he
  unfold S_X; rw [h _ this.1.1 this.1.2, h _ this.2.1 this.2.2]
theorem S_p_cg {m m' : BA} (h : ∀ k, 0 ≤ k → k < 49 → m k = m' k) {i : Int} (hi : 0 ≤ i ∧ i < 72) : S_pe m i = S_pe m' i ∧ S_pa m i = S_pa m' i ∧ S_pb m i = S_pb m' i := by
  have g : ∀ s, m (S_cn (i / 2) s) = m' (S_cn (i / 2) s) := fun s => by have := @S_cn_b (i / 2) s (by omega); exact h _ this.1 this.2
  unfold S_pe S_pa S_pb P_e P_a P_b
  rw [g, g, g, g]; exact ⟨rfl, rfl, rfl⟩
theorem S_J_cg {m m' : BA} (h : ∀ k, 0 ≤ k → k < 49 → m k = m' k) : S_J m = S_J m' := by
  funext e f; unfold S_J
  refine propext ⟨fun ⟨i, a, b, c, d⟩ => ?_, fun ⟨i, a, b, c, d⟩ => ?_⟩
  · obtain ⟨g1, g2, g3⟩ := S_p_cg h ⟨a, b⟩
    rw [g1] at c; rw [g2, g3] at d; exact ⟨i, a, b, c, d⟩
  · obtain ⟨g1, g2, g3⟩ := S_p_cg h ⟨a, b⟩
    rw [← g1] at c; rw [← g2, ← g3] at d; exact ⟨i, a, b, c, d⟩
theorem S_lrep_cg {m m' : BA} (h : ∀ k, 0 ≤ k → k < 49 → m k = m' k) {e : Int} (he : 0 ≤ e ∧ e < 84) : S_lrep m e = S_lrep m' e := by
  unfold S_lrep; rw [S_X_cg h he, S_J_cg h]
  refine cb_congr ⟨fun ⟨a, b⟩ => ⟨a, fun j j0 j1 j2 => b j j0 j1 (by rw [S_X_cg h ⟨j0, by omega⟩]; exact j2)⟩, fun ⟨a, b⟩ => ⟨a, fun j j0 j1 j2 => b j j0 j1 (by rw [← S_X_cg h ⟨j0, by omega⟩]; exact j2)⟩⟩
theorem S_lopen_cg {m m' : BA} (h : ∀ k, 0 ≤ k → k < 49 → m k = m' k) {e : Int} : S_lopen m e ↔ S_lopen m' e := by
  unfold S_lopen; rw [S_J_cg h]
  exact ⟨fun ⟨b, b0, b1, b2, b3⟩ => ⟨b, b0, b1, by rw [← S_X_cg h ⟨b0, b1⟩]; exact b2, b3⟩, fun ⟨b, b0, b1, b2, b3⟩ => ⟨b, b0, b1, by rw [S_X_cg h ⟨b0, b1⟩]; exact b2, b3⟩⟩
theorem S_nlines_cg {m m' : BA} (h : ∀ k, 0 ≤ k → k < 49 → m k = m' k) : S_nlines m = S_nlines m' := zC_congr (by omega) (fun k a b => S_lrep_cg h ⟨a, b⟩)
theorem S_nclosed_cg {m m' : BA} (h : ∀ k, 0 ≤ k → k < 49 → m k = m' k) : S_nclosed m = S_nclosed m' := zC_congr (by omega) (fun k a b => by rw [S_lrep_cg h ⟨a, b⟩, cb_congr (S_lopen_cg h)])
theorem S_psz_cg {m m' : BA} (h : ∀ k, 0 ≤ k → k < 49 → m k = m' k) (e : Int) : S_psz m e = S_psz m' e := zC_congr (by omega) (fun k a b => by
  obtain ⟨g1, g2, g3⟩ := S_p_cg h ⟨a, b⟩
  rw [g1, g2, S_J_cg h])
theorem S_long_cg {m m' : BA} (h : ∀ k, 0 ≤ k → k < 49 → m k = m' k) : S_long m = S_long m' := S_top_congr 84 (by omega) (fun k a b => by rw [S_X_cg h ⟨a, b⟩, S_psz_cg h])
theorem S_ncross_cg {m m' : BA} (h : ∀ k, 0 ≤ k → k < 49 → m k = m' k) : S_ncross m = S_ncross m' := zC_congr (by omega) (fun k a b => S_X_cg h ⟨a, b⟩)
def S_hi (h : IA) (L : Int) : BA := fun k => decide (L < h k)
