/-! LINES AND REGIONS: one line less than regions. Each line has an inner side, seen from point 0; each region but point 0's has one line whose inner side it is. -/
theorem bx_iff {a b c : Bool} : (a != c) = ((a != b) != (b != c)) := by cases a <;> cases b <;> cases c <;> rfl
/-- parity of the first i of a row -/
def xN (f : BA) : Nat → Bool | 0 => false | n + 1 => xN f n != f n
def xS (f : BA) (i : Int) : Bool := xN f i.toNat
theorem xS_up {f : BA} {i : Int} (hi : 0 ≤ i) : xS f (i + 1) = (xS f i != f i) := by
  unfold xS; rw [show (i + 1).toNat = i.toNat + 1 by omega]; show (xN f i.toNat != f (i.toNat : Int)) = _; rw [Int.toNat_of_nonneg hi]
theorem xS_0 (f : BA) : xS f 0 = false := rfl
/-- a marking of edges that is even around each square -/
def Ev (c : BA) : Prop := ∀ q, 0 ≤ q → q < 36 → (((c (S_sd q 0) != c (S_sd q 1)) != c (S_sd q 2)) != c (S_sd q 3)) = false
/-- the side of a point -/
def Si (c : BA) (p : Int) : Bool := xS (fun k => c k) (p % 7) != xS (fun j => c (42 + 7 * j + p % 7)) (p / 7)
theorem Si_0 (c : BA) : Si c 0 = false := rfl
theorem Si_v {c : BA} {p : Int} (hp : 0 ≤ p ∧ p < 42) : Si c (p + 7) = (Si c p != c (42 + p)) := by
  unfold Si
  rw [show (p + 7) % 7 = p % 7 by omega, show (p + 7) / 7 = p / 7 + 1 by omega, xS_up (by omega), show 42 + 7 * (p / 7) + p % 7 = 42 + p by omega]
  generalize xS (fun k => c k) (p % 7) = a; generalize xS (fun j => c (42 + 7 * j + p % 7)) (p / 7) = b; generalize c (42 + p) = d
  cases a <;> cases b <;> cases d <;> rfl
theorem Si_h {c : BA} (hc : Ev c) {w : Int} (hw : 0 ≤ w ∧ w < 6) : ∀ r, 0 ≤ r → r < 7 → Si c (7 * r + w + 1) = (Si c (7 * r + w) != c (6 * r + w)) := by
  refine z_ind (P := fun r => r < 7 → Si c (7 * r + w + 1) = (Si c (7 * r + w) != c (6 * r + w))) (fun _ => ?_) (fun r hr ih h7 => ?_)
  · unfold Si
    rw [show (7 * 0 + w + 1) % 7 = w + 1 by omega, show (7 * 0 + w + 1) / 7 = 0 by omega, show (7 * 0 + w) % 7 = w by omega, show (7 * 0 + w) / 7 = 0 by omega, xS_0, xS_0, xS_up hw.1, show 6 * 0 + w = w by omega]
    generalize xS (fun k => c k) w = a; generalize c w = d; cases a <;> cases d <;> rfl
  · have h1 := ih (by omega)
    have h2 := Si_v (c := c) (p := 7 * r + w) (by omega)
    have h3 := Si_v (c := c) (p := 7 * r + w + 1) (by omega)
    have h4 := hc (6 * r + w) (by omega) (by omega)
    rw [show S_sd (6 * r + w) 0 = 6 * r + w by unfold S_sd; rw [if_pos rfl], show S_sd (6 * r + w) 1 = 42 + (7 * r + w + 1) by unfold S_sd; rw [if_neg (by omega), if_pos rfl]; omega, show S_sd (6 * r + w) 2 = 6 * (r + 1) + w by unfold S_sd; rw [if_neg (by omega), if_neg (by omega), if_pos rfl]; omega, show S_sd (6 * r + w) 3 = 42 + (7 * r + w) by unfold S_sd; rw [if_neg (by omega), if_neg (by omega), if_neg (by omega)]; omega] at h4
    rw [show 7 * (r + 1) + w + 1 = 7 * r + w + 1 + 7 by omega, show 7 * (r + 1) + w = 7 * r + w + 7 by omega, h3, h2, h1]
    revert h4
    generalize c (6 * r + w) = a; generalize c (42 + (7 * r + w + 1)) = b; generalize c (6 * (r + 1) + w) = d; generalize c (42 + (7 * r + w)) = e; generalize Si c (7 * r + w) = f
    cases a <;> cases b <;> cases d <;> cases e <;> cases f <;> decide
/-- across an edge the side changes just where the edge is marked -/
theorem Si_e {c : BA} (hc : Ev c) {e : Int} (he : 0 ≤ e ∧ e < 84) : (Si c (E_u e) != Si c (E_v e)) = c e := by
  unfold E_u E_v
  by_cases h : e < 42
  · rw [if_pos h, if_pos h]
    have h1 := Si_h hc (w := e % 6) (by omega) (e / 6) (by omega) (by omega)
    rw [show 7 * (e / 6) + e % 6 + 1 = e + e / 6 + 1 by omega, show 7 * (e / 6) + e % 6 = e + e / 6 by omega, show 6 * (e / 6) + e % 6 = e by omega] at h1
    rw [h1]; generalize Si c (e + e / 6) = a; generalize c e = b; cases a <;> cases b <;> rfl
  · rw [if_neg h, if_neg h]
    have h1 := Si_v (c := c) (p := e - 42) (by omega)
    rw [show e - 42 + 7 = e - 35 by omega, show 42 + (e - 42) = e by omega] at h1
    rw [h1]; generalize Si c (e - 42) = a; generalize c e = b; cases a <;> cases b <;> rfl
/-- the marking of one line -/
noncomputable def Lm (m : BA) (e0 : Int) : BA := fun e => cb (((0 ≤ e ∧ e < 84) ∧ S_X m e = true) ∧ Cn (S_J m) e0 e)
theorem Lm_J {m : BA} {e0 e f : Int} (h : S_J m e f) : Lm m e0 e = Lm m e0 f := by
  have h1 := S_J_X h
  refine cb_congr ⟨fun z => ⟨h1.2, z.2.st h⟩, fun z => ⟨h1.1, z.2.st (S_J_sy _ _ h)⟩⟩
theorem Lm_X {m : BA} {e0 e : Int} (h : S_X m e = false) : Lm m e0 e = false := cb_f.mpr (fun z => by rw [h] at z; cases z.1.2)
/-- a piece joins the two sides that it cuts -/
theorem P_J {m : BA} {q t : Int} (hq : 0 ≤ q ∧ q < 36) (ht : t = 0 ∨ t = 1) (h : P_e m q t = true) : S_J m (P_a m q t) (P_b m q t) := by
  refine ⟨2 * q + t, by omega, by omega, ?_, Or.inl ⟨?_, ?_⟩⟩
  · unfold S_pe; rw [show (2 * q + t) / 2 = q by omega, show (2 * q + t) % 2 = t by omega]; exact h
  · unfold S_pa; rw [show (2 * q + t) / 2 = q by omega, show (2 * q + t) % 2 = t by omega]
  · unfold S_pb; rw [show (2 * q + t) / 2 = q by omega, show (2 * q + t) % 2 = t by omega]
theorem kEv : ∀ b0 b1 b2 b3 : Bool, ∀ c0 c1 c2 c3 : Bool, ((b0 != b1) = false → c0 = false) → ((b1 != b2) = false → c1 = false) → ((b2 != b3) = false → c2 = false) → ((b3 != b0) = false → c3 = false) →
    (∀ t : Int, t = 0 ∨ t = 1 → kE b0 b1 b2 b3 t = true → (if kA b0 b1 b2 b3 t = 0 then c0 else if kA b0 b1 b2 b3 t = 1 then c1 else if kA b0 b1 b2 b3 t = 2 then c2 else c3) = (if kB b0 b1 b2 b3 t = 0 then c0 else if kB b0 b1 b2 b3 t = 1 then c1 else if kB b0 b1 b2 b3 t = 2 then c2 else c3)) →
    (((c0 != c1) != c2) != c3) = false := by
  intro b0 b1 b2 b3 c0 c1 c2 c3 h0 h1 h2 h3 h
  have g0 := h 0 (Or.inl rfl); have g1 := h 1 (Or.inr rfl)
  clear h
  revert h0 h1 h2 h3 g0 g1
  cases b0 <;> cases b1 <;> cases b2 <;> cases b3 <;> cases c0 <;> cases c1 <;> cases c2 <;> cases c3 <;> decide
theorem Lm_Ev (m : BA) (e0 : Int) : Ev (Lm m e0) := by
  intro q h0 h1
  have hq : 0 ≤ q ∧ q < 36 := ⟨h0, h1⟩
  have hx : ∀ s, 0 ≤ s → s < 4 → P_x m q s = false → Lm m e0 (S_sd q s) = false := fun s a b c => Lm_X (by rw [S_X_sd hq ⟨a, b⟩]; exact c)
  have z : ∀ s : Int, 0 ≤ s → s < 4 → (if s = 0 then Lm m e0 (S_sd q 0) else if s = 1 then Lm m e0 (S_sd q 1) else if s = 2 then Lm m e0 (S_sd q 2) else Lm m e0 (S_sd q 3)) = Lm m e0 (S_sd q s) := fun s a b => by
    rcases z4 ⟨a, b⟩ with e | e | e | e <;> subst e <;> rfl
  refine kEv (m (S_cn q 0)) (m (S_cn q 1)) (m (S_cn q 2)) (m (S_cn q 3)) _ _ _ _ (fun h => hx 0 (by omega) (by omega) h) (fun h => hx 1 (by omega) (by omega) h) (fun h => hx 2 (by omega) (by omega) h) (fun h => hx 3 (by omega) (by omega) h) (fun t ht h => ?_)
  have k := k_ab _ _ _ _ t ht h
  rw [z _ k.1.1 k.1.2, z _ k.2.1.1 k.2.1.2]
  exact Lm_J (P_J hq ht h)
/-! a point's region -/
def Rg (m : BA) (x y : Int) : Prop := (m x = true ∧ Cn (S_rr 4 m) x y) ∨ (m x = false ∧ Cn (S_rr 8 (fun k => !m k)) x y)
theorem Rg_rf {m : BA} {x : Int} : Rg m x x := by
  cases h : m x
  · exact Or.inr ⟨h, Cn.rf⟩
  · exact Or.inl ⟨h, Cn.rf⟩
theorem Rg_m {m : BA} {x y : Int} (h : Rg m x y) : m y = m x := by
  rcases h with ⟨h1, h2⟩ | ⟨h1, h2⟩
  · rw [h1]; exact S_rr_m h1 h2
  · have := S_rr_m (m := fun k => !m k) (by show (!m x) = true; rw [h1]; rfl) h2
    have t : (!m y) = true := this
    rw [h1]; revert t; cases m y <;> simp
theorem Rg_sy {m : BA} {x y : Int} (h : Rg m x y) : Rg m y x := by
  have e := Rg_m h
  rcases h with ⟨h1, h2⟩ | ⟨h1, h2⟩
  · exact Or.inl ⟨e.trans h1, h2.sy (S_rr_sy (Or.inl rfl))⟩
  · exact Or.inr ⟨e.trans h1, h2.sy (S_rr_sy (Or.inr rfl))⟩
theorem Rg_tr {m : BA} {x y z : Int} (h : Rg m x y) (k : Rg m y z) : Rg m x z := by
  have e := Rg_m h
  rcases h with ⟨h1, h2⟩ | ⟨h1, h2⟩
  · rcases k with ⟨k1, k2⟩ | ⟨k1, k2⟩
    · exact Or.inl ⟨h1, h2.tr k2⟩
    · rw [e, h1] at k1; cases k1
  · rcases k with ⟨k1, k2⟩ | ⟨k1, k2⟩
    · rw [e, h1] at k1; cases k1
    · exact Or.inr ⟨h1, h2.tr k2⟩
theorem Rg_b {m : BA} {x y : Int} (hx : 0 ≤ x ∧ x < 49) (h : Rg m x y) : 0 ≤ y ∧ y < 49 := by
  rcases h with ⟨h1, h2⟩ | ⟨h1, h2⟩ <;> exact S_rr_b hx h2
theorem adj48 {x y : Int} (h : S_adj 4 x y) : S_adj 8 x y := ⟨h.1, h.2.1, let ⟨s, a, b, c⟩ := h.2.2; ⟨s, a, by omega, c⟩⟩
/-- neighbours of one colour -/
theorem Rg_4 {m : BA} {x y : Int} (h : S_adj 4 x y) (e : m y = m x) : Rg m x y := by
  cases hx : m x
  · exact Or.inr ⟨hx, Cn.one ⟨adj48 h, by show (!m x) = true; rw [hx]; rfl, by show (!m y) = true; rw [e, hx]; rfl⟩⟩
  · exact Or.inl ⟨hx, Cn.one ⟨h, hx, e.trans hx⟩⟩
theorem Rg_8 {m : BA} {x y : Int} (h : S_adj 8 x y) (hx : m x = false) (hy : m y = false) : Rg m x y :=
  Or.inr ⟨hx, Cn.one ⟨h, by show (!m x) = true; rw [hx]; rfl, by show (!m y) = true; rw [hy]; rfl⟩⟩
theorem E_adj {e : Int} (he : 0 ≤ e ∧ e < 84) : S_adj 4 (E_u e) (E_v e) := by
  have hb := E_uv_b he
  refine ⟨hb.1, hb.2, ?_⟩
  have h4 := S_step_4 hb.1
  unfold E_u E_v at *
  by_cases h : e < 42
  · rw [if_pos h] at h4 ⊢; rw [if_pos h]
    refine ⟨1, by omega, by omega, ?_⟩; rw [h4.2.1, if_neg (by omega)]
  · rw [if_neg h] at h4 ⊢; rw [if_neg h]
    refine ⟨2, by omega, by omega, ?_⟩; rw [h4.2.2.1, if_neg (by omega)]; omega
/-- each neighbouring pair is an edge -/
theorem adj_E {x y : Int} (h : S_adj 4 x y) : ∃ e, (0 ≤ e ∧ e < 84) ∧ ((E_u e = x ∧ E_v e = y) ∨ (E_u e = y ∧ E_v e = x)) := by
  obtain ⟨hx, hy, s, s0, s1, s2⟩ := h
  obtain ⟨a0, a1, a2, a3⟩ := S_step_4 hx
  rcases z4 ⟨s0, s1⟩ with e | e | e | e <;> subst e
  · rw [a0] at s2; split at s2; omega
    refine ⟨42 + y, by omega, Or.inr ⟨?_, ?_⟩⟩ <;> (first | unfold E_u | unfold E_v) <;> rw [if_neg (by omega)] <;> omega
  · rw [a1] at s2; split at s2; omega
    refine ⟨x - x / 7, by omega, Or.inl ⟨?_, ?_⟩⟩ <;> (first | unfold E_u | unfold E_v) <;> rw [if_pos (by omega)] <;> omega
  · rw [a2] at s2; split at s2; omega
    refine ⟨42 + x, by omega, Or.inl ⟨?_, ?_⟩⟩ <;> (first | unfold E_u | unfold E_v) <;> rw [if_neg (by omega)] <;> omega
  · rw [a3] at s2; split at s2; omega
    refine ⟨y - y / 7, by omega, Or.inr ⟨?_, ?_⟩⟩ <;> (first | unfold E_u | unfold E_v) <;> rw [if_pos (by omega)] <;> omega
/-- the true and the false end of an edge -/
def E_t (m : BA) (e : Int) : Int := if m (E_u e) = true then E_u e else E_v e
def E_f (m : BA) (e : Int) : Int := if m (E_u e) = true then E_v e else E_u e
theorem E_tf {m : BA} {e : Int} (h : S_X m e = true) : m (E_t m e) = true ∧ m (E_f m e) = false := by
  unfold S_X at h; unfold E_t E_f
  cases h1 : m (E_u e) <;> rw [h1] at h
  · rw [if_neg (by decide), if_neg (by decide)]; refine ⟨?_, h1⟩; revert h; cases m (E_v e) <;> decide
  · rw [if_pos rfl, if_pos rfl]; refine ⟨h1, ?_⟩; revert h; cases m (E_v e) <;> decide
theorem E_tf_b {m : BA} {e : Int} (he : 0 ≤ e ∧ e < 84) : (0 ≤ E_t m e ∧ E_t m e < 49) ∧ 0 ≤ E_f m e ∧ E_f m e < 49 := by
  have := E_uv_b he; unfold E_t E_f; split <;> omega
theorem E_sd_uv {q s : Int} (hq : 0 ≤ q ∧ q < 36) (hs : 0 ≤ s ∧ s < 4) : (E_u (S_sd q s) = S_cn q s ∧ E_v (S_sd q s) = S_cn q ((s + 1) % 4)) ∨ (E_u (S_sd q s) = S_cn q ((s + 1) % 4) ∧ E_v (S_sd q s) = S_cn q s) := by
  rcases z4 hs with e | e | e | e <;> subst e
  · left
    show E_u q = S_cn q 0 ∧ E_v q = S_cn q 1
    refine ⟨by unfold E_u S_cn; rw [if_pos (by omega), if_pos rfl]; omega, by unfold E_v S_cn; rw [if_pos (by omega), if_neg (by omega), if_pos rfl]⟩
  · left
    show E_u (43 + (q + q / 6)) = S_cn q 1 ∧ E_v (43 + (q + q / 6)) = S_cn q 2
    refine ⟨by unfold E_u S_cn; rw [if_neg (by omega), if_neg (by omega), if_pos rfl]; omega, by unfold E_v S_cn; rw [if_neg (by omega), if_neg (by omega), if_neg (by omega), if_pos rfl]; omega⟩
  · right
    show E_u (q + 6) = S_cn q 3 ∧ E_v (q + 6) = S_cn q 2
    refine ⟨by unfold E_u S_cn; rw [if_pos (by omega), if_neg (by omega), if_neg (by omega), if_neg (by omega)]; omega, by unfold E_v S_cn; rw [if_pos (by omega), if_neg (by omega), if_neg (by omega), if_pos rfl]; omega⟩
  · right
    show E_u (42 + (q + q / 6)) = S_cn q 0 ∧ E_v (42 + (q + q / 6)) = S_cn q 3
    refine ⟨by unfold E_u S_cn; rw [if_neg (by omega), if_pos rfl]; omega, by unfold E_v S_cn; rw [if_neg (by omega), if_neg (by omega), if_neg (by omega), if_neg (by omega)]; omega⟩
theorem cn4 {q i : Int} (hq : 0 ≤ q ∧ q < 36) (hi : 0 ≤ i ∧ i < 4) : S_adj 4 (S_cn q i) (S_cn q ((i + 1) % 4)) := by
  have h := E_adj (S_sd_b (s := i) hq)
  rcases E_sd_uv hq hi with ⟨h1, h2⟩ | ⟨h1, h2⟩ <;> rw [h1, h2] at h
  · exact h
  · exact S_adj_sy (Or.inl rfl) h
theorem cn_d {q : Int} (hq : 0 ≤ q ∧ q < 36) : S_adj 8 (S_cn q 0) (S_cn q 2) ∧ S_adj 8 (S_cn q 1) (S_cn q 3) := by
  have e0 : S_cn q 0 = q + q / 6 := by unfold S_cn; rw [if_pos rfl]; omega
  have e1 : S_cn q 1 = q + q / 6 + 1 := by unfold S_cn; rw [if_neg (by omega), if_pos rfl]
  have e2 : S_cn q 2 = q + q / 6 + 8 := by unfold S_cn; rw [if_neg (by omega), if_neg (by omega), if_pos rfl]
  have e3 : S_cn q 3 = q + q / 6 + 7 := by unfold S_cn; rw [if_neg (by omega), if_neg (by omega), if_neg (by omega)]
  refine ⟨⟨S_cn_b hq, S_cn_b hq, 5, by omega, by omega, ?_⟩, S_cn_b hq, S_cn_b hq, 6, by omega, by omega, ?_⟩
  · have h := (S_step_8 (p := S_cn q 0) (S_cn_b hq)).2.1
    rw [h, e0, e2, if_neg (by omega)]
  · have h := (S_step_8 (p := S_cn q 1) (S_cn_b hq)).2.2.1
    rw [h, e1, e3, if_neg (by omega)]; omega
theorem cn8 {q i j : Int} (hq : 0 ≤ q ∧ q < 36) (hi : 0 ≤ i ∧ i < 4) (hj : 0 ≤ j ∧ j < 4) (hij : i ≠ j) : S_adj 8 (S_cn q i) (S_cn q j) := by
  have a : ∀ k, 0 ≤ k → k < 4 → S_adj 8 (S_cn q k) (S_cn q ((k + 1) % 4)) := fun k h1 h2 => adj48 (cn4 hq ⟨h1, h2⟩)
  have a0 : S_adj 8 (S_cn q 0) (S_cn q 1) := a 0 (by omega) (by omega)
  have a1 : S_adj 8 (S_cn q 1) (S_cn q 2) := a 1 (by omega) (by omega)
  have a2 : S_adj 8 (S_cn q 2) (S_cn q 3) := a 2 (by omega) (by omega)
  have a3 : S_adj 8 (S_cn q 3) (S_cn q 0) := a 3 (by omega) (by omega)
  have d := cn_d hq
  have sy : ∀ {x y}, S_adj 8 x y → S_adj 8 y x := fun h => S_adj_sy (Or.inr rfl) h
  rcases z4 hi with e | e | e | e <;> subst e <;> rcases z4 hj with e | e | e | e <;> subst e <;> first | exact absurd rfl hij | assumption | exact sy (by assumption) | exact d.1 | exact d.2 | exact sy d.1 | exact sy d.2
/-- diagonals of false corners: no line between -/
theorem kDgA : ∀ b0 b1 b2 b3 : Bool, ∀ c0 c1 c2 c3 : Bool, ((b0 != b1) = false → c0 = false) → ((b1 != b2) = false → c1 = false) → ((b2 != b3) = false → c2 = false) → ((b3 != b0) = false → c3 = false) →
    (∀ t : Int, t = 0 ∨ t = 1 → kE b0 b1 b2 b3 t = true → (if kA b0 b1 b2 b3 t = 0 then c0 else if kA b0 b1 b2 b3 t = 1 then c1 else if kA b0 b1 b2 b3 t = 2 then c2 else c3) = (if kB b0 b1 b2 b3 t = 0 then c0 else if kB b0 b1 b2 b3 t = 1 then c1 else if kB b0 b1 b2 b3 t = 2 then c2 else c3)) →
    ((b0 || b2) || (c0 == c1)) = true := by
  intro b0 b1 b2 b3 c0 c1 c2 c3 h0 h1 h2 h3 h
  have g0 := h 0 (Or.inl rfl); have g1 := h 1 (Or.inr rfl)
  clear h
  revert h0 h1 h2 h3 g0 g1
  cases b0 <;> cases b1 <;> cases b2 <;> cases b3 <;> cases c0 <;> cases c1 <;> cases c2 <;> cases c3 <;> decide
theorem kDgB : ∀ b0 b1 b2 b3 : Bool, ∀ c0 c1 c2 c3 : Bool, ((b0 != b1) = false → c0 = false) → ((b1 != b2) = false → c1 = false) → ((b2 != b3) = false → c2 = false) → ((b3 != b0) = false → c3 = false) →
    (∀ t : Int, t = 0 ∨ t = 1 → kE b0 b1 b2 b3 t = true → (if kA b0 b1 b2 b3 t = 0 then c0 else if kA b0 b1 b2 b3 t = 1 then c1 else if kA b0 b1 b2 b3 t = 2 then c2 else c3) = (if kB b0 b1 b2 b3 t = 0 then c0 else if kB b0 b1 b2 b3 t = 1 then c1 else if kB b0 b1 b2 b3 t = 2 then c2 else c3)) →
    ((b1 || b3) || (c1 == c2)) = true := by
  intro b0 b1 b2 b3 c0 c1 c2 c3 h0 h1 h2 h3 h
  have g0 := h 0 (Or.inl rfl); have g1 := h 1 (Or.inr rfl)
  clear h
  revert h0 h1 h2 h3 g0 g1
  cases b0 <;> cases b1 <;> cases b2 <;> cases b3 <;> cases c0 <;> cases c1 <;> cases c2 <;> cases c3 <;> decide
theorem kDg (b0 b1 b2 b3 c0 c1 c2 c3 : Bool) (h0 : (b0 != b1) = false → c0 = false) (h1 : (b1 != b2) = false → c1 = false) (h2 : (b2 != b3) = false → c2 = false) (h3 : (b3 != b0) = false → c3 = false)
    (h : ∀ t : Int, t = 0 ∨ t = 1 → kE b0 b1 b2 b3 t = true → (if kA b0 b1 b2 b3 t = 0 then c0 else if kA b0 b1 b2 b3 t = 1 then c1 else if kA b0 b1 b2 b3 t = 2 then c2 else c3) = (if kB b0 b1 b2 b3 t = 0 then c0 else if kB b0 b1 b2 b3 t = 1 then c1 else if kB b0 b1 b2 b3 t = 2 then c2 else c3)) :
    (b0 = false ∧ b2 = false → c0 = c1) ∧ (b1 = false ∧ b3 = false → c1 = c2) := by
  have k1 := kDgA b0 b1 b2 b3 c0 c1 c2 c3 h0 h1 h2 h3 h
  have k2 := kDgB b0 b1 b2 b3 c0 c1 c2 c3 h0 h1 h2 h3 h
  refine ⟨fun q => ?_, fun q => ?_⟩
  · rw [q.1, q.2, Bool.false_or, Bool.false_or] at k1; exact beq_iff_eq.mp k1
  · rw [q.1, q.2, Bool.false_or, Bool.false_or] at k2; exact beq_iff_eq.mp k2
theorem Lm_Dg (m : BA) (e0 : Int) {q : Int} (hq : 0 ≤ q ∧ q < 36) : (m (S_cn q 0) = false ∧ m (S_cn q 2) = false → Lm m e0 (S_sd q 0) = Lm m e0 (S_sd q 1)) ∧ (m (S_cn q 1) = false ∧ m (S_cn q 3) = false → Lm m e0 (S_sd q 1) = Lm m e0 (S_sd q 2)) := by
  have hx : ∀ s, 0 ≤ s → s < 4 → P_x m q s = false → Lm m e0 (S_sd q s) = false := fun s a b c => Lm_X (by rw [S_X_sd hq ⟨a, b⟩]; exact c)
  have z : ∀ s : Int, 0 ≤ s → s < 4 → (if s = 0 then Lm m e0 (S_sd q 0) else if s = 1 then Lm m e0 (S_sd q 1) else if s = 2 then Lm m e0 (S_sd q 2) else Lm m e0 (S_sd q 3)) = Lm m e0 (S_sd q s) := fun s a b => by
    rcases z4 ⟨a, b⟩ with e | e | e | e <;> subst e <;> rfl
  refine kDg (m (S_cn q 0)) (m (S_cn q 1)) (m (S_cn q 2)) (m (S_cn q 3)) _ _ _ (Lm m e0 (S_sd q 3)) (fun h => hx 0 (by omega) (by omega) h) (fun h => hx 1 (by omega) (by omega) h) (fun h => hx 2 (by omega) (by omega) h) (fun h => hx 3 (by omega) (by omega) h) (fun t ht h => ?_)
  have k := k_ab _ _ _ _ t ht h
  rw [z _ k.1.1 k.1.2, z _ k.2.1.1 k.2.1.2]
  exact Lm_J (P_J hq ht h)
theorem Si_sd {c : BA} (hc : Ev c) {q s : Int} (hq : 0 ≤ q ∧ q < 36) (hs : 0 ≤ s ∧ s < 4) : (Si c (S_cn q s) != Si c (S_cn q ((s + 1) % 4))) = c (S_sd q s) := by
  rw [← Si_e hc (S_sd_b hq)]
  rcases E_sd_uv hq hs with ⟨h1, h2⟩ | ⟨h1, h2⟩ <;> rw [h1, h2]
  exact bne_comm
theorem bne_ff {a b : Bool} (h : (a != b) = false) : a = b := by revert h; cases a <;> cases b <;> decide
theorem bne_tt {a b : Bool} (h : (a != b) = true) : a ≠ b := by revert h; cases a <;> cases b <;> decide
theorem Si_4 {m : BA} {e0 x y : Int} (h : S_adj 4 x y) (e : m y = m x) : Si (Lm m e0) x = Si (Lm m e0) y := by
  obtain ⟨f, hf, hd⟩ := adj_E h
  have h1 := Si_e (Lm_Ev m e0) hf
  have h2 : S_X m f = false := by
    unfold S_X; rcases hd with ⟨d1, d2⟩ | ⟨d1, d2⟩ <;> rw [d1, d2, e] <;> exact bne_self_eq_false _
  rw [Lm_X h2] at h1
  have h3 := bne_ff h1
  rcases hd with ⟨d1, d2⟩ | ⟨d1, d2⟩ <;> rw [d1, d2] at h3
  · exact h3
  · exact h3.symm
theorem Si_d {m : BA} {e0 q : Int} (hq : 0 ≤ q ∧ q < 36) : (m (S_cn q 0) = false ∧ m (S_cn q 2) = false → Si (Lm m e0) (S_cn q 0) = Si (Lm m e0) (S_cn q 2)) ∧ (m (S_cn q 1) = false ∧ m (S_cn q 3) = false → Si (Lm m e0) (S_cn q 1) = Si (Lm m e0) (S_cn q 3)) := by
  have h0 := Si_sd (Lm_Ev m e0) (s := 0) hq (by omega)
  have h1 := Si_sd (Lm_Ev m e0) (s := 1) hq (by omega)
  have h2 := Si_sd (Lm_Ev m e0) (s := 2) hq (by omega)
  rw [show ((0 : Int) + 1) % 4 = 1 from rfl] at h0
  rw [show ((1 : Int) + 1) % 4 = 2 from rfl] at h1
  rw [show ((2 : Int) + 1) % 4 = 3 from rfl] at h2
  have hd := Lm_Dg m e0 hq
  refine ⟨fun h => ?_, fun h => ?_⟩
  · have h3 := hd.1 h; rw [← h0, ← h1] at h3; revert h3
    generalize Si (Lm m e0) (S_cn q 0) = a; generalize Si (Lm m e0) (S_cn q 1) = b; generalize Si (Lm m e0) (S_cn q 2) = c
    cases a <;> cases b <;> cases c <;> decide
  · have h3 := hd.2 h; rw [← h1, ← h2] at h3; revert h3
    generalize Si (Lm m e0) (S_cn q 1) = a; generalize Si (Lm m e0) (S_cn q 2) = b; generalize Si (Lm m e0) (S_cn q 3) = c
    cases a <;> cases b <;> cases c <;> decide
/-- the squares of diagonals -/
theorem adj8_sq {x y : Int} (h : S_adj 8 x y) : S_adj 4 x y ∨ ∃ q, (0 ≤ q ∧ q < 36) ∧ ((x = S_cn q 0 ∧ y = S_cn q 2) ∨ (x = S_cn q 2 ∧ y = S_cn q 0) ∨ (x = S_cn q 1 ∧ y = S_cn q 3) ∨ (x = S_cn q 3 ∧ y = S_cn q 1)) := by
  obtain ⟨hx, hy, s, s0, s1, s2⟩ := h
  obtain ⟨a0, a1, a2, a3⟩ := S_step_8 hx
  have e0 : ∀ q, S_cn q 0 = q + q / 6 := fun q => by unfold S_cn; rw [if_pos rfl]; omega
  have e1 : ∀ q, S_cn q 1 = q + q / 6 + 1 := fun q => by unfold S_cn; rw [if_neg (by omega), if_pos rfl]
  have e2 : ∀ q, S_cn q 2 = q + q / 6 + 8 := fun q => by unfold S_cn; rw [if_neg (by omega), if_neg (by omega), if_pos rfl]
  have e3 : ∀ q, S_cn q 3 = q + q / 6 + 7 := fun q => by unfold S_cn; rw [if_neg (by omega), if_neg (by omega), if_neg (by omega)]
  rcases z8 ⟨s0, s1⟩ with e | e | e | e | e
  · exact Or.inl ⟨hx, hy, s, e.1, e.2, s2⟩
  · subst e; rw [a0] at s2; split at s2; omega
    refine Or.inr ⟨(x - 7) - (x - 7) / 7, by omega, Or.inr (Or.inr (Or.inr ⟨?_, ?_⟩))⟩
    · rw [e3]; omega
    · rw [e1]; omega
  · subst e; rw [a1] at s2; split at s2; omega
    refine Or.inr ⟨x - x / 7, by omega, Or.inl ⟨?_, ?_⟩⟩
    · rw [e0]; omega
    · rw [e2]; omega
  · subst e; rw [a2] at s2; split at s2; omega
    refine Or.inr ⟨(x - 1) - (x - 1) / 7, by omega, Or.inr (Or.inr (Or.inl ⟨?_, ?_⟩))⟩
    · rw [e1]; omega
    · rw [e3]; omega
  · subst e; rw [a3] at s2; split at s2; omega
    refine Or.inr ⟨y - y / 7, by omega, Or.inr (Or.inl ⟨?_, ?_⟩)⟩
    · rw [e2]; omega
    · rw [e0]; omega
theorem Si_8 {m : BA} {e0 x y : Int} (h : S_adj 8 x y) (hx : m x = false) (hy : m y = false) : Si (Lm m e0) x = Si (Lm m e0) y := by
  rcases adj8_sq h with h4 | ⟨q, hq, hd⟩
  · exact Si_4 h4 (hy.trans hx.symm)
  · have hs := Si_d (m := m) (e0 := e0) hq
    rcases hd with ⟨d1, d2⟩ | ⟨d1, d2⟩ | ⟨d1, d2⟩ | ⟨d1, d2⟩ <;> rw [d1, d2] <;> rw [d1] at hx <;> rw [d2] at hy
    · exact hs.1 ⟨hx, hy⟩
    · exact (hs.1 ⟨hy, hx⟩).symm
    · exact hs.2 ⟨hx, hy⟩
    · exact (hs.2 ⟨hy, hx⟩).symm
theorem Si_R {m : BA} {e0 x y : Int} (h : Rg m x y) : Si (Lm m e0) x = Si (Lm m e0) y := by
  rcases h with ⟨h1, h2⟩ | ⟨h1, h2⟩
  · exact h2 (fun z => Si (Lm m e0) x = Si (Lm m e0) z) rfl (fun a b ha hr => ha.trans (Si_4 hr.1 (hr.2.2.trans hr.2.1.symm)))
  · refine h2 (fun z => Si (Lm m e0) x = Si (Lm m e0) z) rfl (fun a b ha hr => ha.trans (Si_8 hr.1 ?_ ?_))
    · have t : (!m a) = true := hr.2.1
      revert t; cases m a <;> decide
    · have t : (!m b) = true := hr.2.2
      revert t; cases m b <;> decide
/-! along a line: its true ends are of one region, its false ends too -/
def kC (b0 b1 b2 b3 : Bool) (i : Int) : Bool := if i = 0 then b0 else if i = 1 then b1 else if i = 2 then b2 else b3
def kT (b0 b1 b2 b3 : Bool) (s : Int) : Int := if kC b0 b1 b2 b3 s = true then s else (s + 1) % 4
def kF (b0 b1 b2 b3 : Bool) (s : Int) : Int := if kC b0 b1 b2 b3 s = true then (s + 1) % 4 else s
theorem kTT : ∀ b0 b1 b2 b3 : Bool, ∀ t : Int, t = 0 ∨ t = 1 → kE b0 b1 b2 b3 t = true →
    kT b0 b1 b2 b3 (kA b0 b1 b2 b3 t) = kT b0 b1 b2 b3 (kB b0 b1 b2 b3 t) ∨ kT b0 b1 b2 b3 (kB b0 b1 b2 b3 t) = (kT b0 b1 b2 b3 (kA b0 b1 b2 b3 t) + 1) % 4 ∨ kT b0 b1 b2 b3 (kA b0 b1 b2 b3 t) = (kT b0 b1 b2 b3 (kB b0 b1 b2 b3 t) + 1) % 4 ∨
    (kC b0 b1 b2 b3 ((kT b0 b1 b2 b3 (kA b0 b1 b2 b3 t) + 1) % 4) = true ∧ kT b0 b1 b2 b3 (kB b0 b1 b2 b3 t) = ((kT b0 b1 b2 b3 (kA b0 b1 b2 b3 t) + 1) % 4 + 1) % 4) ∨
    (kC b0 b1 b2 b3 ((kT b0 b1 b2 b3 (kB b0 b1 b2 b3 t) + 1) % 4) = true ∧ kT b0 b1 b2 b3 (kA b0 b1 b2 b3 t) = ((kT b0 b1 b2 b3 (kB b0 b1 b2 b3 t) + 1) % 4 + 1) % 4) := by
  intro b0 b1 b2 b3 t ht; rcases ht with e | e <;> subst e <;> cases b0 <;> cases b1 <;> cases b2 <;> cases b3 <;> decide
theorem kC_m (m : BA) (q : Int) {i : Int} (hi : 0 ≤ i ∧ i < 4) : kC (m (S_cn q 0)) (m (S_cn q 1)) (m (S_cn q 2)) (m (S_cn q 3)) i = m (S_cn q i) := by
  rcases z4 hi with e | e | e | e <;> subst e <;> rfl
theorem E_t_sd {m : BA} {q s : Int} (hq : 0 ≤ q ∧ q < 36) (hs : 0 ≤ s ∧ s < 4) (h : S_X m (S_sd q s) = true) :
    E_t m (S_sd q s) = S_cn q (kT (m (S_cn q 0)) (m (S_cn q 1)) (m (S_cn q 2)) (m (S_cn q 3)) s) ∧ E_f m (S_sd q s) = S_cn q (kF (m (S_cn q 0)) (m (S_cn q 1)) (m (S_cn q 2)) (m (S_cn q 3)) s) := by
  unfold S_X at h; unfold E_t E_f kT kF; rw [kC_m m q hs]
  rcases E_sd_uv hq hs with ⟨h1, h2⟩ | ⟨h1, h2⟩ <;> rw [h1, h2] at h ⊢
  · split <;> exact ⟨rfl, rfl⟩
  · cases ha : m (S_cn q s) <;> cases hb : m (S_cn q ((s + 1) % 4)) <;> rw [ha, hb] at h
    · cases h
    · exact ⟨rfl, rfl⟩
    · exact ⟨rfl, rfl⟩
    · cases h
theorem kT_b (b0 b1 b2 b3 : Bool) {s : Int} (hs : 0 ≤ s ∧ s < 4) : (0 ≤ kT b0 b1 b2 b3 s ∧ kT b0 b1 b2 b3 s < 4) ∧ 0 ≤ kF b0 b1 b2 b3 s ∧ kF b0 b1 b2 b3 s < 4 := by
  unfold kT kF; split <;> omega
theorem Rg_J {m : BA} {e f : Int} (h : S_J m e f) : Rg m (E_t m e) (E_t m f) ∧ Rg m (E_f m e) (E_f m f) := by
  obtain ⟨i, i0, i1, hp, hd⟩ := h
  have hX := S_p_X ⟨i0, i1⟩ hp
  have main : Rg m (E_t m (S_pa m i)) (E_t m (S_pb m i)) ∧ Rg m (E_f m (S_pa m i)) (E_f m (S_pb m i)) := by
    have hq : 0 ≤ i / 2 ∧ i / 2 < 36 := by omega
    have ht : i % 2 = 0 ∨ i % 2 = 1 := by omega
    have k := k_ab _ _ _ _ _ ht hp
    have ta := E_tf hX.2.2.2.1; have tb := E_tf hX.2.2.2.2
    have sa := E_t_sd hq k.1 hX.2.2.2.1; have sb := E_t_sd hq k.2.1 hX.2.2.2.2
    have kk := kTT _ _ _ _ _ ht hp
    have ba := kT_b (m (S_cn (i / 2) 0)) (m (S_cn (i / 2) 1)) (m (S_cn (i / 2) 2)) (m (S_cn (i / 2) 3)) k.1
    have bb := kT_b (m (S_cn (i / 2) 0)) (m (S_cn (i / 2) 1)) (m (S_cn (i / 2) 2)) (m (S_cn (i / 2) 3)) k.2.1
    change E_t m (S_pa m i) = _ ∧ E_f m (S_pa m i) = _ at sa
    change E_t m (S_pb m i) = _ ∧ E_f m (S_pb m i) = _ at sb
    rw [sa.1, sa.2] at ta; rw [sb.1, sb.2] at tb
    rw [sa.1, sa.2, sb.1, sb.2]
    revert kk ba bb ta tb
    generalize kT (m (S_cn (i / 2) 0)) (m (S_cn (i / 2) 1)) (m (S_cn (i / 2) 2)) (m (S_cn (i / 2) 3)) (kA (m (S_cn (i / 2) 0)) (m (S_cn (i / 2) 1)) (m (S_cn (i / 2) 2)) (m (S_cn (i / 2) 3)) (i % 2)) = a
    generalize kT (m (S_cn (i / 2) 0)) (m (S_cn (i / 2) 1)) (m (S_cn (i / 2) 2)) (m (S_cn (i / 2) 3)) (kB (m (S_cn (i / 2) 0)) (m (S_cn (i / 2) 1)) (m (S_cn (i / 2) 2)) (m (S_cn (i / 2) 3)) (i % 2)) = b
    generalize kF (m (S_cn (i / 2) 0)) (m (S_cn (i / 2) 1)) (m (S_cn (i / 2) 2)) (m (S_cn (i / 2) 3)) (kA (m (S_cn (i / 2) 0)) (m (S_cn (i / 2) 1)) (m (S_cn (i / 2) 2)) (m (S_cn (i / 2) 3)) (i % 2)) = a'
    generalize kF (m (S_cn (i / 2) 0)) (m (S_cn (i / 2) 1)) (m (S_cn (i / 2) 2)) (m (S_cn (i / 2) 3)) (kB (m (S_cn (i / 2) 0)) (m (S_cn (i / 2) 1)) (m (S_cn (i / 2) 2)) (m (S_cn (i / 2) 3)) (i % 2)) = b'
    intro ta tb kk ba bb
    refine ⟨?_, ?_⟩
    · rcases kk with e | e | e | ⟨e1, e2⟩ | ⟨e1, e2⟩
      · rw [e]; exact Rg_rf
      · rw [e] at tb ⊢; exact Rg_4 (cn4 hq ba.1) (tb.1.trans ta.1.symm)
      · rw [e] at ta ⊢; exact Rg_sy (Rg_4 (cn4 hq bb.1) (ta.1.trans tb.1.symm))
      · rw [kC_m m _ (by omega)] at e1
        rw [e2] at tb ⊢
        exact Rg_tr (Rg_4 (cn4 hq ba.1) (e1.trans ta.1.symm)) (Rg_4 (cn4 hq (by omega)) (tb.1.trans e1.symm))
      · rw [kC_m m _ (by omega)] at e1
        rw [e2] at ta ⊢
        exact Rg_sy (Rg_tr (Rg_4 (cn4 hq bb.1) (e1.trans tb.1.symm)) (Rg_4 (cn4 hq (by omega)) (ta.1.trans e1.symm)))
    · by_cases e : a' = b'
      · rw [e]; exact Rg_rf
      · exact Rg_8 (cn8 hq ba.2 bb.2 e) ta.2 tb.2
  rcases hd with ⟨d1, d2⟩ | ⟨d1, d2⟩ <;> rw [← d1, ← d2]
  · exact main
  · exact ⟨Rg_sy main.1, Rg_sy main.2⟩
theorem Rg_C {m : BA} {e f : Int} (h : Cn (S_J m) e f) : Rg m (E_t m e) (E_t m f) ∧ Rg m (E_f m e) (E_f m f) :=
  h (fun z => Rg m (E_t m e) (E_t m z) ∧ Rg m (E_f m e) (E_f m z)) ⟨Rg_rf, Rg_rf⟩ (fun _ _ ha hr => ⟨Rg_tr ha.1 (Rg_J hr).1, Rg_tr ha.2 (Rg_J hr).2⟩)
/-! inner and outer ends -/
noncomputable def Ein (m : BA) (e0 e : Int) : Int := if Si (Lm m e0) (E_t m e) = true then E_t m e else E_f m e
noncomputable def Eou (m : BA) (e0 e : Int) : Int := if Si (Lm m e0) (E_t m e) = true then E_f m e else E_t m e
def Xb (m : BA) (e : Int) : Prop := (0 ≤ e ∧ e < 84) ∧ S_X m e = true
theorem Lm_t {m : BA} {e0 e : Int} (h : Xb m e) (hc : Cn (S_J m) e0 e) : Lm m e0 e = true := cb_iff.mpr ⟨h, hc⟩
theorem E_tf_or {m : BA} {e : Int} : (E_t m e = E_u e ∧ E_f m e = E_v e) ∨ (E_t m e = E_v e ∧ E_f m e = E_u e) := by
  unfold E_t E_f; split
  · exact Or.inl ⟨rfl, rfl⟩
  · exact Or.inr ⟨rfl, rfl⟩
theorem Si_tf {m : BA} {e0 e : Int} (he : 0 ≤ e ∧ e < 84) : (Si (Lm m e0) (E_t m e) != Si (Lm m e0) (E_f m e)) = Lm m e0 e := by
  rw [← Si_e (Lm_Ev m e0) he]
  rcases E_tf_or (m := m) (e := e) with ⟨h1, h2⟩ | ⟨h1, h2⟩ <;> rw [h1, h2]
  exact bne_comm
theorem Ein_s {m : BA} {e0 e : Int} (h : Xb m e) (hc : Cn (S_J m) e0 e) : Si (Lm m e0) (Ein m e0 e) = true ∧ Si (Lm m e0) (Eou m e0 e) = false := by
  have h1 := Si_tf (m := m) (e0 := e0) h.1
  rw [Lm_t h hc] at h1
  unfold Ein Eou
  cases h2 : Si (Lm m e0) (E_t m e) <;> rw [h2] at h1
  · rw [if_neg (by decide), if_neg (by decide)]; refine ⟨?_, h2⟩; revert h1; cases Si (Lm m e0) (E_f m e) <;> decide
  · rw [if_pos rfl, if_pos rfl]; refine ⟨h2, ?_⟩; revert h1; cases Si (Lm m e0) (E_f m e) <;> decide
/-- the ends of an edge of the line: of the inner or of the outer region -/
theorem Ein_R {m : BA} {e0 e : Int} (h0 : Xb m e0) (h : Xb m e) (hc : Cn (S_J m) e0 e) : Rg m (Ein m e0 e0) (Ein m e0 e) ∧ Rg m (Eou m e0 e0) (Eou m e0 e) := by
  have hr := Rg_C hc
  have hs := Si_R (e0 := e0) hr.1
  unfold Ein Eou; rw [← hs]
  split
  · exact ⟨hr.1, hr.2⟩
  · exact ⟨hr.2, hr.1⟩
theorem Ein_or {m : BA} {e0 e x y : Int} (hd : (E_u e = x ∧ E_v e = y) ∨ (E_u e = y ∧ E_v e = x)) : (Ein m e0 e = x ∧ Eou m e0 e = y) ∨ (Ein m e0 e = y ∧ Eou m e0 e = x) := by
  unfold Ein Eou
  rcases E_tf_or (m := m) (e := e) with ⟨h1, h2⟩ | ⟨h1, h2⟩ <;> rw [h1, h2] <;> rcases hd with ⟨d1, d2⟩ | ⟨d1, d2⟩ <;> rw [d1, d2] <;> split
  all_goals first | exact Or.inl ⟨rfl, rfl⟩ | exact Or.inr ⟨rfl, rfl⟩
theorem Lm_eq {m : BA} {e f : Int} (h : Cn (S_J m) e f) : Lm m e = Lm m f := by
  funext k; exact cb_congr ⟨fun z => ⟨z.1, (h.sy S_J_sy).tr z.2⟩, fun z => ⟨z.1, h.tr z.2⟩⟩
theorem Ein_eq {m : BA} {e f k : Int} (h : Cn (S_J m) e f) : Ein m e k = Ein m f k := by unfold Ein; rw [Lm_eq h]
/-- all points are reached -/
theorem all_4 : ∀ n, 0 ≤ n → ∀ p, 0 ≤ p → p < n → p < 49 → Cn (S_adj 4) 0 p := by
  refine z_ind (fun p a b _ => by omega) (fun n hn ih p a b c => ?_)
  by_cases e : p < n
  · exact ih p a e c
  · by_cases e0 : p = 0
    · rw [e0]; exact Cn.rf
    · by_cases e7 : p % 7 = 0
      · refine (ih (p - 7) (by omega) (by omega) (by omega)).st ⟨by omega, by omega, 2, by omega, by omega, ?_⟩
        rw [(S_step_4 (p := p - 7) (by omega)).2.2.1, if_neg (by omega)]; omega
      · refine (ih (p - 1) (by omega) (by omega) (by omega)).st ⟨by omega, by omega, 1, by omega, by omega, ?_⟩
        rw [(S_step_4 (p := p - 1) (by omega)).2.1, if_neg (by omega)]; omega
theorem two_in {m : BA} {e0 e1 : Int} (h0 : Xb m e0) (h1 : Xb m e1) (hr : Rg m (Ein m e0 e0) (Ein m e1 e1)) : Cn (S_J m) e0 e1 := by
  refine Classical.byContradiction (fun hn => ?_)
  have s0 := Ein_s h0 (Cn.rf (r := S_J m)); have s1 := Ein_s h1 (Cn.rf (r := S_J m))
  have c1 : Lm m e0 e1 = false := cb_f.mpr (fun z => hn z.2)
  have d0 : Lm m e1 e0 = false := cb_f.mpr (fun z => hn (z.2.sy S_J_sy))
  have t1 : Si (Lm m e0) (Ein m e1 e1) = true := (Si_R hr).symm.trans s0.1
  have u0 : Si (Lm m e1) (Ein m e0 e0) = true := (Si_R hr).trans s1.1
  -- both ends of e1 lie on the inner side of e0, both ends of e0 on the inner side of e1
  have t2 : Si (Lm m e0) (E_t m e1) = true ∧ Si (Lm m e0) (E_f m e1) = true := by
    have h := Si_tf (m := m) (e0 := e0) h1.1
    rw [c1] at h; have h := bne_ff h
    unfold Ein at t1; split at t1
    · exact ⟨t1, h.symm.trans t1⟩
    · exact ⟨h.trans t1, t1⟩
  have u2 : Si (Lm m e1) (Eou m e0 e0) = true := by
    have h := Si_tf (m := m) (e0 := e1) h0.1
    rw [d0] at h; have h := bne_ff h
    unfold Ein at u0; unfold Eou; split at u0
    · next q => rw [if_pos q]; exact h.symm.trans u0
    · next q => rw [if_neg q]; exact h.trans u0
  have key : ∀ x, Cn (S_adj 4) 0 x → (Si (Lm m e0) x = false → Si (Lm m e1) x = false) ∧ (Si (Lm m e0) x = true → Si (Lm m e1) (Eou m e0 e0) = false) := fun x hx => by
    refine hx (fun x => (Si (Lm m e0) x = false → Si (Lm m e1) x = false) ∧ (Si (Lm m e0) x = true → Si (Lm m e1) (Eou m e0 e0) = false)) ⟨fun _ => Si_0 _, fun h => (by rw [Si_0] at h; cases h)⟩ (fun x y ih hxy => ?_)
    obtain ⟨f, hf, hd⟩ := adj_E hxy
    have hcf := Si_e (Lm_Ev m e0) hf
    have hdf := Si_e (Lm_Ev m e1) hf
    have hcf : (Si (Lm m e0) x != Si (Lm m e0) y) = Lm m e0 f := by
      rcases hd with ⟨d1, d2⟩ | ⟨d1, d2⟩ <;> rw [d1, d2] at hcf
      · exact hcf
      · rw [← hcf]; exact bne_comm
    have hdf : (Si (Lm m e1) x != Si (Lm m e1) y) = Lm m e1 f := by
      rcases hd with ⟨d1, d2⟩ | ⟨d1, d2⟩ <;> rw [d1, d2] at hdf
      · exact hdf
      · rw [← hdf]; exact bne_comm
    cases hc : Lm m e0 f
    · rw [hc] at hcf; have hcf := bne_ff hcf
      refine ⟨fun hy => ?_, fun hy => ih.2 (hcf.trans hy)⟩
      have hx0 := hcf.trans hy
      cases hdd : Lm m e1 f
      · rw [hdd] at hdf; exact (bne_ff hdf).symm.trans (ih.1 hx0)
      · exfalso
        have hl := cb_iff.mp hdd
        have hrc := Rg_C hl.2
        have q1 := (Si_R (e0 := e0) hrc.1).symm.trans t2.1
        have q2 := (Si_R (e0 := e0) hrc.2).symm.trans t2.2
        have q3 : Si (Lm m e0) x = true := by
          rcases E_tf_or (m := m) (e := f) with ⟨g1, g2⟩ | ⟨g1, g2⟩ <;> rw [g1] at q1 <;> rw [g2] at q2 <;> rcases hd with ⟨d1, d2⟩ | ⟨d1, d2⟩ <;> rw [← d1] at * <;> first | exact q1 | exact q2 | (rw [← d2]; first | exact q1 | exact q2)
        rw [hx0] at q3; cases q3
    · have hl := cb_iff.mp hc
      have hin := Ein_s (e0 := e0) hl.1 hl.2
      have hrr := (Ein_R h0 hl.1 hl.2).2
      have hso := Si_R (e0 := e1) hrr
      rcases Ein_or (m := m) (e0 := e0) hd with ⟨g1, g2⟩ | ⟨g1, g2⟩ <;> rw [g1, g2] at hin <;> rw [g2] at hso
      · -- x inner, y outer
        exact ⟨fun _ => hso.symm.trans (ih.2 hin.1), fun hy => (by rw [hin.2] at hy; cases hy)⟩
      · exact ⟨fun hy => (by rw [hin.1] at hy; cases hy), fun _ => hso.trans (ih.1 hin.2)⟩
  have hb := E_tf_b (m := m) h0.1
  have hbi : 0 ≤ Ein m e0 e0 ∧ Ein m e0 e0 < 49 := by unfold Ein; split; exact hb.1; exact hb.2
  have := (key _ (all_4 49 (by omega) _ hbi.1 hbi.2 hbi.2)).2 s0.1
  rw [u2] at this; cases this
theorem one_in {m : BA} {x : Int} (hx : 0 ≤ x ∧ x < 49) (hn : ¬ Rg m 0 x) : ∃ e, Xb m e ∧ Rg m (Ein m e e) x := by
  -- what is reached from 0 without x's region
  have hex : ∃ y z, Cn (fun a b => S_adj 4 a b ∧ ¬ Rg m x b) 0 y ∧ S_adj 4 y z ∧ Rg m x z := Classical.byContradiction (fun hno => by
    have h := all_4 49 (by omega) x hx.1 hx.2 hx.2
    have : Cn (fun a b => S_adj 4 a b ∧ ¬ Rg m x b) 0 x := h (fun z => Cn (fun a b => S_adj 4 a b ∧ ¬ Rg m x b) 0 z) Cn.rf (fun a b ha hab => by
      by_cases q : Rg m x b
      · exact absurd ⟨a, b, ha, hab, q⟩ hno
      · exact ha.st ⟨hab, q⟩)
    have h2 : ¬ Rg m x x := this (fun z => ¬ Rg m x z) (fun q => hn (Rg_sy q)) (fun _ _ _ hr => hr.2)
    exact h2 Rg_rf)
  obtain ⟨y, z, hy, hyz, hz⟩ := hex
  have hny : ¬ Rg m x y := hy (fun z => ¬ Rg m x z) (fun q => hn (Rg_sy q)) (fun _ _ _ hr => hr.2)
  obtain ⟨e, he, hd⟩ := adj_E hyz
  have hX : Xb m e := ⟨he, by
    cases hq : S_X m e
    · exfalso
      unfold S_X at hq
      have hm : m z = m y := by rcases hd with ⟨d1, d2⟩ | ⟨d1, d2⟩ <;> rw [d1, d2] at hq <;> have := bne_ff hq <;> first | exact this | exact this.symm
      exact hny (Rg_tr hz (Rg_sy (Rg_4 hyz hm)))
    · rfl⟩
  refine ⟨e, hX, ?_⟩
  have hS : Si (Lm m e) y = false := hy (fun w => Si (Lm m e) w = false ∧ ¬ Rg m x w) ⟨Si_0 _, fun q => hn (Rg_sy q)⟩ (fun a b ha hab => by
    refine ⟨?_, hab.2⟩
    obtain ⟨f, hf, hdf⟩ := adj_E hab.1
    have hcf := Si_e (Lm_Ev m e) hf
    cases hc : Lm m e f
    · rw [hc] at hcf; have hcf := bne_ff hcf
      rcases hdf with ⟨d1, d2⟩ | ⟨d1, d2⟩ <;> rw [d1, d2] at hcf
      · exact hcf.symm.trans ha.1
      · exact hcf.trans ha.1
    · exfalso
      have hl := cb_iff.mp hc
      have hr := Rg_C hl.2
      -- z is an end of e, so one end of f is in x's region
      have hzz : Rg m x (E_t m f) ∨ Rg m x (E_f m f) := by
        have : z = E_t m e ∨ z = E_f m e := by
          rcases E_tf_or (m := m) (e := e) with ⟨g1, g2⟩ | ⟨g1, g2⟩ <;> rw [g1, g2] <;> rcases hd with ⟨d1, d2⟩ | ⟨d1, d2⟩ <;> rw [d1, d2] <;> first | exact Or.inl rfl | exact Or.inr rfl
        rcases this with e1 | e1 <;> rw [e1] at hz
        · exact Or.inl (Rg_tr hz hr.1)
        · exact Or.inr (Rg_tr hz hr.2)
      have hab2 : Rg m x a ∨ Rg m x b := by
        rcases E_tf_or (m := m) (e := f) with ⟨g1, g2⟩ | ⟨g1, g2⟩ <;> rw [g1, g2] at hzz <;> rcases hdf with ⟨d1, d2⟩ | ⟨d1, d2⟩ <;> rw [d1, d2] at hzz <;> first | exact hzz | exact hzz.symm
      exact hab2.elim ha.2 hab.2) |>.1
  have hin := Ein_s (e0 := e) hX (Cn.rf (r := S_J m))
  rcases Ein_or (m := m) (e0 := e) hd with ⟨g1, g2⟩ | ⟨g1, g2⟩
  · rw [g1, hS] at hin; cases hin.1
  · rw [g1]; exact Rg_sy hz
/-! counting -/
theorem least {P : Int → Prop} : ∀ n, 0 ≤ n → (∃ k, 0 ≤ k ∧ k < n ∧ P k) → ∃ k, 0 ≤ k ∧ k < n ∧ P k ∧ ∀ j, 0 ≤ j → j < k → ¬ P j := by
  refine z_ind (fun ⟨k, a, b, _⟩ => by omega) (fun n hn ih ⟨k, a, b, c⟩ => ?_)
  by_cases h : ∃ k, 0 ≤ k ∧ k < n ∧ P k
  · obtain ⟨k, k0, k1, k2, k3⟩ := ih h
    exact ⟨k, k0, by omega, k2, k3⟩
  · have e : k = n := by by_cases q : k < n; exact absurd ⟨k, a, q, c⟩ h; omega
    exact ⟨k, a, b, c, fun j j0 j1 j2 => h ⟨j, j0, by omega, j2⟩⟩
noncomputable def rep (m : BA) : BA := fun k => cb (∀ j, 0 ≤ j → j < k → ¬ Rg m j k)
noncomputable def rep0 (m : BA) : BA := fun k => rep m k && decide (k ≠ 0)
theorem rep_split (m : BA) : zC (rep m) 49 = S_comps 4 m + S_comps 8 (fun k => !m k) := by
  unfold S_comps zC
  rw [← zS_add 49 (by omega)]
  refine zS_congr 49 (by omega) (fun k h0 h1 => ?_)
  show z1 (rep m k) = z1 (cb (m k = true ∧ ∀ j, 0 ≤ j → j < k → m j = true → ¬ Cn (S_rr 4 m) j k)) + z1 (cb ((fun k => !m k) k = true ∧ ∀ j, 0 ≤ j → j < k → (fun k => !m k) j = true → ¬ Cn (S_rr 8 (fun k => !m k)) j k))
  rcases Bool.eq_false_or_eq_true (m k) with hm | hm
  case inr =>
    have e1 : cb (m k = true ∧ ∀ j, 0 ≤ j → j < k → m j = true → ¬ Cn (S_rr 4 m) j k) = false := cb_f.mpr (fun z => by have z1 := z.1; rw [hm] at z1; cases z1)
    rw [e1]
    have e2 : rep m k = cb ((fun k => !m k) k = true ∧ ∀ j, 0 ≤ j → j < k → (fun k => !m k) j = true → ¬ Cn (S_rr 8 (fun k => !m k)) j k) := by
      refine cb_congr ⟨fun h => ⟨?_, fun j j0 j1 j2 j3 => h j j0 j1 (Or.inr ⟨?_, j3⟩)⟩, fun h j j0 j1 j2 => ?_⟩
      · show (!m k) = true; rw [hm]; rfl
      · have j4 : (!m j) = true := j2
        revert j4; cases m j <;> simp
      · have e := Rg_m j2
        rcases j2 with ⟨j2, j3⟩ | ⟨j2, j3⟩
        · rw [hm, j2] at e; cases e
        · exact h.2 j j0 j1 (by show (!m j) = true; rw [j2]; rfl) j3
    rw [e2, show z1 false = 0 from rfl, Int.zero_add]
  case inl =>
    have e1 : cb ((fun k => !m k) k = true ∧ ∀ j, 0 ≤ j → j < k → (fun k => !m k) j = true → ¬ Cn (S_rr 8 (fun k => !m k)) j k) = false := cb_f.mpr (fun z => by have z1 : (!m k) = true := z.1; rw [hm] at z1; cases z1)
    rw [e1]
    have e2 : rep m k = cb (m k = true ∧ ∀ j, 0 ≤ j → j < k → m j = true → ¬ Cn (S_rr 4 m) j k) := by
      refine cb_congr ⟨fun h => ⟨hm, fun j j0 j1 j2 j3 => h j j0 j1 (Or.inl ⟨j2, j3⟩)⟩, fun h j j0 j1 j2 => ?_⟩
      have e := Rg_m j2
      rcases j2 with ⟨j2, j3⟩ | ⟨j2, j3⟩
      · exact h.2 j j0 j1 j2 j3
      · rw [hm, j2] at e; cases e
    rw [e2, show z1 false = 0 from rfl, Int.add_zero]
theorem rep_0 (m : BA) : zC (rep m) 49 = zC (rep0 m) 49 + 1 := zC_ins (a := 0) (by omega) (by unfold rep0; simp) (fun k h0 h1 => by
  unfold rep0
  by_cases e : k = 0
  · rw [decide_eq_true e, Bool.or_true, e]; exact cb_iff.mpr (fun j a b => by omega)
  · rw [decide_eq_false e, Bool.or_false, decide_eq_true e, Bool.and_true])
theorem S_lrep_iff {m : BA} {e : Int} : S_lrep m e = true ↔ S_X m e = true ∧ ∀ j, 0 ≤ j → j < e → S_X m j = true → ¬ Cn (S_J m) j e := cb_iff
theorem Euler (m : BA) : S_nlines m = S_comps 4 m + S_comps 8 (fun k => !m k) - 1 := by
  have h1 : zC (rep0 m) 49 ≤ zC (S_lrep m) 84 := by
    refine zC_rel (R := fun k e => Xb m e ∧ Rg m (Ein m e e) k) 49 (by omega) _ _ 84 (by omega) (fun a a0 a1 pa => ?_) (fun a a' b a0 a1 a0' a1' pa pa' b0 b1 r1 r2 => ?_)
    · unfold rep0 at pa
      have pa1 : rep m a = true := by revert pa; cases rep m a <;> simp
      have pa2 : a ≠ 0 := by
        intro e; rw [decide_eq_false (show ¬ a ≠ 0 from fun q => q e), Bool.and_false] at pa; cases pa
      have hr := cb_iff.mp pa1
      obtain ⟨e, he, hre⟩ := one_in ⟨a0, a1⟩ (hr 0 (by omega) (by omega))
      obtain ⟨f, f0, f1, ⟨f2, f3⟩, f4⟩ := least (P := fun j => S_X m j = true ∧ Cn (S_J m) j e) 84 (by omega) ⟨e, he.1.1, he.1.2, he.2, Cn.rf⟩
      have hf : Xb m f := ⟨⟨f0, f1⟩, f2⟩
      refine ⟨f, f0, f1, S_lrep_iff.mpr ⟨f2, fun j j0 j1 j2 j3 => f4 j j0 j1 ⟨j2, j3.tr f3⟩⟩, hf, ?_⟩
      have := (Ein_R hf he f3).1
      rw [Ein_eq f3 (k := e)] at this
      exact Rg_tr this hre
    · have hr := Rg_tr (Rg_sy r1.2) r2.2
      unfold rep0 at pa pa'
      have p1 : rep m a = true := by revert pa; cases rep m a <;> simp
      have p2 : rep m a' = true := by revert pa'; cases rep m a' <;> simp
      have q1 := cb_iff.mp p1; have q2 := cb_iff.mp p2
      rcases Int.lt_trichotomy a a' with c | c | c
      · exact absurd hr (q2 a a0 c)
      · exact c
      · exact absurd (Rg_sy hr) (q1 a' a0' c)
  have h2 : zC (S_lrep m) 84 ≤ zC (rep0 m) 49 := by
    refine zC_rel (R := fun e k => Xb m e ∧ Rg m (Ein m e e) k) 84 (by omega) _ _ 49 (by omega) (fun a a0 a1 pa => ?_) (fun a a' b a0 a1 a0' a1' pa pa' b0 b1 r1 r2 => ?_)
    · have hl := S_lrep_iff.mp pa
      have hX : Xb m a := ⟨⟨a0, a1⟩, hl.1⟩
      have hb := E_tf_b (m := m) hX.1
      have hbi : 0 ≤ Ein m a a ∧ Ein m a a < 49 := by unfold Ein; split; exact hb.1; exact hb.2
      obtain ⟨k, k0, k1, k2, k3⟩ := least (P := fun j => Rg m j (Ein m a a)) 49 (by omega) ⟨_, hbi.1, hbi.2, Rg_rf⟩
      refine ⟨k, k0, k1, ?_, hX, Rg_sy k2⟩
      have e0 : k ≠ 0 := fun e => by
        rw [e] at k2
        have := (Si_R (e0 := a) k2).trans (Ein_s hX (Cn.rf (r := S_J m))).1
        rw [Si_0] at this; cases this
      unfold rep0; rw [decide_eq_true e0, Bool.and_true]
      exact cb_iff.mpr (fun j j0 j1 j2 => k3 j j0 j1 (Rg_tr j2 k2))
    · have hr := Rg_tr r1.2 (Rg_sy r2.2)
      have hc := two_in r1.1 r2.1 hr
      have q1 := S_lrep_iff.mp pa; have q2 := S_lrep_iff.mp pa'
      rcases Int.lt_trichotomy a a' with c | c | c
      · exact absurd hc (q2.2 a a0 c q1.1)
      · exact c
      · exact absurd (hc.sy S_J_sy) (q1.2 a' a0' c q2.1)
  have h3 := rep_split m; have h4 := rep_0 m
  unfold S_nlines; omega
