/-! LINES: what the class keeps, and going along -/
def LF (m : BA) (fe se fp sp : IA) (np : Int) : Prop := (0 ≤ np ∧ np ≤ 72) ∧
  (∀ p, 0 ≤ p → p < np → (0 ≤ fe p ∧ fe p < 84) ∧ (0 ≤ se p ∧ se p < 84) ∧ fe p ≠ se p) ∧
  (∀ e, 0 ≤ e → e < 84 → (-1 ≤ fp e ∧ fp e < np) ∧ (-1 ≤ sp e ∧ sp e < np) ∧ (fp e = -1 → sp e = -1) ∧ (fp e = sp e → fp e = -1)) ∧
  (∀ e p, 0 ≤ e → e < 84 → 0 ≤ p → p < np → ((fe p = e ∨ se p = e) ↔ (p = fp e ∨ p = sp e))) ∧
  (∀ e f, S_J m e f ↔ ∃ p, 0 ≤ p ∧ p < np ∧ ((fe p = e ∧ se p = f) ∨ (fe p = f ∧ se p = e))) ∧
  (∀ F : BA, zC (fun p => F (fe p)) np = zC (fun i => S_pe m i && F (S_pa m i)) 72) ∧
  (∀ e, 0 ≤ e → e < 84 → (fp e ≠ -1 ↔ S_X m e = true)) ∧
  (∀ e, 0 ≤ e → e < 84 → (sp e ≠ -1 ↔ S_X m e = true ∧ E_q2 e < 36)) ∧
  zC (fun e => decide (fp e ≠ -1)) 84 + zC (fun e => decide (sp e ≠ -1)) 84 = 2 * np
theorem LF_of {m : BA} {fe se fp sp : IA} {np : Int} (H : LI m 36 (fe, se, fp, sp, np)) : LF m fe se fp sp np := by
  obtain ⟨hJ, hK, hF, hS⟩ := H
  simp only at hJ hK hF hS
  obtain ⟨j0, j1, j2, j3, j4⟩ := hJ
  obtain ⟨k0, k1, k2, k3, k4⟩ := hK
  refine ⟨⟨k0, by omega⟩, j1, j2, j3, ?_, k4, ?_, hS, j4⟩
  · intro e f
    constructor
    · intro ⟨i, i0, i1, i2, i3⟩
      obtain ⟨p, p0, p1, p2, p3⟩ := k3 i i0 (by omega) i2
      refine ⟨p, p0, p1, ?_⟩
      rw [p2, p3]; exact i3
    · intro ⟨p, p0, p1, p2⟩
      obtain ⟨i, i0, i1, i2, i3, i4⟩ := k2 p p0 p1
      refine ⟨i, i0, by omega, i2, ?_⟩
      rw [← i3, ← i4]; exact p2
  · intro e e0 e1; rw [hF e e0 e1]; exact ⟨fun h => h.1, fun h => ⟨h, by have := E_q_b ⟨e0, e1⟩; omega⟩⟩
def Vg (gn gn0 : BA) (p : Int) : Bool := decide (0 ≤ p) && (gn p && !gn0 p)
theorem Vg_iff {gn gn0 : BA} {p : Int} : Vg gn gn0 p = true ↔ 0 ≤ p ∧ gn p = true ∧ gn0 p = false := by
  unfold Vg
  by_cases q : 0 ≤ p
  · rw [decide_eq_true q]; cases gn p <;> cases gn0 p <;> simp [q]
  · rw [decide_eq_false q]; simp [q]
theorem Vg_0 {gn : BA} {p : Int} : Vg gn gn p = false := by unfold Vg; cases gn p <;> cases decide (0 ≤ p) <;> rfl
def oth (f s : IA) (p e : Int) : Int := if f p = e then s p else f p
theorem bx4 {A B C D : Prop} [Decidable A] [Decidable B] [Decidable C] [Decidable D] (h1 : (A ∨ B) ↔ (C ∨ D)) (h2 : ¬ (A ∧ B)) (h3 : ¬ (C ∧ D)) : (decide A != decide B) = (decide C != decide D) := by
  by_cases a : A <;> by_cases b : B <;> by_cases c : C <;> by_cases d : D <;> simp_all
theorem bx7 : ∀ a b c d x y z : Bool, (a != b) = (x != y) → (c != d) = (y != z) → ((a != c) != (b != d)) = (x != z) := by decide
def GQ (m : BA) (fe se fp sp : IA) (np : Int) (gn0 : BA) (p0 e0 : Int) (gn : BA) (pc ed ln : Int) : Prop :=
  ((0 ≤ ed ∧ ed < 84) ∧ Cn (S_J m) e0 ed) ∧
  (∀ p, 0 ≤ p → p < 72 → gn0 p = true → gn p = true) ∧
  (∀ p, 0 ≤ p → p < 72 → gn p = true → gn0 p = false → p < np ∧ Cn (S_J m) e0 (fe p)) ∧
  (pc = -1 ∨ (0 ≤ pc ∧ pc < np ∧ (fe pc = ed ∨ se pc = ed))) ∧
  ln = zC (fun p => gn p && !gn0 p) 72 ∧
  (∀ e, 0 ≤ e → e < 84 → (Vg gn gn0 (fp e) != Vg gn gn0 (sp e)) = (decide (e = e0) != decide (e = ed))) ∧
  ((gn p0 = false ∧ pc = p0 ∧ ed = e0) ∨ (Vg gn gn0 p0 = true ∧ ∃ pv, Vg gn gn0 pv = true ∧ pv < np ∧ ((fp ed = pv ∧ sp ed = pc) ∨ (sp ed = pv ∧ fp ed = pc))))
theorem GQ_0 {m : BA} {fe se fp sp : IA} {np : Int} {gn : BA} {p0 e0 : Int} (hp : 0 ≤ p0 ∧ p0 < np) (he : 0 ≤ e0 ∧ e0 < 84) (hi : fe p0 = e0 ∨ se p0 = e0) (h0 : gn p0 = false) : GQ m fe se fp sp np gn p0 e0 gn p0 e0 0 := by
  refine ⟨⟨he, Cn.rf⟩, fun _ _ _ h => h, fun p _ _ a b => (by rw [a] at b; cases b), Or.inr ⟨hp.1, hp.2, hi⟩, ?_, fun e _ _ => ?_, Or.inl ⟨h0, rfl, rfl⟩⟩
  · exact (zC_zero 72 (by omega) (fun k _ _ => by cases gn k <;> rfl)).symm
  · rw [Vg_0, Vg_0]; cases decide (e = e0) <;> rfl
theorem GQ_step {m : BA} {fe se fp sp : IA} {np : Int} {gn0 : BA} {p0 e0 : Int} {gn : BA} {pc ed ln : Int} (H : LF m fe se fp sp np) (Q : GQ m fe se fp sp np gn0 p0 e0 gn pc ed ln) (hpc : 0 ≤ pc) (h : gn pc = false) :
    GQ m fe se fp sp np gn0 p0 e0 (bu gn pc true) (oth fp sp (oth fe se pc ed) pc) (oth fe se pc ed) (ln + 1) ∧ (0 ≤ oth fe se pc ed ∧ oth fe se pc ed < 84) ∧ (-1 ≤ oth fp sp (oth fe se pc ed) pc ∧ oth fp sp (oth fe se pc ed) pc < np) := by
  obtain ⟨⟨q1, q2⟩, q3, q4, q5, q6, q7, q8⟩ := Q
  obtain ⟨f0, f1, f2, f3, f4, f5, f6, f7, f8⟩ := H
  have q5' : pc < np ∧ (fe pc = ed ∨ se pc = ed) := by
    rcases q5 with q5 | q5
    · omega
    · exact q5.2
  have hp := f1 pc hpc q5'.1
  generalize hed : oth fe se pc ed = ed'
  have ho : (fe pc = ed ∧ se pc = ed') ∨ (se pc = ed ∧ fe pc = ed') := by
    unfold oth at hed
    by_cases q : fe pc = ed
    · rw [if_pos q] at hed; exact Or.inl ⟨q, hed⟩
    · rw [if_neg q] at hed; exact Or.inr ⟨q5'.2.resolve_left q, hed⟩
  have hr' : 0 ≤ ed' ∧ ed' < 84 := by rcases ho with z | z <;> omega
  have hne : ed ≠ ed' := by rcases ho with z | z <;> omega
  have hJ : S_J m ed ed' := (f4 _ _).mpr ⟨pc, hpc, q5'.1, by
    rcases ho with z | z
    · exact Or.inl z
    · exact Or.inr ⟨z.2, z.1⟩⟩
  have hg0 : gn0 pc = false := by
    cases hx : gn0 pc
    · rfl
    · rw [q3 pc hpc (by omega) hx] at h; cases h
  have hin : ∀ e, 0 ≤ e → e < 84 → (decide (fp e = pc) != decide (sp e = pc)) = (decide (e = ed) != decide (e = ed')) := fun e a0 a1 => by
    have a := f3 e pc a0 a1 hpc q5'.1
    have b := f2 e a0 a1
    refine bx4 ?_ ?_ ?_
    · constructor
      · intro z
        have z2 := a.mpr (by rcases z with z | z; exact Or.inl z.symm; exact Or.inr z.symm)
        clear a; omega
      · intro z
        have z2 := a.mp (by clear a; omega)
        rcases z2 with z2 | z2
        · exact Or.inl z2.symm
        · exact Or.inr z2.symm
    · clear a; omega
    · clear a; omega
  have hV : ∀ x, Vg (bu gn pc true) gn0 x = (Vg gn gn0 x != decide (x = pc)) := fun x => by
    unfold Vg
    by_cases e : x = pc
    · subst e; rw [bu_s, h, hg0, decide_eq_true hpc, decide_eq_true rfl]; rfl
    · rw [bu_n e, decide_eq_false e]; cases (decide (0 ≤ x) && (gn x && !gn0 x)) <;> rfl
  have hVp : Vg (bu gn pc true) gn0 pc = true := Vg_iff.mpr ⟨hpc, bu_s, hg0⟩
  have hVm : ∀ x, Vg gn gn0 x = true → Vg (bu gn pc true) gn0 x = true := fun x z => by
    have z1 := Vg_iff.mp z
    refine Vg_iff.mpr ⟨z1.1, ?_, z1.2.2⟩
    by_cases e : x = pc
    · rw [e]; exact bu_s
    · rw [bu_n e]; exact z1.2.1
  generalize hpb : oth fp sp ed' pc = pb
  have ha := (f3 ed' pc hr'.1 hr'.2 hpc q5'.1).mp (by rcases ho with z | z; exact Or.inr z.2; exact Or.inl z.2)
  have ho2 : (fp ed' = pc ∧ sp ed' = pb) ∨ (sp ed' = pc ∧ fp ed' = pb) := by
    unfold oth at hpb
    by_cases q : fp ed' = pc
    · rw [if_pos q] at hpb; exact Or.inl ⟨q, hpb⟩
    · rw [if_neg q] at hpb; exact Or.inr ⟨(ha.resolve_left (fun z => q z.symm)).symm, hpb⟩
  have hb2 := f2 ed' hr'.1 hr'.2
  have hpr : -1 ≤ pb ∧ pb < np := by rcases ho2 with z | z <;> omega
  refine ⟨⟨⟨hr', q2.st hJ⟩, ?_, ?_, ?_, ?_, ?_, Or.inr ⟨?_, pc, hVp, q5'.1, ho2⟩⟩, hr', hpr⟩
  · intro p a b c
    by_cases e : p = pc
    · rw [e]; exact bu_s
    · rw [bu_n e]; exact q3 p a b c
  · intro p a b c d
    by_cases e : p = pc
    · subst e
      refine ⟨q5'.1, ?_⟩
      rcases ho with z | z
      · rw [z.1]; exact q2
      · rw [z.2]; exact q2.st hJ
    · rw [bu_n e] at c; exact q4 p a b c d
  · by_cases e : pb = -1
    · exact Or.inl e
    · refine Or.inr ⟨by omega, hpr.2, ?_⟩
      exact (f3 ed' pb hr'.1 hr'.2 (by omega) hpr.2).mpr (by rcases ho2 with z | z; exact Or.inr z.2.symm; exact Or.inl z.2.symm)
  · rw [q6]
    refine (zC_ins (P := fun p => gn p && !gn0 p) ⟨hpc, by omega⟩ (by show (gn pc && !gn0 pc) = false; rw [h]; rfl) (fun k _ _ => ?_)).symm
    show (bu gn pc true k && !gn0 k) = ((gn k && !gn0 k) || decide (k = pc))
    by_cases e : k = pc
    · rw [e, bu_s, hg0, decide_eq_true rfl, Bool.or_true]; rfl
    · rw [bu_n e, decide_eq_false e, Bool.or_false]
  · intro e a0 a1
    rw [hV, hV]
    exact bx7 _ _ _ _ _ _ _ (q7 e a0 a1) (hin e a0 a1)
  · rcases q8 with z | z
    · rw [← z.2.1]; exact hVp
    · exact hVm _ z.1
theorem zC_cut {P : BA} {n : Int} (hn : 0 ≤ n) : ∀ d, 0 ≤ d → (∀ k, n ≤ k → k < n + d → P k = false) → zC P (n + d) = zC P n := by
  refine z_ind (fun _ => by rw [Int.add_zero]) (fun i hi ih h => ?_)
  rw [show n + (i + 1) = (n + i) + 1 by omega, zC_up (by omega), ih (fun k a b => h k a (by omega)), z1_f (h (n + i) (by omega) (by omega))]; omega
theorem bx2 : ∀ a b : Bool, (true != false) = (a != b) → a = !b := by decide
theorem GQ_end {m : BA} {fe se fp sp : IA} {np : Int} {gn0 : BA} {p0 e0 : Int} {gn : BA} {pc ed ln : Int} (H : LF m fe se fp sp np) (Q : GQ m fe se fp sp np gn0 p0 e0 gn pc ed ln) (hp0 : 0 ≤ p0 ∧ p0 < np) (he0 : 0 ≤ e0 ∧ e0 < 84) (hi : fe p0 = e0 ∨ se p0 = e0)
    (hc : ∀ p q, 0 ≤ p → p < np → 0 ≤ q → q < np → gn0 p = true → Cn (S_J m) (fe p) (fe q) → gn0 q = true)
    (hb : E_q2 e0 = 36 ∨ ∀ b, 0 ≤ b → b < 84 → S_X m b = true → Cn (S_J m) e0 b → E_q2 b ≠ 36) (hs : pc = -1 ∨ gn pc = true) :
    (∀ p, 0 ≤ p → p < np → (gn p = true ↔ gn0 p = true ∨ Cn (S_J m) e0 (fe p))) ∧ ln = S_psz m e0 := by
  obtain ⟨⟨q1, q2⟩, q3, q4, q5, q6, q7, q8⟩ := Q
  obtain ⟨f0, f1, f2, f3, f4, f5, f6, f7, f8⟩ := H
  have pJ : ∀ p, 0 ≤ p → p < np → S_J m (fe p) (se p) := fun p a b => (f4 _ _).mpr ⟨p, a, b, Or.inl ⟨rfl, rfl⟩⟩
  -- an end of a piece is connected to its first edge
  have pe : ∀ p e, 0 ≤ p → p < np → (fe p = e ∨ se p = e) → Cn (S_J m) e (fe p) := fun p e a b c => by
    rcases c with c | c
    · rw [c]; exact Cn.rf
    · rw [← c]; exact Cn.one (S_J_sy _ _ (pJ p a b))
  rcases q8 with ⟨z1, z2, z3⟩ | ⟨v0, pv, v1, v2, v3⟩
  · rcases hs with hs | hs
    · omega
    · rw [z2, z1] at hs; cases hs
  have v1' := Vg_iff.mp v1
  have hev : ∀ e, 0 ≤ e → e < 84 → sp e = -1 ∨ Vg gn gn0 (fp e) = Vg gn gn0 (sp e) := by
    have bd := f2 ed q1.1 q1.2
    by_cases hm1 : pc = -1
    · have e1 : fp ed = pv ∧ sp ed = -1 := by rcases v3 with z | z <;> omega
      have n1 : Vg gn gn0 (-1) = false := by unfold Vg; rfl
      have t := q7 ed q1.1 q1.2
      rw [e1.1, e1.2, v1, n1, decide_eq_true (rfl : ed = ed)] at t
      have t1 := bx2 _ _ t
      have hne : ¬ ed = e0 := of_decide_eq_false (by rw [t1]; rfl)
      have x1 := (f6 ed q1.1 q1.2).mp (by omega)
      have x2 : E_q2 ed = 36 := by
        have y1 := E_q_b q1
        have y2 := f7 ed q1.1 q1.2
        by_cases y3 : E_q2 ed < 36
        · exact absurd e1.2 (y2.mpr ⟨x1, y3⟩)
        · clear y2; omega
      have b0 : E_q2 e0 = 36 := by
        rcases hb with hb | hb
        · exact hb
        · exact absurd x2 (hb ed q1.1 q1.2 x1 q2)
      intro e a0 a1
      by_cases r1 : e = ed
      · rw [r1]; exact Or.inl e1.2
      by_cases r2 : e = e0
      · left
        refine Classical.byContradiction (fun y => ?_)
        have := ((f7 e a0 a1).mp y).2
        rw [r2] at this; omega
      · right
        have t := q7 e a0 a1
        rw [decide_eq_false r1, decide_eq_false r2] at t
        revert t; cases Vg gn gn0 (fp e) <;> cases Vg gn gn0 (sp e) <;> decide
    · have hg : gn pc = true := hs.resolve_left hm1
      obtain ⟨y1, y2, y3⟩ := q5.resolve_left hm1
      have vpc : Vg gn gn0 pc = true := by
        refine Vg_iff.mpr ⟨y1, hg, ?_⟩
        cases hx : gn0 pc
        · rfl
        · have k1 := pe pc ed y1 y2 y3
          have k2 := pe pv ed v1'.1 v2 ((f3 ed pv q1.1 q1.2 v1'.1 v2).mpr (by rcases v3 with z | z; exact Or.inl z.1.symm; exact Or.inr z.1.symm))
          have := hc pc pv y1 y2 v1'.1 v2 hx ((k1.sy S_J_sy).tr k2)
          rw [v1'.2.2] at this; cases this
      have t := q7 ed q1.1 q1.2
      have t2 : (Vg gn gn0 (fp ed) != Vg gn gn0 (sp ed)) = false := by
        rcases v3 with z | z <;> rw [z.1, z.2, v1, vpc] <;> rfl
      rw [t2, decide_eq_true (rfl : ed = ed)] at t
      have heq : ed = e0 := of_decide_eq_true (by revert t; cases decide (ed = e0) <;> decide)
      intro e a0 a1
      right
      have t := q7 e a0 a1
      rw [heq] at t
      revert t; cases Vg gn gn0 (fp e) <;> cases Vg gn gn0 (sp e) <;> cases decide (e = e0) <;> decide
  -- what shares an edge with a piece gone now is gone now
  have hsh : ∀ e p q, 0 ≤ e → e < 84 → 0 ≤ p → p < np → 0 ≤ q → q < np → (fe p = e ∨ se p = e) → (fe q = e ∨ se q = e) → Vg gn gn0 p = true → Vg gn gn0 q = true := by
    intro e p q a0 a1 b0 b1 c0 c1 hp hq hv
    have k1 := (f3 e p a0 a1 b0 b1).mp hp; have k2 := (f3 e q a0 a1 c0 c1).mp hq
    have k3 := hev e a0 a1
    rcases k1 with k1 | k1 <;> rcases k2 with k2 | k2
    · rw [k2, ← k1]; exact hv
    · rcases k3 with k3 | k3
      · omega
      · rw [k2, ← k3, ← k1]; exact hv
    · rcases k3 with k3 | k3
      · omega
      · rw [k2, k3, ← k1]; exact hv
    · rw [k2, ← k1]; exact hv
  have hZ : ∀ f, Cn (S_J m) e0 f → (0 ≤ f ∧ f < 84) ∧ ∃ p, 0 ≤ p ∧ p < np ∧ Vg gn gn0 p = true ∧ (fe p = f ∨ se p = f) := fun f hf =>
    hf (fun z => (0 ≤ z ∧ z < 84) ∧ ∃ p, 0 ≤ p ∧ p < np ∧ Vg gn gn0 p = true ∧ (fe p = z ∨ se p = z)) ⟨he0, p0, hp0.1, hp0.2, v0, hi⟩ (fun x y ⟨hx, p, a, b, c, d⟩ hr => by
      have hy := (S_J_X hr).2.1
      obtain ⟨q, c0, c1, c2⟩ := (f4 _ _).mp hr
      have hqx : fe q = x ∨ se q = x := by rcases c2 with z | z; exact Or.inl z.1; exact Or.inr z.2
      refine ⟨hy, q, c0, c1, hsh x p q hx.1 hx.2 a b c0 c1 d hqx c, ?_⟩
      rcases c2 with z | z
      · exact Or.inr z.2
      · exact Or.inl z.1)
  have hA : ∀ p, 0 ≤ p → p < np → Cn (S_J m) e0 (fe p) → Vg gn gn0 p = true := fun p a b c => by
    obtain ⟨h1, p', a', b', c', d'⟩ := hZ _ c
    exact hsh (fe p) p' p h1.1 h1.2 a' b' a b d' (Or.inl rfl) c'
  refine ⟨fun p a b => ⟨fun hg => ?_, fun hg => ?_⟩, ?_⟩
  · cases hx : gn0 p
    · exact Or.inr (q4 p a (by omega) hg hx).2
    · exact Or.inl rfl
  · rcases hg with hg | hg
    · exact q3 p a (by omega) hg
    · exact (Vg_iff.mp (hA p a b hg)).2.1
  · rw [q6]
    have e1 : zC (fun p => gn p && !gn0 p) 72 = zC (fun p => gn p && !gn0 p) np := by
      have := zC_cut (P := fun p => gn p && !gn0 p) f0.1 (72 - np) (by omega) (fun k a b => by
        show (gn k && !gn0 k) = false
        cases g1 : gn k
        · rfl
        · cases g2 : gn0 k
          · have := (q4 k (by omega) (by omega) g1 g2).1; omega
          · rfl)
      rw [show np + (72 - np) = 72 by omega] at this; exact this
    rw [e1, zC_congr (Q := fun p => cb (Cn (S_J m) e0 (fe p))) f0.1 (fun k a b => by
      show (gn k && !gn0 k) = cb (Cn (S_J m) e0 (fe k))
      by_cases y : Cn (S_J m) e0 (fe k)
      · have := Vg_iff.mp (hA k a b y)
        rw [cb_iff.mpr y, this.2.1, this.2.2]; rfl
      · rw [cb_f.mpr y]
        cases g1 : gn k
        · rfl
        · cases g2 : gn0 k
          · exact absurd (q4 k a (by omega) g1 g2).2 y
          · rfl)]
    exact f5 (fun e => cb (Cn (S_J m) e0 e))
/-! counting classes -/
theorem z_least {P : Int → Prop} : ∀ n, 0 ≤ n → (∃ k, 0 ≤ k ∧ k < n ∧ P k) → ∃ k, 0 ≤ k ∧ k < n ∧ P k ∧ ∀ j, 0 ≤ j → j < k → ¬ P j := by
  refine z_ind (fun ⟨k, a, b, _⟩ => by omega) (fun i hi ih h => ?_)
  by_cases q : ∃ k, 0 ≤ k ∧ k < i ∧ P k
  · obtain ⟨k, a, b, c⟩ := ih q
    exact ⟨k, a, by omega, c⟩
  · obtain ⟨k, a, b, c⟩ := h
    have e : k = i := by
      by_cases e : k = i
      · exact e
      · exact absurd ⟨k, a, by omega, c⟩ q
    subst e
    exact ⟨k, a, b, c, fun j j0 j1 j2 => q ⟨j, j0, j1, j2⟩⟩
noncomputable def S_fst (E : Int → Int → Prop) (P : Int → Prop) (f : IA) : BA := fun a => cb (P a ∧ ∀ j, 0 ≤ j → j < a → P j → ¬ E (f j) (f a))
theorem zC_cls1 {E : Int → Int → Prop} (sy : ∀ x y, E x y → E y x) (tr : ∀ x y z, E x y → E y z → E x z) {P Q : Int → Prop} {f g : IA} {n m : Int} (hn : 0 ≤ n) (hm : 0 ≤ m) (h1 : ∀ a, 0 ≤ a → a < n → P a → ∃ b, 0 ≤ b ∧ b < m ∧ Q b ∧ E (f a) (g b)) : zC (S_fst E P f) n ≤ zC (S_fst E Q g) m := by
  refine zC_rel (R := fun a b => E (f a) (g b)) n hn _ _ m hm ?_ ?_
  · intro a a0 a1 ha
    obtain ⟨hp, -⟩ := cb_iff.mp ha
    obtain ⟨b, b0, b1, b2, b3⟩ := z_least (P := fun b => Q b ∧ E (f a) (g b)) m hm (by obtain ⟨b, b0, b1, b2⟩ := h1 a a0 a1 hp; exact ⟨b, b0, b1, b2⟩)
    exact ⟨b, b0, b1, cb_iff.mpr ⟨b2.1, fun j j0 j1 j2 j3 => b3 j j0 j1 ⟨j2, tr _ _ _ b2.2 (sy _ _ j3)⟩⟩, b2.2⟩
  · intro a a' b a0 a1 a0' a1' ha ha' b0 b1 r r'
    obtain ⟨hp, hf⟩ := cb_iff.mp ha; obtain ⟨hp', hf'⟩ := cb_iff.mp ha'
    have e1 := tr _ _ _ r (sy _ _ r')
    rcases Int.lt_trichotomy a a' with q | q | q
    · exact absurd e1 (hf' a a0 q hp)
    · exact q
    · exact absurd (sy _ _ e1) (hf a' a0' q hp')
theorem zC_cls {E : Int → Int → Prop} (sy : ∀ x y, E x y → E y x) (tr : ∀ x y z, E x y → E y z → E x z) {P Q : Int → Prop} {f g : IA} {n m : Int} (hn : 0 ≤ n) (hm : 0 ≤ m) (h1 : ∀ a, 0 ≤ a → a < n → P a → ∃ b, 0 ≤ b ∧ b < m ∧ Q b ∧ E (f a) (g b)) (h2 : ∀ b, 0 ≤ b → b < m → Q b → ∃ a, 0 ≤ a ∧ a < n ∧ P a ∧ E (f a) (g b)) : zC (S_fst E P f) n = zC (S_fst E Q g) m := by
  refine Int.le_antisymm (zC_cls1 sy tr hn hm h1) (zC_cls1 sy tr hm hn (fun b b0 b1 b2 => ?_))
  obtain ⟨a, a0, a1, a2, a3⟩ := h2 b b0 b1 b2
  exact ⟨a, a0, a1, a2, sy _ _ a3⟩
theorem S_top_ge {f : IA} : ∀ i, 0 ≤ i → ∀ k, 0 ≤ k → k < i → f k ≤ S_top f i := by
  refine z_ind (fun k a b => by omega) (fun i hi ih k a b => ?_)
  rw [S_top_up hi]; have h3 := zmax_spec (S_top f i) (f i)
  by_cases q : k = i
  · rw [q]; omega
  · have := ih k a (by omega); omega
theorem S_top_0le {f : IA} : ∀ i, 0 ≤ i → 0 ≤ S_top f i := by
  refine z_ind (Int.le_refl 0) (fun i hi ih => ?_)
  rw [S_top_up hi]; have h3 := zmax_spec (S_top f i) (f i); omega
def S_BD (m : BA) (b : Int) : Prop := S_X m b = true ∧ E_q2 b = 36
noncomputable def S_B1 (m : BA) : BA := S_fst (Cn (S_J m)) (S_BD m) (fun b => b)
def S_op (m : BA) (e : Int) : Prop := ∃ b, 0 ≤ b ∧ b < 84 ∧ S_BD m b ∧ Cn (S_J m) b e
noncomputable def S_B2 (m : BA) (fe : IA) : BA := S_fst (Cn (S_J m)) (fun p => ¬ S_op m (fe p)) fe
noncomputable def S_L1 (m : BA) (i : Int) : Int := S_top (fun b => if cb (S_BD m b) = true then S_psz m b else 0) i
noncomputable def S_L2 (m : BA) (fe : IA) (i : Int) : Int := S_top (fun p => S_psz m (fe p)) i
theorem S_Jtr {m : BA} : ∀ x y z, Cn (S_J m) x y → Cn (S_J m) y z → Cn (S_J m) x z := fun _ _ _ a b => a.tr b
theorem S_Jsy {m : BA} : ∀ x y, Cn (S_J m) x y → Cn (S_J m) y x := fun _ _ a => a.sy S_J_sy
theorem S_psz_congr {m : BA} {e f : Int} (h : Cn (S_J m) e f) : S_psz m e = S_psz m f := zC_congr (by omega) (fun k _ _ => by rw [cb_congr ⟨fun z => (S_Jsy _ _ h).tr z, fun z => h.tr z⟩])
theorem S_psz_b (m : BA) (e : Int) : 0 ≤ S_psz m e ∧ S_psz m e ≤ 72 := zC_b _ (by omega)
def TR1 (m : BA) (fe : IA) (np : Int) (e : Int) (gn : BA) (tot lon : Int) : Prop :=
  (∀ p, 0 ≤ p → p < np → (gn p = true ↔ ∃ b, 0 ≤ b ∧ b < e ∧ S_BD m b ∧ Cn (S_J m) b (fe p))) ∧ tot = zC (S_B1 m) e ∧ lon = S_L1 m e
theorem TR1_0 {m : BA} {fe : IA} {np : Int} {gn : BA} (h : ∀ p, 0 ≤ p → p < np → gn p = false) : TR1 m fe np 0 gn 0 0 := by
  refine ⟨fun p a b => ⟨fun q => ?_, fun ⟨b, b0, b1, _⟩ => by omega⟩, rfl, rfl⟩
  rw [h p a b] at q; cases q
theorem TR_end {m : BA} {fe se fp sp : IA} {np : Int} (H : LF m fe se fp sp np) {e p : Int} (he : 0 ≤ e ∧ e < 84) (hp : 0 ≤ p ∧ p < np) (h : p = fp e ∨ p = sp e) : (fe p = e ∨ se p = e) ∧ Cn (S_J m) e (fe p) := by
  obtain ⟨f0, f1, f2, f3, f4, f5, f6, f7, f8⟩ := H
  have h1 := (f3 e p he.1 he.2 hp.1 hp.2).mpr h
  refine ⟨h1, ?_⟩
  rcases h1 with h1 | h1
  · rw [h1]; exact Cn.rf
  · rw [← h1]; exact Cn.one ((f4 _ _).mpr ⟨p, hp.1, hp.2, Or.inr ⟨rfl, rfl⟩⟩)
theorem S_fst_f {E : Int → Int → Prop} {P : Int → Prop} {f : IA} {a : Int} (h : ¬ (P a ∧ ∀ j, 0 ≤ j → j < a → P j → ¬ E (f j) (f a))) : S_fst E P f a = false := cb_f.mpr h
theorem S_fst_t {E : Int → Int → Prop} {P : Int → Prop} {f : IA} {a : Int} (h : P a ∧ ∀ j, 0 ≤ j → j < a → P j → ¬ E (f j) (f a)) : S_fst E P f a = true := cb_iff.mpr h
theorem TR1_skip {m : BA} {fe : IA} {np e : Int} {gn : BA} {tot lon : Int} (he : 0 ≤ e) (T : TR1 m fe np e gn tot lon) (h : ¬ S_BD m e) : TR1 m fe np (e + 1) gn tot lon := by
  obtain ⟨t1, t2, t3⟩ := T
  refine ⟨fun p a b => (t1 p a b).trans ⟨fun ⟨b, b0, b1, b2⟩ => ⟨b, b0, by omega, b2⟩, fun ⟨b, b0, b1, b2⟩ => ⟨b, b0, ?_, b2⟩⟩, ?_, ?_⟩
  · by_cases q : b = e
    · rw [q] at b2; exact absurd b2.1 h
    · omega
  · rw [zC_up he]; unfold S_B1 at *; rw [z1_f (S_fst_f (fun z => h z.1)), t2]; omega
  · unfold S_L1 at *; rw [S_top_up he, if_neg (fun z => h (cb_iff.mp z)), ← t3]
    have := zmax_spec lon 0; have := @S_top_0le (fun b => if cb (S_BD m b) = true then S_psz m b else 0) e he; omega
theorem TR1_old {m : BA} {fe se fp sp : IA} {np : Int} (H : LF m fe se fp sp np) {e : Int} {gn : BA} {tot lon : Int} (he : 0 ≤ e ∧ e < 84) (T : TR1 m fe np e gn tot lon) (h : S_BD m e) (hg : gn (fp e) = true) : TR1 m fe np (e + 1) gn tot lon := by
  have H0 := H
  obtain ⟨f0, f1, f2, f3, f4, f5, f6, f7, f8⟩ := H
  have r := (f6 e he.1 he.2).mpr h.1
  have r2 := f2 e he.1 he.2
  have hp : 0 ≤ fp e ∧ fp e < np := by omega
  obtain ⟨t1, t2, t3⟩ := T
  obtain ⟨b, b0, b1, b2, b3⟩ := (t1 _ hp.1 hp.2).mp hg
  have c1 := (TR_end H0 he hp (Or.inl rfl)).2
  have c2 : Cn (S_J m) b e := b3.tr (S_Jsy _ _ c1)
  refine ⟨fun p x y => (t1 p x y).trans ⟨fun ⟨b, b0, b1, b2⟩ => ⟨b, b0, by omega, b2⟩, fun ⟨c, d0, d1, d2⟩ => ?_⟩, ?_, ?_⟩
  · by_cases q : c = e
    · rw [q] at d2; exact ⟨b, b0, b1, b2, c2.tr d2.2⟩
    · exact ⟨c, d0, by omega, d2⟩
  · rw [zC_up he.1]; unfold S_B1 at *; rw [z1_f (S_fst_f (fun z => z.2 b b0 b1 b2 c2)), t2]; omega
  · unfold S_L1 at *; rw [S_top_up he.1, if_pos (cb_iff.mpr h), ← t3]
    have k1 := zmax_spec lon (S_psz m e)
    have k2 := @S_top_ge (fun b => if cb (S_BD m b) = true then S_psz m b else 0) e he.1 b b0 b1
    try simp only at k2
    rw [if_pos (cb_iff.mpr b2), ← t3, S_psz_congr c2] at k2; omega
theorem TR1_new {m : BA} {fe se fp sp : IA} {np : Int} (H : LF m fe se fp sp np) {e : Int} {gn gn2 : BA} {tot lon : Int} (he : 0 ≤ e ∧ e < 84) (T : TR1 m fe np e gn tot lon) (h : S_BD m e) (hg : gn (fp e) = false) (h2 : ∀ p, 0 ≤ p → p < np → (gn2 p = true ↔ gn p = true ∨ Cn (S_J m) e (fe p))) : TR1 m fe np (e + 1) gn2 (tot + 1) (zmax lon (S_psz m e)) := by
  have H0 := H
  obtain ⟨f0, f1, f2, f3, f4, f5, f6, f7, f8⟩ := H
  have r := (f6 e he.1 he.2).mpr h.1
  have r2 := f2 e he.1 he.2
  have hp : 0 ≤ fp e ∧ fp e < np := by omega
  obtain ⟨t1, t2, t3⟩ := T
  have c1 := (TR_end H0 he hp (Or.inl rfl)).2
  refine ⟨fun p x y => (h2 p x y).trans ⟨fun z => ?_, fun ⟨c, d0, d1, d2⟩ => ?_⟩, ?_, ?_⟩
  · rcases z with z | z
    · obtain ⟨b, b0, b1, b2⟩ := (t1 p x y).mp z; exact ⟨b, b0, by omega, b2⟩
    · exact ⟨e, he.1, by omega, h, z⟩
  · by_cases q : c = e
    · rw [q] at d2; exact Or.inr d2.2
    · exact Or.inl ((t1 p x y).mpr ⟨c, d0, by omega, d2⟩)
  · rw [zC_up he.1]; unfold S_B1 at *
    rw [z1_t (S_fst_t ⟨h, fun j j0 j1 j2 j3 => by
      have := (t1 _ hp.1 hp.2).mpr ⟨j, j0, j1, j2, (show Cn (S_J m) j e from j3).tr c1⟩
      rw [hg] at this; cases this⟩), t2]
  · unfold S_L1 at *; rw [S_top_up he.1, if_pos (cb_iff.mpr h), ← t3]
/-- what goAlong wants -/
theorem TR1_cl {m : BA} {fe : IA} {np e : Int} {gn : BA} {tot lon : Int} (T : TR1 m fe np e gn tot lon) : ∀ p q, 0 ≤ p → p < np → 0 ≤ q → q < np → gn p = true → Cn (S_J m) (fe p) (fe q) → gn q = true := fun p q a b c d h k => by
  obtain ⟨x, x0, x1, x2, x3⟩ := (T.1 p a b).mp h
  exact (T.1 q c d).mpr ⟨x, x0, x1, x2, x3.tr k⟩
def TR2 (m : BA) (fe : IA) (np : Int) (i : Int) (gn : BA) (tot lon : Int) : Prop :=
  (∀ p, 0 ≤ p → p < np → (gn p = true ↔ S_op m (fe p) ∨ ∃ j, 0 ≤ j ∧ j < i ∧ Cn (S_J m) (fe j) (fe p))) ∧ tot = zC (S_B1 m) 84 + zC (S_B2 m fe) i ∧ lon = zmax (S_L1 m 84) (S_L2 m fe i)
theorem TR2_0 {m : BA} {fe : IA} {np : Int} {gn : BA} {tot lon : Int} (T : TR1 m fe np 84 gn tot lon) : TR2 m fe np 0 gn tot lon := by
  obtain ⟨t1, t2, t3⟩ := T
  refine ⟨fun p a b => (t1 p a b).trans ⟨fun z => Or.inl z, fun z => ?_⟩, ?_, ?_⟩
  · rcases z with z | ⟨j, j0, j1, _⟩
    · exact z
    · omega
  · rw [zC_0, t2]; omega
  · unfold S_L2; rw [S_top_0, t3]
    have k1 := zmax_spec (S_L1 m 84) 0
    have k2 : 0 ≤ S_L1 m 84 := S_top_0le 84 (by omega)
    omega
theorem TR2_old {m : BA} {fe : IA} {np i : Int} {gn : BA} {tot lon : Int} (hi : 0 ≤ i ∧ i < np) (T : TR2 m fe np i gn tot lon) (hg : gn i = true) : TR2 m fe np (i + 1) gn tot lon := by
  obtain ⟨t1, t2, t3⟩ := T
  have g := (t1 i hi.1 hi.2).mp hg
  have hle : S_psz m (fe i) ≤ lon := by
    have k1 := zmax_spec (S_L1 m 84) (S_L2 m fe i)
    rcases g with ⟨b, b0, b1, b2, b3⟩ | ⟨j, j0, j1, j2⟩
    · have k2 := @S_top_ge (fun b => if cb (S_BD m b) = true then S_psz m b else 0) 84 (by omega) b b0 b1
      try simp only at k2
      rw [if_pos (cb_iff.mpr b2), S_psz_congr b3] at k2
      have k3 : S_psz m (fe i) ≤ S_L1 m 84 := k2
      omega
    · have k2 := @S_top_ge (fun p => S_psz m (fe p)) i hi.1 j j0 j1
      try simp only at k2
      rw [S_psz_congr j2] at k2
      have k3 : S_psz m (fe i) ≤ S_L2 m fe i := k2
      omega
  refine ⟨fun p a b => (t1 p a b).trans ⟨fun z => ?_, fun z => ?_⟩, ?_, ?_⟩
  · rcases z with z | ⟨j, j0, j1, j2⟩
    · exact Or.inl z
    · exact Or.inr ⟨j, j0, by omega, j2⟩
  · rcases z with z | ⟨j, j0, j1, j2⟩
    · exact Or.inl z
    · by_cases q : j = i
      · rw [q] at j2
        rcases g with ⟨b, b0, b1, b2, b3⟩ | ⟨j', j0', j1', j2'⟩
        · exact Or.inl ⟨b, b0, b1, b2, b3.tr j2⟩
        · exact Or.inr ⟨j', j0', j1', j2'.tr j2⟩
      · exact Or.inr ⟨j, j0, by omega, j2⟩
  · rw [zC_up hi.1, z1_f (b := S_B2 m fe i) (S_fst_f (fun z => by
      rcases g with g | ⟨j, j0, j1, j2⟩
      · exact z.1 g
      · exact z.2 j j0 j1 (fun ⟨b, b0, b1, b2, b3⟩ => z.1 ⟨b, b0, b1, b2, b3.tr j2⟩) j2)), t2]; omega
  · unfold S_L2 at *; rw [S_top_up hi.1]
    have k1 := zmax_spec (S_L1 m 84) (S_top (fun p => S_psz m (fe p)) i)
    have k2 := zmax_spec (S_top (fun p => S_psz m (fe p)) i) (S_psz m (fe i))
    have k3 := zmax_spec (S_L1 m 84) (zmax (S_top (fun p => S_psz m (fe p)) i) (S_psz m (fe i)))
    omega
theorem TR2_new {m : BA} {fe : IA} {np i : Int} {gn gn2 : BA} {tot lon : Int} (hi : 0 ≤ i ∧ i < np) (T : TR2 m fe np i gn tot lon) (hg : gn i = false) (h2 : ∀ p, 0 ≤ p → p < np → (gn2 p = true ↔ gn p = true ∨ Cn (S_J m) (fe i) (fe p))) : TR2 m fe np (i + 1) gn2 (tot + 1) (zmax lon (S_psz m (fe i))) := by
  obtain ⟨t1, t2, t3⟩ := T
  have hn : ¬ (S_op m (fe i) ∨ ∃ j, 0 ≤ j ∧ j < i ∧ Cn (S_J m) (fe j) (fe i)) := fun z => by
    have := (t1 i hi.1 hi.2).mpr z; rw [hg] at this; cases this
  refine ⟨fun p a b => (h2 p a b).trans ⟨fun z => ?_, fun z => ?_⟩, ?_, ?_⟩
  · rcases z with z | z
    · rcases (t1 p a b).mp z with z | ⟨j, j0, j1, j2⟩
      · exact Or.inl z
      · exact Or.inr ⟨j, j0, by omega, j2⟩
    · exact Or.inr ⟨i, hi.1, by omega, z⟩
  · rcases z with z | ⟨j, j0, j1, j2⟩
    · exact Or.inl ((t1 p a b).mpr (Or.inl z))
    · by_cases q : j = i
      · rw [q] at j2; exact Or.inr j2
      · exact Or.inl ((t1 p a b).mpr (Or.inr ⟨j, j0, by omega, j2⟩))
  · rw [zC_up hi.1, z1_t (b := S_B2 m fe i) (S_fst_t ⟨fun z => hn (Or.inl z), fun j j0 j1 _ j3 => hn (Or.inr ⟨j, j0, j1, j3⟩)⟩), t2]; omega
  · unfold S_L2 at *; rw [S_top_up hi.1]
    have k1 := zmax_spec (S_L1 m 84) (S_top (fun p => S_psz m (fe p)) i)
    have k2 := zmax_spec (S_top (fun p => S_psz m (fe p)) i) (S_psz m (fe i))
    have k3 := zmax_spec (S_L1 m 84) (zmax (S_top (fun p => S_psz m (fe p)) i) (S_psz m (fe i)))
    have k4 := zmax_spec lon (S_psz m (fe i))
    omega
theorem TR2_cl {m : BA} {fe : IA} {np i : Int} {gn : BA} {tot lon : Int} (T : TR2 m fe np i gn tot lon) : ∀ p q, 0 ≤ p → p < np → 0 ≤ q → q < np → gn p = true → Cn (S_J m) (fe p) (fe q) → gn q = true := fun p q a b c d h k => by
  refine (T.1 q c d).mpr ?_
  rcases (T.1 p a b).mp h with ⟨x, x0, x1, x2, x3⟩ | ⟨j, j0, j1, j2⟩
  · exact Or.inl ⟨x, x0, x1, x2, x3.tr k⟩
  · exact Or.inr ⟨j, j0, j1, j2.tr k⟩
theorem TR2_b {m : BA} {fe : IA} {np i : Int} {gn : BA} {tot lon : Int} (hi : 0 ≤ i ∧ i < np) (T : TR2 m fe np i gn tot lon) (hg : gn i = false) : ∀ b, 0 ≤ b → b < 84 → S_X m b = true → Cn (S_J m) (fe i) b → E_q2 b ≠ 36 := fun b b0 b1 b2 b3 b4 => by
  have := (T.1 i hi.1 hi.2).mpr (Or.inl ⟨b, b0, b1, ⟨b2, b4⟩, S_Jsy _ _ b3⟩)
  rw [hg] at this; cases this
theorem TR_fin {m : BA} {fe se fp sp : IA} {np : Int} (H : LF m fe se fp sp np) {gn : BA} {tot lon : Int} (T : TR2 m fe np np gn tot lon) : tot = S_nlines m ∧ tot - zC (S_B1 m) 84 = S_nclosed m ∧ lon = S_long m := by
  have H0 := H
  obtain ⟨f0, f1, f2, f3, f4, f5, f6, f7, f8⟩ := H
  obtain ⟨-, t2, t3⟩ := T
  have hX : ∀ p, 0 ≤ p → p < np → S_X m (fe p) = true := fun p a b => by
    have h1 := f1 p a b
    have h2 := (f3 (fe p) p h1.1.1 h1.1.2 a b).mp (Or.inl rfl)
    have h3 := f2 (fe p) h1.1.1 h1.1.2
    exact (f6 _ h1.1.1 h1.1.2).mp (by clear f6 f7; omega)
  have hP : ∀ e, 0 ≤ e → e < 84 → S_X m e = true → ∃ p, 0 ≤ p ∧ p < np ∧ Cn (S_J m) e (fe p) := fun e a b h => by
    have h1 := (f6 e a b).mpr h
    have h2 := f2 e a b
    have h3 : 0 ≤ fp e ∧ fp e < np := by clear f6 f7; omega
    exact ⟨fp e, h3.1, h3.2, (TR_end H0 ⟨a, b⟩ h3 (Or.inl rfl)).2⟩
  have oc : ∀ e f, Cn (S_J m) e f → S_op m e → S_op m f := fun e f h ⟨b, b0, b1, b2, b3⟩ => ⟨b, b0, b1, b2, b3.tr h⟩
  have oe : ∀ e, S_lopen m e ↔ S_op m e := fun e => ⟨fun ⟨b, b0, b1, b2, b3, b4⟩ => ⟨b, b0, b1, ⟨b2, b3⟩, S_Jsy _ _ b4⟩, fun ⟨b, b0, b1, b2, b3⟩ => ⟨b, b0, b1, b2.1, b2.2, S_Jsy _ _ b3⟩⟩
  have c1 : zC (S_fst (Cn (S_J m)) (fun e => S_X m e = true ∧ S_op m e) (fun b => b)) 84 = zC (S_B1 m) 84 := by
    refine zC_cls S_Jsy S_Jtr (by omega) (by omega) ?_ ?_
    · intro a _ _ ⟨_, b, b0, b1, b2, b3⟩; exact ⟨b, b0, b1, b2, S_Jsy _ _ b3⟩
    · intro b b0 b1 b2; exact ⟨b, b0, b1, ⟨b2.1, b, b0, b1, b2, Cn.rf⟩, Cn.rf⟩
  have c2 : zC (S_fst (Cn (S_J m)) (fun e => S_X m e = true ∧ ¬ S_op m e) (fun b => b)) 84 = zC (S_B2 m fe) np := by
    refine zC_cls S_Jsy S_Jtr (by omega) f0.1 ?_ ?_
    · intro a a0 a1 ⟨h1, h2⟩
      obtain ⟨p, p0, p1, p2⟩ := hP a a0 a1 h1
      exact ⟨p, p0, p1, fun z => h2 (oc _ _ (S_Jsy _ _ p2) z), p2⟩
    · intro p p0 p1 h
      have h1 := f1 p p0 p1
      exact ⟨fe p, h1.1.1, h1.1.2, ⟨hX p p0 p1, h⟩, Cn.rf⟩
  have d1 : ∀ e, S_fst (Cn (S_J m)) (fun e => S_X m e = true ∧ S_op m e) (fun b => b) e = (S_lrep m e && cb (S_op m e)) := fun e => by
    unfold S_fst S_lrep
    by_cases q : S_op m e
    · rw [cb_iff.mpr q, Bool.and_true]
      refine cb_congr ⟨fun ⟨a, b⟩ => ⟨a.1, fun j j0 j1 j2 j3 => b j j0 j1 ⟨j2, oc _ _ (S_Jsy _ _ j3) q⟩ j3⟩, fun ⟨a, b⟩ => ⟨⟨a, q⟩, fun j j0 j1 j2 => b j j0 j1 j2.1⟩⟩
    · rw [cb_f.mpr q, Bool.and_false]; exact cb_f.mpr (fun z => q z.1.2)
  have d2 : ∀ e, S_fst (Cn (S_J m)) (fun e => S_X m e = true ∧ ¬ S_op m e) (fun b => b) e = (S_lrep m e && !cb (S_op m e)) := fun e => by
    unfold S_fst S_lrep
    by_cases q : S_op m e
    · rw [cb_iff.mpr q]; simp only [Bool.not_true, Bool.and_false]; exact cb_f.mpr (fun z => z.1.2 q)
    · rw [cb_f.mpr q]; simp only [Bool.not_false, Bool.and_true]
      refine cb_congr ⟨fun ⟨a, b⟩ => ⟨a.1, fun j j0 j1 j2 j3 => b j j0 j1 ⟨j2, fun z => q (oc _ _ j3 z)⟩ j3⟩, fun ⟨a, b⟩ => ⟨⟨a, q⟩, fun j j0 j1 j2 => b j j0 j1 j2.1⟩⟩
  have e2 : S_nclosed m = zC (S_B2 m fe) np := by
    rw [← c2]; unfold S_nclosed
    exact zC_congr (by omega) (fun k _ _ => by rw [d2, cb_congr (oe k)])
  have e1 : S_nlines m = zC (S_B1 m) 84 + zC (S_B2 m fe) np := by
    rw [← c1, ← c2]; unfold S_nlines zC
    rw [← zS_add 84 (by omega)]
    refine zS_congr 84 (by omega) (fun k _ _ => ?_)
    rw [d1, d2]; cases S_lrep m k <;> cases cb (S_op m k) <;> rfl
  refine ⟨by rw [t2, e1], by rw [t2, e2]; omega, ?_⟩
  have m0 : 0 ≤ S_L1 m 84 := S_top_0le 84 (by omega)
  have g1 : S_L1 m 84 ≤ S_long m := (S_top_b (S_top_0le 84 (by omega)) 84 (by omega) (fun k a b => by
    split
    · next q =>
      have := @S_top_ge (fun e => if S_X m e = true then S_psz m e else 0) 84 (by omega) k a b
      try simp only at this
      rw [if_pos (cb_iff.mp q).1] at this; exact this
    · exact S_top_0le 84 (by omega))).2
  have g2 : S_L2 m fe np ≤ S_long m := (S_top_b (S_top_0le 84 (by omega)) np f0.1 (fun k a b => by
    have h1 := f1 k a b
    have := @S_top_ge (fun e => if S_X m e = true then S_psz m e else 0) 84 (by omega) (fe k) h1.1.1 h1.1.2
    try simp only at this
    rw [if_pos (hX k a b)] at this; exact this)).2
  have g3 : S_long m ≤ zmax (S_L1 m 84) (S_L2 m fe np) := by
    have k1 := zmax_spec (S_L1 m 84) (S_L2 m fe np)
    refine (S_top_b (by omega) 84 (by omega) (fun k a b => ?_)).2
    split
    · next q =>
      obtain ⟨p, p0, p1, p2⟩ := hP k a b q
      have := @S_top_ge (fun p => S_psz m (fe p)) np f0.1 p p0 p1
      try simp only at this
      rw [← S_psz_congr p2] at this
      have k3 : S_psz m k ≤ S_L2 m fe np := this
      omega
    · omega
  have k1 := zmax_spec (S_L1 m 84) (S_L2 m fe np)
  omega
/-- ends of pieces, counted -/
theorem LF_cross {m : BA} {fe se fp sp : IA} {np : Int} (H : LF m fe se fp sp np) : 2 * np + zC (fun e => decide (fp e ≠ -1) && decide (sp e = -1)) 84 = 2 * S_ncross m := by
  obtain ⟨f0, f1, f2, f3, f4, f5, f6, f7, f8⟩ := H
  have e1 : zC (fun e => decide (fp e ≠ -1)) 84 = S_ncross m := zC_congr (by omega) (fun k a b => by
    have := f6 k a b
    cases hx : S_X m k
    · exact decide_eq_false (fun z => by have := this.mp z; rw [hx] at this; cases this)
    · exact decide_eq_true (this.mpr hx))
  have e2 : zC (fun e => decide (sp e ≠ -1)) 84 + zC (fun e => decide (fp e ≠ -1) && decide (sp e = -1)) 84 = zC (fun e => decide (fp e ≠ -1)) 84 := by
    unfold zC
    rw [← zS_add 84 (by omega)]
    refine zS_congr 84 (by omega) (fun k a b => ?_)
    have h3 := f2 k a b
    by_cases x : fp k = -1
    · have y := h3.2.2.1 x
      simp [x, y, z1]
    · by_cases y : sp k = -1 <;> simp [x, y, z1]
  omega
