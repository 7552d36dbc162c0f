/-! THE MODEL'S LINES, plainly: edges by labels -/
theorem S_X_r {m : BA} {r c : Int} (hr : 0 ≤ r ∧ r < 7) (hc : 0 ≤ c ∧ c < 6) : S_X m (6 * r + c) = (m (7 * r + c) != m (7 * r + c + 1)) := by
  unfold S_X; rw [show E_u (6 * r + c) = 7 * r + c by unfold E_u; rw [if_pos (by omega)]; omega, show E_v (6 * r + c) = 7 * r + c + 1 by unfold E_v; rw [if_pos (by omega)]; omega]
theorem S_X_b {m : BA} {r c : Int} (hr : 0 ≤ r ∧ r < 6) (hc : 0 ≤ c ∧ c < 7) : S_X m (42 + 7 * r + c) = (m (7 * r + c) != m (7 * r + c + 7)) := by
  unfold S_X; rw [show E_u (42 + 7 * r + c) = 7 * r + c by unfold E_u; rw [if_neg (by omega)]; omega, show E_v (42 + 7 * r + c) = 7 * r + c + 7 by unfold E_v; rw [if_neg (by omega)]; omega]
def LN0 (m : BA) (f : IA) (p : Int) : Prop := ∀ e, 0 ≤ e → e < 84 → E_u e < p → f e = (if S_X m e = true then e else -1)
theorem LN0_0 (m : BA) (f : IA) : LN0 m f 0 := fun e a b c => by have := (E_uv_b ⟨a, b⟩).1; omega
theorem LN0_up {m : BA} {f g : IA} {r c : Int} (hr : 0 ≤ r ∧ r < 7) (hc : 0 ≤ c ∧ c < 7) (H : LN0 m f (7 * r + c)) (g1 : c < 6 → g (6 * r + c) = (if S_X m (6 * r + c) = true then 6 * r + c else -1)) (g2 : r < 6 → g (42 + 7 * r + c) = (if S_X m (42 + 7 * r + c) = true then 42 + 7 * r + c else -1))
    (g3 : ∀ e, ¬ (c < 6 ∧ e = 6 * r + c) → ¬ (r < 6 ∧ e = 42 + 7 * r + c) → g e = f e) : LN0 m g (7 * r + (c + 1)) := fun e a b h => by
  by_cases q1 : c < 6 ∧ e = 6 * r + c
  · rw [q1.2]; exact g1 q1.1
  · by_cases q2 : r < 6 ∧ e = 42 + 7 * r + c
    · rw [q2.2]; exact g2 q2.1
    · rw [g3 e q1 q2]; refine H e a b ?_
      unfold E_u at h ⊢; split at h <;> split <;> omega
/-- labels of a relation: each marked edge's label is the least of its kind -/
def UFR (X : BA) (R : Int → Int → Prop) (f : IA) : Prop :=
  (∀ e, 0 ≤ e → e < 84 → (X e = false → f e = -1) ∧ (X e = true → (0 ≤ f e ∧ f e ≤ e) ∧ X (f e) = true ∧ Cn R (f e) e)) ∧ (∀ x y, R x y → f x = f y)
def RJ (R : Int → Int → Prop) (a b : Int) (x y : Int) : Prop := R x y ∨ (x = a ∧ y = b) ∨ (x = b ∧ y = a)
theorem RJ_sy {R : Int → Int → Prop} {a b : Int} (h : ∀ x y, R x y → R y x) : ∀ x y, RJ R a b x y → RJ R a b y x := fun x y q => by
  rcases q with q | q | q
  · exact Or.inl (h _ _ q)
  · exact Or.inr (Or.inr ⟨q.2, q.1⟩)
  · exact Or.inr (Or.inl ⟨q.2, q.1⟩)
theorem UFR_b {X : BA} {R : Int → Int → Prop} {f : IA} (H : UFR X R f) : ∀ k, 0 ≤ k → k < 84 → -1 ≤ f k ∧ f k ≤ 83 := fun k a b => by
  have h := H.1 k a b
  cases q : X k
  · rw [h.1 q]; omega
  · have := (h.2 q).1; omega
theorem UFR_X {X : BA} {R : Int → Int → Prop} {f : IA} (H : UFR X R f) {e : Int} (he : 0 ≤ e ∧ e < 84) : X e = true ↔ f e ≠ -1 := by
  have h := H.1 e he.1 he.2
  cases q : X e
  · exact ⟨fun z => (by cases z), fun z => absurd (h.1 q) z⟩
  · exact ⟨fun _ z => by have := (h.2 q).1; omega, fun _ => rfl⟩
theorem UFR_cg {X : BA} {R R' : Int → Int → Prop} {f : IA} (h : ∀ x y, R x y ↔ R' x y) (H : UFR X R f) : UFR X R' f := by
  have e : R = R' := funext fun x => funext fun y => propext (h x y)
  rw [← e]; exact H
theorem UFR_C {X : BA} {R : Int → Int → Prop} {f : IA} (H : UFR X R f) {x y : Int} (h : Cn R x y) : f x = f y := h (fun z => f x = f z) rfl (fun a b ha hr => ha.trans (H.2 a b hr))
/-- the model's joining -/
def jn (f : IA) (a b : Int) : IA := zmix 84 (fun k => if f k = f a ∨ f k = f b then (if f a < f b then f a else f b) else f k) f
theorem UFR_jn {X : BA} {R : Int → Int → Prop} {f : IA} (hs : ∀ x y, R x y → R y x) (hR : ∀ x y, R x y → (0 ≤ x ∧ x < 84) ∧ 0 ≤ y ∧ y < 84) (H : UFR X R f) {a b : Int} (ha : 0 ≤ a ∧ a < 84) (hb : 0 ≤ b ∧ b < 84) (xa : X a = true) (xb : X b = true) : UFR X (RJ R a b) (jn f a b) := by
  have hin : ∀ k, 0 ≤ k → k < 84 → jn f a b k = if f k = f a ∨ f k = f b then (if f a < f b then f a else f b) else f k := fun k h1 h2 => zmix_at ⟨h1, h2⟩
  have ka := (H.1 a ha.1 ha.2).2 xa; have kb := (H.1 b hb.1 hb.2).2 xb
  have up : ∀ x y, R x y → RJ R a b x y := fun _ _ q => Or.inl q
  have sy := RJ_sy (a := a) (b := b) hs
  have cab : Cn (RJ R a b) (f a) b := (ka.2.2.mono up).st (Or.inr (Or.inl ⟨rfl, rfl⟩))
  have cba : Cn (RJ R a b) (f b) a := (kb.2.2.mono up).st (Or.inr (Or.inr ⟨rfl, rfl⟩))
  have cfa : Cn (RJ R a b) a (f a) := (ka.2.2.mono up).sy sy
  have cfb : Cn (RJ R a b) b (f b) := (kb.2.2.mono up).sy sy
  refine ⟨fun e e0 e1 => ?_, fun x y h => ?_⟩
  · have he := H.1 e e0 e1
    rw [hin e e0 e1]
    refine ⟨fun q => ?_, fun q => ?_⟩
    · have h1 := he.1 q
      rw [if_neg (by omega)]; exact h1
    · have h1 := he.2 q
      have c1 : Cn (RJ R a b) (f e) e := h1.2.2.mono up
      by_cases q1 : f e = f a ∨ f e = f b
      · rw [if_pos q1]
        by_cases q2 : f a < f b
        · rw [if_pos q2]
          refine ⟨by omega, ka.2.1, ?_⟩
          rcases q1 with q1 | q1
          · rw [← q1]; exact c1
          · exact (cab.tr cfb).tr (q1 ▸ c1)
        · rw [if_neg q2]
          refine ⟨by omega, kb.2.1, ?_⟩
          rcases q1 with q1 | q1
          · exact (cba.tr cfa).tr (q1 ▸ c1)
          · rw [← q1]; exact c1
      · rw [if_neg q1]; exact ⟨h1.1, h1.2.1, c1⟩
  · rcases h with h | ⟨h1, h2⟩ | ⟨h1, h2⟩
    · have hr := hR x y h
      rw [hin x hr.1.1 hr.1.2, hin y hr.2.1 hr.2.2, H.2 x y h]
    · rw [h1, h2, hin a ha.1 ha.2, hin b hb.1 hb.2, if_pos (Or.inl rfl), if_pos (Or.inr rfl)]
    · rw [h1, h2, hin a ha.1 ha.2, hin b hb.1 hb.2, if_pos (Or.inl rfl), if_pos (Or.inr rfl)]
/-- the pieces of the first K squares -/
def JK (m : BA) (K : Int) (e f : Int) : Prop := ∃ i, 0 ≤ i ∧ i < 2 * K ∧ S_pe m i = true ∧ ((S_pa m i = e ∧ S_pb m i = f) ∨ (S_pa m i = f ∧ S_pb m i = e))
theorem JK_sy {m : BA} {K : Int} : ∀ e f, JK m K e f → JK m K f e := fun _ _ ⟨i, a, b, c, d⟩ => ⟨i, a, b, c, d.symm⟩
theorem JK_b {m : BA} {K : Int} (hK : K ≤ 36) : ∀ e f, JK m K e f → (0 ≤ e ∧ e < 84) ∧ 0 ≤ f ∧ f < 84 := fun e f ⟨i, a, b, c, d⟩ => by
  have h := S_p_X (m := m) (i := i) ⟨a, by omega⟩ c
  rcases d with ⟨d1, d2⟩ | ⟨d1, d2⟩ <;> rw [← d1, ← d2]
  · exact ⟨h.1, h.2.1⟩
  · exact ⟨h.2.1, h.1⟩
theorem JK_36 {m : BA} : ∀ e f, JK m 36 e f ↔ S_J m e f := fun e f => Iff.rfl
theorem JK_up {m : BA} {K : Int} (hK : 0 ≤ K) (e f : Int) : JK m (K + 1) e f ↔ JK m K e f ∨ (P_e m K 0 = true ∧ ((e = P_a m K 0 ∧ f = P_b m K 0) ∨ (e = P_b m K 0 ∧ f = P_a m K 0))) ∨ (P_e m K 1 = true ∧ ((e = P_a m K 1 ∧ f = P_b m K 1) ∨ (e = P_b m K 1 ∧ f = P_a m K 1))) := by
  have ex : ∀ t, (t = 0 ∨ t = 1) → S_pe m (2 * K + t) = P_e m K t ∧ S_pa m (2 * K + t) = P_a m K t ∧ S_pb m (2 * K + t) = P_b m K t := fun t ht => by
    unfold S_pe S_pa S_pb; rw [show (2 * K + t) / 2 = K by omega, show (2 * K + t) % 2 = t by omega]; exact ⟨rfl, rfl, rfl⟩
  constructor
  · intro ⟨i, a, b, c, d⟩
    by_cases q : i < 2 * K
    · exact Or.inl ⟨i, a, q, c, d⟩
    · have hi : i = 2 * K + 0 ∨ i = 2 * K + 1 := by omega
      rcases hi with hi | hi
      · obtain ⟨e1, e2, e3⟩ := ex 0 (Or.inl rfl)
        rw [hi, e1] at c; rw [hi, e2, e3] at d
        exact Or.inr (Or.inl ⟨c, d.elim (fun z => Or.inl ⟨z.1.symm, z.2.symm⟩) (fun z => Or.inr ⟨z.2.symm, z.1.symm⟩)⟩)
      · obtain ⟨e1, e2, e3⟩ := ex 1 (Or.inr rfl)
        rw [hi, e1] at c; rw [hi, e2, e3] at d
        exact Or.inr (Or.inr ⟨c, d.elim (fun z => Or.inl ⟨z.1.symm, z.2.symm⟩) (fun z => Or.inr ⟨z.2.symm, z.1.symm⟩)⟩)
  · intro h
    rcases h with ⟨i, a, b, c, d⟩ | ⟨c, d⟩ | ⟨c, d⟩
    · exact ⟨i, a, by omega, c, d⟩
    · obtain ⟨e1, e2, e3⟩ := ex 0 (Or.inl rfl)
      exact ⟨2 * K + 0, by omega, by omega, by rw [e1]; exact c, by rw [e2, e3]; exact d.elim (fun z => Or.inl ⟨z.1.symm, z.2.symm⟩) (fun z => Or.inr ⟨z.2.symm, z.1.symm⟩)⟩
    · obtain ⟨e1, e2, e3⟩ := ex 1 (Or.inr rfl)
      exact ⟨2 * K + 1, by omega, by omega, by rw [e1]; exact c, by rw [e2, e3]; exact d.elim (fun z => Or.inl ⟨z.1.symm, z.2.symm⟩) (fun z => Or.inr ⟨z.2.symm, z.1.symm⟩)⟩
def UF (m : BA) (K : Int) (f : IA) : Prop := UFR (S_X m) (JK m K) f
theorem UF_0 {m : BA} {f : IA} (h : LN0 m f 49) : UF m 0 f := ⟨fun e a b => by
  rw [h e a b (by have := (E_uv_b ⟨a, b⟩).1; omega)]
  refine ⟨fun q => by rw [if_neg (by rw [q]; decide)], fun q => ?_⟩
  rw [if_pos q]; exact ⟨⟨a, Int.le_refl _⟩, q, Cn.rf⟩, fun x y ⟨i, a, b, _⟩ => by omega⟩
theorem P_X2 {m : BA} {q t : Int} (hq : 0 ≤ q ∧ q < 36) (ht : t = 0 ∨ t = 1) (h : P_e m q t = true) : ((0 ≤ P_a m q t ∧ P_a m q t < 84) ∧ S_X m (P_a m q t) = true) ∧ (0 ≤ P_b m q t ∧ P_b m q t < 84) ∧ S_X m (P_b m q t) = true := S_J_X (P_J hq ht h)
theorem UF_none {m : BA} {K : Int} {f : IA} (hK : 0 ≤ K) (H : UF m K f) (h0 : P_e m K 0 = false) (h1 : P_e m K 1 = false) : UF m (K + 1) f :=
  UFR_cg (fun x y => by rw [JK_up hK, h0, h1]; exact ⟨Or.inl, fun h => h.elim id (fun h => h.elim (fun z => by cases z.1) (fun z => by cases z.1))⟩) H
theorem UF_one {m : BA} {K : Int} {f : IA} (hK : 0 ≤ K ∧ K < 36) (H : UF m K f) (h0 : P_e m K 0 = true) (h1 : P_e m K 1 = false) : UF m (K + 1) (jn f (P_a m K 0) (P_b m K 0)) := by
  have hx := P_X2 hK (Or.inl rfl) h0
  refine UFR_cg (fun x y => ?_) (UFR_jn JK_sy (JK_b (by omega)) H hx.1.1 hx.2.1 hx.1.2 hx.2.2)
  rw [JK_up hK.1, h0, h1]
  exact ⟨fun h => h.elim Or.inl (fun z => Or.inr (Or.inl ⟨rfl, z⟩)), fun h => h.elim Or.inl (fun h => h.elim (fun z => Or.inr z.2) (fun z => by cases z.1))⟩
theorem UF_two {m : BA} {K : Int} {f : IA} (hK : 0 ≤ K ∧ K < 36) (H : UF m K f) (h0 : P_e m K 0 = true) (h1 : P_e m K 1 = true) {a b c d : Int} (e1 : (a = P_a m K 0 ∧ b = P_b m K 0) ∨ (a = P_b m K 0 ∧ b = P_a m K 0)) (e2 : (c = P_a m K 1 ∧ d = P_b m K 1) ∨ (c = P_b m K 1 ∧ d = P_a m K 1)) : UF m (K + 1) (jn (jn f a b) c d) := by
  have hx := P_X2 hK (Or.inl rfl) h0; have hy := P_X2 hK (Or.inr rfl) h1
  have xa : ((0 ≤ a ∧ a < 84) ∧ S_X m a = true) ∧ (0 ≤ b ∧ b < 84) ∧ S_X m b = true := by rcases e1 with ⟨q1, q2⟩ | ⟨q1, q2⟩ <;> rw [q1, q2]; exact hx; exact ⟨hx.2, hx.1⟩
  have xc : ((0 ≤ c ∧ c < 84) ∧ S_X m c = true) ∧ (0 ≤ d ∧ d < 84) ∧ S_X m d = true := by rcases e2 with ⟨q1, q2⟩ | ⟨q1, q2⟩ <;> rw [q1, q2]; exact hy; exact ⟨hy.2, hy.1⟩
  have H1 := UFR_jn JK_sy (JK_b (by omega)) H xa.1.1 xa.2.1 xa.1.2 xa.2.2
  have hb1 : ∀ x y, RJ (JK m K) a b x y → (0 ≤ x ∧ x < 84) ∧ 0 ≤ y ∧ y < 84 := fun x y q => by
    rcases q with q | ⟨q1, q2⟩ | ⟨q1, q2⟩
    · exact JK_b (by omega) x y q
    · rw [q1, q2]; exact ⟨xa.1.1, xa.2.1⟩
    · rw [q1, q2]; exact ⟨xa.2.1, xa.1.1⟩
  refine UFR_cg (fun x y => ?_) (UFR_jn (RJ_sy JK_sy) hb1 H1 xc.1.1 xc.2.1 xc.1.2 xc.2.2)
  rw [JK_up hK.1, h0, h1]
  have k1 : ∀ u v : Int, ((u = a ∧ v = b) ∨ (u = b ∧ v = a)) ↔ ((u = P_a m K 0 ∧ v = P_b m K 0) ∨ (u = P_b m K 0 ∧ v = P_a m K 0)) := fun u v => by
    rcases e1 with ⟨q1, q2⟩ | ⟨q1, q2⟩ <;> rw [q1, q2]; exact Or.comm
  have k2 : ∀ u v : Int, ((u = c ∧ v = d) ∨ (u = d ∧ v = c)) ↔ ((u = P_a m K 1 ∧ v = P_b m K 1) ∨ (u = P_b m K 1 ∧ v = P_a m K 1)) := fun u v => by
    rcases e2 with ⟨q1, q2⟩ | ⟨q1, q2⟩ <;> rw [q1, q2]; exact Or.comm
  unfold RJ; rw [k1, k2]
  exact ⟨fun h => h.elim (fun h => h.elim Or.inl (fun z => Or.inr (Or.inl ⟨rfl, z⟩))) (fun z => Or.inr (Or.inr ⟨rfl, z⟩)), fun h => h.elim (fun z => Or.inl (Or.inl z)) (fun h => h.elim (fun z => Or.inl (Or.inr z.2)) (fun z => Or.inr z.2))⟩
/-! a square as the model reads it -/
theorem pie_2 {h : IA} {r c L : Int} : S_pie h r c L = z1 (P_e (S_hi h L) (r * 6 + c) 0) + z1 (P_e (S_hi h L) (r * 6 + c) 1) := by unfold S_pie; rw [S_xk_N]; exact kN_2 _ _ _ _
theorem pe01 {m : BA} {q : Int} (h : P_e m q 1 = true) : P_e m q 0 = true := (k_two _ _ _ _ h).1
theorem pie_e {h : IA} {r c L : Int} : (S_pie h r c L = 2 → P_e (S_hi h L) (r * 6 + c) 0 = true ∧ P_e (S_hi h L) (r * 6 + c) 1 = true) ∧ (S_pie h r c L = 1 → P_e (S_hi h L) (r * 6 + c) 0 = true ∧ P_e (S_hi h L) (r * 6 + c) 1 = false) ∧ (S_pie h r c L ≠ 2 → S_pie h r c L ≠ 1 → P_e (S_hi h L) (r * 6 + c) 0 = false ∧ P_e (S_hi h L) (r * 6 + c) 1 = false) := by
  have h1 := @pie_2 h r c L
  have h2 := @pe01 (S_hi h L) (r * 6 + c)
  revert h1 h2
  cases P_e (S_hi h L) (r * 6 + c) 0 <;> cases P_e (S_hi h L) (r * 6 + c) 1 <;> intro h1 h2 <;> rw [h1]
  · exact ⟨fun z => absurd z (by decide), fun z => absurd z (by decide), fun _ _ => ⟨rfl, rfl⟩⟩
  · exact absurd (h2 rfl) (by decide)
  · exact ⟨fun z => absurd z (by decide), fun _ => ⟨rfl, rfl⟩, fun _ z => absurd rfl z⟩
  · exact ⟨fun _ => ⟨rfl, rfl⟩, fun z => absurd z (by decide), fun z _ => absurd rfl z⟩
theorem kS_e : ∀ b0 b1 b2 b3 : Bool, kE b0 b1 b2 b3 1 = kS b0 b1 b2 b3 := by decide
theorem P_two {m : BA} {q : Int} (h : P_e m q 1 = true) : (m (S_cn q 0) = true → P_a m q 0 = S_sd q 3 ∧ P_b m q 0 = S_sd q 0 ∧ P_a m q 1 = S_sd q 1 ∧ P_b m q 1 = S_sd q 2) ∧ (m (S_cn q 0) = false → P_a m q 0 = S_sd q 0 ∧ P_b m q 0 = S_sd q 1 ∧ P_a m q 1 = S_sd q 2 ∧ P_b m q 1 = S_sd q 3) := by
  have h1 : kS (m (S_cn q 0)) (m (S_cn q 1)) (m (S_cn q 2)) (m (S_cn q 3)) = true := by rw [← kS_e]; exact h
  unfold P_a P_b kA kB
  refine ⟨fun h0 => ?_, fun h0 => ?_⟩ <;> rw [if_pos h1, if_pos h1, if_pos h1, if_pos h1, h0] <;> exact ⟨rfl, rfl, rfl, rfl⟩
theorem P_one {m : BA} {q : Int} (hq : 0 ≤ q ∧ q < 36) (h : P_e m q 1 = false) : P_a m q 0 = (if S_X m (S_sd q 0) = true then S_sd q 0 else if S_X m (S_sd q 1) = true then S_sd q 1 else S_sd q 2) ∧ P_b m q 0 = (if S_X m (S_sd q 3) = true then S_sd q 3 else if S_X m (S_sd q 2) = true then S_sd q 2 else S_sd q 1) := by
  have h1 : ¬ kS (m (S_cn q 0)) (m (S_cn q 1)) (m (S_cn q 2)) (m (S_cn q 3)) = true := by rw [← kS_e]; intro z; rw [show P_e m q 1 = kE _ _ _ _ 1 from rfl, z] at h; cases h
  rw [S_X_sd hq ⟨by omega, by omega⟩, S_X_sd hq ⟨by omega, by omega⟩, S_X_sd hq ⟨by omega, by omega⟩, S_X_sd hq ⟨by omega, by omega⟩]
  unfold P_a P_b kA kB
  rw [if_neg h1, if_neg h1]
  show S_sd q (if P_x m q 0 = true then 0 else if P_x m q 1 = true then 1 else 2) = _ ∧ S_sd q (if P_x m q 3 = true then 3 else if P_x m q 2 = true then 2 else 1) = _
  refine ⟨?_, ?_⟩ <;> (repeat' split) <;> rfl
/-! counting pieces by labels -/
def PC (m : BA) (f : IA) (pc : IA) (K : Int) : Prop := ∀ e, 0 ≤ e → e < 84 → pc e = zC (fun i => S_pe m i && decide (f (S_pa m i) = e)) (2 * K)
theorem PC_0 {m : BA} {f pc : IA} (h : ∀ e, 0 ≤ e → e < 84 → pc e = 0) : PC m f pc 0 := fun e a b => by rw [h e a b]; exact (zC_0 _).symm
theorem PC_b {m : BA} {f pc : IA} {K : Int} (hK : 0 ≤ K ∧ K ≤ 36) (H : PC m f pc K) : ∀ e, 0 ≤ e → e < 84 → 0 ≤ pc e ∧ pc e ≤ 72 := fun e a b => by
  rw [H e a b]; have := zC_b (fun i => S_pe m i && decide (f (S_pa m i) = e)) (i := 2 * K) (by omega); omega
theorem PC_up {m : BA} {f pc pc2 : IA} {K : Int} (hK : 0 ≤ K) (H : PC m f pc K) (h : ∀ e, 0 ≤ e → e < 84 → pc2 e = pc e + z1 (P_e m K 0 && decide (f (P_a m K 0) = e)) + z1 (P_e m K 1 && decide (f (P_a m K 1) = e))) : PC m f pc2 (K + 1) := fun e a b => by
  rw [h e a b, H e a b, show 2 * (K + 1) = 2 * K + 1 + 1 by omega, zC_up (by omega), zC_up (by omega)]
  have e0 : S_pe m (2 * K) = P_e m K 0 ∧ S_pa m (2 * K) = P_a m K 0 := by unfold S_pe S_pa; rw [show 2 * K / 2 = K by omega, show 2 * K % 2 = 0 by omega]; exact ⟨rfl, rfl⟩
  have e1 : S_pe m (2 * K + 1) = P_e m K 1 ∧ S_pa m (2 * K + 1) = P_a m K 1 := by unfold S_pe S_pa; rw [show (2 * K + 1) / 2 = K by omega, show (2 * K + 1) % 2 = 1 by omega]; exact ⟨rfl, rfl⟩
  rw [e0.1, e0.2, e1.1, e1.2]
theorem PC_none {m : BA} {f pc : IA} {K : Int} (hK : 0 ≤ K) (H : PC m f pc K) (h0 : P_e m K 0 = false) (h1 : P_e m K 1 = false) : PC m f pc (K + 1) := PC_up hK H (fun e _ _ => by
  rw [h0, h1, Bool.false_and, Bool.false_and]; rw [show z1 false = 0 from rfl]; omega)
theorem z1d {a b : Int} : z1 (decide (a = b)) = if b = a then 1 else 0 := by
  by_cases q : a = b
  · rw [decide_eq_true q, if_pos q.symm]; rfl
  · rw [decide_eq_false q, if_neg (fun z => q z.symm)]; rfl
theorem PC_one {m : BA} {f pc : IA} {K x : Int} (hK : 0 ≤ K) (H : PC m f pc K) (h0 : P_e m K 0 = true) (h1 : P_e m K 1 = false) (hx : f (P_a m K 0) = x) : PC m f (zu pc x (pc x + 1)) (K + 1) := PC_up hK H (fun e _ _ => by
  rw [h0, h1, Bool.true_and, Bool.false_and, hx, z1d]; rw [show z1 false = 0 from rfl]
  by_cases q : e = x
  · rw [q, zu_s, if_pos rfl]; omega
  · rw [zu_n q, if_neg q]; omega)
theorem PC_two {m : BA} {f pc : IA} {K x y : Int} (hK : 0 ≤ K) (H : PC m f pc K) (h0 : P_e m K 0 = true) (h1 : P_e m K 1 = true) (hxy : (f (P_a m K 0) = x ∧ f (P_a m K 1) = y) ∨ (f (P_a m K 0) = y ∧ f (P_a m K 1) = x)) : PC m f (zu (zu pc x (pc x + 1)) y (zu pc x (pc x + 1) y + 1)) (K + 1) := PC_up hK H (fun e _ _ => by
  rw [h0, h1, Bool.true_and, Bool.true_and, z1d, z1d]
  have key : zu (zu pc x (pc x + 1)) y (zu pc x (pc x + 1) y + 1) e = pc e + (if e = x then 1 else 0) + (if e = y then 1 else 0) := by
    by_cases q : e = y
    · rw [q, zu_s, if_pos (rfl : y = y)]
      by_cases r : y = x
      · rw [r, zu_s, if_pos rfl]
      · rw [zu_n r, if_neg r]; omega
    · rw [zu_n q, if_neg q]
      by_cases r : e = x
      · rw [r, zu_s, if_pos rfl]; omega
      · rw [zu_n r, if_neg r]; omega
  rw [key]
  rcases hxy with ⟨q1, q2⟩ | ⟨q1, q2⟩ <;> rw [q1, q2]
  omega)
/-! borders -/
def OP (m : BA) (f : IA) (op : BA) (B : Int → Prop) : Prop := ∀ e, 0 ≤ e → e < 84 → (op e = true ↔ ∃ b, (0 ≤ b ∧ b < 84) ∧ B b ∧ S_X m b = true ∧ f b = e)
theorem OP_cg {m : BA} {f : IA} {op : BA} {B B' : Int → Prop} (h : ∀ b, 0 ≤ b → b < 84 → (B b ↔ B' b)) (H : OP m f op B) : OP m f op B' := fun e a b => (H e a b).trans
  ⟨fun ⟨z, z1, z2, z3⟩ => ⟨z, z1, (h z z1.1 z1.2).mp z2, z3⟩, fun ⟨z, z1, z2, z3⟩ => ⟨z, z1, (h z z1.1 z1.2).mpr z2, z3⟩⟩
theorem OP_set {m : BA} {f : IA} {op op2 : BA} {B : Int → Prop} {x : Int} (hx : 0 ≤ x ∧ x < 84) (hX : S_X m x = true ↔ f x ≠ -1) (H : OP m f op B) (h : op2 = if f x = -1 then op else bu op (f x) true) : OP m f op2 (fun b => B b ∨ b = x) := fun e a b => by
  rw [h]
  by_cases q : f x = -1
  · rw [if_pos q, H e a b]
    exact ⟨fun ⟨z, z1, z2, z3⟩ => ⟨z, z1, Or.inl z2, z3⟩, fun ⟨z, z1, z2, z3⟩ => ⟨z, z1, z2.elim id (fun y => absurd q (hX.mp (y ▸ z3.1))), z3⟩⟩
  · rw [if_neg q]
    by_cases r : e = f x
    · rw [r, bu_s]; exact ⟨fun _ => ⟨x, hx, Or.inr rfl, hX.mpr q, rfl⟩, fun _ => rfl⟩
    · rw [bu_n r, H e a b]
      exact ⟨fun ⟨z, z1, z2, z3⟩ => ⟨z, z1, Or.inl z2, z3⟩, fun ⟨z, z1, z2, z3⟩ => ⟨z, z1, z2.elim id (fun y => absurd (y ▸ z3.2).symm r), z3⟩⟩
def Bk (k : Int) (b : Int) : Prop := (b < 6 ∧ b < k) ∨ (36 ≤ b ∧ b < 42 ∧ b - 36 < k) ∨ (42 ≤ b ∧ (b - 42) / 7 < k ∧ ((b - 42) % 7 = 0 ∨ (b - 42) % 7 = 6))
theorem OP_0 {m : BA} {f : IA} {op : BA} (h : ∀ e, 0 ≤ e → e < 84 → op e = false) : OP m f op (Bk 0) := fun e a b => by
  rw [h e a b]; refine ⟨fun q => (by cases q), fun ⟨z, z1, z2, _⟩ => ?_⟩
  unfold Bk at z2; omega
theorem OP_4 {m : BA} {f : IA} {op : BA} {k : Int} (hk : 0 ≤ k ∧ k < 6) (H : OP m f op (fun b => (((Bk k b ∨ b = k) ∨ b = 36 + k) ∨ b = 42 + 7 * k) ∨ b = 48 + 7 * k)) : OP m f op (Bk (k + 1)) := OP_cg (fun b _ _ => by unfold Bk; omega) H
theorem Bk_6 {b : Int} (h : 0 ≤ b ∧ b < 84) : Bk 6 b ↔ E_q2 b = 36 := by
  unfold Bk E_q2; (repeat' split) <;> omega
/-! what is told of the lines -/
theorem UF_rep {m : BA} {f : IA} (H : UF m 36 f) {e : Int} (he : 0 ≤ e ∧ e < 84) : f e = e ↔ S_lrep m e = true := by
  rw [S_lrep_iff]
  have h := H.1 e he.1 he.2
  constructor
  · intro q
    have hX : S_X m e = true := (UFR_X H he).mpr (by omega)
    refine ⟨hX, fun j j0 j1 j2 j3 => ?_⟩
    have h1 := UFR_C H (x := j) (y := e) (j3.mono (fun x y => (JK_36 x y).mpr))
    have h2 := (H.1 j j0 (by omega)).2 j2
    omega
  · intro ⟨hX, hm⟩
    have h1 := h.2 hX
    by_cases q : f e = e
    · exact q
    · exact absurd (h1.2.2.mono (fun x y => (JK_36 x y).mp)) (hm (f e) h1.1.1 (by omega) h1.2.1)
theorem UF_open {m : BA} {f : IA} {op : BA} (H : UF m 36 f) (hO : OP m f op (Bk 6)) {e : Int} (he : 0 ≤ e ∧ e < 84) (hr : f e = e) : op e = true ↔ S_lopen m e := by
  rw [hO e he.1 he.2]
  constructor
  · intro ⟨b, b0, b1, b2, b3⟩
    have h1 := (H.1 b b0.1 b0.2).2 b2
    rw [b3] at h1
    exact ⟨b, b0.1, b0.2, b2, (Bk_6 b0).mp b1, h1.2.2.mono (fun x y => (JK_36 x y).mp)⟩
  · intro ⟨b, b0, b1, b2, b3, b4⟩
    exact ⟨b, ⟨b0, b1⟩, (Bk_6 ⟨b0, b1⟩).mpr b3, b2, (UFR_C H (b4.mono (fun x y => (JK_36 x y).mpr))).symm.trans hr⟩
theorem UF_psz {m : BA} {f pc : IA} (H : UF m 36 f) (hP : PC m f pc 36) {e : Int} (he : 0 ≤ e ∧ e < 84) : pc e = if f e = e then S_psz m e else 0 := by
  rw [hP e he.1 he.2]
  by_cases q : f e = e
  · rw [if_pos q]
    have hX : S_X m e = true := (UFR_X H he).mpr (by omega)
    refine zC_congr (by omega) (fun i a b => ?_)
    cases hp : S_pe m i
    · rfl
    · rw [Bool.true_and, Bool.true_and]
      have hx := S_p_X (m := m) (i := i) ⟨a, by omega⟩ hp
      by_cases r : f (S_pa m i) = e
      · rw [decide_eq_true r]
        have h1 := (H.1 _ hx.1.1 hx.1.2).2 hx.2.2.2.1
        rw [r] at h1
        exact (cb_iff.mpr (h1.2.2.mono (fun x y => (JK_36 x y).mp))).symm
      · rw [decide_eq_false r]
        exact (cb_f.mpr (fun z => r ((UFR_C H (z.mono (fun x y => (JK_36 x y).mpr))).symm.trans q))).symm
  · rw [if_neg q]
    refine zC_zero _ (by omega) (fun i a b => ?_)
    cases hp : S_pe m i
    · rfl
    · rw [Bool.true_and]
      refine decide_eq_false (fun r => q ?_)
      have hx := S_p_X (m := m) (i := i) ⟨a, by omega⟩ hp
      have h1 := (H.1 _ hx.1.1 hx.1.2).2 hx.2.2.2.1
      have h2 := UFR_C H h1.2.2
      rw [r] at h2; exact h2
theorem UF_long {m : BA} {f pc : IA} (H : UF m 36 f) (hP : PC m f pc 36) : S_top pc 84 = S_long m := by
  have hb := PC_b (by omega) hP
  have g1 : S_top pc 84 ≤ S_long m := (S_top_b (S_top_0le 84 (by omega)) 84 (by omega) (fun k a b => by
    rw [UF_psz H hP ⟨a, b⟩]
    split
    · next q =>
      have hX : S_X m k = true := (UFR_X H ⟨a, b⟩).mpr (by omega)
      have := @S_top_ge (fun e => if S_X m e = true then S_psz m e else 0) 84 (by omega) k a b
      simp only [hX, if_true] at this
      exact this
    · exact S_top_0le 84 (by omega))).2
  have g2 : S_long m ≤ S_top pc 84 := (S_top_b (S_top_0le 84 (by omega)) 84 (by omega) (fun k a b => by
    by_cases hX : S_X m k = true
    · rw [if_pos hX]
      have h1 := (H.1 k a b).2 hX
      have h2 : f (f k) = f k := UFR_C H h1.2.2
      have h3 := UF_psz H hP (e := f k) ⟨h1.1.1, by omega⟩
      rw [if_pos h2] at h3
      have h4 := S_psz_congr (h1.2.2.mono (fun x y => (JK_36 x y).mp))
      rw [← h4, ← h3]
      exact S_top_ge 84 (by omega) (f k) h1.1.1 (by omega)
    · rw [if_neg hX]; exact S_top_0le 84 (by omega))).2
  omega
theorem jn_b {f : IA} {a b : Int} (h : ∀ k, 0 ≤ k → k < 84 → -1 ≤ f k ∧ f k ≤ 83) (ha : 0 ≤ a ∧ a < 84) (hb : 0 ≤ b ∧ b < 84) : ∀ k, 0 ≤ k → k < 84 → -1 ≤ jn f a b k ∧ jn f a b k ≤ 83 := fun k h1 h2 => by
  have k1 := h a ha.1 ha.2; have k2 := h b hb.1 hb.2; have k3 := h k h1 h2
  unfold jn; rw [zmix_at ⟨h1, h2⟩]; (repeat' split) <;> omega
theorem S_cn_0 {r c : Int} (hc : 0 ≤ c ∧ c < 6) : S_cn (r * 6 + c) 0 = 7 * r + c := by unfold S_cn; rw [if_pos rfl]; omega
theorem CT_two {m : BA} {f : IA} (H : UF m 36 f) {q : Int} (hq : 0 ≤ q ∧ q < 36) (h0 : P_e m q 0 = true) (h1 : P_e m q 1 = true) : (f (P_a m q 0) = f (S_sd q 0) ∧ f (P_a m q 1) = f (S_sd q 2)) ∧ (0 ≤ f (S_sd q 0) ∧ f (S_sd q 0) < 84) ∧ 0 ≤ f (S_sd q 2) ∧ f (S_sd q 2) < 84 := by
  have j0 : f (P_a m q 0) = f (P_b m q 0) := H.2 _ _ ((JK_36 _ _).mpr (P_J hq (Or.inl rfl) h0))
  have j1 : f (P_a m q 1) = f (P_b m q 1) := H.2 _ _ ((JK_36 _ _).mpr (P_J hq (Or.inr rfl) h1))
  have x0 := P_X2 hq (Or.inl rfl) h0; have x1 := P_X2 hq (Or.inr rfl) h1
  have p := P_two h1
  have r0 := ((H.1 _ x0.1.1.1 x0.1.1.2).2 x0.1.2).1; have r1 := ((H.1 _ x1.1.1.1 x1.1.1.2).2 x1.1.2).1
  have e0 : f (P_a m q 0) = f (S_sd q 0) := by
    cases hb : m (S_cn q 0)
    · rw [(p.2 hb).1]
    · rw [j0, (p.1 hb).2.1]
  have e1 : f (P_a m q 1) = f (S_sd q 2) := by
    cases hb : m (S_cn q 0)
    · rw [(p.2 hb).2.2.1]
    · rw [j1, (p.1 hb).2.2.2]
  have b0 := x0.1.1; have b1 := x1.1.1
  rw [e0] at r0; rw [e1] at r1
  exact ⟨⟨e0, e1⟩, ⟨r0.1, by omega⟩, r1.1, by omega⟩
theorem lines_f (m : BA) : zC (fun e => S_lrep m e && !(false && cb (S_lopen m e))) 84 = S_nlines m := zC_congr (by omega) (fun k _ _ => by rw [Bool.false_and]; exact Bool.and_true _)
theorem lines_t (m : BA) : zC (fun e => S_lrep m e && !(true && cb (S_lopen m e))) 84 = S_nclosed m := zC_congr (by omega) (fun k _ _ => by rw [Bool.true_and])
