/-! PONDS, plainly: how high water stands -/
theorem bmix_skip {i : Int} {f g : BA} (hi : 0 ≤ i) (hv : g i = f i) : bmix i f g = bmix (i + 1) f g := by
  funext k; unfold bmix
  by_cases h2 : 0 ≤ k ∧ k < i
  · rw [if_pos h2, if_pos (by omega)]
  · rw [if_neg h2]
    by_cases h : k = i
    · subst h; rw [if_pos (by omega), hv]
    · rw [if_neg (by omega)]
def S_bd (k : Int) : Prop := k < 7 ∨ 42 ≤ k ∨ k % 7 = 0 ∨ k % 7 = 6
def S_mk (h : IA) (L : Int) : BA := fun k => decide ((0 ≤ k ∧ k < 49) ∧ h k ≤ L)
theorem S_mk_iff {h : IA} {L k : Int} : S_mk h L k = true ↔ (0 ≤ k ∧ k < 49) ∧ h k ≤ L := by unfold S_mk; exact decide_eq_true_iff
def S_con (h : IA) (L p : Int) : Prop := ∃ j, (0 ≤ j ∧ j < 49) ∧ S_bd j ∧ S_mk h L j = true ∧ Cn (S_rr 4 (S_mk h L)) j p
theorem S_con_m {h : IA} {L p : Int} (H : S_con h L p) : (0 ≤ p ∧ p < 49) ∧ h p ≤ L := by
  obtain ⟨j, h1, h2, h3, h4⟩ := H
  exact S_mk_iff.mp (S_rr_m h3 h4)
theorem S_con_le {h : IA} {L L2 p : Int} (hl : L ≤ L2) (H : S_con h L p) : S_con h L2 p := by
  obtain ⟨j, h1, h2, h3, h4⟩ := H
  have hm : ∀ k, S_mk h L k = true → S_mk h L2 k = true := fun k hk => by rw [S_mk_iff] at hk ⊢; omega
  exact ⟨j, h1, h2, hm j h3, h4.mono (fun x y hr => ⟨hr.1, hm x hr.2.1, hm y hr.2.2⟩)⟩
theorem S_con_b {h : IA} {L p : Int} (hp : 0 ≤ p ∧ p < 49) (hb : S_bd p) (hl : h p ≤ L) : S_con h L p := ⟨p, hp, hb, S_mk_iff.mpr ⟨hp, hl⟩, Cn.rf⟩
theorem S_con_st {h : IA} {L x y : Int} (H : S_con h L x) (ha : S_adj 4 x y) (hl : h y ≤ L) : S_con h L y := by
  have hx := S_con_m H
  obtain ⟨j, h1, h2, h3, h4⟩ := H
  exact ⟨j, h1, h2, h3, h4.st ⟨ha, S_mk_iff.mpr hx, S_mk_iff.mpr ⟨ha.2.1, hl⟩⟩⟩
theorem S_con_all {h : IA} {L : Int} (hl : ∀ k, 0 ≤ k → k < 49 → h k ≤ L) : ∀ r, 0 ≤ r → ∀ p, p / 7 = r → 0 ≤ p → p < 49 → S_con h L p := by
  refine z_ind (fun p e h0 h1 => S_con_b ⟨h0, h1⟩ (Or.inl (by omega)) (hl p h0 h1)) (fun r hr ih p e h0 h1 => ?_)
  have H := ih (p - 7) (by omega) (by omega) (by omega)
  refine S_con_st H ⟨⟨by omega, by omega⟩, ⟨h0, h1⟩, 2, by omega, by omega, ?_⟩ (hl p h0 h1)
  rw [(S_step_4 (p := p - 7) ⟨by omega, by omega⟩).2.2.1, if_neg (by omega)]; omega
noncomputable def S_spill (h : IA) (k : Int) : Int := zC (fun L => !cb (S_con h L k)) 100
theorem zC_below {v : Int} (hv : 0 ≤ v) : ∀ i, 0 ≤ i → zC (fun L => decide (L < v)) i = if i ≤ v then i else v := by
  refine z_ind (by rw [zC_0, if_pos hv]) (fun i hi ih => ?_)
  rw [zC_up hi, ih]
  by_cases h : i < v
  · rw [z1_t (decide_eq_true h), if_pos (by omega), if_pos (by omega)]
  · rw [z1_f (decide_eq_false h)]; split <;> split <;> omega
theorem S_spill_eq {h : IA} {k v : Int} (hv : 0 ≤ v ∧ v ≤ 99) (h1 : ∀ t, 0 ≤ t → t < 99 → (S_con h t k ↔ v ≤ t)) (h2 : S_con h 99 k) : S_spill h k = v := by
  have e : zC (fun L => !cb (S_con h L k)) 100 = zC (fun L => decide (L < v)) 100 := zC_congr (by omega) (fun t t1 t2 => by
    by_cases et : t < 99
    · by_cases ev : v ≤ t
      · rw [cb_iff.mpr ((h1 t t1 et).mpr ev), decide_eq_false (by omega)]; rfl
      · rw [cb_f.mpr (fun q => ev ((h1 t t1 et).mp q)), decide_eq_true (by omega)]; rfl
    · rw [show t = 99 by omega, cb_iff.mpr h2, decide_eq_false (by omega)]; rfl)
  unfold S_spill; rw [e, zC_below hv.1 100 (by omega)]; split <;> omega
/-! by levels -/
noncomputable def S_leftB (n : Int) (w : BA) (B : Int → Prop) (i : Int) : BA := fun k => w k && !cb (∃ j, 0 ≤ j ∧ j < i ∧ B j ∧ w j = true ∧ Cn (S_rr n w) j k)
theorem S_leftB_0 (n : Int) (w : BA) (B : Int → Prop) : w = S_leftB n w B 0 := by
  funext k; unfold S_leftB; rw [cb_f.mpr (fun ⟨j, a, b, _⟩ => by omega)]; cases w k <;> rfl
theorem S_leftB_t {n : Int} {w : BA} {B : Int → Prop} {i k : Int} (h : S_leftB n w B i k = true) : w k = true ∧ ∀ j, 0 ≤ j → j < i → B j → w j = true → ¬ Cn (S_rr n w) j k := by
  unfold S_leftB at h
  cases hk : w k
  · rw [hk] at h; cases h
  · rw [hk] at h
    refine ⟨rfl, fun j a b b2 c d => ?_⟩
    rw [cb_iff.mpr ⟨j, a, b, b2, c, d⟩] at h; cases h
theorem S_leftB_f {n : Int} {w : BA} {B : Int → Prop} {i k : Int} (h : S_leftB n w B i k = false) (hk : w k = true) : ∃ j, 0 ≤ j ∧ j < i ∧ B j ∧ w j = true ∧ Cn (S_rr n w) j k := by
  unfold S_leftB at h; rw [hk] at h
  cases hc : cb (∃ j, 0 ≤ j ∧ j < i ∧ B j ∧ w j = true ∧ Cn (S_rr n w) j k)
  · rw [hc] at h; cases h
  · exact cb_iff.mp hc
theorem S_leftB_skip {n : Int} {w : BA} {B : Int → Prop} {i : Int} (h : ¬ B i ∨ S_leftB n w B i i = false) : S_leftB n w B i = S_leftB n w B (i + 1) := by
  funext k
  cases hk : w k
  · unfold S_leftB; rw [hk]; rfl
  · unfold S_leftB; rw [hk]; congr 1; congr 1
    refine cb_congr ⟨fun ⟨j, a, b, b2, c, d⟩ => ⟨j, a, by omega, b2, c, d⟩, fun ⟨j, a, b, b2, c, d⟩ => ?_⟩
    by_cases e : j = i
    · rcases h with h | h
      · exact absurd (e ▸ b2) h
      · obtain ⟨j2, a2, b2, b3, c2, d2⟩ := S_leftB_f h (e ▸ c)
        exact ⟨j2, a2, b2, b3, c2, d2.tr (e ▸ d)⟩
    · exact ⟨j, a, by omega, b2, c, d⟩
theorem S_leftB_up {n : Int} (hn : n = 4 ∨ n = 8) {w : BA} {B : Int → Prop} {i : Int} (hi : 0 ≤ i) (hBi : B i) (h : S_leftB n w B i i = true) : S_rem n (S_leftB n w B i) i = S_leftB n w B (i + 1) := by
  obtain ⟨hwi, hno⟩ := S_leftB_t h
  have hmono : ∀ x y, S_rr n (S_leftB n w B i) x y → S_rr n w x y := fun x y hr => ⟨hr.1, (S_leftB_t hr.2.1).1, (S_leftB_t hr.2.2).1⟩
  have hin : ∀ k, Cn (S_rr n w) i k → S_leftB n w B i k = true := fun k hc => by
    cases hx : S_leftB n w B i k
    · obtain ⟨j, a, b, b2, c, d⟩ := S_leftB_f hx (S_rr_m hwi hc)
      exact absurd (d.tr (hc.sy (S_rr_sy hn))) (hno j a b b2 c)
    · rfl
  have hsame : ∀ k, Cn (S_rr n (S_leftB n w B i)) i k ↔ Cn (S_rr n w) i k := fun k => ⟨fun hc => hc.mono hmono, fun hc =>
    (hc (fun z => Cn (S_rr n w) i z ∧ Cn (S_rr n (S_leftB n w B i)) i z) ⟨Cn.rf, Cn.rf⟩ (fun x y hx hr => ⟨hx.1.st hr, hx.2.st ⟨hr.1, hin x hx.1, hin y (hx.1.st hr)⟩⟩)).2⟩
  funext k
  unfold S_rem
  rw [cb_congr (hsame k)]
  unfold S_leftB
  cases hk : w k
  · rfl
  · have hc : cb (∃ j, 0 ≤ j ∧ j < i + 1 ∧ B j ∧ w j = true ∧ Cn (S_rr n w) j k) = (cb (∃ j, 0 ≤ j ∧ j < i ∧ B j ∧ w j = true ∧ Cn (S_rr n w) j k) || cb (Cn (S_rr n w) i k)) := by
      cases h1 : cb (Cn (S_rr n w) i k)
      · have h1' := cb_f.mp h1
        rw [Bool.or_false]
        refine cb_congr ⟨fun ⟨j, a, b, b2, c, d⟩ => ⟨j, a, ?_, b2, c, d⟩, fun ⟨j, a, b, b2, c, d⟩ => ⟨j, a, by omega, b2, c, d⟩⟩
        by_cases e : j = i
        · exact absurd (e ▸ d) h1'
        · omega
      · rw [Bool.or_true]; exact cb_iff.mpr ⟨i, hi, by omega, hBi, hwi, cb_iff.mp h1⟩
    rw [hc]
    cases cb (∃ j, 0 ≤ j ∧ j < i ∧ B j ∧ w j = true ∧ Cn (S_rr n w) j k) <;> cases cb (Cn (S_rr n w) i k) <;> rfl
/-- the marks of a level, on whatever row -/
theorem S_leftB_con {h : IA} {L : Int} {w : BA} (hw : ∀ k, 0 ≤ k → k < 49 → w k = decide (h k ≤ L)) {k : Int} (hk : 0 ≤ k ∧ k < 49) : S_leftB 4 w S_bd 49 k = true ↔ h k ≤ L ∧ ¬ S_con h L k := by
  have hm : ∀ x, 0 ≤ x → x < 49 → (w x = true ↔ S_mk h L x = true) := fun x a b => by rw [hw x a b, S_mk_iff, decide_eq_true_iff]; omega
  have hr : ∀ x y, S_rr 4 w x y ↔ S_rr 4 (S_mk h L) x y := fun x y => ⟨fun q => ⟨q.1, (hm x q.1.1.1 q.1.1.2).mp q.2.1, (hm y q.1.2.1.1 q.1.2.1.2).mp q.2.2⟩, fun q => ⟨q.1, (hm x q.1.1.1 q.1.1.2).mpr q.2.1, (hm y q.1.2.1.1 q.1.2.1.2).mpr q.2.2⟩⟩
  have hwk : w k = true ↔ h k ≤ L := by rw [hw k hk.1 hk.2]; exact decide_eq_true_iff
  constructor
  · intro q
    obtain ⟨q1, q2⟩ := S_leftB_t q
    refine ⟨hwk.mp q1, fun ⟨j, j1, j2, j3, j4⟩ => ?_⟩
    exact q2 j j1.1 j1.2 j2 ((hm j j1.1 j1.2).mpr j3) (j4.mono (fun x y z => (hr x y).mpr z))
  · rintro ⟨q1, q2⟩
    cases hx : S_leftB 4 w S_bd 49 k
    · obtain ⟨j, a, b, b2, c, d⟩ := S_leftB_f hx (hwk.mpr q1)
      exact absurd ⟨j, ⟨a, b⟩, b2, (hm j a b).mp c, d.mono (fun x y z => (hr x y).mp z)⟩ q2
    · rfl
noncomputable def S_lvl (h : IA) (L : Int) (lv : IA) : IA := fun k => if cb (S_con h L k) = true then L else lv k
def S_hs (h : IA) (L : Int) : Prop := ∃ j, 0 ≤ j ∧ j < 49 ∧ h j = L
def LJ (h lv : IA) (n : Int) : Prop := ∀ k, 0 ≤ k → k < 49 → (∃ L, n ≤ L ∧ L ≤ 99 ∧ S_hs h L ∧ S_con h L k) → (n ≤ lv k ∧ lv k ≤ 99 ∧ S_con h (lv k) k ∧ ∀ L, n ≤ L → L < lv k → S_hs h L → ¬ S_con h L k)
theorem LJ_init (h lv : IA) : LJ h lv 100 := fun k _ _ ⟨L, a, b, _⟩ => by omega
theorem LJ_skip {h lv : IA} {n : Int} (H : LJ h lv (n + 1)) (hn : ¬ S_hs h n) : LJ h lv n := by
  rintro k k1 k2 ⟨L, a, b, c, d⟩
  have e : L ≠ n := fun e => hn (e ▸ c)
  obtain ⟨h1, h2, h3, h4⟩ := H k k1 k2 ⟨L, by omega, b, c, d⟩
  refine ⟨by omega, h2, h3, fun L2 a2 b2 c2 => ?_⟩
  have e2 : L2 ≠ n := fun e => hn (e ▸ c2)
  exact h4 L2 (by omega) b2 c2
theorem LJ_up {h lv : IA} {n : Int} (hn : n ≤ 99) (H : LJ h lv (n + 1)) : LJ h (S_lvl h n lv) n := by
  rintro k k1 k2 ⟨L, a, b, c, d⟩
  by_cases hc : S_con h n k
  · have e : S_lvl h n lv k = n := by unfold S_lvl; rw [if_pos (cb_iff.mpr hc)]
    rw [e]; exact ⟨by omega, hn, hc, fun L2 a2 b2 => by omega⟩
  · have e : S_lvl h n lv k = lv k := by unfold S_lvl; rw [if_neg (by rw [cb_f.mpr hc]; decide)]
    rw [e]
    have e2 : L ≠ n := fun e => hc (e ▸ d)
    obtain ⟨h1, h2, h3, h4⟩ := H k k1 k2 ⟨L, by omega, b, c, d⟩
    refine ⟨by omega, h2, h3, fun L2 a2 b2 c2 d2 => ?_⟩
    have e3 : L2 ≠ n := fun e => hc (e ▸ d2)
    exact h4 L2 (by omega) b2 c2 d2
/-- of the points that have P (one has), one is highest -/
theorem z_top {h : IA} {P : Int → Prop} : ∀ i, 0 ≤ i → (∃ j, 0 ≤ j ∧ j < i ∧ P j) → ∃ j, (0 ≤ j ∧ j < i) ∧ P j ∧ ∀ k, 0 ≤ k → k < i → P k → h k ≤ h j := by
  refine z_ind (fun ⟨j, a, b, _⟩ => by omega) (fun i hi ih he => ?_)
  by_cases hx : ∃ j, 0 ≤ j ∧ j < i ∧ P j
  · obtain ⟨j, j1, j2, j3⟩ := ih hx
    by_cases hp : P i ∧ h j < h i
    · exact ⟨i, by omega, hp.1, fun k a b c => by
        by_cases e : k = i
        · rw [e]; exact Int.le_refl _
        · have := j3 k a (by omega) c; omega⟩
    · refine ⟨j, by omega, j2, fun k a b c => ?_⟩
      by_cases e : k = i
      · have : ¬ h j < h i := fun q => hp ⟨e ▸ c, q⟩
        rw [e]; omega
      · exact j3 k a (by omega) c
  · obtain ⟨j, a, b, c⟩ := he
    have e : j = i := by
      by_cases e : j = i
      · exact e
      · exact absurd ⟨j, a, by omega, c⟩ hx
    refine ⟨i, by omega, e ▸ c, fun k a b c => ?_⟩
    by_cases e : k = i
    · rw [e]; exact Int.le_refl _
    · exact absurd ⟨k, a, by omega, c⟩ hx
theorem LJ_end {h lv : IA} (hh : ∀ k, 0 ≤ k → k < 49 → 0 ≤ h k ∧ h k ≤ 99) (H : LJ h lv 0) {k : Int} (hk : 0 ≤ k ∧ k < 49) : lv k = S_spill h k := by
  obtain ⟨M, m1, -, m2⟩ := z_top (h := h) (P := fun _ => True) 49 (by omega) ⟨0, by omega, by omega, trivial⟩
  have hM := hh M m1.1 m1.2
  obtain ⟨h1, h2, h3, h4⟩ := H k hk.1 hk.2 ⟨h M, hM.1, hM.2, ⟨M, m1.1, m1.2, rfl⟩, S_con_all (fun x a b => m2 x a b trivial) (k / 7) (by omega) k rfl hk.1 hk.2⟩
  refine (S_spill_eq ⟨h1, h2⟩ (fun t t1 t2 => ⟨fun q => ?_, fun q => S_con_le q h3⟩) (S_con_le (by omega) h3)).symm
  rcases Int.lt_or_le t (lv k) with ht | ht
  · exfalso
    have hkt := (S_con_m q).2
    obtain ⟨j, j1, j2, j3⟩ := z_top (h := h) (P := fun x => h x ≤ t) 49 (by omega) ⟨k, hk.1, hk.2, hkt⟩
    have em : S_mk h (h j) = S_mk h t := by
      funext x
      have : (S_mk h (h j) x = true ↔ S_mk h t x = true) := by
        rw [S_mk_iff, S_mk_iff]
        exact ⟨fun z => ⟨z.1, by omega⟩, fun z => ⟨z.1, j3 x z.1.1 z.1.2 z.2⟩⟩
      cases ha : S_mk h (h j) x <;> cases hb : S_mk h t x <;> simp [ha, hb] at this ⊢
    have qj : S_con h (h j) k := by unfold S_con at *; rw [em]; exact q
    exact h4 (h j) (hh j j1.1 j1.2).1 (by omega) ⟨j, j1.1, j1.2, rfl⟩ qj
  · exact ht
/-! by ways -/
def S_rk (h : IA) (t : Int) : Nat → Int → Prop | 0, k => (0 ≤ k ∧ k < 49) ∧ S_bd k ∧ h k ≤ t | n + 1, k => S_rk h t n k ∨ (h k ≤ t ∧ ∃ j, S_adj 4 j k ∧ S_rk h t n j)
theorem S_rk_in {h : IA} {t : Int} : ∀ (n : Nat) {k : Int}, S_rk h t n k → 0 ≤ k ∧ k < 49 := by
  intro n; induction n with
  | zero => intro k H; exact H.1
  | succ n ih => intro k H; rcases H with H | ⟨_, j, H, _⟩; exact ih H; exact H.2.1
theorem S_con_cl {h : IA} {t : Int} {n : Nat} (hc : ∀ k, S_rk h t (n + 1) k → S_rk h t n k) {k : Int} (H : S_con h t k) : S_rk h t n k := by
  obtain ⟨j, h1, h2, h3, h4⟩ := H
  refine h4 (S_rk h t n) ?_ (fun x y hx hr => hc y (Or.inr ⟨(S_mk_iff.mp hr.2.2).2, x, hr.1, hx⟩))
  have h0 : S_rk h t 0 j := ⟨h1, h2, (S_mk_iff.mp h3).2⟩
  clear hc h4
  induction n with
  | zero => exact h0
  | succ n ih => exact Or.inl ih
theorem S_rk_or {h : IA} {t : Int} : ∀ n : Nat, (∀ k, S_rk h t (n + 1) k → S_rk h t n k) ∨ (n : Int) ≤ zC (fun k => cb (S_rk h t n k)) 49 := by
  intro n; induction n with
  | zero => exact Or.inr (zC_b _ (by omega)).1
  | succ n ih =>
    by_cases hc : ∀ k, S_rk h t (n + 1) k → S_rk h t n k
    · refine Or.inl (fun k hk => ?_)
      rcases hk with hk | ⟨a, j, b, c⟩
      · exact hk
      · exact Or.inr ⟨a, j, b, hc j c⟩
    · rcases ih with ih | ih
      · exact absurd ih hc
      · refine Or.inr ?_
        have hx : ∃ k, S_rk h t (n + 1) k ∧ ¬ S_rk h t n k := by
          refine Classical.byContradiction (fun q => hc (fun k hk => Classical.byContradiction (fun z => q ⟨k, hk, z⟩)))
        obtain ⟨k, k1, k2⟩ := hx
        have hr := S_rk_in _ k1
        have := zC_lt (P := fun k => cb (S_rk h t n k)) (Q := fun k => cb (S_rk h t (n + 1) k)) (i := 49) (by omega) (fun x _ _ z => cb_iff.mpr (Or.inl (cb_iff.mp z))) hr.1 hr.2 (cb_f.mpr k2) (cb_iff.mpr k1)
        omega
theorem S_con_rk {h : IA} {t k : Int} (H : S_con h t k) : S_rk h t 49 k := by
  rcases S_rk_or (h := h) (t := t) 49 with hc | hc
  · exact S_con_cl hc H
  · have hk := S_con_m H
    have hb := zC_b (fun k => cb (S_rk h t 49 k)) (i := 49) (by omega)
    exact cb_iff.mp (zC_full (P := fun k => cb (S_rk h t 49 k)) 49 (by omega) (by omega) k hk.1.1 hk.1.2)
def WI (h wy : IA) : Prop := ∀ k, 0 ≤ k → k < 49 → h k ≤ wy k ∧ wy k ≤ 99 ∧ (S_bd k → wy k ≤ h k) ∧ ∀ t, t < 99 → wy k ≤ t → S_con h t k
def WP (h wy : IA) (n : Nat) (k : Int) : Prop := ∀ t, S_rk h t n k → wy k ≤ t
def WX (h wy : IA) (k : Int) : Prop := ∀ j, S_adj 4 j k → wy k ≤ zmax (h k) (wy j)
def WO (h wy : IA) (r : Int) (c8 : Int) : Prop := WI h wy ∧ (∀ k, WP h wy r.toNat k) ∧ (c8 = 0 → ∀ k, 0 ≤ k → k < 49 → WX h wy k)
def WQ (h wy : IA) (r i c8 : Int) : Prop := WI h wy ∧ (∀ k, WP h wy r.toNat k) ∧ (∀ k, 0 ≤ k → k < i → WP h wy (r.toNat + 1) k) ∧ (c8 = 0 → ∀ k, 0 ≤ k → k < i → WX h wy k)
/-- what leastAround tells -/
def LA (wy : IA) (p v i : Int) : Prop := v ≤ 99 ∧ (∀ s, 0 ≤ s → s < i → 0 ≤ S_step p s → v ≤ wy (S_step p s)) ∧ (v = 99 ∨ ∃ s, 0 ≤ s ∧ s < i ∧ 0 ≤ S_step p s ∧ v = wy (S_step p s))
theorem LA_0 (wy : IA) (p : Int) : LA wy p 99 0 := ⟨by omega, fun s a b => by omega, Or.inl rfl⟩
theorem LA_skip {wy : IA} {p v i : Int} (H : LA wy p v i) (hn : ¬ 0 ≤ S_step p i) : LA wy p v (i + 1) := ⟨H.1, fun s a b c => by
  by_cases e : s = i
  · exact absurd (e ▸ c) hn
  · exact H.2.1 s a (by omega) c, H.2.2.imp id fun ⟨s, a, b, c⟩ => ⟨s, a, by omega, c⟩⟩
theorem LA_up {wy : IA} {p v i : Int} (H : LA wy p v i) (hi : 0 ≤ i) (hn : 0 ≤ S_step p i) : LA wy p (zmin v (wy (S_step p i))) (i + 1) := by
  have hz := zmin_spec v (wy (S_step p i))
  have h1 := H.1
  refine ⟨by omega, fun s a b c => ?_, ?_⟩
  · by_cases e : s = i
    · rw [e]; omega
    · have := H.2.1 s a (by omega) c; omega
  · rcases hz.2.2 with q | q
    · rw [q]; exact H.2.2.imp id fun ⟨s, a, b, c⟩ => ⟨s, a, by omega, c⟩
    · rw [q]; exact Or.inr ⟨i, hi, by omega, hn, rfl⟩
theorem WO_init {h : IA} (hh : ∀ k, 0 ≤ k → k < 49 → 0 ≤ h k ∧ h k ≤ 99) {wy : IA} (hw : ∀ k, 0 ≤ k → k < 49 → wy k = (if cb (S_bd k) = true then h k else 99)) : WO h wy 0 1 := by
  refine ⟨fun k a b => ?_, fun k t ⟨h1, h2, h3⟩ => ?_, fun q => by omega⟩
  · have hb := hh k a b
    rw [hw k a b]
    by_cases hc : S_bd k
    · rw [if_pos (cb_iff.mpr hc)]; exact ⟨Int.le_refl _, by omega, fun _ => Int.le_refl _, fun t _ q => S_con_b ⟨a, b⟩ hc q⟩
    · rw [if_neg (by rw [cb_f.mpr hc]; decide)]; exact ⟨by omega, by omega, fun q => absurd q hc, fun t q1 q2 => by omega⟩
  · rw [hw k h1.1 h1.2, if_pos (cb_iff.mpr h2)]; exact h3
theorem WO_in {h wy : IA} {r c8 : Int} (H : WO h wy r c8) : WQ h wy r 0 0 := ⟨H.1, H.2.1, fun k a b => by omega, fun _ k a b => by omega⟩
theorem WO_rng {h wy : IA} {r c8 : Int} (H : WO h wy r c8) : ∀ k, 0 ≤ k → k < 49 → h k ≤ wy k ∧ wy k ≤ 99 := fun k a b => ⟨(H.1 k a b).1, (H.1 k a b).2.1⟩
theorem WQ_rng {h wy : IA} {r i c8 : Int} (H : WQ h wy r i c8) : ∀ k, 0 ≤ k → k < 49 → h k ≤ wy k ∧ wy k ≤ 99 := fun k a b => ⟨(H.1 k a b).1, (H.1 k a b).2.1⟩
/-- the new height reaches below what the rounds promise, and is reached -/
theorem WQ_v {h wy : IA} {r i c8 v : Int} (H : WQ h wy r i c8) (hi : 0 ≤ i ∧ i < 49) (hL : LA wy i v 4) : (∀ t, S_rk h t (r.toNat + 1) i → zmax (h i) v ≤ t ∨ wy i ≤ t) ∧ (∀ t, t < 99 → zmax (h i) v ≤ t → S_con h t i) ∧ ∀ j, S_adj 4 j i → zmax (h i) v ≤ zmax (h i) (wy j) := by
  have hz := zmax_spec (h i) v
  have hadj : ∀ j, S_adj 4 j i → v ≤ wy j := fun j ha => by
    obtain ⟨-, q, s, s1, s2, s3⟩ := S_adj_sy (Or.inl rfl) ha
    have := hL.2.1 s s1 s2 (by omega); rw [s3] at this; exact this
  refine ⟨fun t ht => ?_, fun t t1 t2 => ?_, fun j ha => ?_⟩
  · rcases ht with ht | ⟨a, j, b, c⟩
    · exact Or.inr (H.2.1 i t ht)
    · have h1 := H.2.1 j t c
      have h2 := hadj j b
      left; omega
  · rcases hL.2.2 with q | ⟨s, s1, s2, s3, s4⟩
    · omega
    · have hb := S_step_b i s
      have hc := (H.1 _ s3 hb.2).2.2.2 t t1 (by omega)
      exact S_con_st hc (S_adj_sy (Or.inl rfl) ⟨hi, ⟨s3, hb.2⟩, s, s1, s2, rfl⟩) (by omega)
  · have h1 := hadj j ha
    have h2 := zmax_spec (h i) (wy j)
    omega
theorem WQ_skip {h wy : IA} {r i c8 v : Int} (H : WQ h wy r i c8) (hi : 0 ≤ i ∧ i < 49) (hL : LA wy i v 4) (hv : wy i ≤ zmax (h i) v) : WQ h wy r (i + 1) c8 := by
  obtain ⟨v1, v2, v3⟩ := WQ_v H hi hL
  refine ⟨H.1, H.2.1, fun k a b => ?_, fun q k a b => ?_⟩
  · by_cases e : k = i
    · rw [e]; intro t ht; rcases v1 t ht with z | z <;> omega
    · exact H.2.2.1 k a (by omega)
  · by_cases e : k = i
    · rw [e]; intro j ha; have := v3 j ha; omega
    · exact H.2.2.2 q k a (by omega)
theorem WQ_up {h wy : IA} {r i c8 v : Int} (H : WQ h wy r i c8) (hi : 0 ≤ i ∧ i < 49) (hL : LA wy i v 4) (hv : zmax (h i) v < wy i) : WQ h (zu wy i (zmax (h i) v)) r (i + 1) 1 := by
  obtain ⟨v1, v2, v3⟩ := WQ_v H hi hL
  have hz := zmax_spec (h i) v
  have hW := H.1 i hi.1 hi.2
  refine ⟨fun k a b => ?_, fun k t ht => ?_, fun k a b t ht => ?_, fun q => by omega⟩
  · by_cases e : k = i
    · rw [e, zu_s]; exact ⟨by omega, by omega, fun q => by have := hW.2.2.1 q; omega, v2⟩
    · rw [zu_n e]; exact H.1 k a b
  · by_cases e : k = i
    · rw [e] at ht; rw [e, zu_s]; have := H.2.1 i t ht; omega
    · rw [zu_n e]; exact H.2.1 k t ht
  · by_cases e : k = i
    · rw [e] at ht; rw [e, zu_s]; rcases v1 t ht with z | z <;> omega
    · rw [zu_n e]; exact H.2.2.1 k a (by omega) t ht
theorem WQ_out {h wy : IA} {r c8 : Int} (hr : 0 ≤ r) (H : WQ h wy r 49 c8) : WO h wy (r + 1) c8 := by
  refine ⟨H.1, fun k t ht => ?_, fun q => H.2.2.2 q⟩
  rw [show (r + 1).toNat = r.toNat + 1 by omega] at ht
  have hk := S_rk_in _ ht
  exact H.2.2.1 k hk.1 hk.2 t ht
theorem WO_end {h wy : IA} {r c8 : Int} (hh : ∀ k, 0 ≤ k → k < 49 → 0 ≤ h k ∧ h k ≤ 99) (H : WO h wy r c8) (he : c8 = 0 ∨ r = 49) {k : Int} (hk : 0 ≤ k ∧ k < 49) : wy k = S_spill h k := by
  have hW := H.1 k hk.1 hk.2
  have hb := hh k hk.1 hk.2
  refine (S_spill_eq ⟨by omega, hW.2.1⟩ (fun t t1 t2 => ⟨fun q => ?_, hW.2.2.2 t t2⟩) (S_con_all (fun x a b => (hh x a b).2) (k / 7) (by omega) k rfl hk.1 hk.2)).symm
  rcases he with he | he
  · have hx := H.2.2 he
    have : ∀ (n : Nat) k, S_rk h t n k → wy k ≤ t := by
      intro n; induction n with
      | zero => intro k hk; have := (H.1 k hk.1.1 hk.1.2).2.2.1 hk.2.1; have := hk.2.2; omega
      | succ n ih =>
        intro k hk
        rcases hk with hk | ⟨a, j, b, c⟩
        · exact ih k hk
        · have h1 := hx k b.2.1.1 b.2.1.2 j b
          have h2 := ih j c
          have h3 := zmax_spec (h k) (wy j)
          omega
    exact this 49 k (S_con_rk q)
  · have := H.2.1 k t; rw [he] at this; exact this (S_con_rk q)
theorem S_lvl_t {h lv : IA} {L k : Int} (hc : S_con h L k) : S_lvl h L lv k = L := by unfold S_lvl; rw [if_pos (cb_iff.mpr hc)]
theorem S_lvl_f {h lv : IA} {L k : Int} (hc : ¬ S_con h L k) : S_lvl h L lv k = lv k := by unfold S_lvl; rw [if_neg (by rw [cb_f.mpr hc]; decide)]
theorem lv_skip {h lv l3 : IA} {L i : Int} (H : ∀ k, 0 ≤ k → k < 49 → l3 k = (if k < i then S_lvl h L lv k else lv k)) (hn : ¬ S_con h L i) : ∀ k, 0 ≤ k → k < 49 → l3 k = (if k < i + 1 then S_lvl h L lv k else lv k) := fun k a b => by
  rw [H k a b]
  by_cases e : k = i
  · rw [e, if_neg (by omega), if_pos (by omega), S_lvl_f hn]
  · by_cases z : k < i
    · rw [if_pos z, if_pos (by omega)]
    · rw [if_neg z, if_neg (by omega)]
theorem lv_put {h lv l3 : IA} {L i : Int} (H : ∀ k, 0 ≤ k → k < 49 → l3 k = (if k < i then S_lvl h L lv k else lv k)) (hc : S_con h L i) : ∀ k, 0 ≤ k → k < 49 → zu l3 i L k = (if k < i + 1 then S_lvl h L lv k else lv k) := fun k a b => by
  by_cases e : k = i
  · rw [e, zu_s, if_pos (by omega), S_lvl_t hc]
  · rw [zu_n e, H k a b]
    by_cases z : k < i
    · rw [if_pos z, if_pos (by omega)]
    · rw [if_neg z, if_neg (by omega)]
theorem LJ_cong {h lv lv2 : IA} {n : Int} (e : ∀ k, 0 ≤ k → k < 49 → lv2 k = lv k) (H : LJ h lv n) : LJ h lv2 n := fun k a b c => by rw [e k a b]; exact H k a b c
theorem S_spill_b (h : IA) (k : Int) : 0 ≤ S_spill h k ∧ S_spill h k ≤ 100 := zC_b _ (by omega)
