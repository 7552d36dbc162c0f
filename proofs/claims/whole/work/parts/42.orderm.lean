/-! THE MODEL'S ORDERS, plainly -/
abbrev OS0 : OS := (0, 0, 0, 0, 0)
theorem OV_00 : OV 0 0 0 0 0 := by unfold OV; omega
def sgC (f : IA) (n a : Int) (x : Bool) : Int := if a < n ∧ x = false then f a else 0
/-- in the midst of an order -/
def OI (f : IA) (n i : Int) (t : OS) (a : Int) (x : Bool) (p le ro co nu : Int) : Prop :=
  (0 ≤ a ∧ a ≤ n) ∧ ((x = true ∧ ∃ s, O_run f n i t = (a, s) ∧ (a = n → s.1 < 5)) ∨
  (x = false ∧ i ≤ a ∧ O_run f n i t = O_run f n a (p, le, ro, co, nu) ∧ OV p le ro co nu ∧ (∀ h d, O_draw f n i t h d = O_draw f n a (p, le, ro, co, nu) h d) ∧ (p = 0 ∨ i < a)))
theorem OI_0 {f : IA} {n i le ro co nu : Int} (hi : 0 ≤ i ∧ i ≤ n) (hv : OV 0 le ro co nu) : OI f n i (0, le, ro, co, nu) i false 0 le ro co nu := ⟨hi, Or.inr ⟨rfl, Int.le_refl _, rfl, hv, fun _ _ => rfl, Or.inl rfl⟩⟩
theorem OI_x {f : IA} {n i : Int} {t : OS} {a p le ro co nu p' le' ro' co' nu' : Int} (H : OI f n i t a true p le ro co nu) : OI f n i t a true p' le' ro' co' nu' := ⟨H.1, H.2.elim Or.inl (fun q => by cases q.1)⟩
theorem OI_no {f : IA} {n i : Int} {t : OS} {a p le ro co nu p' le' ro' co' nu' : Int} (hp : p < 5) (H : OI f n i t a false p le ro co nu) (h : a < n → ¬ O_fits p le nu (f a)) : OI f n i t a true p' le' ro' co' nu' := ⟨H.1, Or.inl ⟨rfl, (p, le, ro, co, nu), by
  rcases H.2 with q | q
  · cases q.1
  · rw [q.2.2.1]; exact O_run_no h, fun _ => hp⟩⟩
theorem OI_up {f : IA} {n i : Int} {t : OS} {a p le ro co nu : Int} (h59 : f a ≠ 59) (H : OI f n i t a false p le ro co nu) (ha : a < n) (hf : O_fits p le nu (f a)) {p' le' ro' co' nu' : Int} (he : O_step p le ro co nu (f a) = (p', le', ro', co', nu')) : OI f n i t (a + 1) false p' le' ro' co' nu' := by
  obtain ⟨⟨b0, b1⟩, H⟩ := H
  rcases H with q | ⟨q1, q2, q3, q4, q5, q6⟩
  · cases q.1
  · refine ⟨⟨by omega, by omega⟩, Or.inr ⟨rfl, by omega, ?_, ?_, fun h d => ?_, Or.inr (by omega)⟩⟩
    · rw [q3, O_run_up ha hf, he]
    · have z := OV_step q4 hf; rw [he] at z; exact z
    · rw [q5, O_draw_f ha h59, he]
theorem O_ne59 {f : IA} {a p le nu : Int} (hp : 0 ≤ p ∧ p < 5) (hf : O_fits p le nu (f a)) : f a ≠ 59 := fun q => by rw [q] at hf; have := O_fits_59 hf; omega
/-- one sign -/
theorem OI_sg {f : IA} {n i : Int} {t : OS} {a p le ro co nu lo hi a2 c : Int} {x x2 : Bool} (hp : 0 ≤ p ∧ p < 5) (hlo : 0 < lo) (hfit : ∀ c, O_fits p le nu c ↔ lo ≤ c ∧ c ≤ hi) (H : OI f n i t a x p le ro co nu) (hc : c = sgC f n a x) (hx : x2 = true ↔ (x = true ∨ ¬ (lo ≤ c ∧ c ≤ hi))) (ha : a2 = if x2 = true then a else a + 1)
    {p' le' ro' co' nu' : Int} (he : O_step p le ro co nu c = (p', le', ro', co', nu')) : OI f n i t a2 x2 p' le' ro' co' nu' := by
  cases hx0 : x
  · rw [hx0] at H hc
    by_cases q : lo ≤ c ∧ c ≤ hi
    · have e2 : x2 = false := Bool.eq_false_iff.mpr (fun z => (hx.mp z).elim (fun w => by rw [hx0] at w; cases w) (fun w => w q))
      rw [e2, if_neg (by decide)] at ha
      have han : a < n := by
        by_cases r : a < n
        · exact r
        · unfold sgC at hc; rw [if_neg (fun z => r z.1)] at hc; omega
      have hcf : c = f a := by rw [hc]; unfold sgC; rw [if_pos ⟨han, rfl⟩]
      rw [hcf] at he q
      have hf := (hfit (f a)).mpr q
      rw [ha, e2]; exact OI_up (O_ne59 hp hf) H han hf he
    · have e2 : x2 = true := hx.mpr (Or.inr q)
      rw [e2, if_pos rfl] at ha
      rw [ha, e2]
      refine OI_no hp.2 H (fun han hf => q ?_)
      have hcf : c = f a := by rw [hc]; unfold sgC; rw [if_pos ⟨han, rfl⟩]
      rw [hcf]; exact (hfit _).mp hf
  · have e2 : x2 = true := hx.mpr (Or.inl hx0)
    rw [e2, if_pos rfl] at ha
    rw [ha, e2]; rw [hx0] at H; exact OI_x H
/-- at an order's end -/
def ORD (f : IA) (n i : Int) (t : OS) (dn : Bool) (h : IA) (a : Int) (x : Bool) (h2 : IA) : Prop :=
  (0 ≤ a ∧ a ≤ n) ∧ (∀ k, 0 ≤ k → k < 49 → 0 ≤ h2 k ∧ h2 k ≤ 99) ∧ (dn = false → h2 = h) ∧ ((x = true ∧ dn = false ∧ ∃ s, O_run f n i t = (a, s) ∧ (a = n → s.1 < 5)) ∨
  (x = false ∧ i < a ∧ ∃ p le ro co nu, O_run f n i t = O_run f n a (p, le, ro, co, nu) ∧ OV p le ro co nu ∧ 5 ≤ p ∧ (a < n → (O_fits p le nu (f a) ↔ f a = 59)) ∧ (∀ g d, O_draw f n i t g d = O_draw f n a (p, le, ro, co, nu) g d) ∧ (dn = true → h2 = O_carry le ro co nu h)))
theorem OI_nx {f : IA} {n i : Int} {t : OS} {a p le ro co nu : Int} {x : Bool} (H : OI f n i t a x p le ro co nu) (hre : ∃ e2 : OS, O_run f n i t = (n, e2) ∧ 5 ≤ e2.1) : x = false := by
  obtain ⟨e2, hr⟩ := hre
  cases hx : x
  · rfl
  · exfalso
    rw [hx] at H
    rcases H.2 with ⟨-, s, h1, h2⟩ | q
    · rw [hr.1] at h1
      have e1 := (Prod.mk.inj h1).1; have e3 := (Prod.mk.inj h1).2
      have := h2 e1.symm; rw [← e3] at this; have := hr.2; omega
    · cases q.1
theorem OI_OV {f : IA} {n i : Int} {t : OS} {a p le ro co nu : Int} (H : OI f n i t a false p le ro co nu) : OV p le ro co nu := by
  rcases H.2 with q | q
  · cases q.1
  · exact q.2.2.2.1
theorem ORD_w {f : IA} {n i : Int} {t : OS} {h : IA} {a p le ro co nu : Int} (hh : ∀ k, 0 ≤ k → k < 49 → 0 ≤ h k ∧ h k ≤ 99) (H : OI f n i t a true p le ro co nu) : ORD f n i t false h a true h := ⟨H.1, hh, fun _ => rfl, H.2.elim (fun q => Or.inl ⟨rfl, rfl, q.2⟩) (fun q => by cases q.1)⟩
theorem ORD_t {f : IA} {n i : Int} {t : OS} {dn : Bool} {h h2 : IA} {a p le ro co nu : Int} (hh : ∀ k, 0 ≤ k → k < 49 → 0 ≤ h2 k ∧ h2 k ≤ 99) (H : OI f n i t a false p le ro co nu) (hp : 5 ≤ p) (hs : a < n → (O_fits p le nu (f a) ↔ f a = 59)) (h0 : dn = false → h2 = h) (h1 : dn = true → h2 = O_carry le ro co nu h) : ORD f n i t dn h a false h2 :=
  ⟨H.1, hh, h0, H.2.elim (fun q => by cases q.1) (fun q => Or.inr ⟨rfl, q.2.2.2.2.2.elim (fun z => by omega) id, p, le, ro, co, nu, q.2.2.1, q.2.2.2.1, hp, hs, q.2.2.2.2.1, h1⟩)⟩
theorem O_fits6 {le nu c : Int} : O_fits 6 le nu c ↔ c = 59 := by unfold O_fits; rw [if_neg (by omega), if_neg (by omega), if_neg (by omega), if_neg (by omega), if_neg (by omega)]
theorem O_fits5 {le nu c : Int} (h : ¬ O_sec le nu c) : O_fits 5 le nu c ↔ c = 59 := by
  unfold O_fits; rw [if_neg (by omega), if_neg (by omega), if_neg (by omega), if_neg (by omega), if_pos rfl]
  exact ⟨fun q => q.elim id (fun z => absurd z h), Or.inl⟩
theorem O_fits0 {le nu c : Int} : O_fits 0 le nu c ↔ (c = 115 ∨ c = 104 ∨ c = 100 ∨ c = 126) := by unfold O_fits; rw [if_pos rfl]
theorem O_fits12 {p le nu c : Int} (hp : p = 1 ∨ p = 2) : O_fits p le nu c ↔ 48 ≤ c ∧ c ≤ 54 := by unfold O_fits; rw [if_neg (by omega), if_pos hp]; omega
theorem O_fits3 {le nu c : Int} : O_fits 3 le nu c ↔ c = (if le = 115 then 61 else 42) := by unfold O_fits; rw [if_neg (by omega), if_neg (by omega), if_pos rfl]
theorem O_fits4 {le nu c : Int} : O_fits 4 le nu c ↔ (if le = 115 then 48 else 49) ≤ c ∧ c ≤ 57 := by unfold O_fits; rw [if_neg (by omega), if_neg (by omega), if_neg (by omega), if_pos rfl]
/-- a number's two signs -/
def nmM (f : IA) (n a v mo : Int) (x : Bool) : Prop := x = false ∧ 0 < v ∧ a < n ∧ (48 ≤ f a ∧ f a ≤ 57) ∧ 10 * v + f a - 48 ≤ mo
theorem OI_num {f : IA} {n i : Int} {t : OS} {a le ro co nu c a1 a2 v mo : Int} {x x2 : Bool} (hle : le = 115 ∨ le = 104 ∨ le = 100) (hmo : mo = O_last le) (H : OI f n i t a x 4 le ro co nu) (hc : c = sgC f n a x) (hx : x2 = true ↔ (x = true ∨ ¬ ((if le = 115 then 48 else 49) ≤ c ∧ c ≤ 57))) (ha : a1 = if x2 = true then a else a + 1)
    (hv : (nmM f n a1 (c - 48) mo x2 ∧ v = 10 * (c - 48) + f a1 - 48 ∧ a2 = a1 + 1) ∨ (¬ nmM f n a1 (c - 48) mo x2 ∧ v = c - 48 ∧ a2 = a1)) :
    ∃ p, OI f n i t a2 x2 p le ro co v ∧ 5 ≤ p ∧ (a2 < n → x2 = false → (O_fits p le v (f a2) ↔ f a2 = 59)) := by
  have h1 : OI f n i t a1 x2 5 le ro co (c - 48) := OI_sg (by omega) (by split <;> omega) (fun c => O_fits4) H hc hx ha (by unfold O_step; rw [if_neg (by omega), if_neg (by omega), if_neg (by omega), if_neg (by omega), if_pos rfl])
  rcases hv with ⟨⟨m1, m2, m3, m4, m5⟩, v1, v2⟩ | ⟨m, v1, v2⟩
  · rw [m1] at h1 ⊢
    have hsec : O_sec le (c - 48) (f a1) := ⟨m4.1, m4.2, m2, by rw [← hmo]; omega⟩
    have hf : O_fits 5 le (c - 48) (f a1) := by unfold O_fits; rw [if_neg (by omega), if_neg (by omega), if_neg (by omega), if_neg (by omega), if_pos rfl]; exact Or.inr hsec
    refine ⟨6, ?_, by omega, fun _ _ => O_fits6⟩
    rw [v2]
    refine OI_up (by omega) h1 m3 hf ?_
    unfold O_step; rw [if_neg (by omega), if_neg (by omega), if_neg (by omega), if_neg (by omega), if_neg (by omega), if_neg (by omega), v1, show (c - 48) * 10 + (f a1 - 48) = 10 * (c - 48) + f a1 - 48 by omega]
  · rw [v1, v2]
    refine ⟨5, h1, by omega, fun z1 z2 => O_fits5 (fun ⟨s1, s2, s3, s4⟩ => m ⟨z2, s3, z1, ⟨s1, s2⟩, by rw [hmo]; omega⟩)⟩
theorem O_carry_b {le ro co nu : Int} {h : IA} (hh : ∀ k, 0 ≤ k → k < 49 → 0 ≤ h k ∧ h k ≤ 99) : ∀ k, 0 ≤ k → k < 49 → 0 ≤ O_carry le ro co nu h k ∧ O_carry le ro co nu h k ≤ 99 := by
  unfold O_carry; (repeat' split)
  · exact S_put_b hh
  · exact zmix_b hh (fun _ => S_heapv_b)
  · exact zmix_b hh (fun _ => S_heapv_b)
  · exact zmix_b hh (fun _ => clip_b _)
theorem O_carry_s {ro co nu : Int} {h : IA} (hro : 0 ≤ ro ∧ ro ≤ 6) (hco : 0 ≤ co ∧ co ≤ 6) (hnu : 0 ≤ nu ∧ nu ≤ 99) : zu h (7 * ro + co) nu = O_carry 115 ro co nu h := by
  unfold O_carry; rw [if_pos rfl, S_put_in (by omega), clip_id hnu, Int.mul_comm 7 ro]
theorem O_carry_h {ro co nu : Int} {h : IA} : S_heap h (7 * ro + co) nu = O_carry 104 ro co nu h := by
  unfold O_carry; rw [if_neg (by omega), if_pos rfl, Int.mul_comm 7 ro]
theorem O_carry_d {ro co nu : Int} {h : IA} : S_heap h (7 * ro + co) (-nu) = O_carry 100 ro co nu h := by
  unfold O_carry; rw [if_neg (by omega), if_neg (by omega), if_pos rfl, Int.mul_comm 7 ro]
theorem O_carry_m {ro co nu : Int} {h : IA} : S_smooth h = O_carry 126 ro co nu h := by
  unfold O_carry; rw [if_neg (by omega), if_neg (by omega), if_neg (by omega)]
/-- the loop over orders: c8 tells whether it goes on -/
def GO (f : IA) (n : Int) (dn : Bool) (h s : IA) (a : Int) (x : Bool) (c8 g : Int) (le ro co nu : Int) : Prop :=
  (0 ≤ a ∧ a ≤ n) ∧ (∀ k, 0 ≤ k → k < 49 → 0 ≤ s k ∧ s k ≤ 99) ∧ (dn = false → s = h) ∧ (0 ≤ g ∧ g ≤ a + 1) ∧
  ((c8 = 1 ∧ x = false ∧ g ≤ a ∧ OV 0 le ro co nu ∧ O_run f n 0 OS0 = O_run f n a (0, le, ro, co, nu) ∧ (dn = true → O_draw f n 0 OS0 h 0 = O_draw f n a (0, le, ro, co, nu) s g)) ∨
   (c8 = 0 ∧ x = true ∧ dn = false ∧ ∃ t, O_run f n 0 OS0 = (a, t) ∧ (a = n → t.1 < 5)) ∨
   (c8 = 0 ∧ x = false ∧ a = n ∧ (∃ t, O_run f n 0 OS0 = (n, t) ∧ 5 ≤ t.1) ∧ (dn = true → O_draw f n 0 OS0 h 0 = (s, g))))
theorem GO_0 {f : IA} {n : Int} {dn : Bool} {h : IA} (hn : 0 ≤ n) (hh : ∀ k, 0 ≤ k → k < 49 → 0 ≤ h k ∧ h k ≤ 99) : GO f n dn h h 0 false 1 0 0 0 0 0 := ⟨⟨Int.le_refl _, hn⟩, hh, fun _ => rfl, by omega, Or.inl ⟨rfl, rfl, Int.le_refl _, OV_00, rfl, fun _ => rfl⟩⟩
theorem GO_in {f : IA} {n : Int} {dn : Bool} {h s : IA} {a : Int} {x : Bool} {c8 g le ro co nu : Int} (H : GO f n dn h s a x c8 g le ro co nu) (hc : c8 ≠ 0) : x = false ∧ g ≤ a ∧ OV 0 le ro co nu ∧ O_run f n 0 OS0 = O_run f n a (0, le, ro, co, nu) ∧ (dn = true → O_draw f n 0 OS0 h 0 = O_draw f n a (0, le, ro, co, nu) s g) := by
  rcases H.2.2.2.2 with q | q | q
  · exact q.2
  · exact absurd q.1 hc
  · exact absurd q.1 hc
/-- an order went wrong -/
theorem GO_w {f : IA} {n : Int} {dn : Bool} {h s s2 : IA} {a a2 : Int} {x : Bool} {c8 g le ro co nu : Int} (H : GO f n dn h s a x c8 g le ro co nu) (hc : c8 ≠ 0) (hO : ORD f n a (0, le, ro, co, nu) dn s a2 true s2) : GO f n dn h s2 a2 true 0 (g + 1) 0 0 0 0 := by
  have hi := GO_in H hc
  obtain ⟨o1, o2, o3, o4⟩ := hO
  rcases o4 with ⟨-, q1, t, q2, q3⟩ | q
  · have ha : a ≤ a2 := by
      have z := O_run_le (f := f) (n := n) _ a (0, le, ro, co, nu) rfl H.1.2 hi.2.2.1
      have z2 : O_runN f n (n - a).toNat a (0, le, ro, co, nu) = (a2, t) := q2
      rw [z2] at z; exact z.1
    refine ⟨o1, o2, fun w => (o3 w).trans (H.2.2.1 w), by have := hi.2.1; have := H.2.2.2.1; omega, Or.inr (Or.inl ⟨rfl, rfl, q1, t, hi.2.2.2.1.trans q2, q3⟩)⟩
  · cases q.1
/-- an order was the last -/
theorem GO_e {f : IA} {n : Int} {dn : Bool} {h s s2 : IA} {a a2 : Int} {x : Bool} {c8 g le ro co nu : Int} (H : GO f n dn h s a x c8 g le ro co nu) (hc : c8 ≠ 0) (hO : ORD f n a (0, le, ro, co, nu) dn s a2 false s2) (hn : n ≤ a2) : GO f n dn h s2 a2 false 0 (g + 1) 0 0 0 0 := by
  have hi := GO_in H hc
  obtain ⟨o1, o2, o3, o4⟩ := hO
  rcases o4 with q | ⟨-, q1, p, le', ro', co', nu', q2, q3, q4, q5, q6, q7⟩
  · cases q.1
  · have e : a2 = n := by omega
    refine ⟨o1, o2, fun w => (o3 w).trans (H.2.2.1 w), by have := hi.2.1; have := H.2.2.2.1; omega, Or.inr (Or.inr ⟨rfl, rfl, e, ⟨(p, le', ro', co', nu'), ?_, q4⟩, fun w => ?_⟩)⟩
    · rw [hi.2.2.2.1, q2, e]; exact O_run_no (fun z => absurd z (by omega))
    · rw [hi.2.2.2.2 w, q6, O_draw_e hn, q7 w]
/-- a sign between -/
theorem GO_s {f : IA} {n : Int} {dn : Bool} {h s s2 : IA} {a a2 a3 c : Int} {x x3 : Bool} {c8 g le ro co nu : Int} (H : GO f n dn h s a x c8 g le ro co nu) (hc : c8 ≠ 0) (hO : ORD f n a (0, le, ro, co, nu) dn s a2 false s2) (hn : a2 < n) (h0 : dn = true → ∃ e2 : OS, O_run f n 0 OS0 = (n, e2) ∧ 5 ≤ e2.1) (hcv : c = sgC f n a2 false) (hx : x3 = true ↔ (false = true ∨ ¬ (59 ≤ c ∧ c ≤ 59))) (ha : a3 = if x3 = true then a2 else a2 + 1) :
    ∃ le' ro' co' nu', GO f n dn h s2 a3 x3 (if x3 = true then 0 else 1) (g + 1) le' ro' co' nu' := by
  have hi := GO_in H hc
  obtain ⟨o1, o2, o3, o4⟩ := hO
  rcases o4 with q | ⟨-, q1, p, le', ro', co', nu', q2, q3, q4, q5, q6, q7⟩
  · cases q.1
  · have hcf : c = f a2 := by rw [hcv]; unfold sgC; rw [if_pos ⟨hn, rfl⟩]
    have hgg := hi.2.1; have hg2 := H.2.2.2.1; have ha0 := H.1
    by_cases e : f a2 = 59
    · have e2 : x3 = false := Bool.eq_false_iff.mpr (fun z => (hx.mp z).elim (fun w => by cases w) (fun w => w (by omega)))
      rw [e2, if_neg (by decide)] at ha ⊢
      have hf := (q5 hn).mpr e
      have hst : O_step p le' ro' co' nu' (f a2) = (0, le', ro', co', nu') := by
        have hp6 := q3.1.2
        unfold O_step; rw [if_neg (by omega), if_neg (by omega), if_neg (by omega), if_neg (by omega), if_neg (by omega), if_pos e]
      have hv := OV_step q3 hf; rw [hst] at hv
      refine ⟨le', ro', co', nu', ⟨by omega, by omega⟩, o2, fun w => (o3 w).trans (H.2.2.1 w), by omega, Or.inl ⟨rfl, rfl, by omega, hv, ?_, fun w => ?_⟩⟩
      · rw [hi.2.2.2.1, q2, O_run_up hn hf, hst, ha]
      · rw [hi.2.2.2.2 w, q6, O_draw_t hn e, hst, ha, q7 w]
    · have e2 : x3 = true := hx.mpr (Or.inr (by omega))
      rw [e2, if_pos rfl] at ha ⊢
      have hno : O_run f n 0 OS0 = (a2, (p, le', ro', co', nu')) := by rw [hi.2.2.2.1, q2]; exact O_run_no (fun _ z => e ((q5 hn).mp z))
      have hd : dn = false := by
        cases hd : dn
        · rfl
        · obtain ⟨e2, z1, _⟩ := h0 hd
          rw [hno] at z1; have := (Prod.mk.inj z1).1; omega
      exact ⟨0, 0, 0, 0, by rw [ha]; exact o1, o2, fun w => (o3 w).trans (H.2.2.1 w), by omega, Or.inr (Or.inl ⟨rfl, rfl, hd, _, by rw [hno, ha], fun z => by omega⟩)⟩
def O_tdraw (f : IA) (n : Int) : Prop := (O_run f n 0 OS0).1 = n ∧ 5 ≤ (O_run f n 0 OS0).2.1
noncomputable def O_td (f : IA) (n : Int) : Int := if cb (O_tdraw f n) = true then 0 else 1
theorem GO_end {f : IA} {n : Int} {dn : Bool} {h s : IA} {a : Int} {x : Bool} {g le ro co nu : Int} (H : GO f n dn h s a x 0 g le ro co nu) : (x = true → (O_run f n 0 OS0).1 = a ∧ ¬ O_tdraw f n) ∧ (x = false → a = n ∧ O_tdraw f n ∧ (dn = true → O_draw f n 0 OS0 h 0 = (s, g))) := by
  rcases H.2.2.2.2 with q | ⟨-, q1, q2, t, q3, q4⟩ | ⟨-, q1, q2, ⟨t, q3, q4⟩, q5⟩
  · exact absurd q.1 (by decide)
  · refine ⟨fun _ => ⟨by rw [q3], fun ⟨z1, z2⟩ => ?_⟩, fun z => by rw [q1] at z; cases z⟩
    rw [q3] at z1 z2; have := q4 z1; simp only at z2; omega
  · exact ⟨fun z => (by rw [q1] at z; cases z), fun _ => ⟨q2, ⟨by rw [q3], by rw [q3]; exact q4⟩, q5⟩⟩
theorem ORD_le {f : IA} {n i : Int} {le ro co nu : Int} {dn : Bool} {h : IA} {a : Int} {x : Bool} {h2 : IA} (hv : OV 0 le ro co nu) (hi : i ≤ n) (H : ORD f n i (0, le, ro, co, nu) dn h a x h2) : i ≤ a := by
  rcases H.2.2.2 with ⟨-, -, s, q2, -⟩ | q
  · have z := O_run_le (f := f) (n := n) _ i (0, le, ro, co, nu) rfl hi hv
    have z2 : O_runN f n (n - i).toNat i (0, le, ro, co, nu) = (a, s) := q2
    rw [z2] at z; exact z.1
  · omega
theorem O_st0 {le ro co nu c : Int} (h : c ≠ 126) : O_step 0 le ro co nu c = (1, c, ro, co, nu) := by unfold O_step; rw [if_pos rfl, if_neg h]
theorem O_st0t {le ro co nu c : Int} (h : c = 126) : O_step 0 le ro co nu c = (6, c, ro, co, nu) := by unfold O_step; rw [if_pos rfl, if_pos h]
theorem O_st1 {le ro co nu c : Int} : O_step 1 le ro co nu c = (2, le, c - 48, co, nu) := by unfold O_step; rw [if_neg (by omega), if_pos rfl]
theorem O_st2 {le ro co nu c : Int} : O_step 2 le ro co nu c = (3, le, ro, c - 48, nu) := by unfold O_step; rw [if_neg (by omega), if_neg (by omega), if_pos rfl]
theorem O_st3 {le ro co nu c : Int} : O_step 3 le ro co nu c = (4, le, ro, co, nu) := by unfold O_step; rw [if_neg (by omega), if_neg (by omega), if_neg (by omega), if_pos rfl]
theorem O_fits3s {le nu c : Int} (h : le = 115) : O_fits 3 le nu c ↔ 61 ≤ c ∧ c ≤ 61 := by rw [O_fits3, if_pos h]; omega
theorem O_fits3h {le nu c : Int} (h : le ≠ 115) : O_fits 3 le nu c ↔ 42 ≤ c ∧ c ≤ 42 := by rw [O_fits3, if_neg h]; omega
