/-! SUMS, COUNTS, MIXED ROWS, CONNECTION: plain facts -/
noncomputable def cb (P : Prop) : Bool := @decide P (Classical.propDecidable P)
theorem cb_iff {P : Prop} : cb P = true ↔ P := by unfold cb; exact @decide_eq_true_iff P (Classical.propDecidable P)
theorem cb_f {P : Prop} : cb P = false ↔ ¬ P := by
  constructor
  · intro h q; rw [cb_iff.mpr q] at h; cases h
  · intro h; cases hc : cb P
    · rfl
    · exact absurd (cb_iff.mp hc) h
theorem cb_congr {P Q : Prop} (h : P ↔ Q) : cb P = cb Q := by rw [propext h]
def zmix (i : Int) (f g : IA) : IA := fun k => if 0 ≤ k ∧ k < i then f k else g k
def bmix (i : Int) (f g : BA) : BA := fun k => if 0 ≤ k ∧ k < i then f k else g k
theorem zmix_0 (f g : IA) : zmix 0 f g = g := by funext k; unfold zmix; rw [if_neg (by omega)]
theorem bmix_0 (f g : BA) : bmix 0 f g = g := by funext k; unfold bmix; rw [if_neg (by omega)]
theorem zmix_up {i : Int} {f g : IA} {v : Int} (hi : 0 ≤ i) (hv : v = f i) : zu (zmix i f g) i v = zmix (i + 1) f g := by
  funext k; unfold zu zmix
  by_cases h : k = i
  · subst h; rw [if_pos rfl, if_pos (by omega), hv]
  · rw [if_neg h]
    by_cases h2 : 0 ≤ k ∧ k < i
    · rw [if_pos h2, if_pos (by omega)]
    · rw [if_neg h2, if_neg (by omega)]
theorem bmix_up {i : Int} {f g : BA} {v : Bool} (hi : 0 ≤ i) (hv : v = f i) : bu (bmix i f g) i v = bmix (i + 1) f g := by
  funext k; unfold bu bmix
  by_cases h : k = i
  · subst h; rw [if_pos rfl, if_pos (by omega), hv]
  · rw [if_neg h]
    by_cases h2 : 0 ≤ k ∧ k < i
    · rw [if_pos h2, if_pos (by omega)]
    · rw [if_neg h2, if_neg (by omega)]
theorem zmix_skip {i : Int} {f g : IA} (hi : 0 ≤ i) (hv : g i = f i) : zmix i f g = zmix (i + 1) f g := by
  funext k; unfold zmix
  by_cases h2 : 0 ≤ k ∧ k < i
  · rw [if_pos h2, if_pos (by omega)]
  · rw [if_neg h2]
    by_cases h : k = i
    · subst h; rw [if_pos (by omega), hv]
    · rw [if_neg (by omega)]
theorem zmix_at {i k : Int} {f g : IA} (h : 0 ≤ k ∧ k < i) : zmix i f g k = f k := by unfold zmix; rw [if_pos h]
theorem zmix_ge {i k : Int} {f g : IA} (h : i ≤ k) : zmix i f g k = g k := by unfold zmix; rw [if_neg (by omega)]
theorem bmix_at {i k : Int} {f g : BA} (h : 0 ≤ k ∧ k < i) : bmix i f g k = f k := by unfold bmix; rw [if_pos h]
theorem bmix_ge {i k : Int} {f g : BA} (h : i ≤ k) : bmix i f g k = g k := by unfold bmix; rw [if_neg (by omega)]
theorem zu_s {f : IA} {i v : Int} : zu f i v i = v := by unfold zu; rw [if_pos rfl]
theorem zu_n {f : IA} {i v k : Int} (h : ¬ k = i) : zu f i v k = f k := by unfold zu; rw [if_neg h]
theorem bu_s {f : BA} {i : Int} {v : Bool} : bu f i v i = v := by unfold bu; rw [if_pos rfl]
theorem bu_n {f : BA} {i k : Int} {v : Bool} (h : ¬ k = i) : bu f i v k = f k := by unfold bu; rw [if_neg h]
def zSn (f : IA) : Nat → Int | 0 => 0 | n + 1 => zSn f n + f n
def zS (f : IA) (i : Int) : Int := zSn f i.toNat
theorem zS_0 (f : IA) : zS f 0 = 0 := rfl
theorem zS_up {f : IA} {i : Int} (hi : 0 ≤ i) : zS f (i + 1) = zS f i + f i := by
  unfold zS
  rw [show (i + 1).toNat = i.toNat + 1 by omega]
  show zSn f i.toNat + f ((i.toNat : Nat) : Int) = _
  rw [Int.toNat_of_nonneg hi]
theorem z_ind {P : Int → Prop} (h0 : P 0) (hs : ∀ i, 0 ≤ i → P i → P (i + 1)) : ∀ i, 0 ≤ i → P i := by
  intro i hi
  obtain ⟨n, rfl⟩ := Int.eq_ofNat_of_zero_le hi
  clear hi
  induction n with
  | zero => exact h0
  | succ n ih => exact hs n (by omega) ih
theorem zS_congr {f g : IA} : ∀ i, 0 ≤ i → (∀ k, 0 ≤ k → k < i → f k = g k) → zS f i = zS g i := by
  refine z_ind (fun _ => rfl) (fun i hi ih h => ?_)
  rw [zS_up hi, zS_up hi, ih (fun k h1 h2 => h k h1 (by omega)), h i hi (by omega)]
theorem zS_le {f g : IA} : ∀ i, 0 ≤ i → (∀ k, 0 ≤ k → k < i → f k ≤ g k) → zS f i ≤ zS g i := by
  refine z_ind (fun _ => by rw [zS_0, zS_0]; omega) (fun i hi ih h => ?_)
  have h1 := ih (fun k h1 h2 => h k h1 (by omega)); have h2 := h i hi (by omega)
  rw [zS_up hi, zS_up hi]; omega
theorem zS_bnd {f : IA} {a b : Int} : ∀ i, 0 ≤ i → (∀ k, 0 ≤ k → k < i → a ≤ f k ∧ f k ≤ b) → a * i ≤ zS f i ∧ zS f i ≤ b * i := by
  refine z_ind (fun _ => by rw [zS_0]; omega) (fun i hi ih h => ?_)
  have h1 := ih (fun k h1 h2 => h k h1 (by omega)); have h2 := h i hi (by omega)
  rw [zS_up hi, Int.mul_add, Int.mul_add]; omega
theorem zS_add {f g : IA} : ∀ i, 0 ≤ i → zS (fun k => f k + g k) i = zS f i + zS g i := by
  refine z_ind (by rw [zS_0, zS_0, zS_0]; rfl) (fun i hi ih => ?_)
  rw [zS_up hi, zS_up hi, zS_up hi, ih]; omega
def z1 (b : Bool) : Int := if b = true then 1 else 0
theorem z1_b (b : Bool) : 0 ≤ z1 b ∧ z1 b ≤ 1 := by cases b <;> decide
theorem z1_t {b : Bool} (h : b = true) : z1 b = 1 := by rw [h]; rfl
theorem z1_f {b : Bool} (h : b = false) : z1 b = 0 := by rw [h]; rfl
def zC (P : BA) (i : Int) : Int := zS (fun k => z1 (P k)) i
theorem zC_0 (P : BA) : zC P 0 = 0 := rfl
theorem zC_up {P : BA} {i : Int} (hi : 0 ≤ i) : zC P (i + 1) = zC P i + z1 (P i) := zS_up hi
theorem zC_b (P : BA) {i : Int} (hi : 0 ≤ i) : 0 ≤ zC P i ∧ zC P i ≤ i := by
  have h := zS_bnd (f := fun k => z1 (P k)) (a := 0) (b := 1) i hi (fun k _ _ => z1_b _)
  unfold zC; omega
theorem zC_congr {P Q : BA} {i : Int} (hi : 0 ≤ i) (h : ∀ k, 0 ≤ k → k < i → P k = Q k) : zC P i = zC Q i := zS_congr i hi (fun k h1 h2 => by rw [h k h1 h2])
theorem zC_le {P Q : BA} {i : Int} (hi : 0 ≤ i) (h : ∀ k, 0 ≤ k → k < i → P k = true → Q k = true) : zC P i ≤ zC Q i := zS_le i hi (fun k h1 h2 => by
  cases hp : P k
  · exact (z1_b _).1
  · rw [h k h1 h2 hp]; exact Int.le_refl _)
theorem zC_full {P : BA} : ∀ i, 0 ≤ i → zC P i = i → ∀ k, 0 ≤ k → k < i → P k = true := by
  refine z_ind (fun _ k h1 h2 => by omega) (fun i hi ih h k h1 h2 => ?_)
  rw [zC_up hi] at h
  have hb := zC_b P hi
  have hz := z1_b (P i)
  by_cases hk : k = i
  · subst hk; cases hp : P k
    · rw [z1_f hp] at h; omega
    · rfl
  · exact ih (by omega) k h1 (by omega)
theorem zC_zero {P : BA} : ∀ i, 0 ≤ i → (∀ k, 0 ≤ k → k < i → P k = false) → zC P i = 0 := by
  refine z_ind (fun _ => rfl) (fun i hi ih h => ?_)
  rw [zC_up hi, ih (fun k h1 h2 => h k h1 (by omega)), z1_f (h i hi (by omega))]; rfl
theorem zC_set {P : BA} {n : Int} (h0 : 0 ≤ n) (hp : P n = false) : ∀ i, 0 ≤ i → zC (bu P n true) i = zC P i + (if n < i then 1 else 0) := by
  refine z_ind (by rw [zC_0, zC_0, if_neg (by omega)]; rfl) (fun i hi ih => ?_)
  rw [zC_up hi, zC_up hi, ih]
  by_cases h : i = n
  · subst h; rw [bu_s, z1_t rfl, z1_f hp, if_neg (by omega), if_pos (by omega)]
  · rw [bu_n h]
    by_cases h2 : n < i
    · rw [if_pos h2, if_pos (by omega)]; omega
    · rw [if_neg h2, if_neg (by omega)]; omega
theorem zC_lt {P Q : BA} {i n : Int} (hi : 0 ≤ i) (h : ∀ k, 0 ≤ k → k < i → P k = true → Q k = true) (hn : 0 ≤ n) (hni : n < i) (hp : P n = false) (hq : Q n = true) : zC P i < zC Q i := by
  have h1 := zC_set hn hp i hi
  have h2 : zC (bu P n true) i ≤ zC Q i := zC_le hi (fun k k1 k2 k3 => by
    by_cases e : k = n
    · rw [e]; exact hq
    · rw [bu_n e] at k3; exact h k k1 k2 k3)
  rw [if_pos hni] at h1; omega
/-! the least set that holds a and is closed under r -/
def Cn (r : Int → Int → Prop) (a b : Int) : Prop := ∀ S : Int → Prop, S a → (∀ x y, S x → r x y → S y) → S b
theorem Cn.rf {r : Int → Int → Prop} {a : Int} : Cn r a a := fun _ h _ => h
theorem Cn.st {r : Int → Int → Prop} {a b c : Int} (h : Cn r a b) (hr : r b c) : Cn r a c := fun S h0 hs => hs _ _ (h S h0 hs) hr
theorem Cn.tr {r : Int → Int → Prop} {a b c : Int} (h : Cn r a b) (k : Cn r b c) : Cn r a c := fun S h0 hs => k S (h S h0 hs) hs
theorem Cn.one {r : Int → Int → Prop} {a b : Int} (h : r a b) : Cn r a b := Cn.rf.st h
theorem Cn.sy {r : Int → Int → Prop} (hr : ∀ x y, r x y → r y x) {a b : Int} (h : Cn r a b) : Cn r b a := h (fun z => Cn r z a) Cn.rf (fun x y hx hxy => (Cn.one (hr _ _ hxy)).tr hx)
theorem Cn.mono {r q : Int → Int → Prop} (hr : ∀ x y, r x y → q x y) {a b : Int} (h : Cn r a b) : Cn q a b := h (fun z => Cn q a z) Cn.rf (fun x y hx hxy => hx.st (hr _ _ hxy))
theorem zcpy_mix (f g : IA) (n : Int) : zcpy f g 0 0 n = zmix n f g := by
  funext k; unfold zcpy zmix
  by_cases h : 0 ≤ k ∧ k < n
  · rw [if_pos (by omega), if_pos h]; congr 1; omega
  · rw [if_neg (by omega), if_neg h]
theorem S_put_in {h : IA} {p v : Int} (hp : 0 ≤ p ∧ p < 49) : S_put h p v = zu h p (clip v) := by unfold S_put; rw [if_pos hp]; rfl
def S_diff (h o : IA) : Int := zC (fun k => !decide (h k = o k)) 49
theorem zmul_b {x y a b : Int} (hx : 0 ≤ x ∧ x ≤ a) (hy : 0 ≤ y ∧ y ≤ b) : 0 ≤ x * y ∧ x * y ≤ a * b := ⟨Int.mul_nonneg hx.1 hy.1, Int.mul_le_mul hx.2 hy.2 hy.1 (by omega)⟩
