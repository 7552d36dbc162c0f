/-! CUTS AND SIGHTS, plainly -/
def S_along (n st d i : Int) : Int := if n ≤ 0 then st else (2 * n * st + 2 * i * d + n) / (2 * n)
def S_cutn (a b : Int) : Int := zmax (zabs (b / 7 - a / 7)) (zabs (b % 7 - a % 7))
def S_on (a b i : Int) : Int := S_along (S_cutn a b) (a / 7) (b / 7 - a / 7) i * 7 + S_along (S_cutn a b) (a % 7) (b % 7 - a % 7) i
theorem S_cutn_b {a b : Int} (ha : 0 ≤ a ∧ a < 49) (hb : 0 ≤ b ∧ b < 49) : 0 ≤ S_cutn a b ∧ S_cutn a b ≤ 6 := by
  unfold S_cutn; have h1 := zmax_spec (zabs (b / 7 - a / 7)) (zabs (b % 7 - a % 7)); have h2 := zabs_spec (b / 7 - a / 7); have h3 := zabs_spec (b % 7 - a % 7); omega
theorem S_cutn_d {a b : Int} : (-(S_cutn a b) ≤ b / 7 - a / 7 ∧ b / 7 - a / 7 ≤ S_cutn a b) ∧ -(S_cutn a b) ≤ b % 7 - a % 7 ∧ b % 7 - a % 7 ≤ S_cutn a b := by
  unfold S_cutn; have h1 := zmax_spec (zabs (b / 7 - a / 7)) (zabs (b % 7 - a % 7)); have h2 := zabs_spec (b / 7 - a / 7); have h3 := zabs_spec (b % 7 - a % 7); omega
theorem z6 {n : Int} (h : 0 < n ∧ n ≤ 6) : n = 1 ∨ n = 2 ∨ n = 3 ∨ n = 4 ∨ n = 5 ∨ n = 6 := by omega
theorem z06 {n : Int} (h : 0 ≤ n ∧ n ≤ 6) : n = 0 ∨ n = 1 ∨ n = 2 ∨ n = 3 ∨ n = 4 ∨ n = 5 ∨ n = 6 := by omega
theorem S_al_n {n st d i : Int} (hn : 0 < n ∧ n ≤ 6) (hi : 0 ≤ i ∧ i ≤ n) (hs : 0 ≤ st ∧ st ≤ 6) (hd : 0 ≤ st + d ∧ st + d ≤ 6) : 0 ≤ 2 * n * st + 2 * i * d + n ∧ 2 * n * st + 2 * i * d + n < 14 * n := by
  rcases z6 hn with e | e | e | e | e | e <;> subst e <;> rcases z06 ⟨hi.1, by omega⟩ with e | e | e | e | e | e | e <;> subst e <;> omega
theorem S_al_b {n st d i : Int} (hn : 0 ≤ n ∧ n ≤ 6) (hi : 0 ≤ i ∧ i ≤ n) (hs : 0 ≤ st ∧ st ≤ 6) (hd : 0 ≤ st + d ∧ st + d ≤ 6) : 0 ≤ S_along n st d i ∧ S_along n st d i ≤ 6 := by
  unfold S_along; split
  · exact hs
  · have h := S_al_n ⟨by omega, hn.2⟩ hi hs hd
    exact ⟨Int.ediv_nonneg h.1 (by omega), Int.le_of_lt_add_one (Int.ediv_lt_of_lt_mul (by omega) (by omega))⟩
theorem S_al_0 {n st d : Int} (hn : 0 ≤ n ∧ n ≤ 6) : S_along n st d 0 = st := by
  unfold S_along; split; rfl
  rcases z6 ⟨by omega, hn.2⟩ with e | e | e | e | e | e <;> subst e <;> omega
theorem S_al_l {n st d : Int} (hn : 0 ≤ n ∧ n ≤ 6) (hd : -n ≤ d ∧ d ≤ n) : S_along n st d n = st + d := by
  unfold S_along; split; omega
  rcases z6 ⟨by omega, hn.2⟩ with e | e | e | e | e | e <;> subst e <;> omega
theorem S_on_b {a b i : Int} (ha : 0 ≤ a ∧ a < 49) (hb : 0 ≤ b ∧ b < 49) (hi : 0 ≤ i ∧ i ≤ S_cutn a b) : 0 ≤ S_on a b i ∧ S_on a b i < 49 := by
  have hn := S_cutn_b ha hb
  have h1 := S_al_b (st := a / 7) (d := b / 7 - a / 7) hn hi (by omega) (by omega); have h2 := S_al_b (st := a % 7) (d := b % 7 - a % 7) hn hi (by omega) (by omega)
  unfold S_on; omega
theorem S_on_0 {a b : Int} (ha : 0 ≤ a ∧ a < 49) (hb : 0 ≤ b ∧ b < 49) : S_on a b 0 = a := by
  unfold S_on; rw [S_al_0 (S_cutn_b ha hb), S_al_0 (S_cutn_b ha hb)]; omega
theorem S_on_n {a b : Int} (ha : 0 ≤ a ∧ a < 49) (hb : 0 ≤ b ∧ b < 49) : S_on a b (S_cutn a b) = b := by
  have hd := @S_cutn_d a b
  unfold S_on; rw [S_al_l (S_cutn_b ha hb) hd.1, S_al_l (S_cutn_b ha hb) hd.2]; omega
def S_topN (f : IA) : Nat → Int | 0 => 0 | n + 1 => zmax (S_topN f n) (f n)
def S_top (f : IA) (i : Int) : Int := S_topN f i.toNat
theorem S_top_0 (f : IA) : S_top f 0 = 0 := rfl
theorem S_top_up {f : IA} {i : Int} (hi : 0 ≤ i) : S_top f (i + 1) = zmax (S_top f i) (f i) := by
  unfold S_top; rw [show (i + 1).toNat = i.toNat + 1 by omega]; show zmax _ (f (i.toNat : Int)) = _; rw [Int.toNat_of_nonneg hi]
theorem S_top_congr {f g : IA} : ∀ i, 0 ≤ i → (∀ k, 0 ≤ k → k < i → f k = g k) → S_top f i = S_top g i := by
  refine z_ind (fun _ => rfl) (fun i hi ih h => ?_)
  rw [S_top_up hi, S_top_up hi, ih (fun k a b => h k a (by omega)), h i hi (by omega)]
theorem S_top_b {f : IA} {m : Int} (hm : 0 ≤ m) : ∀ i, 0 ≤ i → (∀ k, 0 ≤ k → k < i → f k ≤ m) → 0 ≤ S_top f i ∧ S_top f i ≤ m := by
  refine z_ind (fun _ => ⟨Int.le_refl 0, hm⟩) (fun i hi ih h => ?_)
  rw [S_top_up hi]; have h1 := ih (fun k a b => h k a (by omega)); have h2 := h i hi (by omega); have h3 := zmax_spec (S_top f i) (f i); omega
def S_argN (f : IA) : Nat → Int | 0 => 0 | n + 1 => if f (S_argN f n) < f n then n else S_argN f n
def S_arg (f : IA) (i : Int) : Int := S_argN f i.toNat
theorem S_arg_0 (f : IA) : S_arg f 0 = 0 := rfl
theorem S_arg_up {f : IA} {i : Int} (hi : 0 ≤ i) : S_arg f (i + 1) = if f (S_arg f i) < f i then i else S_arg f i := by
  unfold S_arg; rw [show (i + 1).toNat = i.toNat + 1 by omega]; show (if f (S_argN f i.toNat) < f (i.toNat : Int) then (i.toNat : Int) else _) = _; rw [Int.toNat_of_nonneg hi]
theorem S_arg_1 (f : IA) : S_arg f 1 = 0 := by rw [show (1 : Int) = 0 + 1 from rfl, S_arg_up (Int.le_refl 0), S_arg_0, if_neg (Int.lt_irrefl _)]
theorem S_arg_b {f : IA} : ∀ i, 0 ≤ i → 0 ≤ S_arg f i ∧ (S_arg f i < i ∨ S_arg f i = 0) := by
  refine z_ind ⟨Int.le_refl 0, Or.inr rfl⟩ (fun i hi ih => ?_)
  rw [S_arg_up hi]; split <;> omega
theorem S_arg_congr {f g : IA} (N : Int) (h : ∀ k, 0 ≤ k → k < N → f k = g k) (hN : 0 < N) : ∀ i, 0 ≤ i → i ≤ N → S_arg f i = S_arg g i := by
  refine z_ind (fun _ => rfl) (fun i hi ih hiN => ?_)
  have hb := @S_arg_b g i hi
  rw [S_arg_up hi, S_arg_up hi, ih (by omega), h i hi (by omega), h (S_arg g i) hb.1 (by omega)]
def S_clear (h : IA) (a b : Int) : Prop := ∀ i, 1 ≤ i → i < S_cutn a b → h (S_on a b i) * S_cutn a b ≤ (S_cutn a b - i) * h a + i * h b
noncomputable def S_sees (h : IA) (a : Int) : BA := fun b => cb (b ≠ a ∧ S_clear h a b)
noncomputable def S_seen (h : IA) (a : Int) : Int := zC (S_sees h a) 49
theorem S_seen_b (h : IA) (a : Int) : 0 ≤ S_seen h a ∧ S_seen h a ≤ 49 := zC_b _ (by omega)
def S_rise (h : IA) (a b : Int) : Int := zS (fun i => zmax 0 (h (S_on a b (i + 1)) - h (S_on a b i))) (S_cutn a b)
def S_pass (h : IA) (a b : Int) : Int := S_top (fun i => h (S_on a b i)) (S_cutn a b + 1)
theorem S_clear_of {h f f0 : IA} {a b : Int} (ha : 0 ≤ a ∧ a < 49) (hb : 0 ≤ b ∧ b < 49) (hf : f = zmix (S_cutn a b + 1) (fun i => h (S_on a b i)) f0) :
    (∀ i, 1 ≤ i → i < S_cutn a b → f i * S_cutn a b ≤ (S_cutn a b - i) * f 0 + i * f (S_cutn a b)) ↔ S_clear h a b := by
  have hn := S_cutn_b ha hb
  have e0 : f 0 = h a := by rw [hf, zmix_at (by omega), S_on_0 ha hb]
  have e1 : f (S_cutn a b) = h b := by rw [hf, zmix_at (by omega), S_on_n ha hb]
  unfold S_clear
  constructor
  · intro H i h1 h2; have := H i h1 h2; rw [e0, e1, hf, zmix_at (by omega)] at this; exact this
  · intro H i h1 h2; rw [e0, e1, hf, zmix_at (by omega)]; exact H i h1 h2
