/-! showers, saved states -/
def S_steep (h : IA) : BA := fun k => decide (2 ≤ S_drop h k)
def S_wcN (h : IA) : Nat → IA | 0 => fun _ => 0 | n + 1 => if S_steep h n = true then zu (zu (S_wcN h n) n (S_wcN h n n - 1)) (S_next h n) (zu (S_wcN h n) n (S_wcN h n n - 1) (S_next h n) + 1) else S_wcN h n
def S_wc (h : IA) (i : Int) : IA := S_wcN h i.toNat
theorem S_wc_0 (h : IA) : S_wc h 0 = fun _ => 0 := rfl
theorem S_wc_up {h : IA} {i : Int} (hi : 0 ≤ i) : S_wc h (i + 1) = if S_steep h i = true then zu (zu (S_wc h i) i (S_wc h i i - 1)) (S_next h i) (zu (S_wc h i) i (S_wc h i i - 1) (S_next h i) + 1) else S_wc h i := by
  unfold S_wc
  rw [show (i + 1).toNat = i.toNat + 1 by omega]
  show (if S_steep h ((i.toNat : Nat) : Int) = true then zu (zu (S_wcN h i.toNat) ((i.toNat : Nat) : Int) (S_wcN h i.toNat ((i.toNat : Nat) : Int) - 1)) (S_next h ((i.toNat : Nat) : Int)) (zu (S_wcN h i.toNat) ((i.toNat : Nat) : Int) (S_wcN h i.toNat ((i.toNat : Nat) : Int) - 1) (S_next h ((i.toNat : Nat) : Int)) + 1) else S_wcN h i.toNat) = _
  rw [Int.toNat_of_nonneg hi]
theorem zu_b {f : IA} {k v a b : Int} (hf : ∀ j, a ≤ f j ∧ f j ≤ b) (hv : a ≤ v ∧ v ≤ b) : ∀ j, a ≤ zu f k v j ∧ zu f k v j ≤ b := fun j => by unfold zu; split; exact hv; exact hf j
theorem S_wc_b {h : IA} : ∀ i, 0 ≤ i → ∀ k, -i ≤ S_wc h i k ∧ S_wc h i k ≤ i := by
  refine z_ind (fun k => by rw [S_wc_0]; exact ⟨Int.le_refl _, Int.le_refl _⟩) (fun i hi ih k => ?_)
  rw [S_wc_up hi]
  split
  · have h1 : ∀ j, -(i + 1) ≤ zu (S_wc h i) i (S_wc h i i - 1) j ∧ zu (S_wc h i) i (S_wc h i i - 1) j ≤ i := by
      refine zu_b (fun j => ?_) ?_
      · have := ih j; omega
      · have := ih i; omega
    refine zu_b (fun j => ?_) ?_ k
    · have := h1 j; omega
    · have := h1 (S_next h i); omega
  · have := ih k; omega
def S_wash1 (h : IA) : IA := zmix 49 (fun k => clip (h k + S_wc h 49 k)) h
def S_given1 (h : IA) : Int := zC (S_steep h) 49
theorem S_drop_next {h : IA} {k : Int} (hk : 0 ≤ k ∧ k < 49) (e : S_next h k = -1) : S_drop h k = 0 := by
  unfold S_next at e; unfold S_drop
  by_cases q : S_low h k = k
  · rw [q]; omega
  · rw [if_neg q] at e
    have := (S_lowI_ok (h := h) hk 4 (by omega) (by omega)).1; unfold S_low at e; omega
theorem S_drop_to {h : IA} {k : Int} (e : S_next h k ≠ -1) : S_drop h k = h k - h (S_next h k) := by
  unfold S_next at *; unfold S_drop
  by_cases q : S_low h k = k
  · rw [if_pos q] at e; exact absurd rfl e
  · rw [if_neg q]
theorem S_next_ne {h : IA} {k : Int} (hk : 0 ≤ k ∧ k < 49) : S_next h k ≠ k := fun e => by
  have := (S_next_ok (h := h) hk (by omega)).2.1; rw [e] at this; omega
def S_washN (h : IA) : Nat → IA | 0 => h | n + 1 => S_wash1 (S_washN h n)
def S_givenN (h : IA) : Nat → Int | 0 => 0 | n + 1 => S_givenN h n + S_given1 (S_washN h n)
def S_wash (h : IA) (i : Int) : IA := S_washN h i.toNat
def S_given (h : IA) (i : Int) : Int := S_givenN h i.toNat
theorem S_wash_up {h : IA} {i : Int} (hi : 0 ≤ i) : S_wash h (i + 1) = S_wash1 (S_wash h i) := by unfold S_wash; rw [show (i + 1).toNat = i.toNat + 1 by omega]; rfl
theorem S_given_up {h : IA} {i : Int} (hi : 0 ≤ i) : S_given h (i + 1) = S_given h i + S_given1 (S_wash h i) := by unfold S_given S_wash; rw [show (i + 1).toNat = i.toNat + 1 by omega]; rfl
theorem S_given_b {h : IA} : ∀ i, 0 ≤ i → 0 ≤ S_given h i ∧ S_given h i ≤ 49 * i := by
  refine z_ind ⟨Int.le_refl 0, Int.le_refl 0⟩ (fun i hi ih => ?_)
  have := zC_b (S_steep (S_wash h i)) (i := 49) (by omega)
  rw [S_given_up hi]; unfold S_given1; omega
theorem S_wash1_b {h : IA} (hh : ∀ k, 0 ≤ k → k < 49 → 0 ≤ h k ∧ h k ≤ 99) : ∀ k, 0 ≤ k → k < 49 → 0 ≤ S_wash1 h k ∧ S_wash1 h k ≤ 99 := zmix_b hh (fun _ => clip_b _)
theorem S_wash_b {h : IA} (hh : ∀ k, 0 ≤ k → k < 49 → 0 ≤ h k ∧ h k ≤ 99) : ∀ i, 0 ≤ i → ∀ k, 0 ≤ k → k < 49 → 0 ≤ S_wash h i k ∧ S_wash h i k ≤ 99 :=
  z_ind hh (fun i hi ih => by rw [S_wash_up hi]; exact S_wash1_b ih)
/-- saved states: the count, and the row of rows -/
def S_svC (n : Int) : Int := if n = 6 then 6 else n + 1
def S_sv (sv h : IA) (n : Int) : IA := if n = 6 then zcpy h (zcpy sv sv 49 0 245) 0 245 49 else zcpy h sv 0 (49 * n) 49
