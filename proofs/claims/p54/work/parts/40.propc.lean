/-! LINES, plainly: pieces, borders, open and closed lines -/
theorem q_le1 {P : BA} : ∀ n, 0 ≤ n → (∀ j k, 0 ≤ j → j < n → 0 ≤ k → k < n → P j = true → P k = true → j = k) → zC P n ≤ 1 := by
  intro n hn h
  by_cases q : ∃ k, 0 ≤ k ∧ k < n ∧ P k = true
  · obtain ⟨k, k0, k1, k2⟩ := q
    have h1 := zC_rel (R := fun _ _ => True) n hn P (fun _ => true) 1 (by omega) (fun a _ _ _ => ⟨0, by omega, by omega, rfl, trivial⟩) (fun a a' b a0 a1 a0' a1' p p' _ _ _ _ => h a a' a0 a1 a0' a1' p p')
    have h2 : zC (fun _ => true) 1 = 1 := rfl
    omega
  · have : zC P n = 0 := zC_zero n hn (fun k a b => by
      cases p : P k
      · rfl
      · exact absurd ⟨k, a, b, p⟩ q)
    omega
theorem q_pair (g : Int → Int → Int) : ∀ n, 0 ≤ n → zS (fun q => g q 0 + g q 1) n = zS (fun i => g (i / 2) (i % 2)) (2 * n) := by
  refine z_ind rfl (fun n hn ih => ?_)
  rw [zS_up hn, ih, show 2 * (n + 1) = 2 * n + 1 + 1 by omega, zS_up (by omega), zS_up (by omega)]
  rw [show 2 * n / 2 = n by omega, show 2 * n % 2 = 0 by omega, show (2 * n + 1) / 2 = n by omega, show (2 * n + 1) % 2 = 1 by omega]; omega
theorem z1_and (a : Bool) {P : Prop} (dP : Decidable P) : z1 (a && @decide P dP) = @ite Int P dP (z1 a) 0 := by
  by_cases q : P
  · rw [if_pos q, decide_eq_true q, Bool.and_true]
  · rw [if_neg q, decide_eq_false q, Bool.and_false]; rfl
set_option maxRecDepth 100000 in
theorem deg_A (f : IA) : zS (fun q => f (S_sd q 0) + f (S_sd q 1) + f (S_sd q 2) + f (S_sd q 3)) 36 = 0 + (f 0 + f 43 + f 6 + f 42) + (f 1 + f 44 + f 7 + f 43) + (f 2 + f 45 + f 8 + f 44) + (f 3 + f 46 + f 9 + f 45) + (f 4 + f 47 + f 10 + f 46) + (f 5 + f 48 + f 11 + f 47) + (f 6 + f 50 + f 12 + f 49) + (f 7 + f 51 + f 13 + f 50) + (f 8 + f 52 + f 14 + f 51) + (f 9 + f 53 + f 15 + f 52) + (f 10 + f 54 + f 16 + f 53) + (f 11 + f 55 + f 17 + f 54) + (f 12 + f 57 + f 18 + f 56) + (f 13 + f 58 + f 19 + f 57) + (f 14 + f 59 + f 20 + f 58) + (f 15 + f 60 + f 21 + f 59) + (f 16 + f 61 + f 22 + f 60) + (f 17 + f 62 + f 23 + f 61) + (f 18 + f 64 + f 24 + f 63) + (f 19 + f 65 + f 25 + f 64) + (f 20 + f 66 + f 26 + f 65) + (f 21 + f 67 + f 27 + f 66) + (f 22 + f 68 + f 28 + f 67) + (f 23 + f 69 + f 29 + f 68) + (f 24 + f 71 + f 30 + f 70) + (f 25 + f 72 + f 31 + f 71) + (f 26 + f 73 + f 32 + f 72) + (f 27 + f 74 + f 33 + f 73) + (f 28 + f 75 + f 34 + f 74) + (f 29 + f 76 + f 35 + f 75) + (f 30 + f 78 + f 36 + f 77) + (f 31 + f 79 + f 37 + f 78) + (f 32 + f 80 + f 38 + f 79) + (f 33 + f 81 + f 39 + f 80) + (f 34 + f 82 + f 40 + f 81) + (f 35 + f 83 + f 41 + f 82) := rfl
set_option maxRecDepth 100000 in
theorem deg_B (f : IA) : zS (fun e => if E_q2 e = 36 then f e else 0) 84 = 0 + f 0 + f 1 + f 2 + f 3 + f 4 + f 5 + 0 + 0 + 0 + 0 + 0 + 0 + 0 + 0 + 0 + 0 + 0 + 0 + 0 + 0 + 0 + 0 + 0 + 0 + 0 + 0 + 0 + 0 + 0 + 0 + 0 + 0 + 0 + 0 + 0 + 0 + f 36 + f 37 + f 38 + f 39 + f 40 + f 41 + f 42 + 0 + 0 + 0 + 0 + 0 + f 48 + f 49 + 0 + 0 + 0 + 0 + 0 + f 55 + f 56 + 0 + 0 + 0 + 0 + 0 + f 62 + f 63 + 0 + 0 + 0 + 0 + 0 + f 69 + f 70 + 0 + 0 + 0 + 0 + 0 + f 76 + f 77 + 0 + 0 + 0 + 0 + 0 + f 83 := rfl
set_option maxRecDepth 100000 in
theorem deg_C (f : IA) : zS f 84 = 0 + f 0 + f 1 + f 2 + f 3 + f 4 + f 5 + f 6 + f 7 + f 8 + f 9 + f 10 + f 11 + f 12 + f 13 + f 14 + f 15 + f 16 + f 17 + f 18 + f 19 + f 20 + f 21 + f 22 + f 23 + f 24 + f 25 + f 26 + f 27 + f 28 + f 29 + f 30 + f 31 + f 32 + f 33 + f 34 + f 35 + f 36 + f 37 + f 38 + f 39 + f 40 + f 41 + f 42 + f 43 + f 44 + f 45 + f 46 + f 47 + f 48 + f 49 + f 50 + f 51 + f 52 + f 53 + f 54 + f 55 + f 56 + f 57 + f 58 + f 59 + f 60 + f 61 + f 62 + f 63 + f 64 + f 65 + f 66 + f 67 + f 68 + f 69 + f 70 + f 71 + f 72 + f 73 + f 74 + f 75 + f 76 + f 77 + f 78 + f 79 + f 80 + f 81 + f 82 + f 83 := rfl
set_option maxRecDepth 100000 in
theorem deg_f (f : IA) : zS (fun q => f (S_sd q 0) + f (S_sd q 1) + f (S_sd q 2) + f (S_sd q 3)) 36 + zS (fun e => if E_q2 e = 36 then f e else 0) 84 = 2 * zS f 84 := by
  rw [deg_A f, deg_B f, deg_C f]; omega
def bdP (m : BA) (k : Int) : Int := (if k % 7 < 6 then (if k < 7 ∨ 41 < k then z1 (m k != m (k + 1)) else 0) else 0) + (if k < 42 then (if k % 7 = 0 ∨ k % 7 = 6 then z1 (m k != m (k + 7)) else 0) else 0)
set_option maxRecDepth 100000 in
theorem bd_A (m : BA) : zS (bdP m) 49 = 0 + (z1 (m 0 != m 1) + z1 (m 0 != m 7)) + (z1 (m 1 != m 2) + 0) + (z1 (m 2 != m 3) + 0) + (z1 (m 3 != m 4) + 0) + (z1 (m 4 != m 5) + 0) + (z1 (m 5 != m 6) + 0) + (0 + z1 (m 6 != m 13)) + (0 + z1 (m 7 != m 14)) + (0 + 0) + (0 + 0) + (0 + 0) + (0 + 0) + (0 + 0) + (0 + z1 (m 13 != m 20)) + (0 + z1 (m 14 != m 21)) + (0 + 0) + (0 + 0) + (0 + 0) + (0 + 0) + (0 + 0) + (0 + z1 (m 20 != m 27)) + (0 + z1 (m 21 != m 28)) + (0 + 0) + (0 + 0) + (0 + 0) + (0 + 0) + (0 + 0) + (0 + z1 (m 27 != m 34)) + (0 + z1 (m 28 != m 35)) + (0 + 0) + (0 + 0) + (0 + 0) + (0 + 0) + (0 + 0) + (0 + z1 (m 34 != m 41)) + (0 + z1 (m 35 != m 42)) + (0 + 0) + (0 + 0) + (0 + 0) + (0 + 0) + (0 + 0) + (0 + z1 (m 41 != m 48)) + (z1 (m 42 != m 43) + 0) + (z1 (m 43 != m 44) + 0) + (z1 (m 44 != m 45) + 0) + (z1 (m 45 != m 46) + 0) + (z1 (m 46 != m 47) + 0) + (z1 (m 47 != m 48) + 0) + (0 + 0) := rfl
set_option maxRecDepth 100000 in
theorem bd_B (m : BA) : zS (fun e => if E_q2 e = 36 then z1 (S_X m e) else 0) 84 = 0 + z1 (m 0 != m 1) + z1 (m 1 != m 2) + z1 (m 2 != m 3) + z1 (m 3 != m 4) + z1 (m 4 != m 5) + z1 (m 5 != m 6) + 0 + 0 + 0 + 0 + 0 + 0 + 0 + 0 + 0 + 0 + 0 + 0 + 0 + 0 + 0 + 0 + 0 + 0 + 0 + 0 + 0 + 0 + 0 + 0 + 0 + 0 + 0 + 0 + 0 + 0 + z1 (m 42 != m 43) + z1 (m 43 != m 44) + z1 (m 44 != m 45) + z1 (m 45 != m 46) + z1 (m 46 != m 47) + z1 (m 47 != m 48) + z1 (m 0 != m 7) + 0 + 0 + 0 + 0 + 0 + z1 (m 6 != m 13) + z1 (m 7 != m 14) + 0 + 0 + 0 + 0 + 0 + z1 (m 13 != m 20) + z1 (m 14 != m 21) + 0 + 0 + 0 + 0 + 0 + z1 (m 20 != m 27) + z1 (m 21 != m 28) + 0 + 0 + 0 + 0 + 0 + z1 (m 27 != m 34) + z1 (m 28 != m 35) + 0 + 0 + 0 + 0 + 0 + z1 (m 34 != m 41) + z1 (m 35 != m 42) + 0 + 0 + 0 + 0 + 0 + z1 (m 41 != m 48) := rfl
def S_brd (m : BA) : Int := zS (fun e => if E_q2 e = 36 then z1 (S_X m e) else 0) 84
set_option maxRecDepth 100000 in
theorem bd_all (m : BA) : zS (bdP m) 49 = S_brd m := by unfold S_brd; rw [bd_A, bd_B]; omega
theorem kDeg : ∀ b0 b1 b2 b3 : Bool, ∀ c0 c1 c2 c3 : Bool, ((b0 != b1) = false → c0 = false) → ((b1 != b2) = false → c1 = false) → ((b2 != b3) = false → c2 = false) → ((b3 != b0) = false → c3 = false) →
    (∀ t : Int, t = 0 ∨ t = 1 → kE b0 b1 b2 b3 t = true → (if kA b0 b1 b2 b3 t = 0 then c0 else if kA b0 b1 b2 b3 t = 1 then c1 else if kA b0 b1 b2 b3 t = 2 then c2 else c3) = (if kB b0 b1 b2 b3 t = 0 then c0 else if kB b0 b1 b2 b3 t = 1 then c1 else if kB b0 b1 b2 b3 t = 2 then c2 else c3)) →
    z1 c0 + z1 c1 + z1 c2 + z1 c3 = 2 * (z1 (kE b0 b1 b2 b3 0 && (if kA b0 b1 b2 b3 0 = 0 then c0 else if kA b0 b1 b2 b3 0 = 1 then c1 else if kA b0 b1 b2 b3 0 = 2 then c2 else c3)) + z1 (kE b0 b1 b2 b3 1 && (if kA b0 b1 b2 b3 1 = 0 then c0 else if kA b0 b1 b2 b3 1 = 1 then c1 else if kA b0 b1 b2 b3 1 = 2 then c2 else c3))) := by
  intro b0 b1 b2 b3 c0 c1 c2 c3 h0 h1 h2 h3 h
  have g0 := h 0 (Or.inl rfl); have g1 := h 1 (Or.inr rfl)
  clear h
  revert h0 h1 h2 h3 g0 g1
  cases b0 <;> cases b1 <;> cases b2 <;> cases b3 <;> cases c0 <;> cases c1 <;> cases c2 <;> cases c3 <;> decide
/-- a marking of crossed edges that goes along the pieces -/
def Mk (m c : BA) : Prop := (∀ e, 0 ≤ e → e < 84 → S_X m e = false → c e = false) ∧ ∀ e f, S_J m e f → c e = c f
theorem sq_deg {m c : BA} (hc : Mk m c) {q : Int} (hq : 0 ≤ q ∧ q < 36) : z1 (c (S_sd q 0)) + z1 (c (S_sd q 1)) + z1 (c (S_sd q 2)) + z1 (c (S_sd q 3)) = 2 * (z1 (P_e m q 0 && c (P_a m q 0)) + z1 (P_e m q 1 && c (P_a m q 1))) := by
  have hx : ∀ s, 0 ≤ s → s < 4 → P_x m q s = false → c (S_sd q s) = false := fun s a b d => hc.1 _ (S_sd_b hq).1 (S_sd_b hq).2 (by rw [S_X_sd hq ⟨a, b⟩]; exact d)
  have z : ∀ s : Int, 0 ≤ s → s < 4 → (if s = 0 then c (S_sd q 0) else if s = 1 then c (S_sd q 1) else if s = 2 then c (S_sd q 2) else c (S_sd q 3)) = c (S_sd q s) := fun s a b => by
    rcases z4 ⟨a, b⟩ with e | e | e | e <;> subst e <;> rfl
  have key := kDeg (m (S_cn q 0)) (m (S_cn q 1)) (m (S_cn q 2)) (m (S_cn q 3)) _ _ _ _ (fun h => hx 0 (by omega) (by omega) h) (fun h => hx 1 (by omega) (by omega) h) (fun h => hx 2 (by omega) (by omega) h) (fun h => hx 3 (by omega) (by omega) h) (fun t ht h => by
    have k := k_ab _ _ _ _ t ht h
    rw [z _ k.1.1 k.1.2, z _ k.2.1.1 k.2.1.2]
    exact hc.2 _ _ (P_J hq ht h))
  rw [key]
  have zz : ∀ t : Int, t = 0 ∨ t = 1 → (P_e m q t && (if kA (m (S_cn q 0)) (m (S_cn q 1)) (m (S_cn q 2)) (m (S_cn q 3)) t = 0 then c (S_sd q 0) else if kA (m (S_cn q 0)) (m (S_cn q 1)) (m (S_cn q 2)) (m (S_cn q 3)) t = 1 then c (S_sd q 1) else if kA (m (S_cn q 0)) (m (S_cn q 1)) (m (S_cn q 2)) (m (S_cn q 3)) t = 2 then c (S_sd q 2) else c (S_sd q 3))) = (P_e m q t && c (P_a m q t)) := fun t ht => by
    cases h : P_e m q t
    · rfl
    · have k := k_ab _ _ _ _ t ht h
      rw [z _ k.1.1 k.1.2]; rfl
  have z0 := zz 0 (Or.inl rfl); have z1' := zz 1 (Or.inr rfl)
  show 2 * (z1 (P_e m q 0 && _) + z1 (P_e m q 1 && _)) = _
  rw [z0, z1']
theorem deg_all {m c : BA} (hc : Mk m c) : 2 * zC (fun i => S_pe m i && c (S_pa m i)) 72 + zS (fun e => if E_q2 e = 36 then z1 (c e) else 0) 84 = 2 * zC c 84 := by
  have h1 := deg_f (fun e => z1 (c e))
  have h2 : zS (fun q => z1 (c (S_sd q 0)) + z1 (c (S_sd q 1)) + z1 (c (S_sd q 2)) + z1 (c (S_sd q 3))) 36 = zS (fun q => (z1 (P_e m q 0 && c (P_a m q 0)) + z1 (P_e m q 1 && c (P_a m q 1))) + (z1 (P_e m q 0 && c (P_a m q 0)) + z1 (P_e m q 1 && c (P_a m q 1)))) 36 := zS_congr 36 (by omega) (fun q a b => by rw [sq_deg hc ⟨a, b⟩]; omega)
  have h5 : zS (fun q => (z1 (P_e m q 0 && c (P_a m q 0)) + z1 (P_e m q 1 && c (P_a m q 1))) + (z1 (P_e m q 0 && c (P_a m q 0)) + z1 (P_e m q 1 && c (P_a m q 1)))) 36 = zS (fun q => z1 (P_e m q 0 && c (P_a m q 0)) + z1 (P_e m q 1 && c (P_a m q 1))) 36 + zS (fun q => z1 (P_e m q 0 && c (P_a m q 0)) + z1 (P_e m q 1 && c (P_a m q 1))) 36 := zS_add 36 (by omega)
  rw [h5] at h2
  have h3 : zS (fun q => z1 (P_e m q 0 && c (P_a m q 0)) + z1 (P_e m q 1 && c (P_a m q 1))) 36 = zC (fun i => S_pe m i && c (S_pa m i)) 72 := q_pair (fun q t => z1 (P_e m q t && c (P_a m q t))) 36 (by omega)
  rw [h3] at h2
  have h4 : zS (fun e => z1 (c e)) 84 = zC c 84 := rfl
  rw [h4] at h1
  have h1 : zS (fun q => z1 (c (S_sd q 0)) + z1 (c (S_sd q 1)) + z1 (c (S_sd q 2)) + z1 (c (S_sd q 3))) 36 + zS (fun e => if E_q2 e = 36 then z1 (c e) else 0) 84 = 2 * zC c 84 := h1
  omega
theorem Mk_X (m : BA) : Mk m (S_X m) := ⟨fun _ _ _ h => h, fun e f h => by have := S_J_X h; rw [this.1.2, this.2.2]⟩
theorem q_pieces (m : BA) : 2 * zC (S_pe m) 72 + S_brd m = 2 * S_ncross m := by
  have h := deg_all (Mk_X m)
  have e : zC (fun i => S_pe m i && S_X m (S_pa m i)) 72 = zC (S_pe m) 72 := zC_congr (by omega) (fun i a b => by
    cases p : S_pe m i
    · rfl
    · rw [(S_p_X ⟨a, b⟩ p).2.2.2.1]; rfl)
  rw [e] at h; exact h
set_option maxRecDepth 100000 in
theorem pc_A (G : IA) : zS (fun k => if k % 7 < 6 ∧ k < 42 then G (k / 7 * 6 + k % 7) else 0) 49 = 0 + G 0 + G 1 + G 2 + G 3 + G 4 + G 5 + 0 + G 6 + G 7 + G 8 + G 9 + G 10 + G 11 + 0 + G 12 + G 13 + G 14 + G 15 + G 16 + G 17 + 0 + G 18 + G 19 + G 20 + G 21 + G 22 + G 23 + 0 + G 24 + G 25 + G 26 + G 27 + G 28 + G 29 + 0 + G 30 + G 31 + G 32 + G 33 + G 34 + G 35 + 0 + 0 + 0 + 0 + 0 + 0 + 0 + 0 := rfl
set_option maxRecDepth 100000 in
theorem pc_B (G : IA) : zS G 36 = 0 + G 0 + G 1 + G 2 + G 3 + G 4 + G 5 + G 6 + G 7 + G 8 + G 9 + G 10 + G 11 + G 12 + G 13 + G 14 + G 15 + G 16 + G 17 + G 18 + G 19 + G 20 + G 21 + G 22 + G 23 + G 24 + G 25 + G 26 + G 27 + G 28 + G 29 + G 30 + G 31 + G 32 + G 33 + G 34 + G 35 := rfl
def pcP (h : IA) (L : Int) (k : Int) : Int := if k % 7 < 6 ∧ k < 42 then S_pie h (k / 7) (k % 7) L else 0
theorem pie_P (h : IA) (r c L : Int) : S_pie h r c L = z1 (P_e (S_hi h L) (r * 6 + c) 0) + z1 (P_e (S_hi h L) (r * 6 + c) 1) := by
  unfold S_pie; rw [S_xk_N]; exact kN_2 _ _ _ _
theorem pie_b (h : IA) (r c L : Int) : 0 ≤ S_pie h r c L ∧ S_pie h r c L ≤ 2 := by
  rw [pie_P]; have h1 := z1_b (P_e (S_hi h L) (r * 6 + c) 0); have h2 := z1_b (P_e (S_hi h L) (r * 6 + c) 1); omega
set_option maxRecDepth 100000 in
theorem pc_all (h : IA) (L : Int) : zS (pcP h L) 49 = zC (S_pe (S_hi h L)) 72 := by
  have e1 : zS (pcP h L) 49 = zS (fun k => if k % 7 < 6 ∧ k < 42 then (fun q => z1 (P_e (S_hi h L) q 0) + z1 (P_e (S_hi h L) q 1)) (k / 7 * 6 + k % 7) else 0) 49 := zS_congr 49 (by omega) (fun k a b => by
    unfold pcP
    by_cases q : k % 7 < 6 ∧ k < 42
    · rw [if_pos q, if_pos q]; exact pie_P _ _ _ _
    · rw [if_neg q, if_neg q])
  have e2 := pc_A (fun q => z1 (P_e (S_hi h L) q 0) + z1 (P_e (S_hi h L) q 1))
  have e3 := pc_B (fun q => z1 (P_e (S_hi h L) q 0) + z1 (P_e (S_hi h L) q 1))
  have e4 : zS (fun q => z1 (P_e (S_hi h L) q 0) + z1 (P_e (S_hi h L) q 1)) 36 = zC (S_pe (S_hi h L)) 72 := q_pair (fun q t => z1 (P_e (S_hi h L) q t)) 36 (by omega)
  rw [e1, ← e4, e2, e3]; omega
/-! joining one by one -/
def GR (pe : BA) (pa pb : IA) (K : Int) (x y : Int) : Prop := ∃ i, 0 ≤ i ∧ i < K ∧ pe i = true ∧ ((pa i = x ∧ pb i = y) ∨ (pa i = y ∧ pb i = x))
theorem GR_sy {pe : BA} {pa pb : IA} {K : Int} : ∀ x y, GR pe pa pb K x y → GR pe pa pb K y x := fun _ _ ⟨i, a, b, c, d⟩ => ⟨i, a, b, c, d.symm⟩
noncomputable def Grep (X : BA) (R : Int → Int → Prop) : BA := fun e => cb (X e = true ∧ ∀ j, 0 ≤ j → j < e → X j = true → ¬ Cn R j e)
theorem CNJ {R R' : Int → Int → Prop} {a b : Int} (h : ∀ x y, R' x y → R x y ∨ (x = a ∧ y = b) ∨ (x = b ∧ y = a)) {x y : Int} (hc : Cn R' x y) : Cn R x y ∨ (Cn R x a ∧ Cn R b y) ∨ (Cn R x b ∧ Cn R a y) :=
  hc (fun z => Cn R x z ∨ (Cn R x a ∧ Cn R b z) ∨ (Cn R x b ∧ Cn R a z)) (Or.inl Cn.rf) (fun z w hz hr => by
    rcases h z w hr with q | ⟨rfl, rfl⟩ | ⟨rfl, rfl⟩
    · rcases hz with hz | hz | hz
      · exact Or.inl (hz.st q)
      · exact Or.inr (Or.inl ⟨hz.1, hz.2.st q⟩)
      · exact Or.inr (Or.inr ⟨hz.1, hz.2.st q⟩)
    · rcases hz with hz | hz | hz
      · exact Or.inr (Or.inl ⟨hz, Cn.rf⟩)
      · exact Or.inr (Or.inl ⟨hz.1, Cn.rf⟩)
      · exact Or.inl hz.1
    · rcases hz with hz | hz | hz
      · exact Or.inr (Or.inr ⟨hz, Cn.rf⟩)
      · exact Or.inl hz.1
      · exact Or.inr (Or.inr ⟨hz.1, Cn.rf⟩))
theorem lost_lt {X : BA} {R R' : Int → Int → Prop} {a b : Int} (hs : ∀ x y, R x y → R y x) (h : ∀ x y, R' x y → R x y ∨ (x = a ∧ y = b) ∨ (x = b ∧ y = a)) {e1 e2 : Int} (p1 : Grep X R e1 = true) (p2 : Grep X R e2 = true) (n1 : Grep X R' e1 = false) (n2 : Grep X R' e2 = false) (z0 : 0 ≤ e1) : ¬ e1 < e2 := by
  intro hlt
  have q1 := cb_iff.mp p1; have q2 := cb_iff.mp p2
  have lost : ∀ e, Grep X R e = true → Grep X R' e = false → ∃ j, (0 ≤ j ∧ j < e) ∧ X j = true ∧ ((Cn R j a ∧ Cn R b e) ∨ (Cn R j b ∧ Cn R a e)) := fun e pe ne => by
    have qe := cb_iff.mp pe
    have hne := cb_f.mp ne
    have : ∃ j, 0 ≤ j ∧ j < e ∧ X j = true ∧ Cn R' j e := Classical.byContradiction (fun hno => hne ⟨qe.1, fun j j0 j1 j2 j3 => hno ⟨j, j0, j1, j2, j3⟩⟩)
    obtain ⟨j, j0, j1, j2, j3⟩ := this
    exact ⟨j, ⟨j0, j1⟩, j2, (CNJ h j3).resolve_left (fun z => qe.2 j j0 j1 j2 z)⟩
  obtain ⟨j1, hj1, xj1, c1⟩ := lost e1 p1 n1
  obtain ⟨j2, hj2, xj2, c2⟩ := lost e2 p2 n2
  rcases c1 with c1 | c1 <;> rcases c2 with c2 | c2
  · exact q2.2 e1 z0 hlt q1.1 ((c1.2.sy hs).tr c2.2)
  · exact q2.2 j1 hj1.1 (by omega) xj1 (c1.1.tr c2.2)
  · exact q2.2 j1 hj1.1 (by omega) xj1 (c1.1.tr c2.2)
  · exact q2.2 e1 z0 hlt q1.1 ((c1.2.sy hs).tr c2.2)
theorem G_all (X pe : BA) (pa pb : IA) : ∀ K, 0 ≤ K → zC X 84 ≤ zC (Grep X (GR pe pa pb K)) 84 + zC pe K := by
  refine z_ind ?_ (fun K hK ih => ?_)
  · rw [zC_0, Int.add_zero]
    refine zC_le (by omega) (fun e _ _ p => cb_iff.mpr ⟨p, fun j j0 j1 _ hc => ?_⟩)
    have := hc (fun z => z = j) rfl (fun x y _ ⟨i, a, b, _⟩ => by omega)
    omega
  · rw [zC_up hK]
    cases p : pe K
    · rw [z1_f rfl]
      have e : GR pe pa pb (K + 1) = GR pe pa pb K := funext fun x => funext fun y => propext ⟨fun ⟨i, a, b, c, d⟩ => ⟨i, a, by
        by_cases q : i = K
        · rw [q, p] at c; cases c
        · omega, c, d⟩, fun ⟨i, a, b, c, d⟩ => ⟨i, a, by omega, c, d⟩⟩
      rw [e]; omega
    · rw [z1_t rfl]
      have hR : ∀ x y, GR pe pa pb (K + 1) x y → GR pe pa pb K x y ∨ (x = pa K ∧ y = pb K) ∨ (x = pb K ∧ y = pa K) := fun x y ⟨i, a, b, c, d⟩ => by
        by_cases q : i = K
        · rw [q] at d; right
          rcases d with d | d
          · exact Or.inl ⟨d.1.symm, d.2.symm⟩
          · exact Or.inr ⟨d.2.symm, d.1.symm⟩
        · exact Or.inl ⟨i, a, by omega, c, d⟩
      have key := zC_rel (R := fun a b => (Grep X (GR pe pa pb (K + 1)) a = true ∧ b = a) ∨ (Grep X (GR pe pa pb (K + 1)) a = false ∧ b = 84)) 84 (by omega) (Grep X (GR pe pa pb K)) (fun b => if b = 84 then true else Grep X (GR pe pa pb (K + 1)) b) 85 (by omega) (fun a a0 a1 pa' => by
          cases q : Grep X (GR pe pa pb (K + 1)) a
          · exact ⟨84, by omega, by omega, rfl, Or.inr ⟨rfl, rfl⟩⟩
          · exact ⟨a, a0, by omega, by show (if a = 84 then true else Grep X (GR pe pa pb (K + 1)) a) = true; rw [if_neg (by omega)]; exact q, Or.inl ⟨rfl, rfl⟩⟩)
        (fun a a' b a0 a1 a0' a1' p1 p2 b0 b1 r1 r2 => by
          rcases r1 with r1 | r1 <;> rcases r2 with r2 | r2
          · omega
          · omega
          · omega
          · rcases Int.lt_trichotomy a a' with q | q | q
            · exact absurd q (lost_lt GR_sy hR p1 p2 r1.1 r2.1 a0)
            · exact q
            · exact absurd q (lost_lt GR_sy hR p2 p1 r2.1 r1.1 a0'))
      have e1 : zC (fun b => if b = 84 then true else Grep X (GR pe pa pb (K + 1)) b) 85 = zC (fun b => if b = 84 then true else Grep X (GR pe pa pb (K + 1)) b) 84 + 1 := by
        rw [show (85:Int) = 84 + 1 from rfl, zC_up (by omega), if_pos rfl, z1_t rfl]
      have e2 : zC (fun b => if b = 84 then true else Grep X (GR pe pa pb (K + 1)) b) 84 = zC (Grep X (GR pe pa pb (K + 1))) 84 := zC_congr (by omega) (fun k a b => if_neg (by omega))
      omega
/-! counting in two ways -/
theorem DC_le {U W : BA} {T : Int → Int → Bool} {N : Int} (hN : 0 ≤ N) : ∀ M, 0 ≤ M → (∀ b, 0 ≤ b → b < M → W b = true → ∀ j k, 0 ≤ j → j < N → 0 ≤ k → k < N → U j = true → U k = true → T j b = true → T k b = true → j = k) → zS (fun e => if U e = true then zC (fun b => W b && T e b) M else 0) N ≤ zC W M := by
  refine z_ind (fun _ => ?_) (fun M hM ih h => ?_)
  · have : (fun e => if U e = true then zC (fun b => W b && T e b) 0 else 0) = fun _ => (0:Int) := funext fun e => by rw [zC_0]; split <;> rfl
    rw [this, q_const N hN, zC_0]; omega
  · have e : (fun e => if U e = true then zC (fun b => W b && T e b) (M + 1) else 0) = fun e => (if U e = true then zC (fun b => W b && T e b) M else 0) + z1 (U e && (W M && T e M)) := funext fun e => by
      cases U e
      · rfl
      · rw [if_pos rfl, if_pos rfl, zC_up hM]; rfl
    rw [e, zS_add N hN, zC_up hM]
    have i1 := ih (fun b b0 b1 => h b b0 (by omega))
    have i2 : zS (fun e => z1 (U e && (W M && T e M))) N ≤ z1 (W M) := by
      cases w : W M
      · have : (fun e => z1 (U e && (false && T e M))) = fun _ => (0:Int) := funext fun e => by cases U e <;> rfl
        rw [this, q_const N hN, z1_f rfl]; omega
      · rw [z1_t rfl]
        refine q_le1 (P := fun e => U e && (true && T e M)) N hN (fun j k j0 j1 k0 k1 p q => ?_)
        rw [Bool.true_and, Bool.and_eq_true] at p q
        exact h M hM (by omega) w j k j0 j1 k0 k1 p.1 q.1 p.2 q.2
    omega
theorem DC_ge {U W : BA} {T : Int → Int → Bool} {N : Int} (hN : 0 ≤ N) : ∀ M, 0 ≤ M → (∀ b, 0 ≤ b → b < M → W b = true → ∃ j, 0 ≤ j ∧ j < N ∧ U j = true ∧ T j b = true) → zC W M ≤ zS (fun e => if U e = true then zC (fun b => W b && T e b) M else 0) N := by
  refine z_ind (fun _ => ?_) (fun M hM ih h => ?_)
  · have : (fun e => if U e = true then zC (fun b => W b && T e b) 0 else 0) = fun _ => (0:Int) := funext fun e => by rw [zC_0]; split <;> rfl
    rw [this, q_const N hN, zC_0]; omega
  · have e : (fun e => if U e = true then zC (fun b => W b && T e b) (M + 1) else 0) = fun e => (if U e = true then zC (fun b => W b && T e b) M else 0) + z1 (U e && (W M && T e M)) := funext fun e => by
      cases U e
      · rfl
      · rw [if_pos rfl, if_pos rfl, zC_up hM]; rfl
    rw [e, zS_add N hN, zC_up hM]
    have i1 := ih (fun b b0 b1 => h b b0 (by omega))
    have i2 : z1 (W M) ≤ zS (fun e => z1 (U e && (W M && T e M))) N := by
      cases w : W M
      · rw [z1_f rfl]; exact q_s0 N hN (fun j _ _ => (z1_b _).1)
      · obtain ⟨j, j0, j1, j2, j3⟩ := h M hM (by omega) w
        rw [z1_t rfl]
        exact q_pos (P := fun e => U e && (true && T e M)) N hN j0 j1 (by show (U j && (true && T j M)) = true; rw [j2, j3]; rfl)
    omega
/-! open lines -/
noncomputable def Vo (m : BA) : BA := fun e => cb (S_X m e = true ∧ S_lopen m e)
theorem lopen_J {m : BA} {e f : Int} (h : Cn (S_J m) e f) (ho : S_lopen m f) : S_lopen m e := by
  obtain ⟨b, b0, b1, b2, b3, b4⟩ := ho; exact ⟨b, b0, b1, b2, b3, h.tr b4⟩
theorem Mk_Vo (m : BA) : Mk m (Vo m) := ⟨fun e _ _ h => cb_f.mpr (fun z => by rw [h] at z; cases z.1), fun e f h => by
  have hx := S_J_X h
  exact cb_congr ⟨fun z => ⟨hx.2.2, lopen_J (Cn.one (S_J_sy _ _ h)) z.2⟩, fun z => ⟨hx.1.2, lopen_J (Cn.one h) z.2⟩⟩⟩
theorem Mk_Lm (m : BA) (e0 : Int) : Mk m (Lm m e0) := ⟨fun _ _ _ h => Lm_X h, fun _ _ h => Lm_J h⟩
theorem Vo_brd (m : BA) : zS (fun e => if E_q2 e = 36 then z1 (Vo m e) else 0) 84 = S_brd m := zS_congr 84 (by omega) (fun e a b => by
  by_cases q : E_q2 e = 36
  · rw [if_pos q, if_pos q]; congr 1
    cases hx : S_X m e
    · exact cb_f.mpr (fun z => by rw [hx] at z; cases z.1)
    · exact cb_iff.mpr ⟨hx, e, a, b, hx, q, Cn.rf⟩
  · rw [if_neg q, if_neg q])
noncomputable def lro (m : BA) : BA := fun e => S_lrep m e && cb (S_lopen m e)
theorem open_ge (m : BA) : S_brd m ≤ 2 * zC (lro m) 84 := by
  have h1 := deg_all (Mk_Vo m)
  rw [Vo_brd] at h1
  have h2 := G_all (Vo m) (fun i => S_pe m i && Vo m (S_pa m i)) (S_pa m) (S_pb m) 72 (by omega)
  have h3 : zC (Grep (Vo m) (GR (fun i => S_pe m i && Vo m (S_pa m i)) (S_pa m) (S_pb m) 72)) 84 ≤ zC (lro m) 84 := zC_le (by omega) (fun e e0 e1 p => by
    have q := cb_iff.mp p
    have qv := cb_iff.mp q.1
    unfold lro
    rw [Bool.and_eq_true]
    refine ⟨S_lrep_iff.mpr ⟨qv.1, fun j j0 j1 j2 hc => ?_⟩, cb_iff.mpr qv.2⟩
    have vj : Vo m j = true := cb_iff.mpr ⟨j2, lopen_J hc qv.2⟩
    refine q.2 j j0 j1 vj ?_
    exact (hc (fun z => Vo m z = true ∧ Cn (GR (fun i => S_pe m i && Vo m (S_pa m i)) (S_pa m) (S_pb m) 72) j z) ⟨vj, Cn.rf⟩ (fun x y hx hr => by
      have hxy := (Mk_Vo m).2 _ _ hr
      have vy : Vo m y = true := hxy ▸ hx.1
      obtain ⟨i, i0, i1, i2, i3⟩ := hr
      have va : Vo m (S_pa m i) = true := by
        rcases i3 with i3 | i3
        · rw [i3.1]; exact hx.1
        · rw [i3.1]; exact vy
      exact ⟨vy, hx.2.st ⟨i, i0, i1, by show (S_pe m i && Vo m (S_pa m i)) = true; rw [i2, va]; rfl, i3⟩⟩)).2)
  omega
def bdX (m : BA) : BA := fun e => S_X m e && decide (E_q2 e = 36)
theorem bdX_s (m : BA) : zC (bdX m) 84 = S_brd m := zS_congr 84 (by omega) (fun e _ _ => z1_and (S_X m e) _)
theorem open_le (m : BA) : 2 * zC (lro m) 84 ≤ S_brd m := by
  have h1 := DC_le (U := lro m) (W := bdX m) (T := fun e b => Lm m e b) (N := 84) (by omega) 84 (by omega) (fun b b0 b1 w j k j0 j1 k0 k1 u v t t' => by
    unfold lro at u v
    rw [Bool.and_eq_true] at u v
    have u1 := S_lrep_iff.mp u.1; have v1 := S_lrep_iff.mp v.1
    have c := (cb_iff.mp t).2.tr ((cb_iff.mp t').2.sy S_J_sy)
    rcases Int.lt_trichotomy j k with q | q | q
    · exact absurd c (v1.2 j j0 q u1.1)
    · exact q
    · exact absurd (c.sy S_J_sy) (u1.2 k k0 q v1.1))
  rw [bdX_s] at h1
  have h2 : zS (fun e => 2 * z1 (lro m e)) 84 ≤ zS (fun e => if lro m e = true then zC (fun b => bdX m b && Lm m e b) 84 else 0) 84 := zS_le 84 (by omega) (fun e e0 e1 => by
    cases u : lro m e
    · rw [if_neg (by decide), z1_f rfl]; omega
    · rw [if_pos rfl, z1_t rfl]
      have u' := u
      unfold lro at u'
      rw [Bool.and_eq_true] at u'
      have xe := (S_lrep_iff.mp u'.1).1
      obtain ⟨b, b0, b1, b2, b3, b4⟩ := cb_iff.mp u'.2
      have hp := q_pos (P := fun b => bdX m b && Lm m e b) 84 (by omega) b0 b1 (by
        show (bdX m b && Lm m e b) = true
        rw [Lm_t ⟨⟨b0, b1⟩, b2⟩ b4, Bool.and_true]; unfold bdX; rw [b2, decide_eq_true b3]; rfl)
      have hd := deg_all (Mk_Lm m e)
      have he : zS (fun x => if E_q2 x = 36 then z1 (Lm m e x) else 0) 84 = zC (fun b => bdX m b && Lm m e b) 84 := zS_congr 84 (by omega) (fun x x0 x1 => by
        show _ = z1 (bdX m x && Lm m e x)
        unfold bdX
        by_cases q : E_q2 x = 36
        · rw [if_pos q, decide_eq_true q, Bool.and_true]
          cases hx : S_X m x
          · rw [Lm_X hx]; rfl
          · rfl
        · rw [if_neg q, decide_eq_false q, Bool.and_false]; rfl)
      rw [he] at hd; omega)
  have h3 : zS (fun e => 2 * z1 (lro m e)) 84 = 2 * zC (lro m) 84 := by
    have : (fun e => 2 * z1 (lro m e)) = fun e => z1 (lro m e) + z1 (lro m e) := funext fun e => by omega
    rw [this, zS_add 84 (by omega)]
    show zC (lro m) 84 + zC (lro m) 84 = _; omega
  omega
theorem q_closed (m : BA) : S_nclosed m = S_nlines m - S_brd m / 2 := by
  have h1 := open_ge m; have h2 := open_le m
  have h3 : S_nlines m = zC (lro m) 84 + S_nclosed m := by
    unfold S_nlines S_nclosed zC
    rw [← zS_add 84 (by omega)]
    refine zS_congr 84 (by omega) (fun e _ _ => ?_)
    show z1 (S_lrep m e) = z1 (S_lrep m e && cb (S_lopen m e)) + z1 (S_lrep m e && !cb (S_lopen m e))
    cases S_lrep m e <;> cases cb (S_lopen m e) <;> rfl
  omega
theorem brd_nn (m : BA) : 0 ≤ S_brd m := by rw [← bdX_s]; exact (zC_b _ (by omega)).1
/-! the longest line -/
theorem X_piece {m : BA} {e : Int} (he : 0 ≤ e ∧ e < 84) (hx : S_X m e = true) : ∃ i, 0 ≤ i ∧ i < 72 ∧ S_pe m i = true ∧ Cn (S_J m) e (S_pa m i) := by
  have hq := E_q_b he
  obtain ⟨s, s0, s1, s2⟩ := (E_sd_iff he (q := E_q1 e) ⟨hq.1, hq.2.1⟩).mp (Or.inl rfl)
  have hx2 : P_x m (E_q1 e) s = true := by rw [← S_X_sd ⟨hq.1, hq.2.1⟩ ⟨s0, s1⟩, ← s2]; exact hx
  have go : ∀ t : Int, t = 0 ∨ t = 1 → P_e m (E_q1 e) t = true → (s = kA (m (S_cn (E_q1 e) 0)) (m (S_cn (E_q1 e) 1)) (m (S_cn (E_q1 e) 2)) (m (S_cn (E_q1 e) 3)) t ∨ s = kB (m (S_cn (E_q1 e) 0)) (m (S_cn (E_q1 e) 1)) (m (S_cn (E_q1 e) 2)) (m (S_cn (E_q1 e) 3)) t) → ∃ i, 0 ≤ i ∧ i < 72 ∧ S_pe m i = true ∧ Cn (S_J m) e (S_pa m i) := fun t ht hp hs => by
    refine ⟨2 * E_q1 e + t, by omega, by omega, ?_, ?_⟩
    · unfold S_pe; rw [show (2 * E_q1 e + t) / 2 = E_q1 e by omega, show (2 * E_q1 e + t) % 2 = t by omega]; exact hp
    · unfold S_pa; rw [show (2 * E_q1 e + t) / 2 = E_q1 e by omega, show (2 * E_q1 e + t) % 2 = t by omega]
      rcases hs with hs | hs
      · have hp2 : P_a m (E_q1 e) t = e := by unfold P_a; rw [← hs]; exact s2.symm
        rw [hp2]; exact Cn.rf
      · have hp2 : P_b m (E_q1 e) t = e := by unfold P_b; rw [← hs]; exact s2.symm
        have hj := S_J_sy _ _ (P_J ⟨hq.1, hq.2.1⟩ ht hp)
        rw [hp2] at hj; exact Cn.one hj
  rcases k_on _ _ _ _ s s0 s1 hx2 with h | h
  · exact go 0 (Or.inl rfl) h.1 h.2
  · exact go 1 (Or.inr rfl) h.1 h.2
theorem no_X {m : BA} : S_nlines m = 0 ↔ ∀ e, 0 ≤ e → e < 84 → S_X m e = false := by
  constructor
  · intro h e a b
    cases hx : S_X m e
    · rfl
    · exfalso
      obtain ⟨j, j0, j1, j2, j3⟩ := least (P := fun t => S_X m t = true) 84 (by omega) ⟨e, a, b, hx⟩
      have := q_pos (P := S_lrep m) 84 (by omega) j0 j1 (S_lrep_iff.mpr ⟨j2, fun i i0 i1 i2 => absurd i2 (j3 i i0 i1)⟩)
      unfold S_nlines at h; omega
  · intro h
    exact zC_zero 84 (by omega) (fun k a b => by
      cases hr : S_lrep m k
      · rfl
      · have := (S_lrep_iff.mp hr).1; rw [h k a b] at this; cases this)
theorem psz_le {m : BA} {e : Int} : S_psz m e ≤ zC (S_pe m) 72 := zC_le (by omega) (fun i _ _ h => by
  have h : (S_pe m i && cb (Cn (S_J m) e (S_pa m i))) = true := h
  rw [Bool.and_eq_true] at h; exact h.1)
theorem q_long (m : BA) : S_long m ≤ zC (S_pe m) 72 ∧ (S_long m = 0 ↔ S_nlines m = 0) ∧ zC (S_pe m) 72 ≤ S_long m * S_nlines m ∧ 0 ≤ S_long m := by
  have hp := (zC_b (S_pe m) (i := 72) (by omega)).1
  have hb := S_top_b (f := fun e => if S_X m e = true then S_psz m e else 0) (m := zC (S_pe m) 72) hp 84 (by omega) (fun k _ _ => by
    show (if S_X m k = true then S_psz m k else 0) ≤ _
    split
    · exact psz_le
    · exact hp)
  have ge : ∀ e, 0 ≤ e → e < 84 → S_X m e = true → S_psz m e ≤ S_long m := fun e a b hx => by
    have := q_top (f := fun e => if S_X m e = true then S_psz m e else 0) (k := e) 84 (by omega) a b
    have t : (if S_X m e = true then S_psz m e else 0) ≤ S_long m := this
    rw [if_pos hx] at t; exact t
  refine ⟨hb.2, ⟨fun h0 => no_X.mpr (fun e a b => ?_), fun h0 => ?_⟩, ?_, hb.1⟩
  · cases hx : S_X m e
    · rfl
    · exfalso
      obtain ⟨i, i0, i1, i2, i3⟩ := X_piece ⟨a, b⟩ hx
      have h1 := ge e a b hx
      have h2 : 1 ≤ S_psz m e := q_pos (P := fun i => S_pe m i && cb (Cn (S_J m) e (S_pa m i))) 72 (by omega) i0 i1 (by
        show (S_pe m i && cb (Cn (S_J m) e (S_pa m i))) = true; rw [i2, cb_iff.mpr i3]; rfl)
      omega
  · have hn := no_X.mp h0
    have := S_top_b (f := fun e => if S_X m e = true then S_psz m e else 0) (m := 0) (by omega) 84 (by omega) (fun k a b => by
      show (if S_X m k = true then S_psz m k else 0) ≤ 0; rw [if_neg (by rw [hn k a b]; decide)]; omega)
    have t : 0 ≤ S_long m ∧ S_long m ≤ 0 := this
    omega
  · have h1 := DC_ge (U := S_lrep m) (W := S_pe m) (T := fun e i => cb (Cn (S_J m) e (S_pa m i))) (N := 84) (by omega) 72 (by omega) (fun i i0 i1 w => by
      have hx := S_p_X ⟨i0, i1⟩ w
      obtain ⟨j, j0, j1, ⟨j2, j3⟩, j4⟩ := least (P := fun t => S_X m t = true ∧ Cn (S_J m) t (S_pa m i)) 84 (by omega) ⟨S_pa m i, hx.1.1, hx.1.2, hx.2.2.2.1, Cn.rf⟩
      exact ⟨j, j0, j1, S_lrep_iff.mpr ⟨j2, fun k k0 k1 k2 k3 => j4 k k0 k1 ⟨k2, k3.tr j3⟩⟩, cb_iff.mpr j3⟩)
    have h2 : zS (fun e => if S_lrep m e = true then zC (fun i => S_pe m i && cb (Cn (S_J m) e (S_pa m i))) 72 else 0) 84 ≤ zS (fun e => S_long m * z1 (S_lrep m e)) 84 := zS_le 84 (by omega) (fun e a b => by
      cases u : S_lrep m e
      · rw [if_neg (by decide), z1_f rfl]; omega
      · rw [if_pos rfl, z1_t rfl, Int.mul_one]; exact ge e a b (S_lrep_iff.mp u).1)
    have h3 : ∀ n, 0 ≤ n → zS (fun e => S_long m * z1 (S_lrep m e)) n = S_long m * zC (S_lrep m) n := z_ind (by rw [zS_0, zC_0]; omega) (fun n hn ih => by rw [zS_up hn, zC_up hn, ih, Int.mul_add])
    rw [h3 84 (by omega)] at h2
    exact Int.le_trans h1 h2
theorem q_flat (m : BA) : S_nlines m = 0 ↔ (zC m 49 = 0 ∨ zC m 49 = 49) := by
  constructor
  · intro h
    have hn := no_X.mp h
    have all : ∀ p, 0 ≤ p → p < 49 → m p = m 0 := fun p a b => (all_4 49 (by omega) p a b b) (fun z => m z = m 0) rfl (fun x y hx hxy => by
      obtain ⟨e, he, hd⟩ := adj_E hxy
      have hf := hn e he.1 he.2
      unfold S_X at hf
      have hf := bne_ff hf
      rcases hd with ⟨d1, d2⟩ | ⟨d1, d2⟩ <;> rw [d1, d2] at hf
      · exact hf.symm.trans hx
      · exact hf.trans hx)
    cases h0 : m 0
    · left; exact zC_zero 49 (by omega) (fun k a b => by rw [all k a b, h0])
    · right
      rw [zC_congr (P := m) (Q := fun _ => true) (by omega) (fun k a b => by rw [all k a b, h0])]; rfl
  · intro h
    refine no_X.mpr (fun e a b => ?_)
    have hb := E_uv_b ⟨a, b⟩
    unfold S_X
    rcases h with h | h
    · have hz := (q_zero (by omega)).mp h
      rw [hz _ hb.1.1 hb.1.2, hz _ hb.2.1 hb.2.2]; rfl
    · have hz := zC_full 49 (by omega) h
      rw [hz _ hb.1.1 hb.1.2, hz _ hb.2.1 hb.2.2]; rfl

