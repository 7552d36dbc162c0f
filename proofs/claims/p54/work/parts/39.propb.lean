/-! TURNING AND WASHING, plainly -/
def rho (k : Int) : Int := (6 - k % 7) * 7 + k / 7
def sig (k : Int) : Int := (k % 7) * 7 + (6 - k / 7)
theorem rho_b {k : Int} (h : 0 ≤ k ∧ k < 49) : (0 ≤ rho k ∧ rho k < 49) ∧ rho k / 7 = 6 - k % 7 ∧ rho k % 7 = k / 7 := by unfold rho; omega
theorem sig_b {k : Int} (h : 0 ≤ k ∧ k < 49) : (0 ≤ sig k ∧ sig k < 49) ∧ sig k / 7 = k % 7 ∧ sig k % 7 = 6 - k / 7 := by unfold sig; omega
theorem rho_sig {k : Int} (h : 0 ≤ k ∧ k < 49) : rho (sig k) = k := by
  have h1 := sig_b h; unfold rho; rw [h1.2.1, h1.2.2]; omega
theorem sig_rho {k : Int} (h : 0 ≤ k ∧ k < 49) : sig (rho k) = k := by
  have h1 := rho_b h; unfold sig; rw [h1.2.1, h1.2.2]; omega
theorem turn_at {h : IA} (hh : ∀ k, 0 ≤ k → k < 49 → 0 ≤ h k ∧ h k ≤ 99) {k : Int} (hk : 0 ≤ k ∧ k < 49) : S_turn h k = h (rho k) := by
  unfold S_turn; rw [zmix_at hk, S_pointAt_in (by omega) (by omega)]; exact clip_id (hh (rho k) (rho_b hk).1.1 (rho_b hk).1.2)
theorem rho_adj {b : Bool} {x y : Int} (hx : 0 ≤ x ∧ x < 49) (hy : 0 ≤ y ∧ y < 49) : S_adj (S_nb b) (rho x) (rho y) ↔ S_adj (S_nb b) x y := by
  have hrx := rho_b hx; have hry := rho_b hy
  rw [near9 hrx.1 hry.1, near9 hx hy, hrx.2.1, hrx.2.2, hry.2.1, hry.2.2]
  rw [show 6 - x % 7 - (6 - y % 7) = -(x % 7 - y % 7) by omega]
  have e : ∀ z, zabs (-z) = zabs z := fun z => by have h1 := zabs_spec (-z); have h2 := zabs_spec z; omega
  rw [e]
  constructor
  · rintro (h | h)
    · left; omega
    · exact Or.inr ⟨h.1, h.2.2, h.2.1⟩
  · rintro (h | h)
    · left; omega
    · exact Or.inr ⟨h.1, h.2.2, h.2.1⟩
theorem rho_pull {b : Bool} {m : BA} {a z : Int} (ha : 0 ≤ a ∧ a < 49) (hc : Cn (S_rr (S_nb b) m) (rho a) z) : Cn (S_rr (S_nb b) (fun k => m (rho k))) a (sig z) :=
  (hc (fun z => (0 ≤ z ∧ z < 49) ∧ Cn (S_rr (S_nb b) (fun k => m (rho k))) a (sig z)) ⟨(rho_b ha).1, by rw [sig_rho ha]; exact Cn.rf⟩ (fun x y hx hr => by
    have hy := hr.1.2.1
    refine ⟨hy, hx.2.st ⟨?_, ?_, ?_⟩⟩
    · refine (rho_adj (b := b) (sig_b hx.1).1 (sig_b hy).1).mp ?_
      rw [rho_sig hx.1, rho_sig hy]; exact hr.1
    · show m (rho (sig x)) = true; rw [rho_sig hx.1]; exact hr.2.1
    · show m (rho (sig y)) = true; rw [rho_sig hy]; exact hr.2.2)).2
theorem comps_le (b : Bool) (m : BA) : S_comps (S_nb b) (fun k => m (rho k)) ≤ S_comps (S_nb b) m := by
  refine zC_rel (R := fun x y => Cn (S_rr (S_nb b) m) (rho x) y) 49 (by omega) _ _ 49 (by omega) (fun a a0 a1 pa => ?_) (fun a a' c a0 a1 a0' a1' pa pa' c0 c1 r1 r2 => ?_)
  · have hr := cb_iff.mp pa
    have hra := rho_b ⟨a0, a1⟩
    obtain ⟨y, y0, y1, ⟨y2, y3⟩, y4⟩ := least (P := fun j => m j = true ∧ Cn (S_rr (S_nb b) m) (rho a) j) 49 (by omega) ⟨rho a, hra.1.1, hra.1.2, hr.1, Cn.rf⟩
    exact ⟨y, y0, y1, cb_iff.mpr ⟨y2, fun j j0 j1 j2 j3 => y4 j j0 j1 ⟨j2, y3.tr (j3.sy (S_rr_sy (S_nb_or b)))⟩⟩, y3⟩
  · have hc := r1.tr (r2.sy (S_rr_sy (S_nb_or b)))
    have hp := rho_pull ⟨a0, a1⟩ hc
    rw [sig_rho ⟨a0', a1'⟩] at hp
    have q1 := cb_iff.mp pa; have q2 := cb_iff.mp pa'
    rcases Int.lt_trichotomy a a' with q | q | q
    · exact absurd hp (q2.2 a a0 q q1.1)
    · exact q
    · exact absurd (hp.sy (S_rr_sy (S_nb_or b))) (q1.2 a' a0' q q2.1)
theorem rho_4 {k : Int} (hk : 0 ≤ k ∧ k < 49) : rho (rho (rho (rho k))) = k := by
  have h1 := rho_b hk; have h2 := rho_b h1.1; have h3 := rho_b h2.1; have h4 := rho_b h3.1
  omega
theorem comps_turn (b : Bool) (m : BA) : S_comps (S_nb b) (fun k => m (rho k)) = S_comps (S_nb b) m := by
  have h1 := comps_le b m
  have h2 := comps_le b (fun k => m (rho k))
  have h3 := comps_le b (fun k => m (rho (rho k)))
  have h4 := comps_le b (fun k => m (rho (rho (rho k))))
  have h5 : S_comps (S_nb b) (fun k => m (rho (rho (rho (rho k))))) = S_comps (S_nb b) m := S_comps_cg (fun k a c => by show m _ = m _; rw [rho_4 ⟨a, c⟩])
  have h2 : S_comps (S_nb b) (fun k => m (rho (rho k))) ≤ S_comps (S_nb b) (fun k => m (rho k)) := h2
  have h3 : S_comps (S_nb b) (fun k => m (rho (rho (rho k)))) ≤ S_comps (S_nb b) (fun k => m (rho (rho k))) := h3
  have h4 : S_comps (S_nb b) (fun k => m (rho (rho (rho (rho k))))) ≤ S_comps (S_nb b) (fun k => m (rho (rho (rho k)))) := h4
  omega
theorem nlines_turn (m : BA) : S_nlines (fun k => m (rho k)) = S_nlines m := by
  have h1 := Euler m; have h2 := Euler (fun k => m (rho k))
  have h3 : S_comps 4 (fun k => m (rho k)) = S_comps 4 m := comps_turn false m
  have h4 : S_comps 8 (fun k => !m (rho k)) = S_comps 8 (fun k => !m k) := comps_turn true (fun k => !m k)
  have h2 : S_nlines (fun k => m (rho k)) = S_comps 4 (fun k => m (rho k)) + S_comps 8 (fun k => !m (rho k)) - 1 := h2
  omega
set_option maxRecDepth 100000 in
theorem zS_49 (f : IA) : zS f 49 = 0 + f 0 + f 1 + f 2 + f 3 + f 4 + f 5 + f 6 + f 7 + f 8 + f 9 + f 10 + f 11 + f 12 + f 13 + f 14 + f 15 + f 16 + f 17 + f 18 + f 19 + f 20 + f 21 + f 22 + f 23 + f 24 + f 25 + f 26 + f 27 + f 28 + f 29 + f 30 + f 31 + f 32 + f 33 + f 34 + f 35 + f 36 + f 37 + f 38 + f 39 + f 40 + f 41 + f 42 + f 43 + f 44 + f 45 + f 46 + f 47 + f 48 := rfl
set_option maxRecDepth 100000 in
theorem zS_49r (f : IA) : zS (fun k => f (rho k)) 49 = 0 + f 42 + f 35 + f 28 + f 21 + f 14 + f 7 + f 0 + f 43 + f 36 + f 29 + f 22 + f 15 + f 8 + f 1 + f 44 + f 37 + f 30 + f 23 + f 16 + f 9 + f 2 + f 45 + f 38 + f 31 + f 24 + f 17 + f 10 + f 3 + f 46 + f 39 + f 32 + f 25 + f 18 + f 11 + f 4 + f 47 + f 40 + f 33 + f 26 + f 19 + f 12 + f 5 + f 48 + f 41 + f 34 + f 27 + f 20 + f 13 + f 6 := rfl
theorem zS_turn (f : IA) : zS (fun k => f (rho k)) 49 = zS f 49 := by rw [zS_49r f, zS_49 f]; omega
set_option maxRecDepth 100000 in
theorem ncross_84 (m : BA) : S_ncross m = 0 + z1 (m 0 != m 1) + z1 (m 1 != m 2) + z1 (m 2 != m 3) + z1 (m 3 != m 4) + z1 (m 4 != m 5) + z1 (m 5 != m 6) + z1 (m 7 != m 8) + z1 (m 8 != m 9) + z1 (m 9 != m 10) + z1 (m 10 != m 11) + z1 (m 11 != m 12) + z1 (m 12 != m 13) + z1 (m 14 != m 15) + z1 (m 15 != m 16) + z1 (m 16 != m 17) + z1 (m 17 != m 18) + z1 (m 18 != m 19) + z1 (m 19 != m 20) + z1 (m 21 != m 22) + z1 (m 22 != m 23) + z1 (m 23 != m 24) + z1 (m 24 != m 25) + z1 (m 25 != m 26) + z1 (m 26 != m 27) + z1 (m 28 != m 29) + z1 (m 29 != m 30) + z1 (m 30 != m 31) + z1 (m 31 != m 32) + z1 (m 32 != m 33) + z1 (m 33 != m 34) + z1 (m 35 != m 36) + z1 (m 36 != m 37) + z1 (m 37 != m 38) + z1 (m 38 != m 39) + z1 (m 39 != m 40) + z1 (m 40 != m 41) + z1 (m 42 != m 43) + z1 (m 43 != m 44) + z1 (m 44 != m 45) + z1 (m 45 != m 46) + z1 (m 46 != m 47) + z1 (m 47 != m 48) + z1 (m 0 != m 7) + z1 (m 1 != m 8) + z1 (m 2 != m 9) + z1 (m 3 != m 10) + z1 (m 4 != m 11) + z1 (m 5 != m 12) + z1 (m 6 != m 13) + z1 (m 7 != m 14) + z1 (m 8 != m 15) + z1 (m 9 != m 16) + z1 (m 10 != m 17) + z1 (m 11 != m 18) + z1 (m 12 != m 19) + z1 (m 13 != m 20) + z1 (m 14 != m 21) + z1 (m 15 != m 22) + z1 (m 16 != m 23) + z1 (m 17 != m 24) + z1 (m 18 != m 25) + z1 (m 19 != m 26) + z1 (m 20 != m 27) + z1 (m 21 != m 28) + z1 (m 22 != m 29) + z1 (m 23 != m 30) + z1 (m 24 != m 31) + z1 (m 25 != m 32) + z1 (m 26 != m 33) + z1 (m 27 != m 34) + z1 (m 28 != m 35) + z1 (m 29 != m 36) + z1 (m 30 != m 37) + z1 (m 31 != m 38) + z1 (m 32 != m 39) + z1 (m 33 != m 40) + z1 (m 34 != m 41) + z1 (m 35 != m 42) + z1 (m 36 != m 43) + z1 (m 37 != m 44) + z1 (m 38 != m 45) + z1 (m 39 != m 46) + z1 (m 40 != m 47) + z1 (m 41 != m 48) := rfl
set_option maxRecDepth 100000 in
theorem ncross_84r (m : BA) : S_ncross (fun k => m (rho k)) = 0 + z1 (m 42 != m 35) + z1 (m 35 != m 28) + z1 (m 28 != m 21) + z1 (m 21 != m 14) + z1 (m 14 != m 7) + z1 (m 7 != m 0) + z1 (m 43 != m 36) + z1 (m 36 != m 29) + z1 (m 29 != m 22) + z1 (m 22 != m 15) + z1 (m 15 != m 8) + z1 (m 8 != m 1) + z1 (m 44 != m 37) + z1 (m 37 != m 30) + z1 (m 30 != m 23) + z1 (m 23 != m 16) + z1 (m 16 != m 9) + z1 (m 9 != m 2) + z1 (m 45 != m 38) + z1 (m 38 != m 31) + z1 (m 31 != m 24) + z1 (m 24 != m 17) + z1 (m 17 != m 10) + z1 (m 10 != m 3) + z1 (m 46 != m 39) + z1 (m 39 != m 32) + z1 (m 32 != m 25) + z1 (m 25 != m 18) + z1 (m 18 != m 11) + z1 (m 11 != m 4) + z1 (m 47 != m 40) + z1 (m 40 != m 33) + z1 (m 33 != m 26) + z1 (m 26 != m 19) + z1 (m 19 != m 12) + z1 (m 12 != m 5) + z1 (m 48 != m 41) + z1 (m 41 != m 34) + z1 (m 34 != m 27) + z1 (m 27 != m 20) + z1 (m 20 != m 13) + z1 (m 13 != m 6) + z1 (m 42 != m 43) + z1 (m 35 != m 36) + z1 (m 28 != m 29) + z1 (m 21 != m 22) + z1 (m 14 != m 15) + z1 (m 7 != m 8) + z1 (m 0 != m 1) + z1 (m 43 != m 44) + z1 (m 36 != m 37) + z1 (m 29 != m 30) + z1 (m 22 != m 23) + z1 (m 15 != m 16) + z1 (m 8 != m 9) + z1 (m 1 != m 2) + z1 (m 44 != m 45) + z1 (m 37 != m 38) + z1 (m 30 != m 31) + z1 (m 23 != m 24) + z1 (m 16 != m 17) + z1 (m 9 != m 10) + z1 (m 2 != m 3) + z1 (m 45 != m 46) + z1 (m 38 != m 39) + z1 (m 31 != m 32) + z1 (m 24 != m 25) + z1 (m 17 != m 18) + z1 (m 10 != m 11) + z1 (m 3 != m 4) + z1 (m 46 != m 47) + z1 (m 39 != m 40) + z1 (m 32 != m 33) + z1 (m 25 != m 26) + z1 (m 18 != m 19) + z1 (m 11 != m 12) + z1 (m 4 != m 5) + z1 (m 47 != m 48) + z1 (m 40 != m 41) + z1 (m 33 != m 34) + z1 (m 26 != m 27) + z1 (m 19 != m 20) + z1 (m 12 != m 13) + z1 (m 5 != m 6) := rfl
set_option maxRecDepth 100000 in
theorem ncross_turn (m : BA) : S_ncross (fun k => m (rho k)) = S_ncross m := by
  have cm : ∀ x y : Bool, z1 (x != y) = z1 (y != x) := by decide
  rw [ncross_84r m, ncross_84 m]
  have s0 : z1 (m 42 != m 35) = z1 (m 35 != m 42) := cm _ _
  have s1 : z1 (m 35 != m 28) = z1 (m 28 != m 35) := cm _ _
  have s2 : z1 (m 28 != m 21) = z1 (m 21 != m 28) := cm _ _
  have s3 : z1 (m 21 != m 14) = z1 (m 14 != m 21) := cm _ _
  have s4 : z1 (m 14 != m 7) = z1 (m 7 != m 14) := cm _ _
  have s5 : z1 (m 7 != m 0) = z1 (m 0 != m 7) := cm _ _
  have s6 : z1 (m 43 != m 36) = z1 (m 36 != m 43) := cm _ _
  have s7 : z1 (m 36 != m 29) = z1 (m 29 != m 36) := cm _ _
  have s8 : z1 (m 29 != m 22) = z1 (m 22 != m 29) := cm _ _
  have s9 : z1 (m 22 != m 15) = z1 (m 15 != m 22) := cm _ _
  have s10 : z1 (m 15 != m 8) = z1 (m 8 != m 15) := cm _ _
  have s11 : z1 (m 8 != m 1) = z1 (m 1 != m 8) := cm _ _
  have s12 : z1 (m 44 != m 37) = z1 (m 37 != m 44) := cm _ _
  have s13 : z1 (m 37 != m 30) = z1 (m 30 != m 37) := cm _ _
  have s14 : z1 (m 30 != m 23) = z1 (m 23 != m 30) := cm _ _
  have s15 : z1 (m 23 != m 16) = z1 (m 16 != m 23) := cm _ _
  have s16 : z1 (m 16 != m 9) = z1 (m 9 != m 16) := cm _ _
  have s17 : z1 (m 9 != m 2) = z1 (m 2 != m 9) := cm _ _
  have s18 : z1 (m 45 != m 38) = z1 (m 38 != m 45) := cm _ _
  have s19 : z1 (m 38 != m 31) = z1 (m 31 != m 38) := cm _ _
  have s20 : z1 (m 31 != m 24) = z1 (m 24 != m 31) := cm _ _
  have s21 : z1 (m 24 != m 17) = z1 (m 17 != m 24) := cm _ _
  have s22 : z1 (m 17 != m 10) = z1 (m 10 != m 17) := cm _ _
  have s23 : z1 (m 10 != m 3) = z1 (m 3 != m 10) := cm _ _
  have s24 : z1 (m 46 != m 39) = z1 (m 39 != m 46) := cm _ _
  have s25 : z1 (m 39 != m 32) = z1 (m 32 != m 39) := cm _ _
  have s26 : z1 (m 32 != m 25) = z1 (m 25 != m 32) := cm _ _
  have s27 : z1 (m 25 != m 18) = z1 (m 18 != m 25) := cm _ _
  have s28 : z1 (m 18 != m 11) = z1 (m 11 != m 18) := cm _ _
  have s29 : z1 (m 11 != m 4) = z1 (m 4 != m 11) := cm _ _
  have s30 : z1 (m 47 != m 40) = z1 (m 40 != m 47) := cm _ _
  have s31 : z1 (m 40 != m 33) = z1 (m 33 != m 40) := cm _ _
  have s32 : z1 (m 33 != m 26) = z1 (m 26 != m 33) := cm _ _
  have s33 : z1 (m 26 != m 19) = z1 (m 19 != m 26) := cm _ _
  have s34 : z1 (m 19 != m 12) = z1 (m 12 != m 19) := cm _ _
  have s35 : z1 (m 12 != m 5) = z1 (m 5 != m 12) := cm _ _
  have s36 : z1 (m 48 != m 41) = z1 (m 41 != m 48) := cm _ _
  have s37 : z1 (m 41 != m 34) = z1 (m 34 != m 41) := cm _ _
  have s38 : z1 (m 34 != m 27) = z1 (m 27 != m 34) := cm _ _
  have s39 : z1 (m 27 != m 20) = z1 (m 20 != m 27) := cm _ _
  have s40 : z1 (m 20 != m 13) = z1 (m 13 != m 20) := cm _ _
  have s41 : z1 (m 13 != m 6) = z1 (m 6 != m 13) := cm _ _
  omega
theorem mk_turn {h : IA} (hh : ∀ k, 0 ≤ k → k < 49 → 0 ≤ h k ∧ h k ≤ 99) {t k : Int} (hk : 0 ≤ k ∧ k < 49) : S_mk (S_turn h) t k = true ↔ S_mk h t (rho k) = true := by
  rw [S_mk_iff, S_mk_iff, turn_at hh hk]
  exact ⟨fun z => ⟨(rho_b hk).1, z.2⟩, fun z => ⟨hk, z.2⟩⟩
theorem bd_turn {k : Int} (hk : 0 ≤ k ∧ k < 49) : S_bd (rho k) ↔ S_bd k := by
  have h := rho_b hk; unfold S_bd; omega
theorem con_turn {h : IA} (hh : ∀ k, 0 ≤ k → k < 49 → 0 ≤ h k ∧ h k ≤ 99) {t k : Int} (hk : 0 ≤ k ∧ k < 49) : S_con (S_turn h) t k ↔ S_con h t (rho k) := by
  constructor
  · rintro ⟨j, hj, hb, hm, hc⟩
    refine ⟨rho j, (rho_b hj).1, (bd_turn hj).mpr hb, (mk_turn hh hj).mp hm, ?_⟩
    exact (hc (fun z => (0 ≤ z ∧ z < 49) ∧ Cn (S_rr 4 (S_mk h t)) (rho j) (rho z)) ⟨hj, Cn.rf⟩ (fun x y hx hr => by
      have hy := hr.1.2.1
      exact ⟨hy, hx.2.st ⟨(rho_adj (b := false) hx.1 hy).mpr hr.1, (mk_turn hh hx.1).mp hr.2.1, (mk_turn hh hy).mp hr.2.2⟩⟩)).2
  · rintro ⟨j, hj, hb, hm, hc⟩
    have hs := sig_b hj
    refine ⟨sig j, hs.1, (bd_turn hs.1).mp (by rw [rho_sig hj]; exact hb), (mk_turn hh hs.1).mpr (by rw [rho_sig hj]; exact hm), ?_⟩
    have hp := rho_pull (b := false) (m := S_mk h t) hs.1 (z := rho k) (by rw [rho_sig hj]; exact hc)
    rw [sig_rho hk] at hp
    exact hp.mono (fun x y hr => ⟨hr.1, (mk_turn hh hr.1.1).mpr hr.2.1, (mk_turn hh hr.1.2.1).mpr hr.2.2⟩)
theorem turn_hh {h : IA} (hh : ∀ k, 0 ≤ k → k < 49 → 0 ≤ h k ∧ h k ≤ 99) : ∀ k, 0 ≤ k → k < 49 → 0 ≤ S_turn h k ∧ S_turn h k ≤ 99 := zmix_b hh (fun _ => clip_b _)
theorem spill_turn {h : IA} (hh : ∀ k, 0 ≤ k → k < 49 → 0 ≤ h k ∧ h k ≤ 99) {k : Int} (hk : 0 ≤ k ∧ k < 49) : S_spill (S_turn h) k = S_spill h (rho k) := by
  have h1 := q_spill (turn_hh hh) hk; have h2 := q_spill hh (rho_b hk).1
  have e1 := (h1.2 _ h2.1.1 h2.1.2).mp ((con_turn hh hk).mpr ((h2.2 _ h2.1.1 h2.1.2).mpr (Int.le_refl _)))
  have e2 := (h2.2 _ h1.1.1 h1.1.2).mp ((con_turn hh hk).mp ((h1.2 _ h1.1.1 h1.1.2).mpr (Int.le_refl _)))
  omega
theorem q_turn_bulk {h : IA} (hh : ∀ k, 0 ≤ k → k < 49 → 0 ≤ h k ∧ h k ≤ 99) : zS (S_turn h) 49 = zS h 49 :=
  (zS_congr (g := fun k => h (rho k)) 49 (by omega) (fun k a b => turn_at hh ⟨a, b⟩)).trans (zS_turn h)
theorem q_turn_water {h : IA} (hh : ∀ k, 0 ≤ k → k < 49 → 0 ≤ h k ∧ h k ≤ 99) : zS (fun k => S_spill (S_turn h) k - S_turn h k) 49 = zS (fun k => S_spill h k - h k) 49 :=
  (zS_congr (g := fun k => (fun j => S_spill h j - h j) (rho k)) 49 (by omega) (fun k a b => by show _ = S_spill h (rho k) - h (rho k); rw [turn_at hh ⟨a, b⟩, spill_turn hh ⟨a, b⟩])).trans (zS_turn (fun j => S_spill h j - h j))
theorem q_turn_ponds {h : IA} (hh : ∀ k, 0 ≤ k → k < 49 → 0 ≤ h k ∧ h k ≤ 99) : S_comps 4 (S_pond (S_turn h)) = S_comps 4 (S_pond h) :=
  (S_comps_cg (n := 4) (fun k a b => by show _ = S_pond h (rho k); unfold S_pond; rw [turn_at hh ⟨a, b⟩, spill_turn hh ⟨a, b⟩])).trans (comps_turn false (S_pond h))
theorem hi_turn {h : IA} (hh : ∀ k, 0 ≤ k → k < 49 → 0 ≤ h k ∧ h k ≤ 99) {L : Int} : ∀ k, 0 ≤ k → k < 49 → S_hi (S_turn h) L k = (fun j => S_hi h L (rho j)) k := fun k a b => by
  show S_hi (S_turn h) L k = S_hi h L (rho k); unfold S_hi; rw [turn_at hh ⟨a, b⟩]
theorem q_turn_cross {h : IA} (hh : ∀ k, 0 ≤ k → k < 49 → 0 ≤ h k ∧ h k ≤ 99) {L : Int} : S_ncross (S_hi (S_turn h) L) = S_ncross (S_hi h L) := (S_ncross_cg (hi_turn hh)).trans (ncross_turn (S_hi h L))
theorem q_turn_lines {h : IA} (hh : ∀ k, 0 ≤ k → k < 49 → 0 ≤ h k ∧ h k ≤ 99) {L : Int} : S_nlines (S_hi (S_turn h) L) = S_nlines (S_hi h L) := (S_nlines_cg (hi_turn hh)).trans (nlines_turn (S_hi h L))
/-! washing -/
theorem steep_next {h : IA} {k : Int} (hk : 0 ≤ k ∧ k < 49) (hs : S_steep h k = true) : S_next h k ≠ -1 ∧ (0 ≤ S_next h k ∧ S_next h k < 49) ∧ S_next h k ≠ k ∧ h k - h (S_next h k) ≥ 2 := by
  have h2 : 2 ≤ S_drop h k := of_decide_eq_true hs
  have hn : S_next h k ≠ -1 := fun e => by have := S_drop_next hk e; omega
  have h3 := S_drop_to hn
  exact ⟨hn, (S_next_ok hk hn).1, S_next_ne hk, by omega⟩
theorem wc_sum (h : IA) : ∀ i, 0 ≤ i → i ≤ 49 → zS (S_wc h i) 49 = 0 := by
  refine z_ind (fun _ => by rw [S_wc_0, q_const 49 (by omega)]; rfl) (fun i hi ih h9 => ?_)
  have e := ih (by omega)
  rw [S_wc_up hi]
  by_cases q : S_steep h i = true
  · have hn := steep_next ⟨hi, by omega⟩ q
    rw [if_pos q, zS_set hn.2.1.1 49 (by omega), zS_set hi 49 (by omega), if_pos hn.2.1.2, if_pos (by omega), e]; omega
  · rw [if_neg q]; exact e
theorem wc_lo (h : IA) : ∀ i, 0 ≤ i → i ≤ 49 → ∀ k, 0 ≤ k → k < 49 → (if k < i ∧ S_steep h k = true then -1 else 0) ≤ S_wc h i k := by
  refine z_ind (fun _ k a b => by rw [S_wc_0, if_neg (by omega)]; exact Int.le_refl _) (fun i hi ih h9 k a b => ?_)
  have e := ih (by omega)
  rw [S_wc_up hi]
  by_cases q : S_steep h i = true
  · have hn := steep_next ⟨hi, by omega⟩ q
    rw [if_pos q]
    have ek := e k a b; have ei := e i hi (by omega); have ed := e (S_next h i) hn.2.1.1 hn.2.1.2
    rw [if_neg (by omega)] at ei
    by_cases c1 : k = S_next h i
    · rw [c1, zu_s, zu_n hn.2.2.1]
      by_cases c2 : S_next h i < i + 1 ∧ S_steep h (S_next h i) = true
      · rw [if_pos c2]; split at ed <;> omega
      · rw [if_neg c2]; rw [if_neg (fun z => c2 ⟨by omega, z.2⟩)] at ed; omega
    · rw [zu_n c1]
      by_cases c2 : k = i
      · subst c2; rw [zu_s, if_pos ⟨by omega, q⟩]; omega
      · rw [zu_n c2]
        by_cases c3 : k < i ∧ S_steep h k = true
        · rw [if_pos c3] at ek; rw [if_pos ⟨by omega, c3.2⟩]; exact ek
        · rw [if_neg c3] at ek; rw [if_neg (fun z => c3 ⟨by omega, z.2⟩)]; exact ek
  · rw [if_neg q]
    have ek := e k a b
    by_cases c3 : k < i ∧ S_steep h k = true
    · rw [if_pos c3] at ek; rw [if_pos ⟨by omega, c3.2⟩]; exact ek
    · rw [if_neg c3] at ek
      rw [if_neg (fun z => c3 ⟨by have : k ≠ i := fun w => q (w ▸ z.2); omega, z.2⟩)]; exact ek
theorem wash1_le {h : IA} (hh : ∀ k, 0 ≤ k → k < 49 → 0 ≤ h k ∧ h k ≤ 99) : zS (S_wash1 h) 49 ≤ zS h 49 := by
  have h1 : zS (S_wash1 h) 49 ≤ zS (fun k => h k + S_wc h 49 k) 49 := zS_le 49 (by omega) (fun k a b => by
    unfold S_wash1; rw [zmix_at ⟨a, b⟩, q_clip]
    have hk := hh k a b; have hl := wc_lo h 49 (by omega) (by omega) k a b
    have : 0 ≤ h k + S_wc h 49 k := by
      by_cases c : k < 49 ∧ S_steep h k = true
      · rw [if_pos c] at hl; have hn := steep_next ⟨a, b⟩ c.2; have := hh _ hn.2.1.1 hn.2.1.2; omega
      · rw [if_neg c] at hl; omega
    (repeat' split) <;> omega)
  rw [zS_add 49 (by omega), wc_sum h 49 (by omega) (by omega)] at h1; omega
theorem wash1_no {h : IA} (hh : ∀ k, 0 ≤ k → k < 49 → 0 ≤ h k ∧ h k ≤ 99) (hn : ∀ k, 0 ≤ k → k < 49 → S_steep h k = false) : S_wash1 h = h := by
  have e : ∀ i, 0 ≤ i → i ≤ 49 → S_wc h i = fun _ => 0 := z_ind (fun _ => S_wc_0 h) (fun i hi ih h9 => by
    rw [S_wc_up hi, if_neg (by rw [hn i hi (by omega)]; decide)]; exact ih (by omega))
  funext k
  unfold S_wash1 zmix
  split
  · next q => rw [e 49 (by omega) (by omega)]; show clip (h k + 0) = h k; rw [Int.add_zero]; exact clip_id (hh k q.1 q.2)
  · rfl
theorem q_wash {h : IA} (hh : ∀ k, 0 ≤ k → k < 49 → 0 ≤ h k ∧ h k ≤ 99) {n : Int} (hn : 1 ≤ n) : zS (S_wash h n) 49 ≤ zS h 49 ∧ (0 < S_given h n ↔ ∃ k, 0 ≤ k ∧ k < 49 ∧ 1 < S_drop h k) ∧ ((∀ k, 0 ≤ k → k < 49 → S_drop h k ≤ 1) → zS (S_wash h n) 49 = zS h 49) := by
  have hle : ∀ i, 0 ≤ i → zS (S_wash h i) 49 ≤ zS h 49 := z_ind (Int.le_refl _) (fun i hi ih => by
    rw [S_wash_up hi]; exact Int.le_trans (wash1_le (S_wash_b hh i hi)) ih)
  have hno : (∀ k, 0 ≤ k → k < 49 → S_drop h k ≤ 1) → ∀ i, 0 ≤ i → S_wash h i = h ∧ S_given h i = 0 := fun hz => by
    have hs : ∀ k, 0 ≤ k → k < 49 → S_steep h k = false := fun k a b => decide_eq_false (by have := hz k a b; omega)
    exact z_ind ⟨rfl, rfl⟩ (fun i hi ih => by
      rw [S_wash_up hi, S_given_up hi, ih.1, ih.2, wash1_no hh hs]
      exact ⟨rfl, by rw [show S_given1 h = 0 from zC_zero 49 (by omega) hs]; rfl⟩)
  refine ⟨hle n (by omega), ⟨fun hg => ?_, fun ⟨k, k0, k1, k2⟩ => ?_⟩, fun hz => by rw [(hno hz n (by omega)).1]⟩
  · refine Classical.byContradiction (fun hx => ?_)
    have := (hno (fun k a b => by
      by_cases q : S_drop h k ≤ 1
      · exact q
      · exact absurd ⟨k, a, b, by omega⟩ hx) n (by omega)).2
    omega
  · have h1 : 1 ≤ S_given1 h := q_pos 49 (by omega) k0 k1 (decide_eq_true (by omega))
    have mono : ∀ i, 0 ≤ i → S_given1 h ≤ S_given h (1 + i) := z_ind (by
        rw [show (1:Int) + 0 = 0 + 1 by omega, S_given_up (Int.le_refl 0)]
        show S_given1 h ≤ 0 + S_given1 h; omega) (fun i hi ih => by
        rw [show 1 + (i + 1) = 1 + i + 1 by omega, S_given_up (by omega)]
        have : 0 ≤ S_given1 (S_wash h (1 + i)) := (zC_b _ (by omega)).1
        omega)
    have := mono (n - 1) (by omega)
    rw [show 1 + (n - 1) = n by omega] at this; omega
