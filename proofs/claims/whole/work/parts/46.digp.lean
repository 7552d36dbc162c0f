/-! DIGESTS, plainly; rows for doubles and long constants -/
section ZE
variable {p : Program} {l : Launch} {e : Env} {R : Room} {s : State} {m : MethodId} {args : Array Value} {below : List Frame} {meth : Method} {c : Code} {H : Heap} {locs : List Loc} {cells slots : Nat} {Q : State → Prop}
variable {cc : ByteArray} {pc : Nat} {ls : Array Slot} {rest : List Value}
theorem z_dconst0 (hx : p.tables.exec = Jvm.exec) (hb : c.code = cc) (hdg : decode cc pc = .ok (.dconst 0, 1)) (k : W p l e R s m args below meth c H locs cells slots Q (F0 m (pc + 1) ls (.double 0 :: rest))) : W p l e R s m args below meth c H locs cells slots Q (F0 m pc ls rest) := lv_dconst0 hx hb hdg k
theorem z_dconst1 (hx : p.tables.exec = Jvm.exec) (hb : c.code = cc) (hdg : decode cc pc = .ok (.dconst 1, 1)) (k : W p l e R s m args below meth c H locs cells slots Q (F0 m (pc + 1) ls (.double D1 :: rest))) : W p l e R s m args below meth c H locs cells slots Q (F0 m pc ls rest) := lv_dconst1 hx hb hdg k
theorem z_ldc2 {own : String} {index : Nat} {n : Int} {v : Int64} (hx : p.tables.exec = Jvm.exec) (hb : c.code = cc) (hown : s.vm.findClass own = some m.cls) (hconst : (Jvm.Cond.constantLong own index v).before args s = true) (hv : v = zL n) (hdg : decode cc pc = .ok (.ldc2_w index, 3)) (k : W p l e R s m args below meth c H locs cells slots Q (F0 m (pc + 3) ls (.long (zL n) :: rest))) : W p l e R s m args below meth c H locs cells slots Q (F0 m pc ls rest) :=
  lv_ldc2 hx hb hown (hv ▸ hconst) hdg k
end ZE
def mixL (h v : Int64) : Int64 := zL 31 * h + v
def mixI (h : Int64) (a : Int) : Int64 := mixL h (zL a)
def itL (F : Int → Int64 → Int64) : Nat → Int64 → Int64 | 0, x => x | n + 1, x => F n (itL F n x)
def itI (F : Int → Int64 → Int64) (i : Int) (x : Int64) : Int64 := itL F i.toNat x
theorem itI_0 (F : Int → Int64 → Int64) (x : Int64) : itI F 0 x = x := rfl
theorem itI_up {F : Int → Int64 → Int64} {i : Int} {x : Int64} (hi : 0 ≤ i) : itI F (i + 1) x = F i (itI F i x) := by
  unfold itI; rw [show (i + 1).toNat = i.toNat + 1 by omega]; show F (i.toNat : Int) _ = _; rw [Int.toNat_of_nonneg hi]
noncomputable def S_dp1 (h : IA) (k : Int) (x : Int64) : Int64 := mixI (mixI (mixI (mixI (mixI (mixI (mixI (mixI (mixI (mixI (mixI x (h k)) (S_drop h k)) (S_sink h k)) (S_flow h k)) (S_steps h k)) (S_basin h k)) (S_basin h k)) (S_spill h k)) (S_spill h k)) (S_spill h k - h k)) (S_seen h k)
noncomputable def S_dlev (h : IA) (L : Int) (x : Int64) : Int64 := mixI (mixI (mixI (mixI (mixI (mixI (mixI (mixI (mixI (mixI x (zC (S_hi h L) 49)) (S_sab h L)) (S_ncross (S_hi h L))) (S_ncross (S_hi h L))) (S_nlines (S_hi h L))) (S_nlines (S_hi h L))) (S_nclosed (S_hi h L))) (S_long (S_hi h L))) (S_comps 4 (S_hi h L))) (S_comps 8 (fun k => !S_hi h L k))
theorem regs_t (h : IA) (L : Int) : S_comps (S_nb (!true)) (fun k => S_hi h L k == true) = S_comps 4 (S_hi h L) := S_comps_cg (fun k _ _ => by cases S_hi h L k <;> rfl)
theorem regs_f (h : IA) (L : Int) : S_comps (S_nb (!false)) (fun k => S_hi h L k == false) = S_comps 8 (fun k => !S_hi h L k) := S_comps_cg (fun k _ _ => by cases S_hi h L k <;> rfl)
noncomputable def S_pond (h : IA) : BA := fun k => decide (h k < S_spill h k)
noncomputable def S_dmid (h : IA) : Int64 := S_dlev h 70 (S_dlev h 50 (S_dlev h 30 (S_dlev h 10 (mixI (mixI (itI (S_dp1 h) 49 (zL 4373)) (S_arg h 49)) (zS h 49)))))
noncomputable def S_dig (h : IA) (mk : Int) (mp : BA) (f : IA) (n : Int) : Int64 :=
  itI (fun k x => mixI x (f k)) n (mixI (mixI (mixI (mixL (mixI (mixI (mixI (mixI (mixI (mixI (S_dmid h) (zC (fun k => decide (S_next h k = -1)) 49)) (S_arg (S_basin h) 49)) (zS (fun k => S_spill h k - h k) 49)) (S_comps 4 (S_pond h))) (S_arg (S_seen h) 49)) mk) (S_bits (dmean (zS (S_drop h) 49)))) (z1 (mp 0))) (z1 (mp 1))) n)
theorem S_dsum_b {h : IA} (hh : ∀ k, 0 ≤ k → k < 49 → 0 ≤ h k ∧ h k ≤ 99) : 0 ≤ zS (S_drop h) 49 ∧ zS (S_drop h) 49 ≤ 4900 := by
  have := zS_bnd (f := S_drop h) (a := 0) (b := 99) 49 (by omega) (fun k a b => S_drop_b hh ⟨a, b⟩); omega
theorem RV_sub1L {r : Nat} (hr : 4503599627370496 ≤ r ∧ r < 9007199254740992) : FP.dsub (RV r) (FP.l2d (zL 1)) = RV (r - 4503599627370496) := by
  rw [show FP.l2d (zL 1) = D1 by decide +kernel]; exact RV_sub1 hr
/-- binary digits -/
theorem BT {R k : Nat} (hk : k < 52) : (R % 2 ^ (52 - k)) * 2 ^ k < 4503599627370496 ∧
    (2 * ((R % 2 ^ (52 - k)) * 2 ^ k) < 4503599627370496 → 2 * ((R % 2 ^ (52 - k)) * 2 ^ k) = (R % 2 ^ (51 - k)) * 2 ^ (k + 1) ∧ R / 2 ^ (51 - k) = 2 * (R / 2 ^ (52 - k))) ∧
    (¬ 2 * ((R % 2 ^ (52 - k)) * 2 ^ k) < 4503599627370496 → 2 * ((R % 2 ^ (52 - k)) * 2 ^ k) - 4503599627370496 = (R % 2 ^ (51 - k)) * 2 ^ (k + 1) ∧ R / 2 ^ (51 - k) = 2 * (R / 2 ^ (52 - k)) + 1) := by
  have e1 : (2 : Nat) ^ (52 - k) = 2 ^ (51 - k) * 2 := by rw [show 52 - k = (51 - k).succ by omega, Nat.pow_succ]
  have e2 : (2 : Nat) ^ (51 - k) * 2 ^ k = 2251799813685248 := by rw [← Nat.pow_add, show 51 - k + k = 51 by omega]
  have hN := Nat.two_pow_pos (51 - k); have hM := Nat.two_pow_pos k
  rw [e1, Nat.mod_mul, ← Nat.div_div_eq_div_mul, Nat.pow_succ]
  generalize hd : R / 2 ^ (51 - k) = d
  have hr : R % 2 ^ (51 - k) < 2 ^ (51 - k) := Nat.mod_lt _ hN
  generalize R % 2 ^ (51 - k) = r at hr
  have h1 : r * 2 ^ k < 2251799813685248 := by rw [← e2]; exact Nat.mul_lt_mul_of_pos_right hr hM
  rw [Nat.add_mul, Nat.mul_right_comm (2 ^ (51 - k)), e2, ← Nat.mul_assoc r]
  generalize r * 2 ^ k = a at h1
  rcases Nat.mod_two_eq_zero_or_one d with z | z <;> rw [z] <;> omega
