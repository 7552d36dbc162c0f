/-! DOUBLES: halving, doubling, bits -/
abbrev Dfin (c : Nat) (q : Int) : FP.Core.Datum := .fin false c q
theorem DV_n64 {x : UInt64} {s : Bool} {c : Nat} {q : Int} (h : FP.Core.val64 x = .fin s c q) : vf_n64 x := by
  unfold vf_n64
  rw [UInt64.le_iff_toNat_le, UInt64.toNat_and]
  show x.toNat &&& 9223372036854775807 ≤ 9218868437227405312
  have hm : x.toNat &&& 9223372036854775807 = x.toNat % 9223372036854775808 := Nat.and_two_pow_sub_one_eq_mod x.toNat 63
  rw [hm]
  have hE : FP.Core.fieldE FP.Core.b64 x.toNat = x.toNat / 4503599627370496 % 2048 := rfl
  have he1 : FP.Core.b64.exps - 1 = 2047 := rfl
  unfold FP.Core.val64 FP.Core.decode at h
  rw [hE, he1] at h
  by_cases q1 : x.toNat / 4503599627370496 % 2048 = 2047
  · rw [if_pos q1] at h
    split at h <;> cases h
  · omega
theorem D_fits {c : Nat} {q : Int} (hc : 4503599627370496 ≤ c ∧ c < 9007199254740992) (hq : -1074 ≤ q ∧ q ≤ 971) : FP.Core.fits FP.Core.b64 (Dfin c q) := by
  show c < 9007199254740992 ∧ (-1074 : Int) ≤ q ∧ q ≤ 971 ∧ (q = -1074 ∨ 4503599627370496 ≤ c)
  omega
def DN (x : UInt64) (c : Nat) (q : Int) : Prop := FP.Core.val64 x = Dfin c q ∧ (4503599627370496 ≤ c ∧ c < 9007199254740992) ∧ -100 ≤ q ∧ q ≤ 100
def D1 : UInt64 := 4607182418800017408
def D2 : UInt64 := 4611686018427387904
theorem D1v : FP.Core.val64 D1 = Dfin 4503599627370496 (-52) := by decide +kernel
theorem D2v : FP.Core.val64 D2 = Dfin 4503599627370496 (-51) := by decide +kernel
theorem DLv : FP.Core.val64 (FP.l2d (zL 4503599627370496)) = Dfin 4503599627370496 0 := by decide +kernel
theorem DN_div {x : UInt64} {c : Nat} {q : Int} (h : DN x c q) (hq : -100 < q) : DN (FP.ddiv x D2) c (q - 1) := by
  refine ⟨?_, h.2.1, by have := h.2.2; omega⟩
  have h2 := h.2.2
  rw [FP.Core.val64_ddiv, h.1, D2v]
  show FP.Core.roundRatio FP.Core.b64 false c 4503599627370496 (q - -51) = _
  refine FP.Core.roundRatio_exact FP.Core.good_b64 (by decide) (D_fits h.2.1 (by omega)) ?_
  rw [show (q - -51 - (q - 1)).toNat = 52 by omega, show (q - 1 - (q - -51)).toNat = 0 by omega]
  exact (Nat.mul_one _).symm
theorem DN_mul {x : UInt64} {c : Nat} {q : Int} (h : DN x c q) (hq : q < 100) : DN (FP.dmul x D2) c (q + 1) := by
  refine ⟨?_, h.2.1, by have := h.2.2; omega⟩
  have h2 := h.2.2
  rw [FP.Core.val64_dmul, h.1, D2v]
  show FP.Core.roundRatio FP.Core.b64 false (c * 4503599627370496) 1 (q + -51) = _
  refine FP.Core.roundRatio_exact FP.Core.good_b64 (by decide) (D_fits h.2.1 (by omega)) ?_
  rw [show (q + -51 - (q + 1)).toNat = 0 by omega, show (q + 1 - (q + -51)).toNat = 52 by omega, Nat.pow_zero, Nat.mul_one, Nat.mul_one]
theorem DN_mulL {x : UInt64} {c : Nat} (h : DN x c (-52)) : FP.Core.val64 (FP.dmul x (FP.l2d (zL 4503599627370496))) = Dfin c 0 := by
  rw [FP.Core.val64_dmul, h.1, DLv]
  show FP.Core.roundRatio FP.Core.b64 false (c * 4503599627370496) 1 (-52 + 0) = _
  refine FP.Core.roundRatio_exact FP.Core.good_b64 (by decide) (D_fits h.2.1 (by omega)) ?_
  rw [show ((-52 : Int) + 0 - 0).toNat = 0 by omega, show ((0 : Int) - (-52 + 0)).toNat = 52 by omega, Nat.pow_zero, Nat.mul_one, Nat.mul_one]
theorem D_zv {c : Nat} {q : Int} : FP.Core.zval FP.Core.b64 (Dfin c q) = ((c * 2 ^ (q + 1074).toNat : Nat) : Int) := by
  show ((c * 2 ^ (q - FP.Core.b64.qmin).toNat : Nat) : Int) = _
  rw [show q - FP.Core.b64.qmin = q + 1074 by (show q - -1074 = q + 1074; omega)]
theorem D_nn {x : UInt64} {c : Nat} {q : Int} (h : FP.Core.val64 x = Dfin c q) : FP.Core.val64 x ≠ .nan := by rw [h]; intro z; cases z
/-- compared with a power of two -/
theorem DN_cmp {x y : UInt64} {c : Nat} {q r : Int} (h : DN x c q) (hy : FP.Core.val64 y = Dfin 4503599627370496 r) (hr : -100 ≤ r) : (q < r → FP.dcmp x y = some .lt) ∧ (r ≤ q → FP.dcmp x y = some .gt ∨ FP.dcmp x y = some .eq) := by
  have hb := h.2.2
  refine ⟨fun hl => FP.Core.dcmp_lt.mpr ⟨D_nn h.1, D_nn hy, ?_⟩, fun hl => FP.Core.dcmp_ge.mpr ⟨D_nn h.1, D_nn hy, ?_⟩⟩
  · rw [h.1, hy, D_zv, D_zv, Int.ofNat_lt]
    refine Nat.lt_of_lt_of_le (Nat.mul_lt_mul_of_pos_right h.2.1.2 (Nat.two_pow_pos _)) ?_
    rw [show (9007199254740992 : Nat) = 4503599627370496 * 2 from rfl, Nat.mul_assoc, ← Nat.pow_succ']
    exact Nat.mul_le_mul_left _ (Nat.pow_le_pow_right (by decide) (by omega))
  · rw [h.1, hy, D_zv, D_zv, Int.ofNat_le]
    exact Nat.mul_le_mul h.2.1.1 (Nat.pow_le_pow_right (by decide) (by omega))
/-- the int of a comparison -/
def dcI (x y : UInt64) (op : CmpOp) : Int := (Op.cmpValue (FP.dcmp x y) op).toInt
theorem dcI_z (x y : UInt64) (op : CmpOp) : Op.cmpValue (FP.dcmp x y) op = zI (dcI x y op) := (Int32.ofInt_toInt _).symm
theorem dcI_b (x y : UInt64) (op : CmpOp) : -1 ≤ dcI x y op ∧ dcI x y op ≤ 1 := by
  unfold dcI Op.cmpValue
  rcases FP.dcmp x y with _ | (_ | _ | _) <;> cases op <;> decide
theorem dcI_lt {x y : UInt64} (op : CmpOp) (h : FP.dcmp x y = some .lt) : dcI x y op = -1 := by unfold dcI; rw [h]; rfl
theorem dcI_eq {x y : UInt64} (op : CmpOp) (h : FP.dcmp x y = some .eq) : dcI x y op = 0 := by unfold dcI; rw [h]; rfl
theorem dcI_gt {x y : UInt64} (op : CmpOp) (h : FP.dcmp x y = some .gt) : dcI x y op = 1 := by unfold dcI; rw [h]; rfl
theorem DN_dc {x y : UInt64} {c : Nat} {q r : Int} (op : CmpOp) (h : DN x c q) (hy : FP.Core.val64 y = Dfin 4503599627370496 r) (hr : -100 ≤ r) : dcI x y op < 0 ↔ q < r := by
  have k := DN_cmp h hy hr
  by_cases z : q < r
  · have := dcI_lt op (k.1 z); omega
  · rcases k.2 (by omega) with k2 | k2
    · have := dcI_gt op k2; omega
    · have := dcI_eq op k2; omega
theorem DZv : FP.Core.val64 (0 : UInt64) = Dfin 0 (-1074) := by decide +kernel
theorem DN_dc0 {x : UInt64} {c : Nat} {q : Int} (op : CmpOp) (h : DN x c q) : dcI x 0 op = 1 := by
  refine dcI_gt op (FP.Core.dcmp_gt.mpr ⟨D_nn h.1, D_nn DZv, ?_⟩)
  rw [h.1, DZv, D_zv, D_zv, Int.ofNat_lt, Nat.zero_mul]
  exact Nat.mul_pos (by have := h.2.1; omega) (Nat.two_pow_pos _)
theorem D0_dc0 (op : CmpOp) : dcI 0 0 op = 0 := by cases op <;> decide +kernel
section ZD
variable {p : Program} {l : Launch} {e : Env} {R : Room} {s : State} {m : MethodId} {args : Array Value} {below : List Frame} {meth : Method} {c : Code} {H : Heap} {locs : List Loc} {cells slots : Nat} {Q : State → Prop}
variable {cc : ByteArray} {pc : Nat} {ls : Array Slot} {rest : List Value}
theorem z_dcmp (hx : p.tables.exec = Jvm.exec) (hb : c.code = cc) {x y : UInt64} {op : CmpOp} (hdg : decode cc pc = .ok (.dcmp op, 1)) (k : W p l e R s m args below meth c H locs cells slots Q (F0 m (pc + 1) ls (.int (zI (dcI x y op)) :: rest))) : W p l e R s m args below meth c H locs cells slots Q (F0 m pc ls (.double y :: .double x :: rest)) := by
  refine lv_dcmp hx hb hdg ?_
  rw [dcI_z]; exact k
end ZD
/-! what is behind the point: r units of 2^-52 -/
def RV (r : Nat) : UInt64 := FP.Core.of64 (FP.Core.round FP.Core.b64 (Dfin r (-52)))
theorem RVv (r : Nat) : FP.Core.val64 (RV r) = FP.Core.roundRatio FP.Core.b64 false r 1 (-52) := FP.Core.val64_of64 (FP.Core.round_fits FP.Core.good_b64 _)
theorem RV_ex {r : Nat} (hr : r < 9007199254740992) : ∃ c q, FP.Core.val64 (RV r) = Dfin c q ∧ (-1074 ≤ q ∧ q ≤ -52) ∧ c * 2 ^ (q + 1074).toNat = r * 2 ^ 1022 := by
  rw [RVv]
  by_cases h0 : r = 0
  · subst h0; exact ⟨0, -1074, rfl, by omega, by rw [Nat.zero_mul, Nat.zero_mul]⟩
  · have h1 := Nat.log2_self_le h0
    have h2 := @Nat.lt_log2_self r
    have h3 : r.log2 < 53 := (Nat.log2_lt h0).mpr hr
    have e52 : (2 : Nat) ^ r.log2 * 2 ^ (52 - r.log2) = 4503599627370496 := by rw [← Nat.pow_add, show r.log2 + (52 - r.log2) = 52 by omega]
    have hlo : 4503599627370496 ≤ r * 2 ^ (52 - r.log2) := by rw [← e52]; exact Nat.mul_le_mul_right _ h1
    have hhi : r * 2 ^ (52 - r.log2) < 9007199254740992 := by
      have := Nat.mul_lt_mul_of_pos_right h2 (Nat.two_pow_pos (52 - r.log2))
      rw [Nat.pow_succ, Nat.mul_right_comm, e52] at this; exact this
    refine ⟨r * 2 ^ (52 - r.log2), -52 - ((52 - r.log2 : Nat) : Int), ?_, by omega, ?_⟩
    · refine FP.Core.roundRatio_exact FP.Core.good_b64 (by decide) (D_fits ⟨hlo, hhi⟩ (by omega)) ?_
      rw [show ((-52 : Int) - (-52 - ((52 - r.log2 : Nat) : Int))).toNat = 52 - r.log2 by omega, show (-52 - ((52 - r.log2 : Nat) : Int) - (-52 : Int)).toNat = 0 by omega, Nat.mul_one]
      exact (Nat.mul_one _).symm
    · rw [Nat.mul_assoc, ← Nat.pow_add, show 52 - r.log2 + (-52 - ((52 - r.log2 : Nat) : Int) + 1074).toNat = 1022 by omega]
theorem RV_nn {r : Nat} (hr : r < 9007199254740992) : FP.Core.val64 (RV r) ≠ .nan := by obtain ⟨c, q, h, -⟩ := RV_ex hr; exact D_nn h
theorem RV_n64 {r : Nat} (hr : r < 9007199254740992) : vf_n64 (RV r) := by obtain ⟨c, q, h, -⟩ := RV_ex hr; exact DV_n64 h
theorem RV_of {x : UInt64} {c : Nat} (h : DN x c (-52)) : x = RV c := by
  refine FP.Core.val64_inj (D_nn h.1) ?_
  rw [h.1, RVv]
  refine (FP.Core.roundRatio_exact FP.Core.good_b64 (by decide) (D_fits h.2.1 (by omega)) ?_).symm
  rw [Nat.mul_one]
theorem RV_big {r : Nat} (hr : 4503599627370496 ≤ r ∧ r < 9007199254740992) : FP.Core.val64 (RV r) = Dfin r (-52) := by
  rw [RVv]
  refine FP.Core.roundRatio_exact FP.Core.good_b64 (by decide) (D_fits hr (by omega)) ?_
  rw [Nat.mul_one]
theorem RV_mul {r : Nat} (hr : r < 4503599627370496) : FP.dmul (RV r) D2 = RV (2 * r) := by
  obtain ⟨c, q, h1, h2, h3⟩ := RV_ex (r := r) (by omega)
  refine FP.Core.val64_inj ?_ ?_ |>.symm
  · exact RV_nn (by omega)
  · rw [RVv, FP.Core.val64_dmul, h1, D2v]
    show _ = FP.Core.roundRatio FP.Core.b64 false (c * 4503599627370496) 1 (q + -51)
    refine FP.Core.roundRatio_congr (by decide) (by decide) ?_
    rw [Nat.mul_one, Nat.mul_one, show (q + -51 - -52).toNat = 0 by omega, Nat.pow_zero, Nat.mul_one]
    refine Nat.eq_of_mul_eq_mul_right (Nat.two_pow_pos (q + 1074).toNat) ?_
    rw [Nat.mul_right_comm c, h3, Nat.mul_assoc, ← Nat.pow_add, show (-52 - (q + -51)).toNat + (q + 1074).toNat = 1073 by omega, show (4503599627370496 : Nat) = 2 ^ 52 from rfl, Nat.mul_assoc r, ← Nat.pow_add, show 1022 + 52 = 1 + 1073 from rfl, Nat.pow_add, ← Nat.mul_assoc, Nat.mul_comm r]
theorem RV_sub1 {r : Nat} (hr : 4503599627370496 ≤ r ∧ r < 9007199254740992) : FP.dsub (RV r) D1 = RV (r - 4503599627370496) := by
  refine FP.Core.val64_inj ?_ ?_ |>.symm
  · exact RV_nn (by omega)
  · rw [RVv, FP.Core.val64_dsub, RV_big hr, D1v]
    show _ = FP.Core.round FP.Core.b64 (.fin (FP.Core.sumSign false (!false) (FP.Core.sumUnits false r (-52) (!false) 4503599627370496 (-52) (-52))) (FP.Core.sumUnits false r (-52) (!false) 4503599627370496 (-52) (-52)).natAbs (-52))
    have e : FP.Core.sumUnits false r (-52) (!false) 4503599627370496 (-52) (-52) = ((r - 4503599627370496 : Nat) : Int) := by
      show ((r * 1 : Nat) : Int) + -((4503599627370496 * 1 : Nat) : Int) = _
      omega
    rw [e, Int.natAbs_natCast]
    have e2 : FP.Core.sumSign false (!false) ((r - 4503599627370496 : Nat) : Int) = false := by
      unfold FP.Core.sumSign; split
      · rfl
      · exact decide_eq_false (by omega)
    rw [e2]; rfl
theorem RV_sub0 {r : Nat} (hr : r < 9007199254740992) : FP.dsub (RV r) (FP.l2d (zL 0)) = RV r := by
  rw [show FP.l2d (zL 0) = 0 by decide +kernel]
  show FP.Core.dsub (RV r) 0 = _
  rw [FP.Core.dsub_eq, show FP.Core.dneg 0 = FP.Core.dzeroNeg by decide +kernel]
  exact FP.Core.dadd_zeroNeg (RV_nn hr)
theorem RV_dc {r : Nat} (op : CmpOp) (hr : r < 9007199254740992) : dcI (RV r) D1 op < 0 ↔ r < 4503599627370496 := by
  obtain ⟨c, q, h1, h2, h3⟩ := RV_ex hr
  have z1 : FP.Core.zval FP.Core.b64 (FP.Core.val64 (RV r)) = ((r * 2 ^ 1022 : Nat) : Int) := by rw [h1, D_zv, h3]
  have z2 : FP.Core.zval FP.Core.b64 (FP.Core.val64 D1) = ((4503599627370496 * 2 ^ 1022 : Nat) : Int) := by rw [D1v, D_zv, show ((-52 : Int) + 1074).toNat = 1022 from rfl]
  by_cases z : r < 4503599627370496
  · have := dcI_lt op (FP.Core.dcmp_lt.mpr ⟨D_nn h1, D_nn D1v, by rw [z1, z2, Int.ofNat_lt]; exact Nat.mul_lt_mul_of_pos_right z (Nat.two_pow_pos _)⟩)
    omega
  · rcases FP.Core.dcmp_ge.mpr ⟨D_nn h1, D_nn D1v, by rw [z1, z2, Int.ofNat_le]; exact Nat.mul_le_mul_right _ (by omega)⟩ with k | k
    · have := dcI_gt op k; omega
    · have := dcI_eq op k; omega
/-! the mean -/
def D49 : UInt64 := 4632092954238910464
def dmean (s : Int) : UInt64 := FP.ddiv (FP.i2d (zI s)) D49
def chkD (s : Nat) : Bool := match FP.Core.val64 (dmean (s + 1)) with | .fin false c q => decide (4503599627370496 ≤ c) && decide (c < 9007199254740992) && decide (-60 ≤ q) && decide (q ≤ -40) | _ => false
def allN (f : Nat → Bool) : Nat → Bool | 0 => true | n + 1 => f n && allN f n
theorem allN_at {f : Nat → Bool} : ∀ n, allN f n = true → ∀ k, k < n → f k = true := by
  intro n; induction n with
  | zero => intro _ k h; omega
  | succ n ih =>
    intro h k hk
    have h1 : (f n && allN f n) = true := h
    rw [Bool.and_eq_true] at h1
    by_cases e : k = n
    · rw [e]; exact h1.1
    · exact ih h1.2 k (by omega)
set_option maxRecDepth 100000 in
theorem chk_all : allN chkD 4900 = true := by decide +kernel
theorem dmean_0 : dmean 0 = 0 := by decide +kernel
theorem dmean_ok {s : Int} (h : 1 ≤ s ∧ s ≤ 4900) : ∃ c q, DN (dmean s) c q ∧ -60 ≤ q ∧ q ≤ -40 := by
  have h1 := allN_at 4900 chk_all (s - 1).toNat (by omega)
  unfold chkD at h1
  rw [show (((s - 1).toNat : Nat) : Int) + 1 = s by omega] at h1
  split at h1
  · next c q hv =>
    simp only [Bool.and_eq_true, decide_eq_true_eq] at h1
    exact ⟨c, q, ⟨hv, ⟨h1.1.1.1, h1.1.1.2⟩, by omega⟩, h1.1.2, h1.2⟩
  · cases h1
theorem dmean_n64 {s : Int} (h : 0 ≤ s ∧ s ≤ 4900) : vf_n64 (dmean s) := by
  by_cases e : s = 0
  · rw [e, dmean_0]; exact DV_n64 DZv
  · obtain ⟨c, q, hd, -⟩ := dmean_ok (s := s) (by omega); exact DV_n64 hd.1
/-! the bits -/
def DOK (x : UInt64) : Prop := x = 0 ∨ ∃ c q, DN x c q ∧ -60 ≤ q ∧ q ≤ -40
noncomputable def S_bits (x : UInt64) : Int64 := if x = 0 then zL 0 else match FP.Core.val64 x with | .fin _ c q => zL ((q + 1075) * 4503599627370496 + ((c : Int) - 4503599627370496)) | _ => zL 0
theorem S_bits_0 : S_bits 0 = zL 0 := if_pos rfl
theorem DN_ne0 {x : UInt64} {c : Nat} {q : Int} (h : DN x c q) : x ≠ 0 := fun e => by
  have h1 := h.1; rw [e, DZv] at h1; have h2 : (0 : Nat) = c := by injection h1
  have := h.2.1; omega
theorem S_bits_n {x : UInt64} {c : Nat} {q : Int} (h : DN x c q) : S_bits x = zL ((q + 1075) * 4503599627370496 + ((c : Int) - 4503599627370496)) := by
  unfold S_bits; rw [if_neg (DN_ne0 h), h.1]
theorem dmean_DOK {s : Int} (h : 0 ≤ s ∧ s ≤ 4900) : DOK (dmean s) := by
  by_cases e : s = 0
  · rw [e]; exact Or.inl dmean_0
  · exact Or.inr (dmean_ok (by omega))
theorem D_d2l {x : UInt64} {c : Nat} (h : FP.Core.val64 x = Dfin c 0) (hc : c < 9007199254740992) : FP.d2l x = zL (c : Int) := by
  show Int64.ofInt (FP.Core.toInt (-2 ^ 63) (2 ^ 63 - 1) (FP.Core.val64 x)) = Int64.ofInt (c : Int)
  rw [h]
  congr 1
  show max (-2 ^ 63 : Int) (min (2 ^ 63 - 1) ((c * 1 / 1 : Nat) : Int)) = (c : Int)
  rw [Nat.mul_one, Nat.div_one]; omega
theorem zL_add (a b : Int) : zL a + zL b = zL (a + b) := (Int64.ofInt_add a b).symm
theorem zL_sub (a b : Int) : zL a - zL b = zL (a - b) := (Int64.ofInt_sub a b).symm
theorem zL_mul (a b : Int) : zL a * zL b = zL (a * b) := (Int64.ofInt_mul a b).symm
theorem zL_sh {e : Int} (h : 1000 ≤ e ∧ e ≤ 1050) : zL e <<< ((zI 52).toInt64 &&& 63) = zL (e * 4503599627370496) := by
  have key : ∀ k : Fin 51, zL (1000 + (k.val : Int)) <<< ((zI 52).toInt64 &&& 63) = zL ((1000 + (k.val : Int)) * 4503599627370496) := by decide +kernel
  have := key ⟨(e - 1000).toNat, by omega⟩
  rw [show (1000 : Int) + (((e - 1000).toNat : Nat) : Int) = e by omega] at this
  exact this
