/-! INTS OF THE MACHINE AS WHOLE NUMBERS: zI, bI, and rows over them -/
def zI (a : Int) : Int32 := Int32.ofInt a
def bI (b : Bool) : Int32 := if b = true then 1 else 0
def zL (a : Int) : Int64 := Int64.ofInt a
abbrev z32 (a : Int) : Prop := -2147483648 ≤ a ∧ a < 2147483648
abbrev IA : Type := Int → Int
abbrev BA : Type := Int → Bool
def zF (f : IA) : Nat → Int32 := fun k => zI (f (k : Int))
def bF (f : BA) : Nat → Int32 := fun k => bI (f (k : Int))
def zu (f : IA) (i v : Int) : IA := fun k => if k = i then v else f k
def bu (f : BA) (i : Int) (v : Bool) : BA := fun k => if k = i then v else f k
theorem zI_toInt {a : Int} (h : z32 a) : (zI a).toInt = a := Int32.toInt_ofInt_of_le (by simpa using h.1) (by simpa using h.2)
theorem zI_of (x : Int32) : x = zI x.toInt := (Int32.ofInt_toInt x).symm
theorem zI_rng (x : Int32) : z32 x.toInt := ⟨by simpa using Int32.le_toInt x, by simpa using Int32.toInt_lt x⟩
theorem zI_inj {a b : Int} (ha : z32 a) (hb : z32 b) : zI a = zI b ↔ a = b := ⟨fun h => by rw [← zI_toInt ha, ← zI_toInt hb, h], fun h => by rw [h]⟩
theorem zI_le {a b : Int} (ha : z32 a) (hb : z32 b) : zI a ≤ zI b ↔ a ≤ b := by rw [Int32.le_iff_toInt_le, zI_toInt ha, zI_toInt hb]
theorem zI_lt {a b : Int} (ha : z32 a) (hb : z32 b) : zI a < zI b ↔ a < b := by rw [Int32.lt_iff_toInt_lt, zI_toInt ha, zI_toInt hb]
theorem zI_add (a b : Int) : zI a + zI b = zI (a + b) := (Int32.ofInt_add a b).symm
theorem zI_sub (a b : Int) : zI a - zI b = zI (a - b) := (Int32.ofInt_sub a b).symm
theorem zI_mul (a b : Int) : zI a * zI b = zI (a * b) := (Int32.ofInt_mul a b).symm
theorem zI_neg (a : Int) : - zI a = zI (-a) := (Int32.ofInt_neg a).symm
theorem zI_0 : (0 : Int32) = zI 0 := rfl
theorem zI_1 : (1 : Int32) = zI 1 := rfl
theorem zI_tr : zI 1 = bI true := rfl
theorem zI_fa : zI 0 = bI false := rfl
theorem zI_div {a b : Int} (ha : 0 ≤ a) (ha2 : a < 2147483648) (hb : 0 < b) (hb2 : b < 2147483648) : zI a / zI b = zI (a / b) := by
  have h0 : 0 ≤ a / b := Int.ediv_nonneg ha (Int.le_of_lt hb)
  have h1 : a / b ≤ a := Int.ediv_le_self b ha
  refine Int32.toInt_inj.mp ?_
  rw [Int32.toInt_div_of_ne_right _ _ (fun h => ?_), zI_toInt ⟨by omega, ha2⟩, zI_toInt ⟨by omega, hb2⟩, zI_toInt ⟨by omega, by omega⟩, Int.tdiv_eq_ediv_of_nonneg ha]
  have h2 := congrArg Int32.toInt h
  rw [zI_toInt ⟨by omega, hb2⟩] at h2
  have h3 : (-1 : Int32).toInt = -1 := by decide
  omega
theorem zI_rem {a b : Int} (ha : 0 ≤ a) (ha2 : a < 2147483648) (hb : 0 < b) (hb2 : b < 2147483648) : zI a - zI a / zI b * zI b = zI (a % b) := by
  rw [zI_div ha ha2 hb hb2, zI_mul, zI_sub]
  congr 1
  have h := Int.emod_def a b
  rw [h, Int.mul_comm]
theorem zI_cl {a : Int} (h0 : 0 ≤ a) (h1 : a < 2147483648) : (zI a).toNatClampNeg = a.toNat := by
  have h := zI_toInt (a := a) ⟨by omega, h1⟩
  show (zI a).toInt.toNat = a.toNat
  rw [h]
theorem zI_lt0 {a : Int} (h : z32 a) : zI a < 0 ↔ a < 0 := by rw [zI_0]; exact zI_lt h (by decide)
theorem zI_eq0 {a : Int} (h : z32 a) : zI a = 0 ↔ a = 0 := by rw [zI_0]; exact zI_inj h (by decide)
theorem zI_in {a : Int} {n : Nat} (h0 : 0 ≤ a) (h1 : a < n) (hn : n < 2147483648) : vp_in (zI a) n := by
  rintro (h | h)
  · rw [zI_lt0 ⟨by omega, by omega⟩] at h; omega
  · rw [zI_cl h0 (by omega)] at h; omega
theorem bI_eq0 {b : Bool} : bI b = 0 ↔ b = false := by cases b <;> decide
theorem bI_inj {a b : Bool} : bI a = bI b ↔ a = b := by cases a <;> cases b <;> decide
theorem bI_zI (b : Bool) : bI b = zI (if b = true then 1 else 0) := by cases b <;> rfl
theorem bI_nar (b : Bool) : narrow .boolean (.int (bI b)) = .int (bI b) := by cases b <;> rfl
theorem bI_vn (b : Bool) : vp_nar .boolean (bI b) = bI b := by cases b <;> rfl
theorem zI_b8 {n : Int} (h : -128 ≤ n ∧ n < 128) : (Int8.ofInt n).toInt32 = zI n := by
  refine Int32.toInt_inj.mp ?_
  rw [Int8.toInt_toInt32, zI_toInt ⟨by omega, by omega⟩]
  exact Int8.toInt_ofInt_of_le (by simpa using h.1) (by simpa using h.2)
theorem zI_b16 {n : Int} (h : -32768 ≤ n ∧ n < 32768) : (Int16.ofInt n).toInt32 = zI n := by
  refine Int32.toInt_inj.mp ?_
  rw [Int16.toInt_toInt32, zI_toInt ⟨by omega, by omega⟩]
  exact Int16.toInt_ofInt_of_le (by simpa using h.1) (by simpa using h.2)
theorem zF_at {f : IA} {i : Int} (h0 : 0 ≤ i) (h1 : i < 2147483648) : zF f (zI i).toNatClampNeg = zI (f i) := by
  rw [zI_cl h0 h1]; show zI (f ((i.toNat : Nat) : Int)) = _; rw [Int.toNat_of_nonneg h0]
theorem bF_at {f : BA} {i : Int} (h0 : 0 ≤ i) (h1 : i < 2147483648) : bF f (zI i).toNatClampNeg = bI (f i) := by
  rw [zI_cl h0 h1]; show bI (f ((i.toNat : Nat) : Int)) = _; rw [Int.toNat_of_nonneg h0]
theorem zF_up {f : IA} {i v : Int} (h0 : 0 ≤ i) (h1 : i < 2147483648) : upd (zF f) (zI i).toNatClampNeg (zI v) = zF (zu f i v) := by
  funext k
  rw [zI_cl h0 h1]
  show (if k = i.toNat then zI v else zI (f (k : Int))) = zI (if (k : Int) = i then v else f (k : Int))
  by_cases h : k = i.toNat
  · rw [if_pos h, if_pos (by omega)]
  · rw [if_neg h, if_neg (by omega)]
theorem bF_up {f : BA} {i : Int} {v : Bool} (h0 : 0 ≤ i) (h1 : i < 2147483648) : upd (bF f) (zI i).toNatClampNeg (vp_nar .boolean (bI v)) = bF (bu f i v) := by
  funext k
  rw [zI_cl h0 h1, bI_vn]
  show (if k = i.toNat then bI v else bI (f (k : Int))) = bI (if (k : Int) = i then v else f (k : Int))
  by_cases h : k = i.toNat
  · rw [if_pos h, if_pos (by omega)]
  · rw [if_neg h, if_neg (by omega)]
section ZR
variable {p : Program} {l : Launch} {e : Env} {R : Room} {s : State} {m : MethodId} {args : Array Value} {below : List Frame} {meth : Method} {c : Code} {H : Heap} {locs : List Loc} {cells slots : Nat} {Q : State → Prop}
variable {cc : ByteArray} {pc : Nat} {ls : Array Slot} {rest : List Value}
theorem z_iadd (hx : p.tables.exec = Jvm.exec) (hb : c.code = cc) {a b : Int} (hdg : decode cc pc = .ok (.iadd, 1)) (k : W p l e R s m args below meth c H locs cells slots Q (F0 m (pc + 1) ls (.int (zI (a + b)) :: rest))) : W p l e R s m args below meth c H locs cells slots Q (F0 m pc ls (.int (zI b) :: .int (zI a) :: rest)) := lv_iadd hx hb hdg (by rw [zI_add]; exact k)
theorem z_isub (hx : p.tables.exec = Jvm.exec) (hb : c.code = cc) {a b : Int} (hdg : decode cc pc = .ok (.isub, 1)) (k : W p l e R s m args below meth c H locs cells slots Q (F0 m (pc + 1) ls (.int (zI (a - b)) :: rest))) : W p l e R s m args below meth c H locs cells slots Q (F0 m pc ls (.int (zI b) :: .int (zI a) :: rest)) := lv_isub hx hb hdg (by rw [zI_sub]; exact k)
theorem z_imul (hx : p.tables.exec = Jvm.exec) (hb : c.code = cc) {a b : Int} (hdg : decode cc pc = .ok (.imul, 1)) (k : W p l e R s m args below meth c H locs cells slots Q (F0 m (pc + 1) ls (.int (zI (a * b)) :: rest))) : W p l e R s m args below meth c H locs cells slots Q (F0 m pc ls (.int (zI b) :: .int (zI a) :: rest)) := lv_imul hx hb hdg (by rw [zI_mul]; exact k)
theorem z_ineg (hx : p.tables.exec = Jvm.exec) (hb : c.code = cc) {a : Int} (hdg : decode cc pc = .ok (.ineg, 1)) (k : W p l e R s m args below meth c H locs cells slots Q (F0 m (pc + 1) ls (.int (zI (-a)) :: rest))) : W p l e R s m args below meth c H locs cells slots Q (F0 m pc ls (.int (zI a) :: rest)) := lv_ineg hx hb hdg (by rw [zI_neg]; exact k)
theorem z_idiv (hx : p.tables.exec = Jvm.exec) (hb : c.code = cc) {a b : Int} (h : (0 ≤ a ∧ a < 2147483648) ∧ 0 < b ∧ b < 2147483648) (hdg : decode cc pc = .ok (.idiv, 1)) (k : W p l e R s m args below meth c H locs cells slots Q (F0 m (pc + 1) ls (.int (zI (a / b)) :: rest))) : W p l e R s m args below meth c H locs cells slots Q (F0 m pc ls (.int (zI b) :: .int (zI a) :: rest)) := lv_idiv hx hb hdg (fun q => by rw [zI_eq0 ⟨by omega, by omega⟩] at q; omega) (by rw [zI_div h.1.1 h.1.2 h.2.1 h.2.2]; exact k)
theorem z_irem (hx : p.tables.exec = Jvm.exec) (hb : c.code = cc) {a b : Int} (h : (0 ≤ a ∧ a < 2147483648) ∧ 0 < b ∧ b < 2147483648) (hdg : decode cc pc = .ok (.irem, 1)) (k : W p l e R s m args below meth c H locs cells slots Q (F0 m (pc + 1) ls (.int (zI (a % b)) :: rest))) : W p l e R s m args below meth c H locs cells slots Q (F0 m pc ls (.int (zI b) :: .int (zI a) :: rest)) := lv_irem hx hb hdg (fun q => by rw [zI_eq0 ⟨by omega, by omega⟩] at q; omega) (by rw [zI_rem h.1.1 h.1.2 h.2.1 h.2.2]; exact k)
theorem z_ifeq (hx : p.tables.exec = Jvm.exec) (hb : c.code = cc) {a : Int} (ha : z32 a) {off : Int} {tgt : Nat} (hdg : decode cc pc = .ok (.ifCond .eq off, 3)) (ht : (pc : Int) + off = (tgt : Int)) (kt : a = 0 → W p l e R s m args below meth c H locs cells slots Q (F0 m tgt ls rest)) (kf : ¬ a = 0 → W p l e R s m args below meth c H locs cells slots Q (F0 m (pc + 3) ls rest)) : W p l e R s m args below meth c H locs cells slots Q (F0 m pc ls (.int (zI a) :: rest)) := lv_if_eq hx hb hdg ht (fun q => kt ((zI_eq0 ha).mp q)) (fun q => kf (fun r => q ((zI_eq0 ha).mpr r)))
theorem z_ifne (hx : p.tables.exec = Jvm.exec) (hb : c.code = cc) {a : Int} (ha : z32 a) {off : Int} {tgt : Nat} (hdg : decode cc pc = .ok (.ifCond .ne off, 3)) (ht : (pc : Int) + off = (tgt : Int)) (kt : ¬ a = 0 → W p l e R s m args below meth c H locs cells slots Q (F0 m tgt ls rest)) (kf : a = 0 → W p l e R s m args below meth c H locs cells slots Q (F0 m (pc + 3) ls rest)) : W p l e R s m args below meth c H locs cells slots Q (F0 m pc ls (.int (zI a) :: rest)) := lv_if_ne hx hb hdg ht (fun q => kt (fun r => q ((zI_eq0 ha).mpr r))) (fun q => kf ((zI_eq0 ha).mp q))
theorem z_ifeqB (hx : p.tables.exec = Jvm.exec) (hb : c.code = cc) {a : Bool} {off : Int} {tgt : Nat} (hdg : decode cc pc = .ok (.ifCond .eq off, 3)) (ht : (pc : Int) + off = (tgt : Int)) (kt : a = false → W p l e R s m args below meth c H locs cells slots Q (F0 m tgt ls rest)) (kf : a = true → W p l e R s m args below meth c H locs cells slots Q (F0 m (pc + 3) ls rest)) : W p l e R s m args below meth c H locs cells slots Q (F0 m pc ls (.int (bI a) :: rest)) := lv_if_eq hx hb hdg ht (fun q => kt (bI_eq0.mp q)) (fun q => kf (by cases a; exact absurd rfl q; rfl))
theorem z_ifneB (hx : p.tables.exec = Jvm.exec) (hb : c.code = cc) {a : Bool} {off : Int} {tgt : Nat} (hdg : decode cc pc = .ok (.ifCond .ne off, 3)) (ht : (pc : Int) + off = (tgt : Int)) (kt : a = true → W p l e R s m args below meth c H locs cells slots Q (F0 m tgt ls rest)) (kf : a = false → W p l e R s m args below meth c H locs cells slots Q (F0 m (pc + 3) ls rest)) : W p l e R s m args below meth c H locs cells slots Q (F0 m pc ls (.int (bI a) :: rest)) := lv_if_ne hx hb hdg ht (fun q => kt (by cases a; exact absurd rfl q; rfl)) (fun q => kf (bI_eq0.mp q))
theorem z_iflt (hx : p.tables.exec = Jvm.exec) (hb : c.code = cc) {a : Int} (ha : z32 a) {off : Int} {tgt : Nat} (hdg : decode cc pc = .ok (.ifCond .lt off, 3)) (ht : (pc : Int) + off = (tgt : Int)) (kt : a < 0 → W p l e R s m args below meth c H locs cells slots Q (F0 m tgt ls rest)) (kf : 0 ≤ a → W p l e R s m args below meth c H locs cells slots Q (F0 m (pc + 3) ls rest)) : W p l e R s m args below meth c H locs cells slots Q (F0 m pc ls (.int (zI a) :: rest)) := by
  have h0 : z32 0 := by decide
  refine lv_if_lt hx hb hdg ht (fun q => kt ?_) (fun q => kf ?_) <;> simp only [zI_0, zI_lt ha h0, zI_lt h0 ha, zI_le ha h0, zI_le h0 ha] at q <;> omega
theorem z_ifge (hx : p.tables.exec = Jvm.exec) (hb : c.code = cc) {a : Int} (ha : z32 a) {off : Int} {tgt : Nat} (hdg : decode cc pc = .ok (.ifCond .ge off, 3)) (ht : (pc : Int) + off = (tgt : Int)) (kt : 0 ≤ a → W p l e R s m args below meth c H locs cells slots Q (F0 m tgt ls rest)) (kf : a < 0 → W p l e R s m args below meth c H locs cells slots Q (F0 m (pc + 3) ls rest)) : W p l e R s m args below meth c H locs cells slots Q (F0 m pc ls (.int (zI a) :: rest)) := by
  have h0 : z32 0 := by decide
  refine lv_if_ge hx hb hdg ht (fun q => kt ?_) (fun q => kf ?_) <;> simp only [zI_0, zI_lt ha h0, zI_lt h0 ha, zI_le ha h0, zI_le h0 ha] at q <;> omega
theorem z_ifgt (hx : p.tables.exec = Jvm.exec) (hb : c.code = cc) {a : Int} (ha : z32 a) {off : Int} {tgt : Nat} (hdg : decode cc pc = .ok (.ifCond .gt off, 3)) (ht : (pc : Int) + off = (tgt : Int)) (kt : 0 < a → W p l e R s m args below meth c H locs cells slots Q (F0 m tgt ls rest)) (kf : a ≤ 0 → W p l e R s m args below meth c H locs cells slots Q (F0 m (pc + 3) ls rest)) : W p l e R s m args below meth c H locs cells slots Q (F0 m pc ls (.int (zI a) :: rest)) := by
  have h0 : z32 0 := by decide
  refine lv_if_gt hx hb hdg ht (fun q => kt ?_) (fun q => kf ?_) <;> simp only [zI_0, zI_lt ha h0, zI_lt h0 ha, zI_le ha h0, zI_le h0 ha] at q <;> omega
theorem z_ifle (hx : p.tables.exec = Jvm.exec) (hb : c.code = cc) {a : Int} (ha : z32 a) {off : Int} {tgt : Nat} (hdg : decode cc pc = .ok (.ifCond .le off, 3)) (ht : (pc : Int) + off = (tgt : Int)) (kt : a ≤ 0 → W p l e R s m args below meth c H locs cells slots Q (F0 m tgt ls rest)) (kf : 0 < a → W p l e R s m args below meth c H locs cells slots Q (F0 m (pc + 3) ls rest)) : W p l e R s m args below meth c H locs cells slots Q (F0 m pc ls (.int (zI a) :: rest)) := by
  have h0 : z32 0 := by decide
  refine lv_if_le hx hb hdg ht (fun q => kt ?_) (fun q => kf ?_) <;> simp only [zI_0, zI_lt ha h0, zI_lt h0 ha, zI_le ha h0, zI_le h0 ha] at q <;> omega
theorem z_iclt (hx : p.tables.exec = Jvm.exec) (hb : c.code = cc) {a b : Int} (ha : z32 a) (hb2 : z32 b) {off : Int} {tgt : Nat} (hdg : decode cc pc = .ok (.if_icmp .lt off, 3)) (ht : (pc : Int) + off = (tgt : Int)) (kt : a < b → W p l e R s m args below meth c H locs cells slots Q (F0 m tgt ls rest)) (kf : b ≤ a → W p l e R s m args below meth c H locs cells slots Q (F0 m (pc + 3) ls rest)) : W p l e R s m args below meth c H locs cells slots Q (F0 m pc ls (.int (zI b) :: .int (zI a) :: rest)) := by
  refine lv_icmp_lt hx hb hdg ht (fun q => kt ?_) (fun q => kf ?_) <;> simp only [zI_lt ha hb2, zI_lt hb2 ha, zI_le ha hb2, zI_le hb2 ha, zI_inj ha hb2] at q <;> omega
theorem z_icge (hx : p.tables.exec = Jvm.exec) (hb : c.code = cc) {a b : Int} (ha : z32 a) (hb2 : z32 b) {off : Int} {tgt : Nat} (hdg : decode cc pc = .ok (.if_icmp .ge off, 3)) (ht : (pc : Int) + off = (tgt : Int)) (kt : b ≤ a → W p l e R s m args below meth c H locs cells slots Q (F0 m tgt ls rest)) (kf : a < b → W p l e R s m args below meth c H locs cells slots Q (F0 m (pc + 3) ls rest)) : W p l e R s m args below meth c H locs cells slots Q (F0 m pc ls (.int (zI b) :: .int (zI a) :: rest)) := by
  refine lv_icmp_ge hx hb hdg ht (fun q => kt ?_) (fun q => kf ?_) <;> simp only [zI_lt ha hb2, zI_lt hb2 ha, zI_le ha hb2, zI_le hb2 ha, zI_inj ha hb2] at q <;> omega
theorem z_icgt (hx : p.tables.exec = Jvm.exec) (hb : c.code = cc) {a b : Int} (ha : z32 a) (hb2 : z32 b) {off : Int} {tgt : Nat} (hdg : decode cc pc = .ok (.if_icmp .gt off, 3)) (ht : (pc : Int) + off = (tgt : Int)) (kt : b < a → W p l e R s m args below meth c H locs cells slots Q (F0 m tgt ls rest)) (kf : a ≤ b → W p l e R s m args below meth c H locs cells slots Q (F0 m (pc + 3) ls rest)) : W p l e R s m args below meth c H locs cells slots Q (F0 m pc ls (.int (zI b) :: .int (zI a) :: rest)) := by
  refine lv_icmp_gt hx hb hdg ht (fun q => kt ?_) (fun q => kf ?_) <;> simp only [zI_lt ha hb2, zI_lt hb2 ha, zI_le ha hb2, zI_le hb2 ha, zI_inj ha hb2] at q <;> omega
theorem z_icle (hx : p.tables.exec = Jvm.exec) (hb : c.code = cc) {a b : Int} (ha : z32 a) (hb2 : z32 b) {off : Int} {tgt : Nat} (hdg : decode cc pc = .ok (.if_icmp .le off, 3)) (ht : (pc : Int) + off = (tgt : Int)) (kt : a ≤ b → W p l e R s m args below meth c H locs cells slots Q (F0 m tgt ls rest)) (kf : b < a → W p l e R s m args below meth c H locs cells slots Q (F0 m (pc + 3) ls rest)) : W p l e R s m args below meth c H locs cells slots Q (F0 m pc ls (.int (zI b) :: .int (zI a) :: rest)) := by
  refine lv_icmp_le hx hb hdg ht (fun q => kt ?_) (fun q => kf ?_) <;> simp only [zI_lt ha hb2, zI_lt hb2 ha, zI_le ha hb2, zI_le hb2 ha, zI_inj ha hb2] at q <;> omega
theorem z_iceq (hx : p.tables.exec = Jvm.exec) (hb : c.code = cc) {a b : Int} (ha : z32 a) (hb2 : z32 b) {off : Int} {tgt : Nat} (hdg : decode cc pc = .ok (.if_icmp .eq off, 3)) (ht : (pc : Int) + off = (tgt : Int)) (kt : a = b → W p l e R s m args below meth c H locs cells slots Q (F0 m tgt ls rest)) (kf : ¬ a = b → W p l e R s m args below meth c H locs cells slots Q (F0 m (pc + 3) ls rest)) : W p l e R s m args below meth c H locs cells slots Q (F0 m pc ls (.int (zI b) :: .int (zI a) :: rest)) := by
  refine lv_icmp_eq hx hb hdg ht (fun q => kt ?_) (fun q => kf ?_) <;> simp only [zI_lt ha hb2, zI_lt hb2 ha, zI_le ha hb2, zI_le hb2 ha, zI_inj ha hb2] at q <;> omega
theorem z_icne (hx : p.tables.exec = Jvm.exec) (hb : c.code = cc) {a b : Int} (ha : z32 a) (hb2 : z32 b) {off : Int} {tgt : Nat} (hdg : decode cc pc = .ok (.if_icmp .ne off, 3)) (ht : (pc : Int) + off = (tgt : Int)) (kt : ¬ a = b → W p l e R s m args below meth c H locs cells slots Q (F0 m tgt ls rest)) (kf : a = b → W p l e R s m args below meth c H locs cells slots Q (F0 m (pc + 3) ls rest)) : W p l e R s m args below meth c H locs cells slots Q (F0 m pc ls (.int (zI b) :: .int (zI a) :: rest)) := by
  refine lv_icmp_ne hx hb hdg ht (fun q => kt ?_) (fun q => kf ?_) <;> simp only [zI_lt ha hb2, zI_lt hb2 ha, zI_le ha hb2, zI_le hb2 ha, zI_inj ha hb2] at q <;> omega
theorem z_iceqB (hx : p.tables.exec = Jvm.exec) (hb : c.code = cc) {a b : Bool} {off : Int} {tgt : Nat} (hdg : decode cc pc = .ok (.if_icmp .eq off, 3)) (ht : (pc : Int) + off = (tgt : Int)) (kt : a = b → W p l e R s m args below meth c H locs cells slots Q (F0 m tgt ls rest)) (kf : ¬ a = b → W p l e R s m args below meth c H locs cells slots Q (F0 m (pc + 3) ls rest)) : W p l e R s m args below meth c H locs cells slots Q (F0 m pc ls (.int (bI b) :: .int (bI a) :: rest)) := lv_icmp_eq hx hb hdg ht (fun q => kt (bI_inj.mp q)) (fun q => kf (fun r => q (bI_inj.mpr r)))
theorem z_icneB (hx : p.tables.exec = Jvm.exec) (hb : c.code = cc) {a b : Bool} {off : Int} {tgt : Nat} (hdg : decode cc pc = .ok (.if_icmp .ne off, 3)) (ht : (pc : Int) + off = (tgt : Int)) (kt : ¬ a = b → W p l e R s m args below meth c H locs cells slots Q (F0 m tgt ls rest)) (kf : a = b → W p l e R s m args below meth c H locs cells slots Q (F0 m (pc + 3) ls rest)) : W p l e R s m args below meth c H locs cells slots Q (F0 m pc ls (.int (bI b) :: .int (bI a) :: rest)) := lv_icmp_ne hx hb hdg ht (fun q => kt (fun r => q (bI_inj.mpr r))) (fun q => kf (bI_inj.mp q))
theorem z_iinc (hx : p.tables.exec = Jvm.exec) (hb : c.code = cc) {i nL k : Nat} {n a v : Int} {lv lv' : List (Nat × Value)} (hdg : decode cc pc = .ok (.iinc i n, 3)) (h : lv_has ls nL lv) (hk : lv[k]? = some (i, .int (zI a))) (hv : a + n = v) (hn : i < nL) (hl : (i, Value.int (zI v)) :: lv.filter (fun q => !(q.1 == i) && !(q.1 + 1 == i && q.2.category == 2)) = lv') (kk : ∀ ls' : Array Slot, lv_has ls' nL lv' → W p l e R s m args below meth c H locs cells slots Q (F0 m (pc + 3) ls' rest)) : W p l e R s m args below meth c H locs cells slots Q (F0 m pc ls rest) := lv_iinc hx hb hdg h hk (by rw [← hv, ← zI_add]; rfl) hn hl kk
theorem z_iald (hx : p.tables.exec = Jvm.exec) (hb : c.code = cc) {D : va_G} {cl : List vw_C} {ws : va_W} {tys : List (ClassId × FieldType)} {a : Nat} (hK : va_K D cl tys s) (hP : va_P D cl ws H) (q0 t0 : Nat) {cA : ClassId} {n : Nat} {f : IA} (ha : ws[q0]? = some (a, .inl (cA, n, .inl (zF f)))) (ht : tys[t0]? = some (cA, .int)) {i : Int} (hi : (0 ≤ i ∧ i < n) ∧ n < 2147483648) (hdg : decode cc pc = .ok (.iaload, 1)) (kk : W p l e R s m args below meth c H locs cells slots Q (F0 m (pc + 1) ls (.int (zI (f i)) :: rest))) : W p l e R s m args below meth c H locs cells slots Q (F0 m pc ls (.int (zI i) :: .ref a :: rest)) := va_iald hx hb hK hP q0 t0 ha ht (zI_in hi.1.1 hi.1.2 hi.2) hdg (by rw [zF_at hi.1.1 (by omega)]; exact kk)
theorem z_zald (hx : p.tables.exec = Jvm.exec) (hb : c.code = cc) {D : va_G} {cl : List vw_C} {ws : va_W} {tys : List (ClassId × FieldType)} {a : Nat} (hK : va_K D cl tys s) (hP : va_P D cl ws H) (q0 t0 : Nat) {cA : ClassId} {n : Nat} {f : BA} (ha : ws[q0]? = some (a, .inl (cA, n, .inl (bF f)))) (ht : tys[t0]? = some (cA, .boolean)) {i : Int} (hi : (0 ≤ i ∧ i < n) ∧ n < 2147483648) (hdg : decode cc pc = .ok (.baload, 1)) (kk : W p l e R s m args below meth c H locs cells slots Q (F0 m (pc + 1) ls (.int (bI (f i)) :: rest))) : W p l e R s m args below meth c H locs cells slots Q (F0 m pc ls (.int (zI i) :: .ref a :: rest)) := va_zald hx hb hK hP q0 t0 ha ht (zI_in hi.1.1 hi.1.2 hi.2) hdg (by rw [bF_at hi.1.1 (by omega)]; exact kk)
theorem z_iast (hx : p.tables.exec = Jvm.exec) (hb : c.code = cc) {D : va_G} {cl : List vw_C} {ws : va_W} {tys : List (ClassId × FieldType)} {A : Nat → Prop} {H0 : Heap} {a : Nat} (hK : va_K D cl tys s) (hP : va_P D cl ws H) (hD : va_D A ws) (hS : va_S A H0 H locs) (q0 t0 : Nat) {cA : ClassId} {n : Nat} {f : IA} (ha : ws[q0]? = some (a, .inl (cA, n, .inl (zF f)))) (ht : tys[t0]? = some (cA, .int)) {i : Int} {v : Int} (hi : (0 ≤ i ∧ i < n) ∧ n < 2147483648) (hdg : decode cc pc = .ok (.iastore, 1)) (kk : ∀ (H1 : Heap) (locs1 : List Loc), va_P D cl (ws.set q0 (a, .inl (cA, n, .inl (zF (zu f i v))))) H1 → va_D A (ws.set q0 (a, .inl (cA, n, .inl (zF (zu f i v))))) → va_S A H0 H1 locs1 → W p l e R s m args below meth c H1 locs1 cells slots Q (F0 m (pc + 1) ls rest)) : W p l e R s m args below meth c H locs cells slots Q (F0 m pc ls (.int (zI v) :: .int (zI i) :: .ref a :: rest)) := va_iast hx hb hK hP hD hS q0 t0 ha ht (zI_in hi.1.1 hi.1.2 hi.2) hdg (by rw [zF_up hi.1.1 (by omega)]; exact kk)
theorem z_zast (hx : p.tables.exec = Jvm.exec) (hb : c.code = cc) {D : va_G} {cl : List vw_C} {ws : va_W} {tys : List (ClassId × FieldType)} {A : Nat → Prop} {H0 : Heap} {a : Nat} (hK : va_K D cl tys s) (hP : va_P D cl ws H) (hD : va_D A ws) (hS : va_S A H0 H locs) (q0 t0 : Nat) {cA : ClassId} {n : Nat} {f : BA} (ha : ws[q0]? = some (a, .inl (cA, n, .inl (bF f)))) (ht : tys[t0]? = some (cA, .boolean)) {i : Int} {v : Bool} (hi : (0 ≤ i ∧ i < n) ∧ n < 2147483648) (hdg : decode cc pc = .ok (.bastore, 1)) (kk : ∀ (H1 : Heap) (locs1 : List Loc), va_P D cl (ws.set q0 (a, .inl (cA, n, .inl (bF (bu f i v))))) H1 → va_D A (ws.set q0 (a, .inl (cA, n, .inl (bF (bu f i v))))) → va_S A H0 H1 locs1 → W p l e R s m args below meth c H1 locs1 cells slots Q (F0 m (pc + 1) ls rest)) : W p l e R s m args below meth c H locs cells slots Q (F0 m pc ls (.int (bI v) :: .int (zI i) :: .ref a :: rest)) := va_zast hx hb hK hP hD hS q0 t0 ha ht (zI_in hi.1.1 hi.1.2 hi.2) hdg (by rw [bF_up hi.1.1 (by omega)]; exact kk)
end ZR
