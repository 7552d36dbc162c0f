/-! MORE ROWS over whole numbers -/
def zmax (a b : Int) : Int := if a < b then b else a
def zmin (a b : Int) : Int := if b < a then b else a
def zabs (a : Int) : Int := if 0 ≤ a then a else 0 - a
theorem zmax_spec (a b : Int) : a ≤ zmax a b ∧ b ≤ zmax a b ∧ (zmax a b = a ∨ zmax a b = b) := by unfold zmax; split <;> omega
theorem zmin_spec (a b : Int) : zmin a b ≤ a ∧ zmin a b ≤ b ∧ (zmin a b = a ∨ zmin a b = b) := by unfold zmin; split <;> omega
theorem zabs_spec (a : Int) : 0 ≤ zabs a ∧ (zabs a = a ∨ zabs a = -a) := by unfold zabs; split <;> omega
def zcpy (f g : IA) (sp dp n : Int) : IA := fun k => if dp ≤ k ∧ k < dp + n then f (sp + (k - dp)) else g k
def zfill (f : IA) (n : Nat) (v : Int) : IA := fun k => if 0 ≤ k ∧ k < n then v else f k
theorem zcpy_eq {f g : IA} {sp dp n : Int} (h1 : 0 ≤ sp) (h2 : 0 ≤ dp) (h3 : 0 ≤ n) (h4 : sp < 2147483648) (h5 : dp < 2147483648) (h6 : n < 2147483648) : va_cpy (zF f) (zF g) (zI sp).toNatClampNeg (zI dp).toNatClampNeg (zI n).toNatClampNeg = zF (zcpy f g sp dp n) := by
  rw [zI_cl h1 h4, zI_cl h2 h5, zI_cl h3 h6]
  funext k
  show (if dp.toNat ≤ k ∧ k < dp.toNat + n.toNat then zI (f ((sp.toNat + (k - dp.toNat) : Nat) : Int)) else zI (g (k : Int))) = zI (if dp ≤ (k : Int) ∧ (k : Int) < dp + n then f (sp + ((k : Int) - dp)) else g (k : Int))
  by_cases h : dp.toNat ≤ k ∧ k < dp.toNat + n.toNat
  · rw [if_pos h, if_pos (by omega)]
    congr 2
    omega
  · rw [if_neg h, if_neg (by omega)]
theorem zL_of {a : Int} (h : z32 a) : (zI a).toInt64 = zL a := by
  refine Int64.toInt_inj.mp ?_
  rw [Int32.toInt_toInt64, zI_toInt h]
  exact (Int64.toInt_ofInt_of_le (by have := h.1; omega) (by have := h.2; omega)).symm
theorem bI_fit (b : Bool) : fits .boolean (.int (bI b)) = true := by cases b <;> rfl
theorem zb_neg {v : Bool} {P : Prop} (h : v = true ↔ P) (c : v = false) : ¬ P := fun q => by rw [h.mpr q] at c; cases c
section ZM
variable {p : Program} {l : Launch} {e : Env} {R : Room} {s : State} {m : MethodId} {args : Array Value} {below : List Frame} {meth : Method} {c : Code} {H : Heap} {locs : List Loc} {cells slots : Nat} {Q : State → Prop}
variable {cc : ByteArray} {pc : Nat} {ls : Array Slot} {rest : List Value}
theorem z_ti (hx : p.tables.exec = Jvm.exec) (hb : c.code = cc) {t N : Nat} {f : IA} {A : Nat → Prop} (hT : va_T .int t N (fun j => .int (zF f j)) A s s.heap) (hS : va_S A s.heap H locs) {i : Int} (hi : (0 ≤ i ∧ i < N) ∧ N < 2147483648) (hdg : decode cc pc = .ok (.iaload, 1)) (kk : W p l e R s m args below meth c H locs cells slots Q (F0 m (pc + 1) ls (.int (zI (f i)) :: rest))) : W p l e R s m args below meth c H locs cells slots Q (F0 m pc ls (.int (zI i) :: .ref t :: rest)) :=
  va_ti hx hb hT hS (zI_in hi.1.1 hi.1.2 hi.2) (v := .int (zI (f i))) (by show Value.int (zF f _) = _; rw [zF_at hi.1.1 (by omega)]) hdg kk
theorem z_mmax (hexec : p.tables.exec = Jvm.exec) (hb : c.code = cc) (hml : c.maxLocals = ls.size) {own : String} {index : Nat} (hown : s.vm.findClass own = some m.cls) (hlink : (Cond.methodLink own index Lib.Math.max.name).before args s = true) (hstat : (Cond.static Lib.Math.max.name).before args s = true) (hini : (Cond.initialized "java/lang/Math").before args s = true) (hcode : (Cond.code Lib.Math.max.name Lib.Math.max.code 2 (some .int)).before args s = true)
    (hframes : 1 ≤ R.frames) (hlocals : (rest.map fun v => v.category).sum + 13 ≤ R.locals) (hc : cells ≤ R.cells) (hs : slots ≤ R.slots) {x y : Int} (h1 : z32 x) (h2 : z32 y) (hdg : decode cc pc = .ok (.invokestatic index, 3))
    (kk : W p l e R s m args below meth c H locs cells slots Q (F0 m (pc + 3) ls (.int (zI (zmax x y)) :: rest))) : W p l e R s m args below meth c H locs cells slots Q (F0 m pc ls (.int (zI y) :: .int (zI x) :: rest)) := by
  refine va_mmax hexec hb hml hown hlink hstat hini hcode hframes hlocals hc hs hdg ?_
  rw [show (if zI x < zI y then zI y else zI x) = zI (zmax x y) by unfold zmax; simp only [zI_lt h1 h2]; split <;> rfl]
  exact kk
theorem z_mmin (hexec : p.tables.exec = Jvm.exec) (hb : c.code = cc) (hml : c.maxLocals = ls.size) {own : String} {index : Nat} (hown : s.vm.findClass own = some m.cls) (hlink : (Cond.methodLink own index Lib.Math.min.name).before args s = true) (hstat : (Cond.static Lib.Math.min.name).before args s = true) (hini : (Cond.initialized "java/lang/Math").before args s = true) (hcode : (Cond.code Lib.Math.min.name Lib.Math.min.code 2 (some .int)).before args s = true)
    (hframes : 1 ≤ R.frames) (hlocals : (rest.map fun v => v.category).sum + 13 ≤ R.locals) (hc : cells ≤ R.cells) (hs : slots ≤ R.slots) {x y : Int} (h1 : z32 x) (h2 : z32 y) (hdg : decode cc pc = .ok (.invokestatic index, 3))
    (kk : W p l e R s m args below meth c H locs cells slots Q (F0 m (pc + 3) ls (.int (zI (zmin x y)) :: rest))) : W p l e R s m args below meth c H locs cells slots Q (F0 m pc ls (.int (zI y) :: .int (zI x) :: rest)) := by
  refine va_mmin hexec hb hml hown hlink hstat hini hcode hframes hlocals hc hs hdg ?_
  rw [show (if zI y < zI x then zI y else zI x) = zI (zmin x y) by unfold zmin; simp only [zI_lt h2 h1]; split <;> rfl]
  exact kk
theorem z_mabs (hexec : p.tables.exec = Jvm.exec) (hb : c.code = cc) (hml : c.maxLocals = ls.size) {own : String} {index : Nat} (hown : s.vm.findClass own = some m.cls) (hlink : (Cond.methodLink own index Lib.Math.abs.name).before args s = true) (hstat : (Cond.static Lib.Math.abs.name).before args s = true) (hini : (Cond.initialized "java/lang/Math").before args s = true) (hcode : (Cond.code Lib.Math.abs.name Lib.Math.abs.code 1 (some .int)).before args s = true)
    (hframes : 1 ≤ R.frames) (hlocals : (rest.map fun v => v.category).sum + 13 ≤ R.locals) (hc : cells ≤ R.cells) (hs : slots ≤ R.slots) {x : Int} (h1 : z32 x) (hdg : decode cc pc = .ok (.invokestatic index, 3))
    (kk : W p l e R s m args below meth c H locs cells slots Q (F0 m (pc + 3) ls (.int (zI (zabs x)) :: rest))) : W p l e R s m args below meth c H locs cells slots Q (F0 m pc ls (.int (zI x) :: rest)) := by
  refine va_mabs hexec hb hml hown hlink hstat hini hcode hframes hlocals hc hs hdg ?_
  rw [show (if 0 ≤ zI x then zI x else 0 - zI x) = zI (zabs x) by
    unfold zabs; rw [show (0 : Int32) = zI 0 from rfl, zI_sub]; simp only [zI_le (a := 0) (by decide) h1]; split <;> rfl]
  exact kk
theorem z_copyi (hexec : p.tables.exec = Jvm.exec) (hb : c.code = cc) (hml : c.maxLocals = ls.size) {own : String} {index : Nat} (hown : s.vm.findClass own = some m.cls) (hlink : (Cond.methodLink own index arraycopyName).before args s = true) (hnat : (Cond.native arraycopyName).before args s = true) (hstat : (Cond.static arraycopyName).before args s = true) (hini : (Cond.initialized "java/lang/System").before args s = true)
    {D : va_G} {cl : List vw_C} {ws : va_W} {tys : List (ClassId × FieldType)} {A : Nat → Prop} {H0 : Heap} {a : Nat} (hK : va_K D cl tys s) (hP : va_P D cl ws H) (hD : va_D A ws) (hS : va_S A H0 H locs) (q0 q1 t0 t1 : Nat) {a0 : Nat} {c0 c1 : ClassId} {n0 n1 : Nat} {f g : IA} (ha0 : ws[q0]? = some (a0, .inl (c0, n0, .inl (zF f)))) (ha1 : ws[q1]? = some (a, .inl (c1, n1, .inl (zF g)))) (ht0 : tys[t0]? = some (c0, .int)) (ht1 : tys[t1]? = some (c1, .int))
    {sp dp n : Int} (h : 0 ≤ sp ∧ 0 ≤ dp ∧ 0 ≤ n ∧ (sp + n ≤ n0 ∧ dp + n ≤ n1) ∧ n0 < 2147483648 ∧ n1 < 2147483648)
    (hframes : 1 ≤ R.frames) (hlocals : (rest.map fun v => v.category).sum + (nativeFrameWords "java/lang/System" "arraycopy" 5 + 11) ≤ R.locals) (hdg : decode cc pc = .ok (.invokestatic index, 3))
    (kk : ∀ (H1 : Heap) (locs1 : List Loc), va_P D cl (ws.set q1 (a, .inl (c1, n1, .inl (zF (zcpy f g sp dp n))))) H1 → va_D A (ws.set q1 (a, .inl (c1, n1, .inl (zF (zcpy f g sp dp n))))) → va_S A H0 H1 locs1 → W p l e R s m args below meth c H1 locs1 cells slots Q (F0 m (pc + 3) ls rest)) : W p l e R s m args below meth c H locs cells slots Q (F0 m pc ls (.int (zI n) :: .int (zI dp) :: .ref a :: .int (zI sp) :: .ref a0 :: rest)) := by
  obtain ⟨h1, h2, h3, ⟨h4, h5⟩, h6, h7⟩ := h
  have e := zcpy_eq (f := f) (g := g) h1 h2 h3 (by omega) (by omega) (by omega)
  refine va_copyi hexec hb hml hown hlink hnat hstat hini hK hP hD hS q0 q1 t0 t1 ha0 ha1 ht0 ht1 rfl ?_ ?_ ?_ ?_ ?_ (fun i hi => rfl) hframes hlocals hdg ?_
  · rw [zI_lt0 ⟨by omega, by omega⟩]; omega
  · rw [zI_lt0 ⟨by omega, by omega⟩]; omega
  · rw [zI_lt0 ⟨by omega, by omega⟩]; omega
  · rw [zI_cl h1 (by omega), zI_cl h3 (by omega)]; omega
  · rw [zI_cl h2 (by omega), zI_cl h3 (by omega)]; omega
  · rw [e]; exact kk
end ZM
