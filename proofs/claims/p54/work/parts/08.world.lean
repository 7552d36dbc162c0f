/-! THE WORLDS: all cells of a HillLines, all cells of a HillLinesModel, what is static -/
abbrev TRl : Type := IA × IA × IA
abbrev TRg : Type := BA × IA
abbrev TLn : Type := BA × IA × IA × BA × IA × IA × Int × Int × Int × Int
abbrev TSl : Type := IA × IA × IA
abbrev TPd : Type := IA × IA
abbrev TCt : Type := IA × Int
abbrev TSg : Type := IA
abbrev TOd : Type := IA × Int × Int × Int × Int × Int × Int
abbrev THs : Type := IA × IA × BA × Int
def wH (α : Nat → Nat) (γ : Nat → ClassId) (rl : TRl) (rg : TRg) (ln : TLn) (sl : TSl) (pd : TPd) (ct : TCt) (sg : TSg) (od : TOd) (hs : THs) : va_W := [(α 0, .inr (9, [.ref (α 1), .ref (α 2), .ref (α 3), .ref (α 4), .ref (α 5), .ref (α 6), .ref (α 7), .ref (α 8), .ref (α 9)])),
  (α 1, .inr (6, [.ref (α 10), .ref (α 11), .ref (α 12)])),
  (α 2, .inr (5, [.ref (α 13), .ref (α 14)])),
  (α 3, .inr (2, [.ref (α 15), .ref (α 16), .ref (α 17), .ref (α 18), .ref (α 19), .ref (α 20), .int (zI ln.2.2.2.2.2.2.1), .int (zI ln.2.2.2.2.2.2.2.1), .int (zI ln.2.2.2.2.2.2.2.2.1), .int (zI ln.2.2.2.2.2.2.2.2.2)])),
  (α 4, .inr (8, [.ref (α 21), .ref (α 22), .ref (α 23)])),
  (α 5, .inr (4, [.ref (α 24), .ref (α 25)])),
  (α 6, .inr (0, [.ref (α 26), .int (zI ct.2)])),
  (α 7, .inr (7, [.ref (α 27)])),
  (α 8, .inr (3, [.ref (α 28), .int (zI od.2.1), .int (zI od.2.2.1), .int (zI od.2.2.2.1), .int (zI od.2.2.2.2.1), .int (zI od.2.2.2.2.2.1), .int (zI od.2.2.2.2.2.2)])),
  (α 9, .inr (1, [.ref (α 29), .ref (α 30), .ref (α 31), .int (zI hs.2.2.2)])),
  (α 10, .inl (γ 0, 49, .inl (zF (rl.1)))),
  (α 11, .inl (γ 1, 49, .inl (zF (rl.2.1)))),
  (α 12, .inl (γ 2, 49, .inl (zF (rl.2.2)))),
  (α 13, .inl (γ 3, 49, .inl (bF (rg.1)))),
  (α 14, .inl (γ 4, 49, .inl (zF (rg.2)))),
  (α 15, .inl (γ 5, 49, .inl (bF (ln.1)))),
  (α 16, .inl (γ 6, 72, .inl (zF (ln.2.1)))),
  (α 17, .inl (γ 7, 72, .inl (zF (ln.2.2.1)))),
  (α 18, .inl (γ 8, 72, .inl (bF (ln.2.2.2.1)))),
  (α 19, .inl (γ 9, 84, .inl (zF (ln.2.2.2.2.1)))),
  (α 20, .inl (γ 10, 84, .inl (zF (ln.2.2.2.2.2.1)))),
  (α 21, .inl (γ 11, 49, .inl (zF (sl.1)))),
  (α 22, .inl (γ 12, 49, .inl (zF (sl.2.1)))),
  (α 23, .inl (γ 13, 49, .inl (zF (sl.2.2)))),
  (α 24, .inl (γ 14, 49, .inl (zF (pd.1)))),
  (α 25, .inl (γ 15, 49, .inl (zF (pd.2)))),
  (α 26, .inl (γ 16, 7, .inl (zF (ct.1)))),
  (α 27, .inl (γ 17, 49, .inl (zF (sg)))),
  (α 28, .inl (γ 18, 60, .inl (zF (od.1)))),
  (α 29, .inl (γ 19, 294, .inl (zF (hs.1)))),
  (α 30, .inl (γ 20, 98, .inl (zF (hs.2.1)))),
  (α 31, .inl (γ 21, 2, .inl (bF (hs.2.2.1))))]
def tyH (γ : Nat → ClassId) : List (ClassId × FieldType) := [(γ 0, .int), (γ 1, .int), (γ 2, .int), (γ 3, .boolean), (γ 4, .int), (γ 5, .boolean), (γ 6, .int), (γ 7, .int), (γ 8, .boolean), (γ 9, .int), (γ 10, .int), (γ 11, .int), (γ 12, .int), (γ 13, .int), (γ 14, .int), (γ 15, .int), (γ 16, .int), (γ 17, .int), (γ 18, .int), (γ 19, .int), (γ 20, .int), (γ 21, .boolean)]
def ROWS : IA := fun k => if k = 0 then -1 else if k = 1 then 0 else if k = 2 then 1 else if k = 3 then 0 else if k = 4 then -1 else if k = 5 then 1 else if k = 6 then 1 else -1
def COLS : IA := fun k => if k = 0 then 0 else if k = 1 then 1 else if k = 2 then 0 else if k = 3 then -1 else if k = 4 then 1 else if k = 5 then 1 else if k = 6 then -1 else -1
def LEVS : IA := fun k => if k = 0 then 10 else if k = 1 then 30 else if k = 2 then 50 else 70
def CROW : IA := fun k => if k = 0 then 0 else if k = 1 then 0 else if k = 2 then 1 else 1
def CCOL : IA := fun k => if k = 0 then 0 else if k = 1 then 1 else if k = 2 then 1 else 0
def zStrs : List (String × Nat × String) := [("HillLines", 78, "the height is out of range"), ("HillLines", 95, "the amount is out of range, or 0"), ("HillLines", 104, "showers is out of range"), ("HillLines", 186, "there is no such square"), ("HillLines", 213, "the point is a sink"), ("HillLines", 259, "the cut has not so many points"), ("HillLines", 353, "there is no such point"), ("HillLines", 355, "the level is out of range")]
def zNest : List (String × Nat × MethodName) := [(RX0, 36, yX9_pointAt), (RX2, 84, yX9_pointAt), (RX2, 87, yX9_isPoint), (RX0, 36, yX9_pointAt), (RX4, 18, yX9_isBorder), (RX4, 37, yX9_stepFrom), (RX4, 40, yX9_isPoint), (RX5, 19, yX9_isPoint), (RX5, 30, yX9_stepFrom), (RX6, 21, yX9_isPoint), (RX6, 52, yX9_stepFrom), (RX6, 66, yX9_pointAt), (RX0, 36, yX9_pointAt), (RX8, 21, yX9_stepFrom), (RX8, 31, yX9_isPoint), (RX9, 11, yX6_init), (RX9, 18, yX5_init), (RX9, 25, yX2_init), (RX9, 32, yX8_init), (RX9, 39, yX4_init), (RX9, 46, yX0_init), (RX9, 53, yX7_init), (RX9, 60, yX3_init), (RX9, 67, yX1_init)]
def GSa (C n : String) (t N : Nat) (f : IA) (A : Nat → Prop) (U : State) (H : Heap) : Prop := va_Z C n "[I" (.ref t) A U H ∧ va_T .int t N (fun j => .int (zF f j)) A U H
def GS (τ : Nat → Nat) (A : Nat → Prop) (U : State) (H : Heap) : Prop :=
  GSa "HillLines" "ROW_STEPS" (τ 0) 8 ROWS A U H ∧ GSa "HillLines" "COLUMN_STEPS" (τ 1) 8 COLS A U H ∧ True ∧
  GSa "HillLines$Lines" "CORNER_ROWS" (τ 3) 4 CROW A U H ∧ GSa "HillLines$Lines" "CORNER_COLUMNS" (τ 4) 4 CCOL A U H ∧
  (vx_Zq Bundle.tN "UNASSIGNED_STACK" Bundle.steD A U H ∧ vx_Zq Bundle.tN "SUPPRESSED_SENTINEL" Bundle.listD A U H) ∧ (∀ q ∈ zStrs, ∃ a : Nat, vk_R q.1 q.2.1 q.2.2 a U) ∧ ∀ q ∈ zNest, va_Nw (.methodLinkNest q.1 q.2.1 q.2.2 "HillLines") U
theorem GSa.moved {C n : String} {t N : Nat} {f : IA} {A : Nat → Prop} {u U : State} {H : Heap} (hvm : u.vm.Alike U.vm) (h : GSa C n t N f A u H) : GSa C n t N f A U H := ⟨h.1.moved hvm, h.2.moved hvm⟩
theorem GSa.kept {C n : String} {t N : Nat} {f : IA} {A : Nat → Prop} {U : State} {H H1 : Heap} (h : GSa C n t N f A U H) (hq : ∀ a : Nat, a < H.size → ¬ A a → H1[a]? = H[a]?) : GSa C n t N f A U H1 := ⟨h.1.kept hq, h.2.kept hq⟩
theorem GSa.narrow {C n : String} {t N : Nat} {f : IA} {A B : Nat → Prop} {U : State} {H : Heap} (h : GSa C n t N f A U H) (hAB : ∀ q, B q → A q) : GSa C n t N f B U H := ⟨h.1.narrow hAB, h.2.narrow hAB⟩
theorem GS.warm {τ : Nat → Nat} {A : Nat → Prop} {s U : State} {H : Heap} (hW : s.WarmedH U.vm) (h : GS τ A s H) : GS τ A U H := by
  obtain ⟨h1, h2, h3, h4, h5, h6, h7, h8⟩ := h
  exact ⟨h1.moved hW.alike, h2.moved hW.alike, trivial, h4.moved hW.alike, h5.moved hW.alike, ⟨h6.1.moved hW.alike, h6.2.moved hW.alike⟩, fun q hq => (h7 q hq).imp fun a ha => vk_R.warm hW ha, fun q hq => va_Nw.warmM hW (h8 q hq)⟩
theorem GS.same {τ : Nat → Nat} {A : Nat → Prop} {u U : State} {H : Heap} (hv : U.vm = u.vm) (h : GS τ A u H) : GS τ A U H := by
  have ha : u.vm.Alike U.vm := by rw [hv]; exact Vm.Alike.refl _
  obtain ⟨h1, h2, h3, h4, h5, h6, h7, h8⟩ := h
  exact ⟨h1.moved ha, h2.moved ha, trivial, h4.moved ha, h5.moved ha, ⟨h6.1.moved ha, h6.2.moved ha⟩, fun q hq => (h7 q hq).imp fun a ha => vk_R.same hv ha, fun q hq => va_Nw.same rfl hv.symm (h8 q hq)⟩
theorem GS.kept {τ : Nat → Nat} {A : Nat → Prop} {U : State} {H H1 : Heap} (h : GS τ A U H) (hq : ∀ a : Nat, a < H.size → ¬ A a → H1[a]? = H[a]?) : GS τ A U H1 := by
  obtain ⟨h1, h2, h3, h4, h5, h6, h7, h8⟩ := h
  exact ⟨h1.kept hq, h2.kept hq, trivial, h4.kept hq, h5.kept hq, ⟨h6.1.kept hq, h6.2.kept hq⟩, h7, h8⟩
theorem GS.narrow {τ : Nat → Nat} {A B : Nat → Prop} {U : State} {H : Heap} (h : GS τ A U H) (hAB : ∀ q, B q → A q) : GS τ B U H := by
  obtain ⟨h1, h2, h3, h4, h5, h6, h7, h8⟩ := h
  exact ⟨h1.narrow hAB, h2.narrow hAB, trivial, h4.narrow hAB, h5.narrow hAB, ⟨h6.1.narrow hAB, h6.2.narrow hAB⟩, h7, h8⟩
/-! CONTRACTS over a whole world: before, after, entry, calls, ends -/
def zPre (D : va_G) (τ : Nat → Nat) (tys : List (ClassId × FieldType)) (ws : va_W) (sz : Nat) (U : State) : Prop := U.heap.size = sz ∧ va_P D vwCl ws U.heap ∧ va_K D vwCl tys U ∧ va_D (va_A ws sz) ws ∧ GS τ (va_A ws sz) U U.heap
def zB (D : va_G) (A : Nat → Prop) (w : va_W) (t : State) : Prop := va_P D vwCl w t.heap ∧ va_D A w
abbrev zQQ : Type := (va_W → State → Prop) → (Nat → Prop) → Array Value → State → Outcome → State → Prop
def zQi (φ : Int32 → va_W → Prop) : zQQ := fun B A => va_Qi φ B A
def zQl (φ : Int64 → va_W → Prop) : zQQ := fun B A => va_Ql φ B A
def zQd (φ : UInt64 → va_W → Prop) : zQQ := fun B A => va_Qd φ B A
def zQv (φ : va_W → Prop) : zQQ := fun B A => va_Qv φ B A
def cM (l : Launch) (y : MethodName) (wl : List Cond) (rm : Room) (D : va_G) (τ : Nat → Nat) (tys : List (ClassId × FieldType)) (av : List Value) (ws : va_W) (QQ : zQQ) : Prop :=
  ∀ sz : Nat, Met l y wl rm (va_Pc av (zPre D τ tys ws sz)) (QQ (zB D (va_A ws sz)) (va_A ws sz)) rm.cells rm.slots (va_A ws sz)
theorem z_ofM {l : Launch} {y : MethodName} {wl wl' : List Cond} {rm : Room} {D : va_G} {τ : Nat → Nat} {tys : List (ClassId × FieldType)} {av : List Value} {ws : va_W} {QQ : zQQ} {cc : ByteArray} {maxL : Nat} {ret : Option FieldType}
    (hy : plainName y.cls = true) (hw : wl = Cond.code y cc maxL ret :: wl') (hn : (lg_sl av).length ≤ maxL)
    (body : ∀ (p : Program) (e : Env) (s : State) (m : MethodId) (args : Array Value) (below : List Frame) (meth : Method) (c : Code), CallFix p m c cc maxL s args wl y.cls → meth.sig.returnType = ret → meth.locks = false → meth.name = y.name → va_K D vwCl tys s → va_P D vwCl ws s.heap →
      ∀ A : Nat → Prop, va_D A ws → GS τ A s s.heap → (∀ q, s.heap.size ≤ q → A q) → va_S A s.heap s.heap [] → ∀ ls : Array Slot, lv_has ls maxL (lv_args 0 av) → ∀ Q : State → Prop, Q = MQ below (QQ (zB D A) A) args s rm.cells rm.slots A →
      W p l e rm s m args below meth c s.heap [] 0 0 Q (F0 m 0 ls [])) : cM l y wl rm D τ tys av ws QQ := by
  intro sz
  refine Met.ofW hy hw ?_
  intro p e s m args below meth c s₁ B hml hv
  obtain ⟨rfl, hsz, hP, hK, hD, hG⟩ := hv
  subst hsz
  rw [lg_entry_eq]
  exact body p e s m _ below meth c ⟨B.exec, B.bytes, hml, findClass_of_methodNamed B.named, atoms_spec (ws := wl) B.pre⟩ B.returns B.notSynchronized (name_of_methodNamed B.named B.method).1 hK hP _ hD hG (fun q h => Or.inr h) va_S.rf _ (lv_entry av hn) _ rfl
section ZC
variable {p : Program} {l : Launch} {e : Env} {R : Room} {s : State} {m : MethodId} {args : Array Value} {below : List Frame} {meth : Method} {c : Code} {H : Heap} {locs : List Loc} {cells slots : Nat} {Q : State → Prop}
variable {cc : ByteArray} {pc nL : Nat} {ls : Array Slot} {rest : List Value} {Ts : List Cond} {own : String}
variable {D : va_G} {τ : Nat → Nat} {tys : List (ClassId × FieldType)} {A : Nat → Prop} {ws : va_W}
theorem zp_blind {av : List Value} {sz : Nat} : FrameBlind (va_Pc av (zPre D τ tys ws sz)) := fun a U g mk q => by
  obtain ⟨q0, q1, qP, qK, qD, qG⟩ := q
  exact ⟨q0, q1, qP, va_K.moved (u := U) (U := U.calling g mk a) (Vm.Alike.refl U.vm) qK, qD, GS.same (u := U) (U := U.calling g mk a) rfl qG⟩
theorem zp_free (hD : va_D A ws) (hS : va_S A s.heap H locs) (hA : ∀ q, s.heap.size ≤ q → A q) : ∀ q, va_A ws H.size q → A q := by
  rintro q (⟨k, e, h⟩ | h)
  · exact hD.2 k (q, e) h
  · exact hA q (Nat.le_trans hS.1 h)
theorem zp_pre (hK : va_K D vwCl tys s) (hP : va_P D vwCl ws H) (hD : va_D A ws) (hS : va_S A s.heap H locs) (hA : ∀ q, s.heap.size ≤ q → A q) (hG : GS τ A s s.heap) (U : State) (hU : U.heap = H) (hW : s.WarmedH U.vm) : zPre D τ tys ws H.size U := by
  refine ⟨by rw [hU], by rw [hU]; exact hP, va_K.moved hW.alike hK, hD.self, ?_⟩
  rw [hU]
  exact ((hG.kept hS.2.1).narrow (zp_free hD hS hA)).warm hW
theorem zp_V {As : List Value} {C : String} {b : Nat} (hK : va_K D vwCl tys s) (hP : va_P D vwCl ws H) (hD : va_D A ws) (hS : va_S A s.heap H locs) (hA : ∀ q, s.heap.size ≤ q → A q) (hG : GS τ A s s.heap) {ci q0 : Nat} {q : vw_C} {fs : List Value} (hc : vwCl[ci]? = some q) (he : ws[q0]? = some (b, .inr (ci, fs))) (hq : q.1 = C) : PreV s H C b (va_Pc (.ref b :: As) (zPre D τ tys ws H.size)) As :=
  ⟨zp_blind, hq ▸ va_recv hK hP hc he, fun U hU hW => ⟨rfl, zp_pre hK hP hD hS hA hG U hU hW⟩⟩
theorem zp_S {As : List Value} (hK : va_K D vwCl tys s) (hP : va_P D vwCl ws H) (hD : va_D A ws) (hS : va_S A s.heap H locs) (hA : ∀ q, s.heap.size ≤ q → A q) (hG : GS τ A s s.heap) : PreS s H (va_Pc As (zPre D τ tys ws H.size)) As :=
  ⟨zp_blind, fun U hU hW => ⟨rfl, zp_pre hK hP hD hS hA hG U hU hW⟩⟩

theorem z_calli {φ : Int32 → va_W → Prop} {mc ms : Nat} {st : List Value} {av : Array Value} (hP : va_P D vwCl ws H) (hD : va_D A ws) (hS : va_S A s.heap H locs) (hA : ∀ q, s.heap.size ≤ q → A q) (hr : va_Run p l e R s m args below meth c H locs cells slots mc ms (F0 m pc ls st) rest (zQi φ (zB D (va_A ws H.size)) (va_A ws H.size) av) (va_A ws H.size)) (kk : ∀ (r : Int32) (w1 : va_W) (H1 : Heap) (locs1 : List Loc), φ r w1 → va_P D vwCl w1 H1 → va_D A w1 → va_S A s.heap H1 locs1 → W p l e R s m args below meth c H1 locs1 (cells + mc) (slots + ms) Q (F0 m (pc + 3) ls (.int r :: rest))) : W p l e R s m args below meth c H locs cells slots Q (F0 m pc ls st) :=
  va_calli hr hS (fun q _ h => zp_free hD hS hA q h) (zp_free hD hS hA) (fun r u t H1 locs1 ht hvm hw hB hz1 hk1 hS1 => kk r u H1 locs1 hw (ht ▸ hB.1) (hB.2.weaken (fun _ _ _ h => zp_free hD hS hA _ h)) hS1)
theorem z_calll {φ : Int64 → va_W → Prop} {mc ms : Nat} {st : List Value} {av : Array Value} (hP : va_P D vwCl ws H) (hD : va_D A ws) (hS : va_S A s.heap H locs) (hA : ∀ q, s.heap.size ≤ q → A q) (hr : va_Run p l e R s m args below meth c H locs cells slots mc ms (F0 m pc ls st) rest (zQl φ (zB D (va_A ws H.size)) (va_A ws H.size) av) (va_A ws H.size)) (kk : ∀ (r : Int64) (w1 : va_W) (H1 : Heap) (locs1 : List Loc), φ r w1 → va_P D vwCl w1 H1 → va_D A w1 → va_S A s.heap H1 locs1 → W p l e R s m args below meth c H1 locs1 (cells + mc) (slots + ms) Q (F0 m (pc + 3) ls (.long r :: rest))) : W p l e R s m args below meth c H locs cells slots Q (F0 m pc ls st) :=
  va_calll hr hS (fun q _ h => zp_free hD hS hA q h) (zp_free hD hS hA) (fun r u t H1 locs1 ht hvm hw hB hz1 hk1 hS1 => kk r u H1 locs1 hw (ht ▸ hB.1) (hB.2.weaken (fun _ _ _ h => zp_free hD hS hA _ h)) hS1)
theorem z_calld {φ : UInt64 → va_W → Prop} {mc ms : Nat} {st : List Value} {av : Array Value} (hP : va_P D vwCl ws H) (hD : va_D A ws) (hS : va_S A s.heap H locs) (hA : ∀ q, s.heap.size ≤ q → A q) (hr : va_Run p l e R s m args below meth c H locs cells slots mc ms (F0 m pc ls st) rest (zQd φ (zB D (va_A ws H.size)) (va_A ws H.size) av) (va_A ws H.size)) (kk : ∀ (r : UInt64) (w1 : va_W) (H1 : Heap) (locs1 : List Loc), φ r w1 → va_P D vwCl w1 H1 → va_D A w1 → va_S A s.heap H1 locs1 → W p l e R s m args below meth c H1 locs1 (cells + mc) (slots + ms) Q (F0 m (pc + 3) ls (.double r :: rest))) : W p l e R s m args below meth c H locs cells slots Q (F0 m pc ls st) :=
  va_calld hr hS (fun q _ h => zp_free hD hS hA q h) (zp_free hD hS hA) (fun r u t H1 locs1 ht hvm hw hB hz1 hk1 hS1 => kk r u H1 locs1 hw (ht ▸ hB.1) (hB.2.weaken (fun _ _ _ h => zp_free hD hS hA _ h)) hS1)
theorem z_callv {φ : va_W → Prop} {mc ms : Nat} {st : List Value} {av : Array Value} (hP : va_P D vwCl ws H) (hD : va_D A ws) (hS : va_S A s.heap H locs) (hA : ∀ q, s.heap.size ≤ q → A q) (hr : va_Run p l e R s m args below meth c H locs cells slots mc ms (F0 m pc ls st) rest (zQv φ (zB D (va_A ws H.size)) (va_A ws H.size) av) (va_A ws H.size)) (kk : ∀ (w1 : va_W) (H1 : Heap) (locs1 : List Loc), φ w1 → va_P D vwCl w1 H1 → va_D A w1 → va_S A s.heap H1 locs1 → W p l e R s m args below meth c H1 locs1 (cells + mc) (slots + ms) Q (F0 m (pc + 3) ls rest)) : W p l e R s m args below meth c H locs cells slots Q (F0 m pc ls st) :=
  va_callv hr hS (fun q _ h => zp_free hD hS hA q h) (zp_free hD hS hA) (fun u t H1 locs1 ht hvm hw hB hz1 hk1 hS1 => kk u H1 locs1 hw (ht ▸ hB.1) (hB.2.weaken (fun _ _ _ h => zp_free hD hS hA _ h)) hS1)
theorem z_iret (hC : CallFix p m c cc nL s args Ts own) (hr : meth.sig.returnType = some .int) (hlk : meth.locks = false) {φ : Int32 → va_W → Prop} (hQ : Q = MQ below (zQi φ (zB D A) A) args s cells slots A) {v : Int32} (hP : va_P D vwCl ws H) (hD : va_D A ws) (hS : va_S A s.heap H locs) (hφ : φ v ws) (hdg : decode cc pc = .ok (.ireturn, 1)) : W p l e R s m args below meth c H locs cells slots Q (F0 m pc ls [.int v]) :=
  by subst hQ; exact W.iret hC.1 hC.2.1 hr (fun t ht hW => ⟨⟨v, ws, rfl, hφ, ht ▸ hP, hD⟩, hS.F ht⟩) hS.2.2 hdg hlk
theorem z_zret (hC : CallFix p m c cc nL s args Ts own) (hr : meth.sig.returnType = some .boolean) (hlk : meth.locks = false) {φ : Int32 → va_W → Prop} (hQ : Q = MQ below (zQi φ (zB D A) A) args s cells slots A) {b : Bool} (hP : va_P D vwCl ws H) (hD : va_D A ws) (hS : va_S A s.heap H locs) (hφ : φ (bI b) ws) (hdg : decode cc pc = .ok (.ireturn, 1)) : W p l e R s m args below meth c H locs cells slots Q (F0 m pc ls [.int (bI b)]) :=
  by subst hQ; exact W.zret hC.1 hC.2.1 hr (bI_nar b) (fun t ht hW => ⟨⟨bI b, ws, rfl, hφ, ht ▸ hP, hD⟩, hS.F ht⟩) hS.2.2 hdg hlk
theorem z_lret (hC : CallFix p m c cc nL s args Ts own) (hr : meth.sig.returnType = some .long) (hlk : meth.locks = false) {φ : Int64 → va_W → Prop} (hQ : Q = MQ below (zQl φ (zB D A) A) args s cells slots A) {v : Int64} (hP : va_P D vwCl ws H) (hD : va_D A ws) (hS : va_S A s.heap H locs) (hφ : φ v ws) (hdg : decode cc pc = .ok (.lreturn, 1)) : W p l e R s m args below meth c H locs cells slots Q (F0 m pc ls [.long v]) :=
  by subst hQ; exact W.lret hC.1 hC.2.1 hr (fun t ht hW => ⟨⟨v, ws, rfl, hφ, ht ▸ hP, hD⟩, hS.F ht⟩) hS.2.2 hdg hlk
theorem z_dret (hC : CallFix p m c cc nL s args Ts own) (hr : meth.sig.returnType = some .double) (hlk : meth.locks = false) {φ : UInt64 → va_W → Prop} (hQ : Q = MQ below (zQd φ (zB D A) A) args s cells slots A) {v : UInt64} (hP : va_P D vwCl ws H) (hD : va_D A ws) (hS : va_S A s.heap H locs) (hφ : φ v ws) (hdg : decode cc pc = .ok (.dreturn, 1)) : W p l e R s m args below meth c H locs cells slots Q (F0 m pc ls [.double v]) :=
  by subst hQ; exact W.dret hC.1 hC.2.1 hr (fun t ht hW => ⟨⟨v, ws, rfl, hφ, ht ▸ hP, hD⟩, hS.F ht⟩) hS.2.2 hdg hlk
theorem z_vret (hC : CallFix p m c cc nL s args Ts own) (hr : meth.sig.returnType = none) (hlk : meth.locks = false) {φ : va_W → Prop} (hQ : Q = MQ below (zQv φ (zB D A) A) args s cells slots A) (hP : va_P D vwCl ws H) (hD : va_D A ws) (hS : va_S A s.heap H locs) (hφ : φ ws) (hdg : decode cc pc = .ok (.return_, 1)) : W p l e R s m args below meth c H locs cells slots Q (F0 m pc ls []) :=
  by subst hQ; exact W.vret hC.1 hC.2.1 hr (fun t ht hW => ⟨⟨ws, rfl, hφ, ht ▸ hP, hD⟩, hS.F ht⟩) hS.2.2 hdg hlk
end ZC
