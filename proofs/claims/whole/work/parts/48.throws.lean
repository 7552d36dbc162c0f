/-! CONTRACTS that return or throw -/
def zXC (ψ : String → va_W → Prop) (D : va_G) (A : Nat → Prop) : String → State → State → Prop := vx_X (S := va_W) (fun _ => True) (fun E w t => ψ E w ∧ zB D A w t) A
def zXd : List MethodName := [Bundle.initS "java/lang/RuntimeException", Bundle.initS "java/lang/Exception", Bundle.initS "java/lang/Throwable"]
def zXc : List String := ["java/lang/IndexOutOfBoundsException", "java/lang/IllegalArgumentException", "java/lang/IllegalStateException"]
def zXn : List (String × String) := [("java/lang/IllegalArgumentException", "java/lang/IndexOutOfBoundsException"), ("java/lang/IllegalStateException", "java/lang/IllegalArgumentException"), ("java/lang/IllegalStateException", "java/lang/IndexOutOfBoundsException")]
def GX (U : State) : Prop := (∀ x ∈ zXd, va_Nw (.declares x) U) ∧ (∀ q ∈ zXc, va_Nw (.castable q q) U) ∧ ∀ q ∈ zXn, va_Nc q.1 q.2 U
theorem GX.warm {s U : State} (hW : s.WarmedH U.vm) (h : GX s) : GX U := ⟨fun x hx => va_Nw.warmD hW (h.1 x hx), fun q hq => va_Nw.warmC hW (h.2.1 q hq), fun q hq => va_Nc.moved hW.alike (h.2.2 q hq)⟩
theorem GX.same {u U : State} (hv : U.vm = u.vm) (h : GX u) : GX U := ⟨fun x hx => va_Nw.same rfl hv.symm (h.1 x hx), fun q hq => va_Nw.same rfl hv.symm (h.2.1 q hq), fun q hq => va_Nc.moved (by rw [hv]; exact Vm.Alike.refl _) (h.2.2 q hq)⟩
def zPreX (D : va_G) (τ : Nat → Nat) (tys : List (ClassId × FieldType)) (ws : va_W) (sz : Nat) (U : State) : Prop := zPre D τ tys ws sz U ∧ GX U
def cX (l : Launch) (y : MethodName) (wl : List Cond) (rm : Room) (D : va_G) (τ : Nat → Nat) (tys : List (ClassId × FieldType)) (av : List Value) (ws : va_W) (QQ : zQQ) (ψ : String → va_W → Prop) : Prop :=
  ∀ sz : Nat, vx_Met l y wl rm (va_Pc av (zPreX D τ tys ws sz)) (QQ (zB D (va_A ws sz)) (va_A ws sz)) (zXC ψ D (va_A ws sz)) rm.cells rm.slots (va_A ws sz)
theorem z_ofX {l : Launch} {y : MethodName} {wl wl' : List Cond} {rm : Room} {D : va_G} {τ : Nat → Nat} {tys : List (ClassId × FieldType)} {av : List Value} {ws : va_W} {QQ : zQQ} {ψ : String → va_W → Prop} {cc : ByteArray} {maxL : Nat} {ret : Option FieldType}
    (hy : plainName y.cls = true) (hw : wl = Cond.code y cc maxL ret :: wl') (hn : (lg_sl av).length ≤ maxL)
    (body : ∀ (p : Program) (e : Env) (s : State) (m : MethodId) (args : Array Value) (below : List Frame) (meth : Method) (c : Code), CallFix p m c cc maxL s args wl y.cls → meth.sig.returnType = ret → meth.locks = false → (∀ x ∈ c.exceptionTable.toList, False) → va_K D vwCl tys s → va_P D vwCl ws s.heap →
      ∀ A : Nat → Prop, va_D A ws → GS τ A s s.heap → (∀ q, s.heap.size ≤ q → A q) → va_S A s.heap s.heap [] → GX s → ∀ ls : Array Slot, lv_has ls maxL (lv_args 0 av) → ∀ Q : State → Prop, Q = vx_MQ below (QQ (zB D A) A) (zXC ψ D A) args s rm.cells rm.slots A →
      W p l e rm s m args below meth c s.heap [] 0 0 Q (F0 m 0 ls [])) : cX l y wl rm D τ tys av ws QQ ψ := by
  intro sz
  refine vx_ofW hy hw ?_
  intro p e s m args below meth c s₁ B hml hT hv
  obtain ⟨rfl, ⟨hsz, hP, hK, hD, hG⟩, hGX⟩ := hv
  subst hsz
  rw [lg_entry_eq]
  exact body p e s m _ below meth c ⟨B.exec, B.bytes, hml, findClass_of_methodNamed B.named, atoms_spec (ws := wl) B.pre⟩ B.returns B.notSynchronized hT hK hP _ hD hG (fun q h => Or.inr h) va_S.rf hGX _ (lv_entry av hn) _ rfl
section ZX
variable {p : Program} {l : Launch} {e : Env} {R : Room} {s : State} {m : MethodId} {args : Array Value} {below : List Frame} {meth : Method} {c : Code} {H : Heap} {locs : List Loc} {cells slots : Nat} {Q : State → Prop}
variable {cc : ByteArray} {pc nL : Nat} {ls : Array Slot} {rest : List Value} {Ts : List Cond} {own : String}
variable {D : va_G} {τ : Nat → Nat} {tys : List (ClassId × FieldType)} {A : Nat → Prop} {ws : va_W} {ψ : String → va_W → Prop} {XC : String → State → State → Prop} {mc ms : Nat}
theorem zpX_blind {av : List Value} {sz : Nat} : FrameBlind (va_Pc av (zPreX D τ tys ws sz)) := fun a U g mk q => by
  obtain ⟨q0, q1, q2⟩ := q
  exact ⟨q0, (zp_blind (av := av) (D := D) (τ := τ) (tys := tys) (ws := ws) (sz := sz) a U g mk ⟨q0, q1⟩).2, GX.same (u := U) (U := U.calling g mk a) rfl q2⟩
theorem zpX_V {As : List Value} {C : String} {b : Nat} (hK : va_K D vwCl tys s) (hP : va_P D vwCl ws H) (hD : va_D A ws) (hS : va_S A s.heap H locs) (hA : ∀ q, s.heap.size ≤ q → A q) (hG : GS τ A s s.heap) (hGX : GX s) {ci q0 : Nat} {q : vw_C} {fs : List Value} (hc : vwCl[ci]? = some q) (he : ws[q0]? = some (b, .inr (ci, fs))) (hq : q.1 = C) : PreV s H C b (va_Pc (.ref b :: As) (zPreX D τ tys ws H.size)) As :=
  ⟨zpX_blind, hq ▸ va_recv hK hP hc he, fun U hU hW => ⟨rfl, zp_pre hK hP hD hS hA hG U hU hW, hGX.warm hW⟩⟩
theorem zpX_S {As : List Value} (hK : va_K D vwCl tys s) (hP : va_P D vwCl ws H) (hD : va_D A ws) (hS : va_S A s.heap H locs) (hA : ∀ q, s.heap.size ≤ q → A q) (hG : GS τ A s s.heap) (hGX : GX s) : PreS s H (va_Pc As (zPreX D τ tys ws H.size)) As :=
  ⟨zpX_blind, fun U hU hW => ⟨rfl, zp_pre hK hP hD hS hA hG U hU hW, hGX.warm hW⟩⟩
theorem zx_iret (hC : CallFix p m c cc nL s args Ts own) (hr : meth.sig.returnType = some .int) (hlk : meth.locks = false) {φ : Int32 → va_W → Prop} (hQ : Q = vx_MQ below (zQi φ (zB D A) A) XC args s mc ms A) (h1 : cells ≤ mc) (h2 : slots ≤ ms) {v : Int32} (hP : va_P D vwCl ws H) (hD : va_D A ws) (hS : va_S A s.heap H locs) (hφ : φ v ws) (hdg : decode cc pc = .ok (.ireturn, 1)) : W p l e R s m args below meth c H locs cells slots Q (F0 m pc ls [.int v]) := by
  subst hQ; exact W.widen h1 h2 (vx_ret (z_iret hC hr hlk rfl hP hD hS hφ hdg))
theorem zx_zret (hC : CallFix p m c cc nL s args Ts own) (hr : meth.sig.returnType = some .boolean) (hlk : meth.locks = false) {φ : Int32 → va_W → Prop} (hQ : Q = vx_MQ below (zQi φ (zB D A) A) XC args s mc ms A) (h1 : cells ≤ mc) (h2 : slots ≤ ms) {b : Bool} (hP : va_P D vwCl ws H) (hD : va_D A ws) (hS : va_S A s.heap H locs) (hφ : φ (bI b) ws) (hdg : decode cc pc = .ok (.ireturn, 1)) : W p l e R s m args below meth c H locs cells slots Q (F0 m pc ls [.int (bI b)]) := by
  subst hQ; exact W.widen h1 h2 (vx_ret (z_zret hC hr hlk rfl hP hD hS hφ hdg))
theorem zx_vret (hC : CallFix p m c cc nL s args Ts own) (hr : meth.sig.returnType = none) (hlk : meth.locks = false) {φ : va_W → Prop} (hQ : Q = vx_MQ below (zQv φ (zB D A) A) XC args s mc ms A) (h1 : cells ≤ mc) (h2 : slots ≤ ms) (hP : va_P D vwCl ws H) (hD : va_D A ws) (hS : va_S A s.heap H locs) (hφ : φ ws) (hdg : decode cc pc = .ok (.return_, 1)) : W p l e R s m args below meth c H locs cells slots Q (F0 m pc ls []) := by
  subst hQ; exact W.widen h1 h2 (vx_ret (z_vret hC hr hlk rfl hP hD hS hφ hdg))
theorem zx_calli {φ : Int32 → va_W → Prop} {st : List Value} {av : Array Value} (hP : va_P D vwCl ws H) (hD : va_D A ws) (hS : va_S A s.heap H locs) (hA : ∀ q, s.heap.size ≤ q → A q) (hr : vx_Run p l e R s m args below meth c H locs cells slots mc ms (F0 m pc ls st) rest (zQi φ (zB D (va_A ws H.size)) (va_A ws H.size) av) (zXC ψ D (va_A ws H.size)) (va_A ws H.size))
    (kx : ∀ (E : String) (w1 : va_W) (H1 : Heap) (locs1 : List Loc) (ce : Cell) (q9 : Addr), ψ E w1 → va_P D vwCl w1 H1 → va_D A w1 → va_S A s.heap H1 locs1 → H1[q9]? = some ce → ce.vm = .none → s.vm.findClass E = some ce.cls → vx_W p l e R s m args below meth c H1 locs1 (cells + mc) (slots + ms) Q (F0 m pc ls rest) q9)
    (kk : ∀ (r : Int32) (w1 : va_W) (H1 : Heap) (locs1 : List Loc), φ r w1 → va_P D vwCl w1 H1 → va_D A w1 → va_S A s.heap H1 locs1 → W p l e R s m args below meth c H1 locs1 (cells + mc) (slots + ms) Q (F0 m (pc + 3) ls (.int r :: rest))) : W p l e R s m args below meth c H locs cells slots Q (F0 m pc ls st) :=
  vx_calli hr hS (fun q _ h => zp_free hD hS hA q h) (zp_free hD hS hA) (fun q _ h => zp_free hD hS hA q h)
    (fun E ce q9 u t H1 locs1 ht hvm hpx hB hz1 hk1 hS1 hce hcv hcl => kx E u H1 locs1 ce q9 hB.1 (ht ▸ hB.2.1) (hB.2.2.weaken (fun _ _ _ h => zp_free hD hS hA _ h)) hS1 hce hcv hcl)
    (fun r u t H1 locs1 ht hvm hw hB hz1 hk1 hS1 => kk r u H1 locs1 hw (ht ▸ hB.1) (hB.2.weaken (fun _ _ _ h => zp_free hD hS hA _ h)) hS1)
theorem zx_callv {φ : va_W → Prop} {st : List Value} {av : Array Value} (hP : va_P D vwCl ws H) (hD : va_D A ws) (hS : va_S A s.heap H locs) (hA : ∀ q, s.heap.size ≤ q → A q) (hr : vx_Run p l e R s m args below meth c H locs cells slots mc ms (F0 m pc ls st) rest (zQv φ (zB D (va_A ws H.size)) (va_A ws H.size) av) (zXC ψ D (va_A ws H.size)) (va_A ws H.size))
    (kx : ∀ (E : String) (w1 : va_W) (H1 : Heap) (locs1 : List Loc) (ce : Cell) (q9 : Addr), ψ E w1 → va_P D vwCl w1 H1 → va_D A w1 → va_S A s.heap H1 locs1 → H1[q9]? = some ce → ce.vm = .none → s.vm.findClass E = some ce.cls → vx_W p l e R s m args below meth c H1 locs1 (cells + mc) (slots + ms) Q (F0 m pc ls rest) q9)
    (kk : ∀ (w1 : va_W) (H1 : Heap) (locs1 : List Loc), φ w1 → va_P D vwCl w1 H1 → va_D A w1 → va_S A s.heap H1 locs1 → W p l e R s m args below meth c H1 locs1 (cells + mc) (slots + ms) Q (F0 m (pc + 3) ls rest)) : W p l e R s m args below meth c H locs cells slots Q (F0 m pc ls st) :=
  vx_callv hr hS (fun q _ h => zp_free hD hS hA q h) (zp_free hD hS hA) (fun q _ h => zp_free hD hS hA q h)
    (fun E ce q9 u t H1 locs1 ht hvm hpx hB hz1 hk1 hS1 hce hcv hcl => kx E u H1 locs1 ce q9 hB.1 (ht ▸ hB.2.1) (hB.2.2.weaken (fun _ _ _ h => zp_free hD hS hA _ h)) hS1 hce hcv hcl)
    (fun u t H1 locs1 ht hvm hw hB hz1 hk1 hS1 => kk u H1 locs1 hw (ht ▸ hB.1) (hB.2.weaken (fun _ _ _ h => zp_free hD hS hA _ h)) hS1)
theorem zx_out {Qc : Array Value → State → Outcome → State → Prop} (hT : ∀ x ∈ c.exceptionTable.toList, False) (hlk : meth.locks = false) (hQ : Q = vx_MQ below Qc (zXC ψ D A) args s mc ms A) (h1 : cells ≤ mc) (h2 : slots ≤ ms) (hP : va_P D vwCl ws H) (hD : va_D A ws) (hS : va_S A s.heap H locs) {E : String} {ce : Cell} {q9 : Addr} (hψ : ψ E ws) (hce : H[q9]? = some ce) (hcv : ce.vm = .none) (hcl : s.vm.findClass E = some ce.cls) : vx_W p l e R s m args below meth c H locs cells slots Q (F0 m pc ls rest) q9 := by
  subst hQ
  exact vx_out (fun x hx => (hT x hx).elim) hlk hce hcv hcl (fun t ht hvm => ⟨ws, trivial, ⟨hψ, ht ▸ hP, hD⟩, hS.F ht⟩) hS.2.2 h1 h2
theorem zx_hx (hP : va_P D vwCl ws H) (hD : va_D A ws) (hS : va_S A s.heap H locs) {E : String} (hψ : ψ E ws) : ∀ t : State, s.vm.Alike t.vm → H.size ≤ t.heap.size → (∀ q : Nat, q < H.size → t.heap[q]? = H[q]?) → zXC ψ D A E s t := fun t _ h1 h2 =>
  ⟨ws, trivial, ⟨hψ, hP.kept (fun k q hk => h2 _ (vx_lt hP hk)), hD⟩, Nat.le_trans hS.1 h1, fun q hq hA => (h2 q (Nat.lt_of_lt_of_le hq hS.1)).trans (hS.2.1 q hq hA)⟩
def zEx : List String := ["java/lang/RuntimeException", "java/lang/Exception"]
def zXw (w : Cond) : Bool := (decide (w ∈ lw_tbl) && goodWord w) || (zXd.map Cond.declares).contains w || (zXc.map (fun q => Cond.castable q q)).contains w
def zXok (C X : String) (ik ic : Nat) : Prop := (Bundle.fit X = true ∧ ∀ n ∈ zEx, Bundle.fit n = true) ∧ ∀ w ∈ Cond.classLink C ik X :: Cond.initialized X :: vx_atS C ic X zEx, zXw w = true
theorem zXok_of {C X : String} {ik ic : Nat} (h1 : Bundle.fit X = true) (h2 : (Cond.classLink C ik X :: Cond.initialized X :: vx_atS C ic X zEx).all zXw = true) : zXok C X ik ic :=
  ⟨⟨h1, by decide +kernel⟩, fun w hw => List.all_eq_true.mp h2 w hw⟩
theorem zXw_at {s : State} {args : Array Value} (hW0 : ∀ w ∈ W0, w.before args s = true) (hGX : GX s) {w : Cond} (h : zXw w = true) : w.before args s = true ∧ vx_ot w = true := by
  unfold zXw at h
  rw [Bool.or_eq_true, Bool.or_eq_true] at h
  rcases h with (h | h) | h
  · have hm := w0_d h
    refine ⟨hW0 w hm, ?_⟩
    have z := (List.mem_filter.mp hm).2; unfold vx_ot; rw [z, Bool.or_true]
  · obtain ⟨x, hx, rfl⟩ := List.mem_map.mp (List.contains_iff_mem.mp h)
    exact ⟨va_Nw.use rfl (hGX.1 x hx), rfl⟩
  · obtain ⟨x, hx, rfl⟩ := List.mem_map.mp (List.contains_iff_mem.mp h)
    exact ⟨va_Nw.use rfl (hGX.2.1 x hx), rfl⟩
theorem zx_throwS {Qc : Array Value → State → Outcome → State → Prop} {text X C : String} {ik is ic : Nat} (hC : CallFix p m c cc nL s args Ts C) (hst : l.stackTraces = false) (hG : GS τ A s s.heap) (hW0 : ∀ w ∈ W0, w.before args s = true) (hGX : GX s) (hT : ∀ x ∈ c.exceptionTable.toList, False) (hlk : meth.locks = false) (hQ : Q = vx_MQ below Qc (zXC ψ D A) args s mc ms A) (hz : ls.size = nL)
    (hX : zXok C X ik ic) (hstr : (C, is, text) ∈ zStrs) (hP : va_P D vwCl ws H) (hD : va_D A ws) (hS : va_S A s.heap H locs) (hψ : ψ X ws)
    (d0 : decode cc pc = .ok (.new ik, 3)) (d3 : decode cc (pc + 3) = .ok (.dup, 1)) (d4 : decode cc (pc + 4) = .ok (.ldc is, 2)) (d6 : decode cc (pc + 6) = .ok (.invokespecial ic, 3)) (d9 : decode cc (pc + 9) = .ok (.athrow, 1))
    (hRf : 6 ≤ R.frames) (hRl : 90 ≤ R.locals) (hRc : cells + 1 ≤ R.cells) (hRs : slots + 6 ≤ R.slots) (h1 : cells + 1 ≤ mc) (h2 : slots + 6 ≤ ms) : W p l e R s m args below meth c H locs cells slots Q (F0 m pc ls []) := by
  subst hQ
  obtain ⟨a, ha⟩ := hG.2.2.2.2.2.2.1 _ hstr
  exact vx_throwS hC.1 hC.2.1 hst hC.2.2.2.1 hX.1.1 hX.1.2 (zXw_at hW0 hGX (hX.2 _ List.mem_cons_self)).1 (zXw_at hW0 hGX (hX.2 _ (List.mem_cons_of_mem _ List.mem_cons_self))).1 ha (fun w hw => (zXw_at hW0 hGX (hX.2 _ (List.mem_cons_of_mem _ (List.mem_cons_of_mem _ hw)))).1)
    (fun w hw => (zXw_at hW0 hGX (hX.2 w hw)).2) hG.2.2.2.2.2.1.1 hG.2.2.2.2.2.1.2 hS (hz.trans hC.2.2.1.symm) d0 d3 d4 d6 d9 (fun x hx => (hT x hx).elim)
    (by show 2 + 3 < R.frames; omega) (by show 0 + (13 * (2 + 1) + 43) ≤ R.locals; omega) hRc hRs hlk (zx_hx hP hD hS hψ) hS.2.2 h1 h2
theorem zx_throwSW {Qc : Array Value → State → Outcome → State → Prop} {text X C : String} {ik is ic : Nat} (hC : CallFix p m c cc nL s args Ts C) (hst : l.stackTraces = false) (hG : GS τ A s s.heap) (hW0 : ∀ w ∈ W0, w.before args s = true) (hGX : GX s) (hT : ∀ x ∈ c.exceptionTable.toList, False) (hlk : meth.locks = false) (hQ : Q = vx_MQ below Qc (zXC ψ D A) args s mc ms A) (hz : ls.size = nL)
    (hX : zXok C X ik ic) (hstr : (C, is, text) ∈ zStrs) (hP : va_P D vwCl ws H) (hD : va_D A ws) (hS : va_S A s.heap H locs) (hψ : ψ X ws)
    (d0 : decode cc pc = .ok (.new ik, 3)) (d3 : decode cc (pc + 3) = .ok (.dup, 1)) (d4 : decode cc (pc + 4) = .ok (.ldc_w is, 3)) (d7 : decode cc (pc + 7) = .ok (.invokespecial ic, 3)) (d10 : decode cc (pc + 10) = .ok (.athrow, 1))
    (hRf : 6 ≤ R.frames) (hRl : 90 ≤ R.locals) (hRc : cells + 1 ≤ R.cells) (hRs : slots + 6 ≤ R.slots) (h1 : cells + 1 ≤ mc) (h2 : slots + 6 ≤ ms) : W p l e R s m args below meth c H locs cells slots Q (F0 m pc ls []) := by
  subst hQ
  obtain ⟨a, ha⟩ := hG.2.2.2.2.2.2.1 _ hstr
  exact vx_throwSW hC.1 hC.2.1 hst hC.2.2.2.1 hX.1.1 hX.1.2 (zXw_at hW0 hGX (hX.2 _ List.mem_cons_self)).1 (zXw_at hW0 hGX (hX.2 _ (List.mem_cons_of_mem _ List.mem_cons_self))).1 ha (fun w hw => (zXw_at hW0 hGX (hX.2 _ (List.mem_cons_of_mem _ (List.mem_cons_of_mem _ hw)))).1)
    (fun w hw => (zXw_at hW0 hGX (hX.2 w hw)).2) hG.2.2.2.2.2.1.1 hG.2.2.2.2.2.1.2 hS (hz.trans hC.2.2.1.symm) d0 d3 d4 d7 d10 (fun x hx => (hT x hx).elim)
    (by show 2 + 3 < R.frames; omega) (by show 0 + (13 * (2 + 1) + 43) ≤ R.locals; omega) hRc hRs hlk (zx_hx hP hD hS hψ) hS.2.2 h1 h2
end ZX
theorem zX_IOOB : zXok RX9 "java/lang/IndexOutOfBoundsException" 184 188 := zXok_of (by decide +kernel) (by decide +kernel)
theorem zX_IAE : zXok RX9 "java/lang/IllegalArgumentException" 76 80 := zXok_of (by decide +kernel) (by decide +kernel)
theorem zX_ISE : zXok RX9 "java/lang/IllegalStateException" 121 125 := zXok_of (by decide +kernel) (by decide +kernel)
