/-! THE LAW'S OWN METHODS: worlds side by side, calls that are caught -/
section ZJ
variable {wr wc w1 : va_W} {D : va_G} {A : Nat → Prop} {H H1 : Heap}
theorem zL_at {k : Nat} {q : Nat × va_E} (h : wr[k]? = some q) : (wr ++ wc)[k]? = some q := by
  rw [List.getElem?_append_left (List.getElem?_eq_some_iff.mp h).1]; exact h
theorem zR_at {k : Nat} {q : Nat × va_E} (h : wc[k]? = some q) : (wr ++ wc)[wr.length + k]? = some q := by
  rw [List.getElem?_append_right (Nat.le_add_right _ _), Nat.add_sub_cancel_left]; exact h
theorem zPc (hP : va_P D vwCl (wr ++ wc) H) : va_P D vwCl wc H := fun _ q h => hP _ q (zR_at h)
theorem zPr (hP : va_P D vwCl (wr ++ wc) H) : va_P D vwCl wr H := fun _ q h => hP _ q (zL_at h)
theorem zDc (hD : va_D A (wr ++ wc)) : va_D A wc := ⟨fun _ _ p q hi hj he => Nat.add_left_cancel (hD.1 _ _ p q (zR_at hi) (zR_at hj) he), fun _ q h => hD.2 _ q (zR_at h)⟩
theorem zDr (hD : va_D A (wr ++ wc)) : va_D A wr := ⟨fun _ _ p q hi hj he => hD.1 _ _ p q (zL_at hi) (zL_at hj) he, fun _ q h => hD.2 _ q (zL_at h)⟩
theorem zPswap (hP : va_P D vwCl (wr ++ wc) H) : va_P D vwCl (wc ++ wr) H := va_P.app (zPc hP) (zPr hP)
theorem zDswap (hD : va_D A (wr ++ wc)) : va_D A (wc ++ wr) := va_D.app (zDc hD) (zDr hD) (fun i j p q hi hj he => by
  have h1 := hD.1 _ _ q p (zL_at hj) (zR_at hi) he.symm
  have h2 := (List.getElem?_eq_some_iff.mp hj).1
  omega)
theorem zJ (hP : va_P D vwCl (wr ++ wc) H) (hD : va_D A (wr ++ wc)) (hk : ∀ q : Nat, q < H.size → ¬ va_A wc H.size q → H1[q]? = H[q]?) (hF : ∀ q, va_A wc H.size q → A q) (hP1 : va_P D vwCl w1 H1) (hD1 : va_D (va_A wc H.size) w1) : va_P D vwCl (wr ++ w1) H1 ∧ va_D A (wr ++ w1) := by
  have apart : ∀ (k : Nat) (q : Nat × va_E), wr[k]? = some q → q.1 < H.size ∧ ¬ va_A wc H.size q.1 := by
    intro k q hq
    have hl := (hP k q (zL_at hq)).lt
    refine ⟨hl, fun h => ?_⟩
    rcases h with ⟨k2, e, h⟩ | h
    · have h1 := hD.1 k (wr.length + k2) q (q.1, e) (zL_at hq) (zR_at h) rfl
      have h2 := (List.getElem?_eq_some_iff.mp hq).1
      omega
    · omega
  refine ⟨va_P.app (fun k q hq => ?_) hP1, va_D.app (zDr hD) (hD1.weaken (fun k q _ h => hF q.1 h)) (fun i j x y hx hy hxy => ?_)⟩
  · obtain ⟨g1, g2⟩ := apart k q hq
    exact (zPr hP k q hq).kept (hk q.1 g1 g2)
  · exact (apart i x hx).2 (by rw [hxy]; exact hD1.2 j y hy)
end ZJ
/-- the long[1] that the law reads -/
def oC (cL : ClassId) (o : Nat) (f : Nat → Int64) : va_W := [(o, .inl (cL, 1, .inr (.inl f)))]
def o1 (v : Int64) : Nat → Int64 := fun _ => v
def cMX (l : Launch) (y : MethodName) (wl : List Cond) (rm : Room) (D : va_G) (τ : Nat → Nat) (tys : List (ClassId × FieldType)) (av : List Value) (ws : va_W) (QQ : zQQ) : Prop :=
  ∀ sz : Nat, Met l y wl rm (va_Pc av (zPreX D τ tys ws sz)) (QQ (zB D (va_A ws sz)) (va_A ws sz)) rm.cells rm.slots (va_A ws sz)
theorem z_ofL {l : Launch} {y : MethodName} {wl wl' : List Cond} {rm : Room} {D : va_G} {τ : Nat → Nat} {tys : List (ClassId × FieldType)} {av : List Value} {ws : va_W} {QQ : zQQ} {cc : ByteArray} {maxL : Nat} {ret : Option FieldType} {tb : List (Nat × Nat × Nat × Nat)}
    (hy : plainName y.cls = true) (hw : wl = Cond.codeWith y cc maxL ret tb :: wl') (hn : (lg_sl av).length ≤ maxL)
    (body : ∀ (p : Program) (e : Env) (s : State) (m : MethodId) (args : Array Value) (below : List Frame) (meth : Method) (c : Code), CallFix p m c cc maxL s args wl y.cls → meth.sig.returnType = ret → meth.locks = false → c.exceptionTable.toList = tableOf tb → va_K D vwCl tys s → va_P D vwCl ws s.heap →
      ∀ A : Nat → Prop, va_D A ws → GS τ A s s.heap → (∀ q, s.heap.size ≤ q → A q) → va_S A s.heap s.heap [] → GX s → ∀ ls : Array Slot, lv_has ls maxL (lv_args 0 av) → ∀ Q : State → Prop, Q = MQ below (QQ (zB D A) A) args s rm.cells rm.slots A →
      W p l e rm s m args below meth c s.heap [] 0 0 Q (F0 m 0 ls [])) : cMX l y wl rm D τ tys av ws QQ := by
  intro sz
  refine va_MetW hy hw ?_
  intro p e s m args below meth c s₁ B hml hv
  have hT : c.exceptionTable.toList = tableOf tb := vx_table (x := y) B (atoms_spec (ws := wl) B.pre _ (by rw [hw]; exact List.mem_cons_self))
  obtain ⟨rfl, ⟨hsz, hP, hK, hD, hG⟩, hGX⟩ := hv
  subst hsz
  rw [lg_entry_eq]
  exact body p e s m _ below meth c ⟨B.exec, B.bytes, hml, findClass_of_methodNamed B.named, atoms_spec (ws := wl) B.pre⟩ B.returns B.notSynchronized hT hK hP _ hD hG (fun q h => Or.inr h) va_S.rf hGX _ (lv_entry av hn) _ rfl
section ZF
variable {p : Program} {l : Launch} {e : Env} {R : Room} {s : State} {m : MethodId} {args : Array Value} {below : List Frame} {meth : Method} {c : Code} {H : Heap} {locs : List Loc} {cells slots : Nat} {Q : State → Prop}
variable {cc : ByteArray} {pc nL : Nat} {ls : Array Slot} {rest : List Value} {Ts : List Cond} {own : String}
variable {D : va_G} {τ : Nat → Nat} {tys : List (ClassId × FieldType)} {A : Nat → Prop} {wr wc : va_W} {ψ : String → va_W → Prop} {mc ms : Nat}
theorem zfx_calli {φ : Int32 → va_W → Prop} {st : List Value} {av : Array Value} (hP : va_P D vwCl (wr ++ wc) H) (hD : va_D A (wr ++ wc)) (hS : va_S A s.heap H locs) (hA : ∀ q, s.heap.size ≤ q → A q) (hr : vx_Run p l e R s m args below meth c H locs cells slots mc ms (F0 m pc ls st) rest (zQi φ (zB D (va_A wc H.size)) (va_A wc H.size) av) (zXC ψ D (va_A wc H.size)) (va_A wc H.size))
    (kx : ∀ (E : String) (w1 : va_W) (H1 : Heap) (locs1 : List Loc) (ce : Cell) (q9 : Addr), ψ E w1 → va_P D vwCl (wr ++ w1) H1 → va_D A (wr ++ w1) → va_S A s.heap H1 locs1 → H1[q9]? = some ce → ce.vm = .none → s.vm.findClass E = some ce.cls → vx_W p l e R s m args below meth c H1 locs1 (cells + mc) (slots + ms) Q (F0 m pc ls rest) q9)
    (kk : ∀ (r : Int32) (w1 : va_W) (H1 : Heap) (locs1 : List Loc), φ r w1 → va_P D vwCl (wr ++ w1) H1 → va_D A (wr ++ w1) → va_S A s.heap H1 locs1 → W p l e R s m args below meth c H1 locs1 (cells + mc) (slots + ms) Q (F0 m (pc + 3) ls (.int r :: rest))) : W p l e R s m args below meth c H locs cells slots Q (F0 m pc ls st) :=
  vx_calli hr hS (fun q _ h => zp_free (zDc hD) hS hA q h) (zp_free (zDc hD) hS hA) (fun q _ h => zp_free (zDc hD) hS hA q h)
    (fun E ce q9 u t H1 locs1 ht hvm hpx hB hz1 hk1 hS1 hce hcv hcl => by
      have z := zJ hP hD hk1 (zp_free (zDc hD) hS hA) (ht ▸ hB.2.1) hB.2.2
      exact kx E u H1 locs1 ce q9 hB.1 z.1 z.2 hS1 hce hcv hcl)
    (fun r u t H1 locs1 ht hvm hw hB hz1 hk1 hS1 => by
      have z := zJ hP hD hk1 (zp_free (zDc hD) hS hA) (ht ▸ hB.1) hB.2
      exact kk r u H1 locs1 hw z.1 z.2 hS1)
theorem zfx_callv {φ : va_W → Prop} {st : List Value} {av : Array Value} (hP : va_P D vwCl (wr ++ wc) H) (hD : va_D A (wr ++ wc)) (hS : va_S A s.heap H locs) (hA : ∀ q, s.heap.size ≤ q → A q) (hr : vx_Run p l e R s m args below meth c H locs cells slots mc ms (F0 m pc ls st) rest (zQv φ (zB D (va_A wc H.size)) (va_A wc H.size) av) (zXC ψ D (va_A wc H.size)) (va_A wc H.size))
    (kx : ∀ (E : String) (w1 : va_W) (H1 : Heap) (locs1 : List Loc) (ce : Cell) (q9 : Addr), ψ E w1 → va_P D vwCl (wr ++ w1) H1 → va_D A (wr ++ w1) → va_S A s.heap H1 locs1 → H1[q9]? = some ce → ce.vm = .none → s.vm.findClass E = some ce.cls → vx_W p l e R s m args below meth c H1 locs1 (cells + mc) (slots + ms) Q (F0 m pc ls rest) q9)
    (kk : ∀ (w1 : va_W) (H1 : Heap) (locs1 : List Loc), φ w1 → va_P D vwCl (wr ++ w1) H1 → va_D A (wr ++ w1) → va_S A s.heap H1 locs1 → W p l e R s m args below meth c H1 locs1 (cells + mc) (slots + ms) Q (F0 m (pc + 3) ls rest)) : W p l e R s m args below meth c H locs cells slots Q (F0 m pc ls st) :=
  vx_callv hr hS (fun q _ h => zp_free (zDc hD) hS hA q h) (zp_free (zDc hD) hS hA) (fun q _ h => zp_free (zDc hD) hS hA q h)
    (fun E ce q9 u t H1 locs1 ht hvm hpx hB hz1 hk1 hS1 hce hcv hcl => by
      have z := zJ hP hD hk1 (zp_free (zDc hD) hS hA) (ht ▸ hB.2.1) hB.2.2
      exact kx E u H1 locs1 ce q9 hB.1 z.1 z.2 hS1 hce hcv hcl)
    (fun u t H1 locs1 ht hvm hw hB hz1 hk1 hS1 => by
      have z := zJ hP hD hk1 (zp_free (zDc hD) hS hA) (ht ▸ hB.1) hB.2
      exact kk u H1 locs1 hw z.1 z.2 hS1)
theorem zo_last {cL : ClassId} {o : Nat} {f : Nat → Int64} {x : Int64} (hx : p.tables.exec = Jvm.exec) (hb : c.code = cc) (hK : va_K D vwCl ((cL, .long) :: tys) s) (hP : va_P D vwCl (oC cL o f ++ wc) H) (hD : va_D A (oC cL o f ++ wc)) (hS : va_S A s.heap H locs) (hdg : decode cc pc = .ok (.lastore, 1))
    (kk : ∀ (H1 : Heap) (locs1 : List Loc) (g : Nat → Int64), g 0 = x → va_P D vwCl (oC cL o g ++ wc) H1 → va_D A (oC cL o g ++ wc) → va_S A s.heap H1 locs1 → W p l e R s m args below meth c H1 locs1 cells slots Q (F0 m (pc + 1) ls rest)) : W p l e R s m args below meth c H locs cells slots Q (F0 m pc ls (.long x :: .int (zI 0) :: .ref o :: rest)) :=
  va_last hx hb hK hP hD hS 0 0 rfl rfl (zI_in (by decide) (by decide) (by decide)) hdg (fun H1 locs1 hP1 hD1 hS1 => kk H1 locs1 (vp_updL f (zI 0).toNatClampNeg x) rfl hP1 hD1 hS1)
end ZF
