/-! THE LAW'S INVARIANT, ITS CALLS -/
def R99 (n : Int) (f : IA) : Prop := ∀ k, 0 ≤ k → k < n → 0 ≤ f k ∧ f k ≤ 99
def LInv (h sv sl9 : IA) (ct9 : Int) (cd : IA) (ln9 pl le ro co nu : Int) : Prop :=
  R99 49 h ∧ R99 294 sv ∧ R99 98 sl9 ∧ (0 ≤ ct9 ∧ ct9 ≤ 6) ∧ (0 ≤ ln9 ∧ ln9 ≤ 60) ∧ (∀ k, 0 ≤ k → k < ln9 → 33 ≤ cd k ∧ cd k ≤ 126) ∧ OV pl le ro co nu
section LI
variable {h h2 sv sl9 cd : IA} {ct9 ln9 pl le ro co nu : Int}
theorem svC_b (hn : 0 ≤ ct9 ∧ ct9 ≤ 6) : 0 ≤ S_svC ct9 ∧ S_svC ct9 ≤ 6 := by unfold S_svC; split <;> omega
theorem sv_b (h1 : R99 294 sv) (h2 : R99 49 h) (hn : 0 ≤ ct9 ∧ ct9 ≤ 6) : R99 294 (S_sv sv h ct9) := by
  unfold S_sv; split
  · exact zcpy_b (N := 49) (M := 294) h2 (zcpy_b (N := 294) (M := 294) h1 h1 (by omega) (by omega)) (by omega) (by omega)
  · exact zcpy_b (N := 49) (M := 294) h2 h1 (by omega) (by omega)
theorem LI_h (hI : LInv h sv sl9 ct9 cd ln9 pl le ro co nu) (hb : R99 49 h2) : LInv h2 (S_sv sv h ct9) sl9 (S_svC ct9) cd ln9 pl le ro co nu :=
  ⟨hb, sv_b hI.2.1 hI.1 hI.2.2.2.1, hI.2.2.1, svC_b hI.2.2.2.1, hI.2.2.2.2⟩
theorem LI_o {p2 l2 r2 c2 n2 : Int} (hI : LInv h sv sl9 ct9 cd ln9 pl le ro co nu) (ho : OV p2 l2 r2 c2 n2) : LInv h sv sl9 ct9 cd ln9 p2 l2 r2 c2 n2 :=
  ⟨hI.1, hI.2.1, hI.2.2.1, hI.2.2.2.1, hI.2.2.2.2.1, hI.2.2.2.2.2.1, ho⟩
theorem LIz0 (hI : LInv h sv sl9 ct9 cd ln9 pl le ro co nu) : LInv h sv sl9 ct9 cd 0 pl le ro co nu :=
  ⟨hI.1, hI.2.1, hI.2.2.1, hI.2.2.2.1, by omega, fun k _ _ => by omega, hI.2.2.2.2.2.2⟩
theorem LI_app {a : Int} (hI : LInv h sv sl9 ct9 cd ln9 pl le ro co nu) (ht : S_tapp a ln9 = 0) : LInv h sv sl9 ct9 (zu cd ln9 a) (ln9 + 1) pl le ro co nu := by
  have hl := hI.2.2.2.2.1
  have ha : (33 ≤ a ∧ a ≤ 126) ∧ ln9 ≠ 60 := by unfold S_tapp at ht; split at ht <;> first | omega | (split at ht <;> omega)
  refine ⟨hI.1, hI.2.1, hI.2.2.1, hI.2.2.2.1, by omega, fun k h1 h2 => ?_, hI.2.2.2.2.2.2⟩
  unfold zu; split
  · exact ha.1
  · exact hI.2.2.2.2.2.1 k h1 (by omega)
theorem LI_keep {k : Int} (hI : LInv h sv sl9 ct9 cd ln9 pl le ro co nu) (ht : S_tslot k = 0) : LInv h sv (zcpy h sl9 0 (49 * k) 49) ct9 cd ln9 pl le ro co nu :=
  ⟨hI.1, hI.2.1, zcpy_b (N := 49) (M := 98) hI.1 hI.2.2.1 (by omega) (by omega), hI.2.2.2⟩
theorem LI_back {k : Int} {tk : BA} (hI : LInv h sv sl9 ct9 cd ln9 pl le ro co nu) (ht : S_tback k tk = 0) : LInv (zcpy sl9 h (49 * k) 0 49) (S_sv sv h ct9) sl9 (S_svC ct9) cd ln9 pl le ro co nu := by
  have hk : 0 ≤ k ∧ k ≤ 1 := by unfold S_tback at ht; split at ht <;> first | assumption | omega
  exact LI_h hI (zcpy_b (N := 98) (M := 49) hI.2.2.1 hI.1 (by omega) (by omega))
theorem LI_undo (hI : LInv h sv sl9 ct9 cd ln9 pl le ro co nu) (ht : S_tundo ct9 = 0) : LInv (zcpy sv h (49 * (ct9 - 1)) 0 49) sv sl9 (ct9 - 1) cd ln9 pl le ro co nu := by
  have hk : ct9 ≠ 0 := by unfold S_tundo at ht; split at ht <;> first | assumption | omega
  have hc := hI.2.2.2.1
  exact ⟨zcpy_b (N := 294) (M := 49) hI.2.1 hI.1 (by omega) (by omega), hI.2.1, hI.2.2.1, by omega, hI.2.2.2.2⟩
theorem set_b {r c g : Int} (h1 : R99 49 h) (ht : S_tset r c g = 0) : R99 49 (zu h (7 * r + c) g) := by
  have hg : 0 ≤ g ∧ g ≤ 99 := by unfold S_tset at ht; split at ht <;> first | omega | (split at ht <;> first | assumption | omega)
  intro k a b; unfold zu; split
  · exact hg
  · exact h1 k a b
theorem heap_b {p a : Int} (h1 : R99 49 h) : R99 49 (S_heap h p a) := zmix_b h1 (fun _ => clip_b _)
theorem smooth_b (h1 : R99 49 h) : R99 49 (S_smooth h) := zmix_b h1 (fun _ => clip_b _)
theorem turn_b (h1 : R99 49 h) : R99 49 (S_turn h) := zmix_b h1 (fun _ => clip_b _)
theorem wash_b {n : Int} (h1 : R99 49 h) (ht : S_twash n = 0) : R99 49 (S_wash h n) := by
  have hn : 1 ≤ n ∧ n ≤ 50 := by unfold S_twash at ht; split at ht <;> first | assumption | omega
  exact S_wash_b h1 n (by omega)
end LI
/-- an int of the script -/
def xI (xs : Nat → Int32) (i : Int) : Int := (xs i.toNat).toInt
theorem xI_b (xs : Nat → Int32) (i : Int) : -2147483648 ≤ xI xs i ∧ xI xs i < 2147483648 := ⟨Int32.le_toInt _, Int32.toInt_lt _⟩
theorem gSW {Big : List Cond} (hB : ∀ w ∈ W0, w ∈ Big) {own : String} {idx : Nat} {y : MethodName} {b : ByteArray} {n : Nat} {r : Option FieldType} {tb : List (Nat × Nat × Nat × Nat)} (h1 : Cond.methodLink own idx y ∈ W0) (h2 : Cond.static y ∈ W0) (h4 : Cond.initialized y.cls ∈ W0) (h : Cond.codeWith y b n r tb ∈ W0) : GoodIn Big (va_wsS own idx y (Cond.codeWith y b n r tb :: W0)) := fun w hw => by
  rcases List.mem_append.mp hw with hw | hw
  · simp only [List.mem_cons, List.not_mem_nil, or_false] at hw
    rcases hw with rfl | rfl | rfl
    · exact ⟨hB _ h1, (w0_good _ h1).2⟩
    · exact ⟨hB _ h2, (w0_good _ h2).2⟩
    · exact ⟨hB _ h4, (w0_good _ h4).2⟩
  · rcases List.mem_cons.mp hw with rfl | h3
    · exact ⟨hB _ h, (w0_good _ h).2⟩
    · exact ⟨hB _ h3, (w0_good _ h3).2⟩
section ZQ
variable {p : Program} {l : Launch} {e : Env} {R : Room} {s : State} {m : MethodId} {args : Array Value} {below : List Frame} {meth : Method} {c : Code} {H : Heap} {locs : List Loc} {cells slots : Nat} {Q : State → Prop}
variable {cc : ByteArray} {pc nL : Nat} {ls : Array Slot} {rest : List Value} {Ts : List Cond} {own : String}
variable {D : va_G} {τ : Nat → Nat} {tys : List (ClassId × FieldType)} {A : Nat → Prop} {wr wc : va_W} {mc ms : Nat}
theorem z_lcmpE (hx : p.tables.exec = Jvm.exec) (hb : c.code = cc) {x y : Int64} (he : x = y) (hdg : decode cc pc = .ok (.lcmp, 1)) (k : W p l e R s m args below meth c H locs cells slots Q (F0 m (pc + 1) ls (.int (zI 0) :: rest))) : W p l e R s m args below meth c H locs cells slots Q (F0 m pc ls (.long y :: .long x :: rest)) := by
  subst he
  intro T hT X
  obtain ⟨t, a, b⟩ := k T hT X
  refine ⟨t, ?_, b⟩
  jvm_step X.here [X.here.top, hx, hb, hdg, Int64.lt_irrefl]
  exact a
theorem z_iceqE (hx : p.tables.exec = Jvm.exec) (hb : c.code = cc) {a b : Int} (he : a = b) {off : Int} {tgt : Nat} (hdg : decode cc pc = .ok (.if_icmp .eq off, 3)) (ht : (pc : Int) + off = (tgt : Int)) (kt : W p l e R s m args below meth c H locs cells slots Q (F0 m tgt ls rest)) : W p l e R s m args below meth c H locs cells slots Q (F0 m pc ls (.int (zI b) :: .int (zI a) :: rest)) := by
  subst he
  exact lv_icmp_eq hx hb hdg ht (fun _ => kt) (fun q => absurd rfl q)
theorem z_sld (hx : p.tables.exec = Jvm.exec) (hb : c.code = cc) {b L : Nat} {xs : Nat → Int32} (hX : va_X b L xs s s.heap) (hbl : b < s.heap.size) (hbA : ¬ A b) (hS : va_S A s.heap H locs) {i : Int} (hi : (0 ≤ i ∧ i < L) ∧ L ≤ 3072) (hdg : decode cc pc = .ok (.iaload, 1)) (kk : W p l e R s m args below meth c H locs cells slots Q (F0 m (pc + 1) ls (.int (zI (xI xs i)) :: rest))) : W p l e R s m args below meth c H locs cells slots Q (F0 m pc ls (.int (zI i) :: .ref b :: rest)) := by
  refine va_sld hx hb hX hbl hbA hS (zI_in hi.1.1 hi.1.2 (by omega)) hdg ?_
  rw [zI_cl hi.1.1 (by omega), show xs i.toNat = zI (xI xs i) from (Int32.ofInt_toInt _).symm]
  exact kk
theorem zo_lald {cL : ClassId} {o : Nat} {f : Nat → Int64} (hx : p.tables.exec = Jvm.exec) (hb : c.code = cc) (hK : va_K D vwCl ((cL, .long) :: tys) s) (hP : va_P D vwCl (oC cL o f ++ wc) H) (hdg : decode cc pc = .ok (.laload, 1)) (kk : W p l e R s m args below meth c H locs cells slots Q (F0 m (pc + 1) ls (.long (f 0) :: rest))) : W p l e R s m args below meth c H locs cells slots Q (F0 m pc ls (.int (zI 0) :: .ref o :: rest)) :=
  va_lald hx hb hK hP 0 0 rfl rfl (zI_in (by decide) (by decide) (by decide)) hdg kk
theorem zfw_calli {φ : Int32 → va_W → Prop} {st : List Value} {av : Array Value} (hP : va_P D vwCl (wr ++ wc) H) (hD : va_D A (wr ++ wc)) (hS : va_S A s.heap H locs) (hA : ∀ q, s.heap.size ≤ q → A q) (hr : va_Run p l e R s m args below meth c H locs cells slots mc ms (F0 m pc ls st) rest (zQi φ (zB D (va_A wc H.size)) (va_A wc H.size) av) (va_A wc H.size))
    (kk : ∀ (r : Int32) (w1 : va_W) (H1 : Heap) (locs1 : List Loc), φ r w1 → va_P D vwCl (wr ++ w1) H1 → va_D A (wr ++ w1) → va_S A s.heap H1 locs1 → W p l e R s m args below meth c H1 locs1 (cells + mc) (slots + ms) Q (F0 m (pc + 3) ls (.int r :: rest))) : W p l e R s m args below meth c H locs cells slots Q (F0 m pc ls st) :=
  va_calli hr hS (fun q _ h => zp_free (zDc hD) hS hA q h) (zp_free (zDc hD) hS hA) (fun r u t H1 locs1 ht hvm hw hB hz1 hk1 hS1 => by
    have z := zJ hP hD hk1 (zp_free (zDc hD) hS hA) (ht ▸ hB.1) hB.2
    exact kk r u H1 locs1 hw z.1 z.2 hS1)
theorem zfw_calll {φ : Int64 → va_W → Prop} {st : List Value} {av : Array Value} (hP : va_P D vwCl (wr ++ wc) H) (hD : va_D A (wr ++ wc)) (hS : va_S A s.heap H locs) (hA : ∀ q, s.heap.size ≤ q → A q) (hr : va_Run p l e R s m args below meth c H locs cells slots mc ms (F0 m pc ls st) rest (zQl φ (zB D (va_A wc H.size)) (va_A wc H.size) av) (va_A wc H.size))
    (kk : ∀ (r : Int64) (w1 : va_W) (H1 : Heap) (locs1 : List Loc), φ r w1 → va_P D vwCl (wr ++ w1) H1 → va_D A (wr ++ w1) → va_S A s.heap H1 locs1 → W p l e R s m args below meth c H1 locs1 (cells + mc) (slots + ms) Q (F0 m (pc + 3) ls (.long r :: rest))) : W p l e R s m args below meth c H locs cells slots Q (F0 m pc ls st) :=
  va_calll hr hS (fun q _ h => zp_free (zDc hD) hS hA q h) (zp_free (zDc hD) hS hA) (fun r u t H1 locs1 ht hvm hw hB hz1 hk1 hS1 => by
    have z := zJ hP hD hk1 (zp_free (zDc hD) hS hA) (ht ▸ hB.1) hB.2
    exact kk r u H1 locs1 hw z.1 z.2 hS1)
theorem zfw_calld {φ : UInt64 → va_W → Prop} {st : List Value} {av : Array Value} (hP : va_P D vwCl (wr ++ wc) H) (hD : va_D A (wr ++ wc)) (hS : va_S A s.heap H locs) (hA : ∀ q, s.heap.size ≤ q → A q) (hr : va_Run p l e R s m args below meth c H locs cells slots mc ms (F0 m pc ls st) rest (zQd φ (zB D (va_A wc H.size)) (va_A wc H.size) av) (va_A wc H.size))
    (kk : ∀ (r : UInt64) (w1 : va_W) (H1 : Heap) (locs1 : List Loc), φ r w1 → va_P D vwCl (wr ++ w1) H1 → va_D A (wr ++ w1) → va_S A s.heap H1 locs1 → W p l e R s m args below meth c H1 locs1 (cells + mc) (slots + ms) Q (F0 m (pc + 3) ls (.double r :: rest))) : W p l e R s m args below meth c H locs cells slots Q (F0 m pc ls st) :=
  va_calld hr hS (fun q _ h => zp_free (zDc hD) hS hA q h) (zp_free (zDc hD) hS hA) (fun r u t H1 locs1 ht hvm hw hB hz1 hk1 hS1 => by
    have z := zJ hP hD hk1 (zp_free (zDc hD) hS hA) (ht ▸ hB.1) hB.2
    exact kk r u H1 locs1 hw z.1 z.2 hS1)
theorem zfw_callv {φ : va_W → Prop} {st : List Value} {av : Array Value} (hP : va_P D vwCl (wr ++ wc) H) (hD : va_D A (wr ++ wc)) (hS : va_S A s.heap H locs) (hA : ∀ q, s.heap.size ≤ q → A q) (hr : va_Run p l e R s m args below meth c H locs cells slots mc ms (F0 m pc ls st) rest (zQv φ (zB D (va_A wc H.size)) (va_A wc H.size) av) (va_A wc H.size))
    (kk : ∀ (w1 : va_W) (H1 : Heap) (locs1 : List Loc), φ w1 → va_P D vwCl (wr ++ w1) H1 → va_D A (wr ++ w1) → va_S A s.heap H1 locs1 → W p l e R s m args below meth c H1 locs1 (cells + mc) (slots + ms) Q (F0 m (pc + 3) ls rest)) : W p l e R s m args below meth c H locs cells slots Q (F0 m pc ls st) :=
  va_callv hr hS (fun q _ h => zp_free (zDc hD) hS hA q h) (zp_free (zDc hD) hS hA) (fun u t H1 locs1 ht hvm hw hB hz1 hk1 hS1 => by
    have z := zJ hP hD hk1 (zp_free (zDc hD) hS hA) (ht ▸ hB.1) hB.2
    exact kk u H1 locs1 hw z.1 z.2 hS1)
end ZQ
/-- what stands through the whole law -/
def LCx (p : Program) (l : Launch) (s : State) (m : MethodId) (c : Code) (D : va_G) (τ : Nat → Nat) (A : Nat → Prop) (cI cB cL : ClassId) (b L : Nat) (xs : Nat → Int32) : Prop :=
  CallFix p m c cL_law 9 s #[Value.ref b] W0 RL ∧ va_K D vwCl (tyM (gM cI cB)) s ∧ va_K D vwCl ((cL, .long) :: tyH (gH cI cB)) s ∧ va_K D vwCl (tyH (gH cI cB)) s ∧ GS τ A s s.heap ∧ (∀ q, s.heap.size ≤ q → A q) ∧ GX s ∧ l.stackTraces = false ∧ va_X b L xs s s.heap ∧ b < s.heap.size ∧ ¬ A b ∧ L ≤ 3072
abbrev LWd (α β : Nat → Nat) (cI cB cL : ClassId) (o : Nat) (h old ch : IA) (rg : TRg) (ln : TLn) (sl : TSl) (pd : TPd) (ct : TCt) (sg : TSg) (cd : IA) (ln9 pl le ro co nu : Int) (sv sl9 : IA) (tk : BA) (ct9 : Int) (mn mi mc : IA) (mq : BA) (mr mw : IA) (mt ma : Int) (mx : Bool) (mh : Int64) (fo : Nat → Int64) : va_W :=
  wM β (gM cI cB) h sv sl9 tk cd mn mi mc mq mr mw ct9 ln9 mt ma mx mh ++ (oC cL o fo ++ wH α (gH cI cB) (h, old, ch) rg ln sl pd ct sg (cd, ln9, pl, le, ro, co, nu) (sv, sl9, tk, ct9))
/-- at pc with the counter at i, whatever the two worlds hold: goes on to Q -/
def LSt (p : Program) (l : Launch) (e : Env) (s : State) (m : MethodId) (below : List Frame) (meth : Method) (c : Code) (Q : State → Prop) (D : va_G) (A : Nat → Prop) (α β : Nat → Nat) (cI cB cL : ClassId) (o b : Nat) (i : Int) (pc cells slots : Nat) : Prop :=
  ∀ (h old ch : IA) (rg : TRg) (ln : TLn) (sl : TSl) (pd : TPd) (ct : TCt) (sg : TSg) (cd : IA) (ln9 pl le ro co nu : Int) (sv sl9 : IA) (tk : BA) (ct9 : Int) (mn mi mc : IA) (mq : BA) (mr mw : IA) (mt ma : Int) (mx : Bool) (mh : Int64) (fo : Nat → Int64) (H : Heap) (locs : List Loc) (ls : Array Slot),
    LInv h sv sl9 ct9 cd ln9 pl le ro co nu → va_P D vwCl (LWd α β cI cB cL o h old ch rg ln sl pd ct sg cd ln9 pl le ro co nu sv sl9 tk ct9 mn mi mc mq mr mw mt ma mx mh fo) H → va_D A (LWd α β cI cB cL o h old ch rg ln sl pd ct sg cd ln9 pl le ro co nu sv sl9 tk ct9 mn mi mc mq mr mw mt ma mx mh fo) → va_S A s.heap H locs →
    lv_has ls 9 [(0, .ref b), (1, .ref (α 0)), (2, .ref (β 0)), (3, .ref o), (4, .int (zI i))] → W p l e room_1 s m #[Value.ref b] below meth c H locs cells slots Q (F0 m pc ls [])
