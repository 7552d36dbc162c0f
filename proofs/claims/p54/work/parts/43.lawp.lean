/-! THE LAW'S METHODS: rows and small facts -/
theorem and_b (a b : Int) (hb : 0 ≤ b ∧ b < 2147483648) : ∃ x : Int, (0 ≤ x ∧ x ≤ b) ∧ zI a &&& zI b = zI x := by
  refine ⟨(zI a &&& zI b).toInt, ?_, (Int32.ofInt_toInt _).symm⟩
  have h0 := zI_tn hb.1 hb.2
  have h1 : (zI a &&& zI b).toBitVec.toNat ≤ b.toNat := by
    rw [Int32.toBitVec_and, BitVec.toNat_and, ← h0]
    exact Nat.and_le_right
  have h2 : (zI a &&& zI b).toInt = ((zI a &&& zI b).toBitVec.toNat : Int) := BitVec.toInt_eq_toNat_of_lt (by omega)
  rw [h2]; omega
section ZA
variable {p : Program} {l : Launch} {e : Env} {R : Room} {s : State} {m : MethodId} {args : Array Value} {below : List Frame} {meth : Method} {c : Code} {H : Heap} {locs : List Loc} {cells slots : Nat} {Q : State → Prop}
variable {cc : ByteArray} {pc : Nat} {ls : Array Slot} {rest : List Value}
theorem z_iandC (hx : p.tables.exec = Jvm.exec) (hb : c.code = cc) {a b : Int} (h : 0 ≤ b ∧ b < 2147483648) (hdg : decode cc pc = .ok (.iand, 1)) (k : ∀ x : Int, 0 ≤ x ∧ x ≤ b → W p l e R s m args below meth c H locs cells slots Q (F0 m (pc + 1) ls (.int (zI x) :: rest))) : W p l e R s m args below meth c H locs cells slots Q (F0 m pc ls (.int (zI b) :: .int (zI a) :: rest)) := by
  obtain ⟨x, hx1, hx2⟩ := and_b a b h
  exact lv_iand hx hb hdg (by rw [hx2]; exact k x hx1)
theorem z_ishrA (hx : p.tables.exec = Jvm.exec) (hb : c.code = cc) {a b : Int32} (hdg : decode cc pc = .ok (.ishr, 1)) (k : ∀ x : Int, (-2147483648 ≤ x ∧ x < 2147483648) → W p l e R s m args below meth c H locs cells slots Q (F0 m (pc + 1) ls (.int (zI x) :: rest))) : W p l e R s m args below meth c H locs cells slots Q (F0 m pc ls (.int b :: .int a :: rest)) :=
  lv_ishr hx hb hdg (by rw [zI_of (a >>> (b &&& 31))]; exact k _ (zI_rng _))
end ZA
theorem e7 (x : Int) : 7 * (x / 7) + x % 7 = x := by omega
theorem svC_b {n : Int} (hn : 0 ≤ n ∧ n ≤ 6) : 0 ≤ S_svC n ∧ S_svC n ≤ 6 := by unfold S_svC; split <;> omega
theorem heap_hh {h : IA} {p a : Int} (hh : ∀ k, 0 ≤ k → k < 49 → 0 ≤ h k ∧ h k ≤ 99) : ∀ k, 0 ≤ k → k < 49 → 0 ≤ S_heap h p a k ∧ S_heap h p a k ≤ 99 := zmix_b hh (fun _ => clip_b _)
theorem smooth_hh {h : IA} (hh : ∀ k, 0 ≤ k → k < 49 → 0 ≤ h k ∧ h k ≤ 99) : ∀ k, 0 ≤ k → k < 49 → 0 ≤ S_smooth h k ∧ S_smooth h k ≤ 99 := zmix_b hh (fun _ => clip_b _)
theorem set_hh {h : IA} {p g : Int} (hh : ∀ k, 0 ≤ k → k < 49 → 0 ≤ h k ∧ h k ≤ 99) (hg : 0 ≤ g ∧ g ≤ 99) : ∀ k, 0 ≤ k → k < 49 → 0 ≤ zu h p g k ∧ zu h p g k ≤ 99 := fun k a b => by
  unfold zu; split
  · exact hg
  · exact hh k a b
theorem nl_b (m : BA) : 0 ≤ S_nlines m ∧ S_nlines m ≤ 84 := zC_b _ (by omega)
theorem st_b (h : IA) (p : Int) : 0 ≤ S_steps h p ∧ S_steps h p ≤ 49 := S_stepsN_b 49 p
theorem cr_st {m : BA} {i a b d : Int} (hi : 0 ≤ i) (h1 : a = zS (crP m) i) (h2 : b = a + (if i % 7 = 6 then 0 else z1 (m i != m (i + 1)))) (h3 : d = b + (if 42 ≤ i then 0 else z1 (m i != m (i + 7)))) : d = zS (crP m) (i + 1) := by
  rw [zS_up hi, ← h1, h3, h2]; unfold crP; omega
theorem bd_st {m : BA} {i a b d : Int} (hi : 0 ≤ i) (h1 : a = zS (bdP m) i) (h2 : b = a + (if i % 7 < 6 then (if i < 7 ∨ 41 < i then z1 (m i != m (i + 1)) else 0) else 0)) (h3 : d = b + (if i < 42 then (if i % 7 = 0 ∨ i % 7 = 6 then z1 (m i != m (i + 7)) else 0) else 0)) : d = zS (bdP m) (i + 1) := by
  rw [zS_up hi, ← h1, h3, h2]; unfold bdP; omega
theorem bk_t {h : IA} {L i bk v : Int} (hi : 0 ≤ i) (hb : bk = zS (fun k => if L < h k then h k - L else 0) i) (q : L < h i) (hv : v = h i) : bk + (v - L) = zS (fun k => if L < h k then h k - L else 0) (i + 1) := by
  rw [zS_up hi, ← hb, if_pos q, hv]
theorem bk_f {h : IA} {L i bk : Int} (hi : 0 ≤ i) (hb : bk = zS (fun k => if L < h k then h k - L else 0) i) (q : ¬ L < h i) : bk + 0 = zS (fun k => if L < h k then h k - L else 0) (i + 1) := by
  rw [zS_up hi, ← hb, if_neg q]
theorem pc_t {h : IA} {L i pc v : Int} (hi : 0 ≤ i) (hb : pc = zS (pcP h L) i) (q : i % 7 < 6 ∧ i < 42) (hv : v = S_pie h (i / 7) (i % 7) L) : pc + v = zS (pcP h L) (i + 1) := by
  rw [zS_up hi, ← hb, hv]; unfold pcP; rw [if_pos q]
theorem pc_f {h : IA} {L i pc : Int} (hi : 0 ≤ i) (hb : pc = zS (pcP h L) i) (q : ¬ (i % 7 < 6 ∧ i < 42)) : pc = zS (pcP h L) (i + 1) := by
  rw [zS_up hi, ← hb]; unfold pcP; rw [if_neg q]; omega
def riF (h : IA) (a b : Int) : IA := fun i => zmax 0 (h (S_on a b (i + 1)) - h (S_on a b i))
theorem ri_st {h : IA} {a b i cl its nx : Int} (hi : 0 ≤ i ∧ i ≤ S_cutn a b) (hc : cl = zS (riF h a b) (if i ≤ S_cutn a b then i else S_cutn a b)) (h1 : its = h (S_on a b i)) (h2 : i < S_cutn a b → nx = h (S_on a b (i + 1))) (h3 : S_cutn a b ≤ i → nx = its) : cl + (if its < nx then nx - its else 0) = zS (riF h a b) (if i + 1 ≤ S_cutn a b then i + 1 else S_cutn a b) := by
  rw [if_pos hi.2] at hc
  by_cases q : i + 1 ≤ S_cutn a b
  · rw [if_pos q, zS_up hi.1, ← hc]
    have e : riF h a b i = zmax 0 (nx - its) := by unfold riF; rw [h2 (by omega), h1]
    rw [e]; have hz := zmax_spec 0 (nx - its); split <;> omega
  · rw [if_neg q]
    have e : nx = its := h3 (by omega)
    have e2 : i = S_cutn a b := by omega
    rw [e, if_neg (by omega), ← e2, ← hc]; omega
theorem ps_st {h : IA} {a b i ps its : Int} (hi : 0 ≤ i) (hp : ps = S_top (fun i => h (S_on a b i)) i) (h1 : its = h (S_on a b i)) : (if ps < its then its else ps) = S_top (fun i => h (S_on a b i)) (i + 1) := by
  rw [S_top_up hi, ← hp, ← h1]; have hz := zmax_spec ps its; split <;> omega
/-! a call with the script: the world stays -/
section ZCL
variable {p : Program} {l : Launch} {e : Env} {R : Room} {s : State} {m : MethodId} {args : Array Value} {below : List Frame} {meth : Method} {c : Code} {H : Heap} {locs : List Loc} {cells slots : Nat} {Q : State → Prop}
variable {pc nL : Nat} {ls : Array Slot} {rest : List Value} {D : va_G} {A : Nat → Prop} {ws : va_W}
abbrev wz_L_cell : List Cond := .code yL_cell cL_cell 2 (some .int) :: W0
abbrev rm_L_cell : Room := { frames := 0, cells := 0, slots := 0, locals := 0 }
theorem hd_L_cell : yL_cell.cls = RL ∧ yL_cell.cls ≠ "java/lang/invoke/MethodHandle" ∧ yL_cell.cls ≠ "java/lang/invoke/VarHandle" ∧ (parseMethodDescriptor yL_cell.desc).map (fun d => d.parameters.length) = some 2 := by decide +kernel
def cePre (b L : Nat) (xs : Nat → Int32) (sz : Nat) (U : State) : Prop := U.heap.size = sz ∧ va_X b L xs U U.heap ∧ b < sz
theorem ce_blind {b L sz : Nat} {xs : Nat → Int32} {av : List Value} : FrameBlind (va_Pc av (cePre b L xs sz)) := fun a U g mk q => by
  obtain ⟨q0, q1, q2, q3⟩ := q
  exact ⟨q0, q1, va_X.moved (u := U) (U := U.calling g mk a) (Vm.Alike.refl U.vm) q2, q3⟩
theorem zI_ofNat {n : Nat} (h : n < 2147483648) : Int32.ofNat n = zI (n : Int) := by
  refine Int32.toInt_inj.mp ?_
  rw [zI_toInt ⟨by omega, by omega⟩, Int32.toInt_ofNat_of_lt (by omega)]
set_option maxHeartbeats 4000000 in
set_option maxRecDepth 100000 in
theorem c_L_cell (l : Launch) (b L : Nat) (xs : Nat → Int32) (k : Int) (hk : 0 ≤ k ∧ k < 60) (hL : L ≤ 260) : ∀ sz : Nat, Met l yL_cell wz_L_cell rm_L_cell (va_Pc [.ref b, .int (zI k)] (cePre b L xs sz)) (va_Qi (fun (_ : Int32) (_ : Unit) => True) (fun _ _ => True) (fun q => sz ≤ q)) 0 0 (fun q => sz ≤ q) := by
  intro sz
  refine Met.ofW (cc := cL_cell) (maxL := 2) (ret := some .int) (by decide +kernel) rfl ?_
  intro p e s m args below meth c s₁ B hml hv
  obtain ⟨rfl, hsz, hX, hbl⟩ := hv
  subst hsz
  have hx := B.exec
  have hb := B.bytes
  have hr := B.returns
  have hlk := B.notSynchronized
  have hbA : ¬ (fun q : Nat => s.heap.size ≤ q) b := Nat.not_le.mpr hbl
  have hS : va_S (fun q : Nat => s.heap.size ≤ q) s.heap s.heap [] := va_S.rf
  rw [lg_entry_eq]
  have hl := lv_entry ([.ref b, .int (zI k)]) (n := 2) (Nat.le_of_ble_eq_true rfl)
  generalize (lg_sl ([.ref b, .int (zI k)]) ++ List.replicate (2 - (lg_sl ([.ref b, .int (zI k)])).length) Slot.unset).toArray = ls at hl ⊢
  have hl : lv_has ls 2 [(0, .ref b), (1, .int (zI k))] := hl
  refine lv_iload_n hx hb dL_cell_0 rfl (lv_at hl 1 rfl) ?_
  refine lv_aload_n hx hb dL_cell_1 rfl (lv_at hl 0 rfl) ?_
  refine va_slen hx hb hX hbl hbA hS dL_cell_2 ?_
  rw [zI_ofNat (n := L) (by omega)]
  have hret : ∀ (pc : Nat) (v : Int32), decode cL_cell pc = .ok (.ireturn, 1) → W p l e rm_L_cell s m #[Value.ref b, Value.int (zI k)] below meth c s.heap [] 0 0 (MQ below (va_Qi (fun (_ : Int32) (_ : Unit) => True) (fun _ _ => True) (fun q => s.heap.size ≤ q)) #[Value.ref b, Value.int (zI k)] s 0 0 (fun q => s.heap.size ≤ q)) (F0 m pc ls [.int v]) := fun pc v hdg =>
    W.iret hx hb hr (fun t ht _ => ⟨⟨v, (), rfl, trivial, trivial⟩, hS.F ht⟩) hS.2.2 hdg hlk
  refine z_icge (tgt := 12) hx hb ⟨by omega, by omega⟩ ⟨by omega, by omega⟩ dL_cell_3 (by decide) (fun c_3 => ?_) (fun c_3 => ?_)
  · refine lv_sipush (v := zI 7919) hx hb dL_cell_12 (zI_b16 (by decide)) ?_
    refine lv_iload_n hx hb dL_cell_15 rfl (lv_at hl 1 rfl) ?_
    refine lv_iconst (v := zI 3) hx hb dL_cell_16 rfl ?_
    refine z_iadd hx hb dL_cell_17 ?_
    refine z_imul hx hb dL_cell_18 ?_
    refine lv_iload_n hx hb dL_cell_19 rfl (lv_at hl 1 rfl) ?_
    refine lv_bipush (v := zI 11) hx hb dL_cell_20 (zI_b8 (by decide)) ?_
    refine z_iadd hx hb dL_cell_22 ?_
    refine z_imul hx hb dL_cell_23 ?_
    exact hret 24 _ dL_cell_24
  · refine lv_aload_n hx hb dL_cell_6 rfl (lv_at hl 0 rfl) ?_
    refine lv_iload_n hx hb dL_cell_7 rfl (lv_at hl 1 rfl) ?_
    refine va_sld hx hb hX hbl hbA hS (zI_in hk.1 c_3 (by omega)) dL_cell_8 ?_
    refine lv_goto (tgt := 24) hx hb dL_cell_9 (by decide) ?_
    exact hret 24 _ dL_cell_24
theorem zc_call {b L : Nat} {xs : Nat → Int32} {k : Int} (hP : va_P D vwCl ws H) (hD : va_D A ws) (hS : va_S A s.heap H locs) (hA : ∀ q, s.heap.size ≤ q → A q) (hM : Met l yL_cell wz_L_cell rm_L_cell (va_Pc [.ref b, .int (zI k)] (cePre b L xs H.size)) (va_Qi (fun (_ : Int32) (_ : Unit) => True) (fun _ _ => True) (fun q => H.size ≤ q)) 0 0 (fun q => H.size ≤ q))
    (hXs : va_X b L xs s s.heap) (hbl : b < s.heap.size) (hbA : ¬ A b) (hC : CallFix p m c cL_law nL s args W0 RL) (hW0 : ∀ w ∈ W0, w.before args s = true) (hlm : ls.size = nL) (hdg : decode cL_law pc = .ok (.invokestatic 169, 3)) (hrest : (rest.map fun v => v.category).sum ≤ 8) (hroom : cells ≤ room_1.cells ∧ slots ≤ room_1.slots)
    (kk : ∀ (x : Int) (H1 : Heap) (locs1 : List Loc), (-2147483648 ≤ x ∧ x < 2147483648) → va_P D vwCl ws H1 → va_D A ws → va_S A s.heap H1 locs1 → W p l e room_1 s m args below meth c H1 locs1 cells slots Q (F0 m (pc + 3) ls (.int (zI x) :: rest))) : W p l e room_1 s m args below meth c H locs cells slots Q (F0 m pc ls (.int (zI k) :: .ref b :: rest)) := by
  have hbH : H[b]? = s.heap[b]? := hS.2.1 b hbl hbA
  have hXH : ∀ U : State, s.WarmedH U.vm → U.heap = H → va_X b L xs U U.heap := fun U hW hU => by
    rw [hU]; exact (va_X.moved hW.alike hXs).kept hbH
  have hp : PreS s H (va_Pc [.ref b, .int (zI k)] (cePre b L xs H.size)) [.ref b, .int (zI k)] := ⟨ce_blind, fun U hU hW => ⟨rfl, by rw [hU], hXH U hW hU, Nat.lt_of_lt_of_le hbl hS.1⟩⟩
  have hr := va_runS (As := [.ref b, .int (zI k)]) (rest := rest) (cells := cells) (slots := slots) (locs := locs) (g := F0 m pc ls (.int (zI k) :: .ref b :: rest)) (R := room_1) (l := l) (e := e) (below := below) (meth := meth) hC hM (va_cwS 2 hC.2.2.2.2 (gS (fun _ h => h) wl_L_169 wt_L_cell wi_L wc_L_cell) rfl rfl rfl hd_L_cell.2 ⟨Nat.le_of_ble_eq_true rfl, Nat.le_of_ble_eq_true rfl⟩) hp rfl rfl hlm rfl (lv_room hrest) hdg hroom
  refine va_calli hr hS (fun q _ h => hA q (Nat.le_trans hS.1 h)) (fun q h => hA q (Nat.le_trans hS.1 h)) (fun r u t H1 locs1 ht _ _ _ hz hk1 hS1 => ?_)
  rw [zI_of r]
  exact kk _ H1 locs1 (zI_rng r) (hP.kept (fun k q hk => hk1 _ (vx_lt hP hk) (Nat.not_le.mpr (vx_lt hP hk)))) hD hS1
end ZCL
