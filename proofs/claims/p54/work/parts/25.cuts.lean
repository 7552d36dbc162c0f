abbrev wz_X0_along : List Cond := .code yX0_along cX0_along 4 (some .int) :: W0
abbrev rm_X0_along : Room := { frames := 1, cells := 0, slots := 0, locals := 22 }
theorem hd_X0_along : yX0_along.cls = RX0 ∧ yX0_along.cls ≠ "java/lang/invoke/MethodHandle" ∧ yX0_along.cls ≠ "java/lang/invoke/VarHandle" ∧ (parseMethodDescriptor yX0_along.desc).map (fun d => d.parameters.length) = some 3 := by decide +kernel
set_option maxHeartbeats 4000000 in
set_option maxRecDepth 100000 in
theorem c_X0_along (l : Launch) (D : va_G) (τ : Nat → Nat) (α : Nat → Nat) (γ : Nat → ClassId) (rl : TRl) (rg : TRg) (ln : TLn) (sl : TSl) (pd : TPd) (hg9 : IA) (la9 : Int) (sg : TSg) (od : TOd) (hs : THs) (st : Int) (dd : Int) (i : Int) (hla : 0 ≤ la9 ∧ la9 ≤ 6) (hi : 0 ≤ i ∧ i ≤ la9) (hst : 0 ≤ st ∧ st ≤ 6) (hsd : 0 ≤ st + dd ∧ st + dd ≤ 6) : cM l yX0_along wz_X0_along rm_X0_along D τ (tyH γ) [.ref (α 6), .int (zI st), .int (zI dd), .int (zI i)] (wH α γ rl rg ln sl pd (hg9, la9) sg od hs) (zQi (fun r w => ∃ (v : Int), (v = S_along la9 st dd i) ∧ (0 ≤ v ∧ v ≤ 6) ∧ r = zI v ∧ wH α γ rl rg ln sl pd (hg9, la9) sg od hs = w)) := by
  refine z_ofM (cc := cX0_along) (maxL := 4) (ret := (some .int)) (by decide +kernel) rfl (Nat.le_of_ble_eq_true rfl) ?_
  intro pg e s m args below meth c hC hr hlk hnm hK hP A hD hG hA hS ls hl Q hQ
  have hx := hC.1
  have hb := hC.2.1
  have hml := hC.2.2.1
  have hown := hC.2.2.2.1
  have hts := hC.2.2.2.2
  have hB : ∀ w ∈ W0, w ∈ wz_X0_along := fun _ h => List.mem_cons_of_mem _ h
  have hW0 : ∀ w ∈ W0, w.before args s = true := fun w h => hts w (hB w h)
  have hl : lv_has ls 4 [(0, .ref (α 6)), (1, .int (zI st)), (2, .int (zI dd)), (3, .int (zI i))] := hl
  refine lv_aload_n hx hb dX0_along_0 rfl (lv_at hl 0 rfl) ?_
  refine va_get (D := D) (ci := 0) (v := .int (zI la9)) (C := RX0) (T := TX0) (N := 2) hx hb hts (fun w h => List.mem_cons_of_mem _ (wx_X0 w h)) hown hK hP 6 rfl rfl 1 (by decide) (hW0 _ wf_X0_15) (fun _ h9 => h9) rfl dX0_along_1 ?_
  refine z_ifgt (tgt := 9) hx hb ⟨by omega, by omega⟩ dX0_along_4 (by decide) (fun c_4 => ?_) (fun c_4 => ?_)
  · refine lv_iconst (v := zI 2) hx hb dX0_along_9 rfl ?_
    refine lv_aload_n hx hb dX0_along_10 rfl (lv_at hl 0 rfl) ?_
    refine va_get (D := D) (ci := 0) (v := .int (zI la9)) (C := RX0) (T := TX0) (N := 2) hx hb hts (fun w h => List.mem_cons_of_mem _ (wx_X0 w h)) hown hK hP 6 rfl rfl 1 (by decide) (hW0 _ wf_X0_15) (fun _ h9 => h9) rfl dX0_along_11 ?_
    refine z_imul hx hb dX0_along_14 ?_
    refine lv_iload_n hx hb dX0_along_15 rfl (lv_at hl 1 rfl) ?_
    refine z_imul hx hb dX0_along_16 ?_
    refine lv_iconst (v := zI 2) hx hb dX0_along_17 rfl ?_
    refine lv_iload_n hx hb dX0_along_18 rfl (lv_at hl 3 rfl) ?_
    refine z_imul hx hb dX0_along_19 ?_
    refine lv_iload_n hx hb dX0_along_20 rfl (lv_at hl 2 rfl) ?_
    refine z_imul hx hb dX0_along_21 ?_
    refine z_iadd hx hb dX0_along_22 ?_
    refine lv_aload_n hx hb dX0_along_23 rfl (lv_at hl 0 rfl) ?_
    refine va_get (D := D) (ci := 0) (v := .int (zI la9)) (C := RX0) (T := TX0) (N := 2) hx hb hts (fun w h => List.mem_cons_of_mem _ (wx_X0 w h)) hown hK hP 6 rfl rfl 1 (by decide) (hW0 _ wf_X0_15) (fun _ h9 => h9) rfl dX0_along_24 ?_
    refine z_iadd hx hb dX0_along_27 ?_
    refine lv_iconst (v := zI 2) hx hb dX0_along_28 rfl ?_
    refine lv_aload_n hx hb dX0_along_29 rfl (lv_at hl 0 rfl) ?_
    refine va_get (D := D) (ci := 0) (v := .int (zI la9)) (C := RX0) (T := TX0) (N := 2) hx hb hts (fun w h => List.mem_cons_of_mem _ (wx_X0 w h)) hown hK hP 6 rfl rfl 1 (by decide) (hW0 _ wf_X0_15) (fun _ h9 => h9) rfl dX0_along_30 ?_
    refine z_imul hx hb dX0_along_33 ?_
    have ha9 := S_al_n (n := la9) (st := st) (d := dd) (i := i) (by omega) hi hst hsd
    refine z_calli hP hD hS hA (va_runS (As := [.int (zI ((((2 * la9) * st) + ((2 * i) * dd)) + la9)), .int (zI (2 * la9))]) (rest := []) hC (c_J9_floorDiv_7cf53 l D τ _ _ ((((2 * la9) * st) + ((2 * i) * dd)) + la9) (2 * la9) (by exact ⟨ha9.1, by omega⟩) (by omega) _) (va_cwS 2 hts (gS hB wl_X0_44 wt_J9_floorDiv_7cf53 wi_J9 wc_J9_floorDiv_7cf53) rfl rfl rfl hd_J9_floorDiv_7cf53.2 ⟨Nat.le_of_ble_eq_true rfl, Nat.le_of_ble_eq_true rfl⟩) (zp_S hK hP hD hS hA hG) rfl rfl hl.1 rfl (lv_room (Nat.le_of_ble_eq_true rfl)) dX0_along_34 ⟨Nat.le_of_ble_eq_true rfl, Nat.le_of_ble_eq_true rfl⟩) (fun r w1 H locs hq9 hP hD hS => ?_)
    obtain ⟨v34_1, hv34_0, rfl, rfl⟩ := hq9
    exact z_iret hC hr hlk hQ hP hD hS ⟨v34_1, (by rw [hv34_0]; unfold S_along; rw [if_neg (by omega)]), (by have z9 := S_al_b hla hi hst hsd; unfold S_along at z9; rw [if_neg (by omega)] at z9; rw [hv34_0]; exact z9), rfl, rfl⟩ dX0_along_37
  · refine lv_iload_n hx hb dX0_along_7 rfl (lv_at hl 1 rfl) ?_
    exact z_iret hC hr hlk hQ hP hD hS ⟨st, (by unfold S_along; rw [if_pos (by omega)]), (by omega), rfl, rfl⟩ dX0_along_8

abbrev wz_X0_lay : List Cond := .code yX0_lay cX0_lay 9 none :: W0
abbrev rm_X0_lay : Room := { frames := 2, cells := 0, slots := 0, locals := 45 }
theorem hd_X0_lay : yX0_lay.cls = RX0 ∧ yX0_lay.cls ≠ "java/lang/invoke/MethodHandle" ∧ yX0_lay.cls ≠ "java/lang/invoke/VarHandle" ∧ (parseMethodDescriptor yX0_lay.desc).map (fun d => d.parameters.length) = some 3 := by decide +kernel
set_option maxHeartbeats 4000000 in
set_option maxRecDepth 100000 in
theorem c_X0_lay (l : Launch) (D : va_G) (τ : Nat → Nat) (α : Nat → Nat) (γ : Nat → ClassId) (h : IA) (old : IA) (ch : IA) (rg : TRg) (ln : TLn) (sl : TSl) (pd : TPd) (hg9 : IA) (la9 : Int) (sg : TSg) (od : TOd) (hs : THs) (a : Int) (b : Int) (ha : 0 ≤ a ∧ a < 49) (hb2 : 0 ≤ b ∧ b < 49) (hh : ∀ k, 0 ≤ k → k < 49 → 0 ≤ h k ∧ h k ≤ 99) : cM l yX0_lay wz_X0_lay rm_X0_lay D τ (tyH γ) [.ref (α 6), .ref (α 1), .int (zI a), .int (zI b)] (wH α γ (h, old, ch) rg ln sl pd (hg9, la9) sg od hs) (zQv (fun w => ∃ (f2 : IA), ∃ (n2 : Int), (n2 = S_cutn a b) ∧ (f2 = zmix (S_cutn a b + 1) (fun i => h (S_on a b i)) hg9) ∧ wH α γ (h, old, ch) rg ln sl pd (f2, n2) sg od hs = w)) := by
  refine z_ofM (cc := cX0_lay) (maxL := 9) (ret := none) (by decide +kernel) rfl (Nat.le_of_ble_eq_true rfl) ?_
  intro pg e s m args below meth c hC hr hlk hnm hK hP A hD hG hA hS ls hl Q hQ
  have hx := hC.1
  have hb := hC.2.1
  have hml := hC.2.2.1
  have hown := hC.2.2.2.1
  have hts := hC.2.2.2.2
  have hB : ∀ w ∈ W0, w ∈ wz_X0_lay := fun _ h => List.mem_cons_of_mem _ h
  have hW0 : ∀ w ∈ W0, w.before args s = true := fun w h => hts w (hB w h)
  have hl : lv_has ls 9 [(0, .ref (α 6)), (1, .ref (α 1)), (2, .int (zI a)), (3, .int (zI b))] := hl
  refine lv_iload_n hx hb dX0_lay_0 rfl (lv_at hl 2 rfl) ?_
  refine lv_bipush (v := zI 7) hx hb dX0_lay_1 (zI_b8 (by decide)) ?_
  refine z_idiv hx hb ⟨⟨by omega, by omega⟩, by omega, by omega⟩ dX0_lay_3 ?_
  refine lv_istore (lv' := [(4, .int (zI (a / 7))), (0, .ref (α 6)), (1, .ref (α 1)), (2, .int (zI a)), (3, .int (zI b))]) hx hb dX0_lay_4 hl (by decide) rfl (fun ls hl => ?_)
  refine lv_iload_n hx hb dX0_lay_6 rfl (lv_at hl 3 rfl) ?_
  refine lv_bipush (v := zI 7) hx hb dX0_lay_7 (zI_b8 (by decide)) ?_
  refine z_irem hx hb ⟨⟨by omega, by omega⟩, by omega, by omega⟩ dX0_lay_9 ?_
  refine lv_istore (lv' := [(5, .int (zI (a % 7))), (4, .int (zI (a / 7))), (0, .ref (α 6)), (1, .ref (α 1)), (2, .int (zI a)), (3, .int (zI b))]) hx hb dX0_lay_10 hl (by decide) rfl (fun ls hl => ?_)
  refine lv_iload_n hx hb dX0_lay_12 rfl (lv_at hl 5 rfl) ?_
  refine lv_bipush (v := zI 7) hx hb dX0_lay_13 (zI_b8 (by decide)) ?_
  refine z_idiv hx hb ⟨⟨by omega, by omega⟩, by omega, by omega⟩ dX0_lay_15 ?_
  refine lv_iload hx hb dX0_lay_16 (lv_at hl 1 rfl) ?_
  refine z_isub hx hb dX0_lay_18 ?_
  refine lv_istore (lv' := [(6, .int (zI ((b / 7) - (a / 7)))), (5, .int (zI (a % 7))), (4, .int (zI (a / 7))), (0, .ref (α 6)), (1, .ref (α 1)), (2, .int (zI a)), (3, .int (zI b))]) hx hb dX0_lay_19 hl (by decide) rfl (fun ls hl => ?_)
  refine lv_iload_n hx hb dX0_lay_21 rfl (lv_at hl 6 rfl) ?_
  refine lv_bipush (v := zI 7) hx hb dX0_lay_22 (zI_b8 (by decide)) ?_
  refine z_irem hx hb ⟨⟨by omega, by omega⟩, by omega, by omega⟩ dX0_lay_24 ?_
  refine lv_iload hx hb dX0_lay_25 (lv_at hl 1 rfl) ?_
  refine z_isub hx hb dX0_lay_27 ?_
  refine lv_istore (lv' := [(7, .int (zI ((b % 7) - (a % 7)))), (6, .int (zI ((b / 7) - (a / 7)))), (5, .int (zI (a % 7))), (4, .int (zI (a / 7))), (0, .ref (α 6)), (1, .ref (α 1)), (2, .int (zI a)), (3, .int (zI b))]) hx hb dX0_lay_28 hl (by decide) rfl (fun ls hl => ?_)
  refine lv_aload_n hx hb dX0_lay_30 rfl (lv_at hl 4 rfl) ?_
  refine lv_bipush (v := zI 6) hx hb dX0_lay_31 (zI_b8 (by decide)) ?_
  refine lv_iload hx hb dX0_lay_33 (lv_at hl 1 rfl) ?_
  refine z_mabs hx hb (hml.trans hl.1.symm) hown (hW0 _ wl_X0_19) (hW0 _ wt_Lib_Math_abs_name) (hW0 _ wi_Math) (hW0 _ wc_Lib_Math_abs_name) (Nat.le_of_ble_eq_true rfl) (Nat.le_of_ble_eq_true rfl) (Nat.le_of_ble_eq_true rfl) (Nat.le_of_ble_eq_true rfl) ⟨by omega, by omega⟩ dX0_lay_35 ?_
  obtain ⟨x35_1, hx35_1⟩ : ∃ z : Int, z = zabs ((b / 7) - (a / 7)) := ⟨_, rfl⟩
  rw [← hx35_1]
  have kx35_1 := zabs_spec ((b / 7) - (a / 7))
  rw [← hx35_1] at kx35_1
  refine lv_iload hx hb dX0_lay_38 (lv_at hl 0 rfl) ?_
  refine z_mabs hx hb (hml.trans hl.1.symm) hown (hW0 _ wl_X0_19) (hW0 _ wt_Lib_Math_abs_name) (hW0 _ wi_Math) (hW0 _ wc_Lib_Math_abs_name) (Nat.le_of_ble_eq_true rfl) (Nat.le_of_ble_eq_true rfl) (Nat.le_of_ble_eq_true rfl) (Nat.le_of_ble_eq_true rfl) ⟨by omega, by omega⟩ dX0_lay_40 ?_
  obtain ⟨x40_2, hx40_2⟩ : ∃ z : Int, z = zabs ((b % 7) - (a % 7)) := ⟨_, rfl⟩
  rw [← hx40_2]
  have kx40_2 := zabs_spec ((b % 7) - (a % 7))
  rw [← hx40_2] at kx40_2
  refine z_mmax hx hb (hml.trans hl.1.symm) hown (hW0 _ wl_X0_25) (hW0 _ wt_Lib_Math_max_name) (hW0 _ wi_Math) (hW0 _ wc_Lib_Math_max_name) (Nat.le_of_ble_eq_true rfl) (Nat.le_of_ble_eq_true rfl) (Nat.le_of_ble_eq_true rfl) (Nat.le_of_ble_eq_true rfl) ⟨by omega, by omega⟩ ⟨by omega, by omega⟩ dX0_lay_43 ?_
  obtain ⟨x43_3, hx43_3⟩ : ∃ z : Int, z = zmax x35_1 x40_2 := ⟨_, rfl⟩
  rw [← hx43_3]
  have kx43_3 := zmax_spec x35_1 x40_2
  rw [← hx43_3] at kx43_3
  refine z_mmin hx hb (hml.trans hl.1.symm) hown (hW0 _ wl_X0_29) (hW0 _ wt_Lib_Math_min_name) (hW0 _ wi_Math) (hW0 _ wc_Lib_Math_min_name) (Nat.le_of_ble_eq_true rfl) (Nat.le_of_ble_eq_true rfl) (Nat.le_of_ble_eq_true rfl) (Nat.le_of_ble_eq_true rfl) ⟨by omega, by omega⟩ ⟨by omega, by omega⟩ dX0_lay_46 ?_
  obtain ⟨x46_4, hx46_4⟩ : ∃ z : Int, z = zmin 6 x43_3 := ⟨_, rfl⟩
  rw [← hx46_4]
  have kx46_4 := zmin_spec 6 x43_3
  rw [← hx46_4] at kx46_4
  have hmx : x46_4 = S_cutn a b := by have z1 := S_cutn_b ha hb2; unfold S_cutn at z1 ⊢; rw [← hx35_1, ← hx40_2, ← hx43_3] at z1 ⊢; omega
  refine va_put (D := D) (ci := 0) (v := .int (zI x46_4)) (ty := .int) (C := RX0) (T := TX0) (N := 2) hx hb hts (fun w h => List.mem_cons_of_mem _ (wx_X0 w h)) tyX0 tyX0_ok nmX0 hown hK hP hD hS 6 rfl rfl 1 (by decide) (hW0 _ wf_X0_15) (fun _ h9 => h9) rfl (by decide +kernel) rfl rfl (Nat.le_of_ble_eq_true rfl) dX0_lay_49 (fun H locs hP hD hS => ?_)
  have hP : va_P D vwCl (wH α γ (h, old, ch) rg ln sl pd (hg9, x46_4) sg od hs) H := hP
  have hD : va_D A (wH α γ (h, old, ch) rg ln sl pd (hg9, x46_4) sg od hs) := hD
  refine lv_iconst (v := zI 0) hx hb dX0_lay_52 rfl ?_
  refine lv_istore (lv' := [(8, .int (zI 0)), (7, .int (zI ((b % 7) - (a % 7)))), (6, .int (zI ((b / 7) - (a / 7)))), (5, .int (zI (a % 7))), (4, .int (zI (a / 7))), (0, .ref (α 6)), (1, .ref (α 1)), (2, .int (zI a)), (3, .int (zI b))]) hx hb dX0_lay_53 hl (by decide) rfl (fun ls hl => ?_)
  suffices HL_55 : ∀ (n_55 : Nat), ∀ (f1 : IA) (n1 : Int) (i : Int) (H : Heap) (locs : List Loc) (hP : va_P D vwCl (wH α γ (h, old, ch) rg ln sl pd (f1, n1) sg od hs) H) (hD : va_D A (wH α γ (h, old, ch) rg ln sl pd (f1, n1) sg od hs)) (hS : va_S A s.heap H locs) (ls : Array Slot) (hl : lv_has ls 9 [(8, .int (zI i)), (7, .int (zI ((b % 7) - (a % 7)))), (6, .int (zI ((b / 7) - (a / 7)))), (5, .int (zI (a % 7))), (4, .int (zI (a / 7))), (0, .ref (α 6)), (1, .ref (α 1)), (2, .int (zI a)), (3, .int (zI b))]) (hn1 : n1 = S_cutn a b) (hn6 : 0 ≤ n1 ∧ n1 ≤ 6) (hi : 0 ≤ i ∧ i ≤ n1 + 1) (hf1 : f1 = zmix i (fun i => h (S_on a b i)) hg9) (hm : (n1 + 1 - i).toNat < n_55), W pg l e rm_X0_lay s m args below meth c H locs 0 0 Q (F0 m 55 ls []) from HL_55 _ hg9 x46_4 0 _ _ hP hD hS _ (lv_sub hl [0, 1, 2, 3, 4, 5, 6, 7, 8] rfl) (by exact hmx) (by rw [hmx]; exact S_cutn_b ha hb2) (by first | assumption | rfl | omega) (by exact (zmix_0 _ _).symm) (Nat.lt_succ_self _)
  intro n_55
  induction n_55 with
  | zero => intro f1 n1 i H locs hP hD hS ls hl hn1 hn6 hi hf1 hm; exact absurd hm (Nat.not_lt_zero _)
  | succ n_55 ih_55 =>
    intro f1 n1 i H locs hP hD hS ls hl hn1 hn6 hi hf1 hm
    refine lv_iload hx hb dX0_lay_55 (lv_at hl 0 rfl) ?_
    refine lv_aload_n hx hb dX0_lay_57 rfl (lv_at hl 5 rfl) ?_
    refine va_get (D := D) (ci := 0) (v := .int (zI n1)) (C := RX0) (T := TX0) (N := 2) hx hb hts (fun w h => List.mem_cons_of_mem _ (wx_X0 w h)) hown hK hP 6 rfl rfl 1 (by decide) (hW0 _ wf_X0_15) (fun _ h9 => h9) rfl dX0_lay_58 ?_
    refine z_icgt (tgt := 111) hx hb ⟨by omega, by omega⟩ ⟨by omega, by omega⟩ dX0_lay_61 (by decide) (fun c_61 => ?_) (fun c_61 => ?_)
    · exact z_vret hC hr hlk hQ hP hD hS ⟨f1, n1, (by exact hn1), (by rw [hf1, show i = S_cutn a b + 1 by omega]), rfl⟩ dX0_lay_111
    · refine lv_iload hx hb dX0_lay_64 (lv_at hl 0 rfl) ?_
      refine lv_bipush (v := zI 7) hx hb dX0_lay_66 (zI_b8 (by decide)) ?_
      refine z_icge (tgt := 111) hx hb ⟨by omega, by omega⟩ ⟨by omega, by omega⟩ dX0_lay_68 (by decide) (fun c_68 => ?_) (fun c_68 => ?_)
      · exact absurd c_68 (by omega)
      · refine lv_aload_n hx hb dX0_lay_71 rfl (lv_at hl 5 rfl) ?_
        refine va_get (D := D) (ci := 0) (v := .ref (α 26)) (C := RX0) (T := TX0) (N := 2) hx hb hts (fun w h => List.mem_cons_of_mem _ (wx_X0 w h)) hown hK hP 6 rfl rfl 0 (by decide) (hW0 _ wf_X0_9) (fun _ h9 => h9) rfl dX0_lay_72 ?_
        refine lv_iload hx hb dX0_lay_75 (lv_at hl 0 rfl) ?_
        refine lv_aload_n hx hb dX0_lay_77 rfl (lv_at hl 6 rfl) ?_
        refine lv_aload_n hx hb dX0_lay_78 rfl (lv_at hl 5 rfl) ?_
        refine lv_iload hx hb dX0_lay_79 (lv_at hl 4 rfl) ?_
        refine lv_iload hx hb dX0_lay_81 (lv_at hl 2 rfl) ?_
        refine lv_iload hx hb dX0_lay_83 (lv_at hl 0 rfl) ?_
        refine z_calli hP hD hS hA (va_runV (As := [.int (zI (a / 7)), .int (zI ((b / 7) - (a / 7))), .int (zI i)]) (rest := [.ref (α 1), .int (zI i), .ref (α 26)]) hC (c_X0_along l D τ α γ (h, old, ch) rg ln sl pd f1 n1 sg od hs (a / 7) ((b / 7) - (a / 7)) i (by first | assumption | rfl | omega) (by first | assumption | rfl | omega) (by first | assumption | rfl | omega) (by first | assumption | rfl | omega) _) (cwV 3 hts (gV hB wl_X0_32 wn_X0_along ws_X0_along wi_X0 wc_X0_along) rfl rfl rfl hd_X0_along ⟨Nat.le_of_ble_eq_true rfl, Nat.le_of_ble_eq_true rfl⟩) (zp_V hK hP hD hS hA hG (ci := 0) (q0 := 6) rfl rfl rfl) rfl rfl hl.1 rfl (lv_room (Nat.le_of_ble_eq_true rfl)) dX0_lay_85 ⟨Nat.le_of_ble_eq_true rfl, Nat.le_of_ble_eq_true rfl⟩) (fun r w1 H locs hq9 hP hD hS => ?_)
        obtain ⟨v85_5, hv85_0, hv85_1, rfl, rfl⟩ := hq9
        have hP : va_P D vwCl (wH α γ (h, old, ch) rg ln sl pd (f1, n1) sg od hs) H := hP
        have hD : va_D A (wH α γ (h, old, ch) rg ln sl pd (f1, n1) sg od hs) := hD
        refine lv_aload_n hx hb dX0_lay_88 rfl (lv_at hl 5 rfl) ?_
        refine lv_iload hx hb dX0_lay_89 (lv_at hl 3 rfl) ?_
        refine lv_iload hx hb dX0_lay_91 (lv_at hl 1 rfl) ?_
        refine lv_iload hx hb dX0_lay_93 (lv_at hl 0 rfl) ?_
        refine z_calli hP hD hS hA (va_runV (As := [.int (zI (a % 7)), .int (zI ((b % 7) - (a % 7))), .int (zI i)]) (rest := [.int (zI v85_5), .ref (α 1), .int (zI i), .ref (α 26)]) hC (c_X0_along l D τ α γ (h, old, ch) rg ln sl pd f1 n1 sg od hs (a % 7) ((b % 7) - (a % 7)) i (by first | assumption | rfl | omega) (by first | assumption | rfl | omega) (by first | assumption | rfl | omega) (by first | assumption | rfl | omega) _) (cwV 3 hts (gV hB wl_X0_32 wn_X0_along ws_X0_along wi_X0 wc_X0_along) rfl rfl rfl hd_X0_along ⟨Nat.le_of_ble_eq_true rfl, Nat.le_of_ble_eq_true rfl⟩) (zp_V hK hP hD hS hA hG (ci := 0) (q0 := 6) rfl rfl rfl) rfl rfl hl.1 rfl (lv_room (Nat.le_of_ble_eq_true rfl)) dX0_lay_95 ⟨Nat.le_of_ble_eq_true rfl, Nat.le_of_ble_eq_true rfl⟩) (fun r w1 H locs hq9 hP hD hS => ?_)
        obtain ⟨v95_6, hv95_0, hv95_1, rfl, rfl⟩ := hq9
        have hP : va_P D vwCl (wH α γ (h, old, ch) rg ln sl pd (f1, n1) sg od hs) H := hP
        have hD : va_D A (wH α γ (h, old, ch) rg ln sl pd (f1, n1) sg od hs) := hD
        refine z_calli hP hD hS hA (va_runSN (As := [.int (zI v85_5), .int (zI v95_6)]) (rest := [.ref (α 1), .int (zI i), .ref (α 26)]) hC (c_X9_pointAt l D τ _ _ v85_5 v95_6 (by first | assumption | rfl | omega) (by first | assumption | rfl | omega) _) ⟨va_cnB 2 hts (gC hB wc_X9_pointAt) rfl rfl rfl (hG.2.2.2.2.2.2.2 _ (List.mem_of_getElem? (i := 0) rfl)) (hW0 _ wi_X9) hd_X9_pointAt.2 ⟨Nat.le_of_ble_eq_true rfl, Nat.le_of_ble_eq_true rfl⟩, (hW0 _ wt_X9_pointAt), trivial⟩ (zp_S hK hP hD hS hA hG) rfl rfl hl.1 rfl (lv_room (Nat.le_of_ble_eq_true rfl)) dX0_lay_98 ⟨Nat.le_of_ble_eq_true rfl, Nat.le_of_ble_eq_true rfl⟩) (fun r w1 H locs hq9 hP hD hS => ?_)
        obtain ⟨v98_7, hv98_0, hv98_1, rfl, rfl⟩ := hq9
        have e98 := hv98_0
        rw [S_pointAt_in (by omega) (by omega)] at e98
        refine z_calli hP hD hS hA (va_runV (As := [.int (zI v98_7)]) (rest := [.int (zI i), .ref (α 26)]) hC (c_X6_at l D τ α γ h old ch rg ln sl pd (f1, n1) sg od hs v98_7 (by first | assumption | rfl | omega) (by first | assumption | rfl | omega) _) (cwV 1 hts (gV hB wl_X0_39 wn_X6_at ws_X6_at wi_X6 wc_X6_at) rfl rfl rfl hd_X6_at ⟨Nat.le_of_ble_eq_true rfl, Nat.le_of_ble_eq_true rfl⟩) (zp_V hK hP hD hS hA hG (ci := 6) (q0 := 1) rfl rfl rfl) rfl rfl hl.1 rfl (lv_room (Nat.le_of_ble_eq_true rfl)) dX0_lay_101 ⟨Nat.le_of_ble_eq_true rfl, Nat.le_of_ble_eq_true rfl⟩) (fun r w1 H locs hq9 hP hD hS => ?_)
        obtain ⟨v101_8, hv101_0, hv101_1, hv101_2, rfl, rfl⟩ := hq9
        have hP : va_P D vwCl (wH α γ (h, old, ch) rg ln sl pd (f1, n1) sg od hs) H := hP
        have hD : va_D A (wH α γ (h, old, ch) rg ln sl pd (f1, n1) sg od hs) := hD
        refine z_iast (f := f1) (v := v101_8) hx hb hK hP hD hS 26 16 rfl rfl ⟨⟨by omega, by omega⟩, by decide⟩ dX0_lay_104 (fun H locs hP hD hS => ?_)
        have hP : va_P D vwCl (wH α γ (h, old, ch) rg ln sl pd (zu f1 i v101_8, n1) sg od hs) H := hP
        have hD : va_D A (wH α γ (h, old, ch) rg ln sl pd (zu f1 i v101_8, n1) sg od hs) := hD
        refine z_iinc (k := 0) (v := i + 1) (lv' := [(8, .int (zI (i + 1))), (7, .int (zI ((b % 7) - (a % 7)))), (6, .int (zI ((b / 7) - (a / 7)))), (5, .int (zI (a % 7))), (4, .int (zI (a / 7))), (0, .ref (α 6)), (1, .ref (α 1)), (2, .int (zI a)), (3, .int (zI b))]) hx hb dX0_lay_105 hl rfl rfl (by decide) rfl (fun ls hl => ?_)
        refine lv_goto (tgt := 55) hx hb dX0_lay_108 (by decide) ?_
        exact ih_55 (zu f1 i v101_8) n1 (i + 1) _ _ hP hD hS _ (lv_sub hl [0, 1, 2, 3, 4, 5, 6, 7, 8] rfl) (by first | assumption | rfl | omega) (by first | assumption | rfl | omega) (by first | assumption | rfl | omega) (by rw [hf1, hv101_2 (by omega)]; exact zmix_up hi.1 (congrArg h (by rw [e98, hv85_0, hv95_0, hn1]; rfl))) (by omega)

abbrev wz_X0_last : List Cond := .code yX0_last cX0_last 1 (some .int) :: W0
abbrev rm_X0_last : Room := { frames := 0, cells := 0, slots := 0, locals := 0 }
theorem hd_X0_last : yX0_last.cls = RX0 ∧ yX0_last.cls ≠ "java/lang/invoke/MethodHandle" ∧ yX0_last.cls ≠ "java/lang/invoke/VarHandle" ∧ (parseMethodDescriptor yX0_last.desc).map (fun d => d.parameters.length) = some 0 := by decide +kernel
set_option maxHeartbeats 4000000 in
set_option maxRecDepth 100000 in
theorem c_X0_last (l : Launch) (D : va_G) (τ : Nat → Nat) (α : Nat → Nat) (γ : Nat → ClassId) (rl : TRl) (rg : TRg) (ln : TLn) (sl : TSl) (pd : TPd) (hg9 : IA) (la9 : Int) (sg : TSg) (od : TOd) (hs : THs) : cM l yX0_last wz_X0_last rm_X0_last D τ (tyH γ) [.ref (α 6)] (wH α γ rl rg ln sl pd (hg9, la9) sg od hs) (zQi (fun r w => ∃ (v : Int), (v = la9) ∧ r = zI v ∧ wH α γ rl rg ln sl pd (hg9, la9) sg od hs = w)) := by
  refine z_ofM (cc := cX0_last) (maxL := 1) (ret := (some .int)) (by decide +kernel) rfl (Nat.le_of_ble_eq_true rfl) ?_
  intro pg e s m args below meth c hC hr hlk hnm hK hP A hD hG hA hS ls hl Q hQ
  have hx := hC.1
  have hb := hC.2.1
  have hml := hC.2.2.1
  have hown := hC.2.2.2.1
  have hts := hC.2.2.2.2
  have hB : ∀ w ∈ W0, w ∈ wz_X0_last := fun _ h => List.mem_cons_of_mem _ h
  have hW0 : ∀ w ∈ W0, w.before args s = true := fun w h => hts w (hB w h)
  have hl : lv_has ls 1 [(0, .ref (α 6))] := hl
  refine lv_aload_n hx hb dX0_last_0 rfl (lv_at hl 0 rfl) ?_
  refine va_get (D := D) (ci := 0) (v := .int (zI la9)) (C := RX0) (T := TX0) (N := 2) hx hb hts (fun w h => List.mem_cons_of_mem _ (wx_X0 w h)) hown hK hP 6 rfl rfl 1 (by decide) (hW0 _ wf_X0_15) (fun _ h9 => h9) rfl dX0_last_1 ?_
  exact z_iret hC hr hlk hQ hP hD hS ⟨la9, (by first | assumption | rfl | omega), rfl, rfl⟩ dX0_last_4

abbrev wz_X0_height : List Cond := .code yX0_height cX0_height 2 (some .int) :: W0
abbrev rm_X0_height : Room := { frames := 0, cells := 0, slots := 0, locals := 0 }
theorem hd_X0_height : yX0_height.cls = RX0 ∧ yX0_height.cls ≠ "java/lang/invoke/MethodHandle" ∧ yX0_height.cls ≠ "java/lang/invoke/VarHandle" ∧ (parseMethodDescriptor yX0_height.desc).map (fun d => d.parameters.length) = some 1 := by decide +kernel
set_option maxHeartbeats 4000000 in
set_option maxRecDepth 100000 in
theorem c_X0_height (l : Launch) (D : va_G) (τ : Nat → Nat) (α : Nat → Nat) (γ : Nat → ClassId) (rl : TRl) (rg : TRg) (ln : TLn) (sl : TSl) (pd : TPd) (hg9 : IA) (la9 : Int) (sg : TSg) (od : TOd) (hs : THs) (i : Int) (hla : 0 ≤ la9 ∧ la9 ≤ 6) (hhg : ∀ k, 0 ≤ k → k ≤ la9 → 0 ≤ hg9 k ∧ hg9 k ≤ 99) (hi : 0 ≤ i ∧ i ≤ la9) : cM l yX0_height wz_X0_height rm_X0_height D τ (tyH γ) [.ref (α 6), .int (zI i)] (wH α γ rl rg ln sl pd (hg9, la9) sg od hs) (zQi (fun r w => ∃ (v : Int), (v = hg9 i) ∧ (0 ≤ v ∧ v ≤ 99) ∧ r = zI v ∧ wH α γ rl rg ln sl pd (hg9, la9) sg od hs = w)) := by
  refine z_ofM (cc := cX0_height) (maxL := 2) (ret := (some .int)) (by decide +kernel) rfl (Nat.le_of_ble_eq_true rfl) ?_
  intro pg e s m args below meth c hC hr hlk hnm hK hP A hD hG hA hS ls hl Q hQ
  have hx := hC.1
  have hb := hC.2.1
  have hml := hC.2.2.1
  have hown := hC.2.2.2.1
  have hts := hC.2.2.2.2
  have hB : ∀ w ∈ W0, w ∈ wz_X0_height := fun _ h => List.mem_cons_of_mem _ h
  have hW0 : ∀ w ∈ W0, w.before args s = true := fun w h => hts w (hB w h)
  have hl : lv_has ls 2 [(0, .ref (α 6)), (1, .int (zI i))] := hl
  refine lv_iload_n hx hb dX0_height_0 rfl (lv_at hl 1 rfl) ?_
  refine z_iflt (tgt := 27) hx hb ⟨by omega, by omega⟩ dX0_height_1 (by decide) (fun c_1 => ?_) (fun c_1 => ?_)
  · exact absurd c_1 (by omega)
  · refine lv_iload_n hx hb dX0_height_4 rfl (lv_at hl 1 rfl) ?_
    refine lv_aload_n hx hb dX0_height_5 rfl (lv_at hl 0 rfl) ?_
    refine va_get (D := D) (ci := 0) (v := .int (zI la9)) (C := RX0) (T := TX0) (N := 2) hx hb hts (fun w h => List.mem_cons_of_mem _ (wx_X0 w h)) hown hK hP 6 rfl rfl 1 (by decide) (hW0 _ wf_X0_15) (fun _ h9 => h9) rfl dX0_height_6 ?_
    refine z_icgt (tgt := 27) hx hb ⟨by omega, by omega⟩ ⟨by omega, by omega⟩ dX0_height_9 (by decide) (fun c_9 => ?_) (fun c_9 => ?_)
    · exact absurd c_9 (by omega)
    · refine lv_iload_n hx hb dX0_height_12 rfl (lv_at hl 1 rfl) ?_
      refine lv_bipush (v := zI 7) hx hb dX0_height_13 (zI_b8 (by decide)) ?_
      refine z_icge (tgt := 27) hx hb ⟨by omega, by omega⟩ ⟨by omega, by omega⟩ dX0_height_15 (by decide) (fun c_15 => ?_) (fun c_15 => ?_)
      · exact absurd c_15 (by omega)
      · refine lv_aload_n hx hb dX0_height_18 rfl (lv_at hl 0 rfl) ?_
        refine va_get (D := D) (ci := 0) (v := .ref (α 26)) (C := RX0) (T := TX0) (N := 2) hx hb hts (fun w h => List.mem_cons_of_mem _ (wx_X0 w h)) hown hK hP 6 rfl rfl 0 (by decide) (hW0 _ wf_X0_9) (fun _ h9 => h9) rfl dX0_height_19 ?_
        refine lv_iload_n hx hb dX0_height_22 rfl (lv_at hl 1 rfl) ?_
        refine z_iald (f := hg9) hx hb hK hP 26 16 rfl rfl ⟨⟨by omega, by omega⟩, by decide⟩ dX0_height_23 ?_
        have hb_23 := hhg i (by omega) (by omega)
        refine lv_goto (tgt := 28) hx hb dX0_height_24 (by decide) ?_
        exact z_iret hC hr hlk hQ hP hD hS ⟨hg9 i, (by first | assumption | rfl | omega), (by first | assumption | rfl | omega), rfl, rfl⟩ dX0_height_28

abbrev wz_X0_rise : List Cond := .code yX0_rise cX0_rise 3 (some .int) :: W0
abbrev rm_X0_rise : Room := { frames := 1, cells := 0, slots := 0, locals := 21 }
theorem hd_X0_rise : yX0_rise.cls = RX0 ∧ yX0_rise.cls ≠ "java/lang/invoke/MethodHandle" ∧ yX0_rise.cls ≠ "java/lang/invoke/VarHandle" ∧ (parseMethodDescriptor yX0_rise.desc).map (fun d => d.parameters.length) = some 0 := by decide +kernel
set_option maxHeartbeats 4000000 in
set_option maxRecDepth 100000 in
theorem c_X0_rise (l : Launch) (D : va_G) (τ : Nat → Nat) (α : Nat → Nat) (γ : Nat → ClassId) (rl : TRl) (rg : TRg) (ln : TLn) (sl : TSl) (pd : TPd) (hg9 : IA) (la9 : Int) (sg : TSg) (od : TOd) (hs : THs) (hla : 0 ≤ la9 ∧ la9 ≤ 6) (hhg : ∀ k, 0 ≤ k → k ≤ la9 → 0 ≤ hg9 k ∧ hg9 k ≤ 99) : cM l yX0_rise wz_X0_rise rm_X0_rise D τ (tyH γ) [.ref (α 6)] (wH α γ rl rg ln sl pd (hg9, la9) sg od hs) (zQi (fun r w => ∃ (v : Int), (v = zS (fun i => zmax 0 (hg9 (i + 1) - hg9 i)) la9) ∧ (0 ≤ v ∧ v ≤ 594) ∧ r = zI v ∧ wH α γ rl rg ln sl pd (hg9, la9) sg od hs = w)) := by
  refine z_ofM (cc := cX0_rise) (maxL := 3) (ret := (some .int)) (by decide +kernel) rfl (Nat.le_of_ble_eq_true rfl) ?_
  intro pg e s m args below meth c hC hr hlk hnm hK hP A hD hG hA hS ls hl Q hQ
  have hx := hC.1
  have hb := hC.2.1
  have hml := hC.2.2.1
  have hown := hC.2.2.2.1
  have hts := hC.2.2.2.2
  have hB : ∀ w ∈ W0, w ∈ wz_X0_rise := fun _ h => List.mem_cons_of_mem _ h
  have hW0 : ∀ w ∈ W0, w.before args s = true := fun w h => hts w (hB w h)
  have hl : lv_has ls 3 [(0, .ref (α 6))] := hl
  refine lv_iconst (v := zI 0) hx hb dX0_rise_0 rfl ?_
  refine lv_istore_n (lv' := [(1, .int (zI 0)), (0, .ref (α 6))]) hx hb dX0_rise_1 rfl hl (by decide) rfl (fun ls hl => ?_)
  refine lv_iconst (v := zI 1) hx hb dX0_rise_2 rfl ?_
  refine lv_istore_n (lv' := [(2, .int (zI 1)), (1, .int (zI 0)), (0, .ref (α 6))]) hx hb dX0_rise_3 rfl hl (by decide) rfl (fun ls hl => ?_)
  suffices HL_4 : ∀ (n_4 : Nat), ∀ (t : Int) (i : Int) (H : Heap) (locs : List Loc) (hP : va_P D vwCl (wH α γ rl rg ln sl pd (hg9, la9) sg od hs) H) (hD : va_D A (wH α γ rl rg ln sl pd (hg9, la9) sg od hs)) (hS : va_S A s.heap H locs) (ls : Array Slot) (hl : lv_has ls 3 [(1, .int (zI t)), (2, .int (zI i)), (0, .ref (α 6))]) (hi : 1 ≤ i ∧ i ≤ la9 + 1) (ht : t = zS (fun i => zmax 0 (hg9 (i + 1) - hg9 i)) (i - 1)) (htb : 0 ≤ t ∧ t ≤ 99 * (i - 1)) (hm : (la9 + 1 - i).toNat < n_4), W pg l e rm_X0_rise s m args below meth c H locs 0 0 Q (F0 m 4 ls []) from HL_4 _ 0 1 _ _ hP hD hS _ (lv_sub hl [1, 0, 2] rfl) (by first | assumption | rfl | omega) (by exact (zS_0 _).symm) (by first | assumption | rfl | omega) (Nat.lt_succ_self _)
  intro n_4
  induction n_4 with
  | zero => intro t i H locs hP hD hS ls hl hi ht htb hm; exact absurd hm (Nat.not_lt_zero _)
  | succ n_4 ih_4 =>
    intro t i H locs hP hD hS ls hl hi ht htb hm
    refine lv_iload_n hx hb dX0_rise_4 rfl (lv_at hl 1 rfl) ?_
    refine lv_aload_n hx hb dX0_rise_5 rfl (lv_at hl 2 rfl) ?_
    refine va_get (D := D) (ci := 0) (v := .int (zI la9)) (C := RX0) (T := TX0) (N := 2) hx hb hts (fun w h => List.mem_cons_of_mem _ (wx_X0 w h)) hown hK hP 6 rfl rfl 1 (by decide) (hW0 _ wf_X0_15) (fun _ h9 => h9) rfl dX0_rise_6 ?_
    refine z_icgt (tgt := 38) hx hb ⟨by omega, by omega⟩ ⟨by omega, by omega⟩ dX0_rise_9 (by decide) (fun c_9 => ?_) (fun c_9 => ?_)
    · refine lv_iload_n hx hb dX0_rise_38 rfl (lv_at hl 0 rfl) ?_
      exact z_iret hC hr hlk hQ hP hD hS ⟨t, (by rw [ht, show i - 1 = la9 by omega]), (by omega), rfl, rfl⟩ dX0_rise_39
    · refine lv_iload_n hx hb dX0_rise_12 rfl (lv_at hl 0 rfl) ?_
      refine lv_iconst (v := zI 0) hx hb dX0_rise_13 rfl ?_
      refine lv_aload_n hx hb dX0_rise_14 rfl (lv_at hl 2 rfl) ?_
      refine lv_iload_n hx hb dX0_rise_15 rfl (lv_at hl 1 rfl) ?_
      refine z_calli hP hD hS hA (va_runV (As := [.int (zI i)]) (rest := [.int (zI 0), .int (zI t)]) hC (c_X0_height l D τ α γ rl rg ln sl pd hg9 la9 sg od hs i (by first | assumption | rfl | omega) (by first | assumption | rfl | omega) (by first | assumption | rfl | omega) _) (cwV 1 hts (gV hB wl_X0_47 wn_X0_height ws_X0_height wi_X0 wc_X0_height) rfl rfl rfl hd_X0_height ⟨Nat.le_of_ble_eq_true rfl, Nat.le_of_ble_eq_true rfl⟩) (zp_V hK hP hD hS hA hG (ci := 0) (q0 := 6) rfl rfl rfl) rfl rfl hl.1 rfl (lv_room (Nat.le_of_ble_eq_true rfl)) dX0_rise_16 ⟨Nat.le_of_ble_eq_true rfl, Nat.le_of_ble_eq_true rfl⟩) (fun r w1 H locs hq9 hP hD hS => ?_)
      obtain ⟨v16_1, hv16_0, hv16_1, rfl, rfl⟩ := hq9
      have hP : va_P D vwCl (wH α γ rl rg ln sl pd (hg9, la9) sg od hs) H := hP
      have hD : va_D A (wH α γ rl rg ln sl pd (hg9, la9) sg od hs) := hD
      refine lv_aload_n hx hb dX0_rise_19 rfl (lv_at hl 2 rfl) ?_
      refine lv_iload_n hx hb dX0_rise_20 rfl (lv_at hl 1 rfl) ?_
      refine lv_iconst (v := zI 1) hx hb dX0_rise_21 rfl ?_
      refine z_isub hx hb dX0_rise_22 ?_
      refine z_calli hP hD hS hA (va_runV (As := [.int (zI (i - 1))]) (rest := [.int (zI v16_1), .int (zI 0), .int (zI t)]) hC (c_X0_height l D τ α γ rl rg ln sl pd hg9 la9 sg od hs (i - 1) (by first | assumption | rfl | omega) (by first | assumption | rfl | omega) (by first | assumption | rfl | omega) _) (cwV 1 hts (gV hB wl_X0_47 wn_X0_height ws_X0_height wi_X0 wc_X0_height) rfl rfl rfl hd_X0_height ⟨Nat.le_of_ble_eq_true rfl, Nat.le_of_ble_eq_true rfl⟩) (zp_V hK hP hD hS hA hG (ci := 0) (q0 := 6) rfl rfl rfl) rfl rfl hl.1 rfl (lv_room (Nat.le_of_ble_eq_true rfl)) dX0_rise_23 ⟨Nat.le_of_ble_eq_true rfl, Nat.le_of_ble_eq_true rfl⟩) (fun r w1 H locs hq9 hP hD hS => ?_)
      obtain ⟨v23_2, hv23_0, hv23_1, rfl, rfl⟩ := hq9
      have hP : va_P D vwCl (wH α γ rl rg ln sl pd (hg9, la9) sg od hs) H := hP
      have hD : va_D A (wH α γ rl rg ln sl pd (hg9, la9) sg od hs) := hD
      refine z_isub hx hb dX0_rise_26 ?_
      refine z_mmax hx hb (hml.trans hl.1.symm) hown (hW0 _ wl_X0_25) (hW0 _ wt_Lib_Math_max_name) (hW0 _ wi_Math) (hW0 _ wc_Lib_Math_max_name) (Nat.le_of_ble_eq_true rfl) (Nat.le_of_ble_eq_true rfl) (Nat.le_of_ble_eq_true rfl) (Nat.le_of_ble_eq_true rfl) ⟨by omega, by omega⟩ ⟨by omega, by omega⟩ dX0_rise_27 ?_
      obtain ⟨x27_3, hx27_3⟩ : ∃ z : Int, z = zmax 0 (v16_1 - v23_2) := ⟨_, rfl⟩
      rw [← hx27_3]
      have kx27_3 := zmax_spec 0 (v16_1 - v23_2)
      rw [← hx27_3] at kx27_3
      refine z_iadd hx hb dX0_rise_30 ?_
      refine lv_istore_n (lv' := [(1, .int (zI (t + x27_3))), (2, .int (zI i)), (0, .ref (α 6))]) hx hb dX0_rise_31 rfl hl (by decide) rfl (fun ls hl => ?_)
      refine z_iinc (k := 1) (v := i + 1) (lv' := [(2, .int (zI (i + 1))), (1, .int (zI (t + x27_3))), (0, .ref (α 6))]) hx hb dX0_rise_32 hl rfl rfl (by decide) rfl (fun ls hl => ?_)
      refine lv_goto (tgt := 4) hx hb dX0_rise_35 (by decide) ?_
      exact ih_4 (t + x27_3) (i + 1) _ _ hP hD hS _ (lv_sub hl [1, 0, 2] rfl) (by first | assumption | rfl | omega) (by rw [show i + 1 - 1 = i - 1 + 1 by omega, zS_up (by omega), ← ht, show i - 1 + 1 = i by omega, hx27_3, hv16_0, hv23_0]) (by omega) (by omega)

abbrev wz_X0_top : List Cond := .code yX0_top cX0_top 3 (some .int) :: W0
abbrev rm_X0_top : Room := { frames := 1, cells := 0, slots := 0, locals := 21 }
theorem hd_X0_top : yX0_top.cls = RX0 ∧ yX0_top.cls ≠ "java/lang/invoke/MethodHandle" ∧ yX0_top.cls ≠ "java/lang/invoke/VarHandle" ∧ (parseMethodDescriptor yX0_top.desc).map (fun d => d.parameters.length) = some 0 := by decide +kernel
set_option maxHeartbeats 4000000 in
set_option maxRecDepth 100000 in
theorem c_X0_top (l : Launch) (D : va_G) (τ : Nat → Nat) (α : Nat → Nat) (γ : Nat → ClassId) (rl : TRl) (rg : TRg) (ln : TLn) (sl : TSl) (pd : TPd) (hg9 : IA) (la9 : Int) (sg : TSg) (od : TOd) (hs : THs) (hla : 0 ≤ la9 ∧ la9 ≤ 6) (hhg : ∀ k, 0 ≤ k → k ≤ la9 → 0 ≤ hg9 k ∧ hg9 k ≤ 99) : cM l yX0_top wz_X0_top rm_X0_top D τ (tyH γ) [.ref (α 6)] (wH α γ rl rg ln sl pd (hg9, la9) sg od hs) (zQi (fun r w => ∃ (v : Int), (v = S_top hg9 (la9 + 1)) ∧ (0 ≤ v ∧ v ≤ 99) ∧ r = zI v ∧ wH α γ rl rg ln sl pd (hg9, la9) sg od hs = w)) := by
  refine z_ofM (cc := cX0_top) (maxL := 3) (ret := (some .int)) (by decide +kernel) rfl (Nat.le_of_ble_eq_true rfl) ?_
  intro pg e s m args below meth c hC hr hlk hnm hK hP A hD hG hA hS ls hl Q hQ
  have hx := hC.1
  have hb := hC.2.1
  have hml := hC.2.2.1
  have hown := hC.2.2.2.1
  have hts := hC.2.2.2.2
  have hB : ∀ w ∈ W0, w ∈ wz_X0_top := fun _ h => List.mem_cons_of_mem _ h
  have hW0 : ∀ w ∈ W0, w.before args s = true := fun w h => hts w (hB w h)
  have hl : lv_has ls 3 [(0, .ref (α 6))] := hl
  refine lv_iconst (v := zI 0) hx hb dX0_top_0 rfl ?_
  refine lv_istore_n (lv' := [(1, .int (zI 0)), (0, .ref (α 6))]) hx hb dX0_top_1 rfl hl (by decide) rfl (fun ls hl => ?_)
  refine lv_iconst (v := zI 0) hx hb dX0_top_2 rfl ?_
  refine lv_istore_n (lv' := [(2, .int (zI 0)), (1, .int (zI 0)), (0, .ref (α 6))]) hx hb dX0_top_3 rfl hl (by decide) rfl (fun ls hl => ?_)
  suffices HL_4 : ∀ (n_4 : Nat), ∀ (t : Int) (i : Int) (H : Heap) (locs : List Loc) (hP : va_P D vwCl (wH α γ rl rg ln sl pd (hg9, la9) sg od hs) H) (hD : va_D A (wH α γ rl rg ln sl pd (hg9, la9) sg od hs)) (hS : va_S A s.heap H locs) (ls : Array Slot) (hl : lv_has ls 3 [(1, .int (zI t)), (2, .int (zI i)), (0, .ref (α 6))]) (hi : 0 ≤ i ∧ i ≤ la9 + 1) (ht : t = S_top hg9 i) (htb : 0 ≤ t ∧ t ≤ 99) (hm : (la9 + 1 - i).toNat < n_4), W pg l e rm_X0_top s m args below meth c H locs 0 0 Q (F0 m 4 ls []) from HL_4 _ 0 0 _ _ hP hD hS _ (lv_sub hl [1, 0, 2] rfl) (by first | assumption | rfl | omega) (by exact (S_top_0 _).symm) (by first | assumption | rfl | omega) (Nat.lt_succ_self _)
  intro n_4
  induction n_4 with
  | zero => intro t i H locs hP hD hS ls hl hi ht htb hm; exact absurd hm (Nat.not_lt_zero _)
  | succ n_4 ih_4 =>
    intro t i H locs hP hD hS ls hl hi ht htb hm
    refine lv_iload_n hx hb dX0_top_4 rfl (lv_at hl 1 rfl) ?_
    refine lv_aload_n hx hb dX0_top_5 rfl (lv_at hl 2 rfl) ?_
    refine va_get (D := D) (ci := 0) (v := .int (zI la9)) (C := RX0) (T := TX0) (N := 2) hx hb hts (fun w h => List.mem_cons_of_mem _ (wx_X0 w h)) hown hK hP 6 rfl rfl 1 (by decide) (hW0 _ wf_X0_15) (fun _ h9 => h9) rfl dX0_top_6 ?_
    refine z_icgt (tgt := 28) hx hb ⟨by omega, by omega⟩ ⟨by omega, by omega⟩ dX0_top_9 (by decide) (fun c_9 => ?_) (fun c_9 => ?_)
    · refine lv_iload_n hx hb dX0_top_28 rfl (lv_at hl 0 rfl) ?_
      exact z_iret hC hr hlk hQ hP hD hS ⟨t, (by rw [ht, show i = la9 + 1 by omega]), (by omega), rfl, rfl⟩ dX0_top_29
    · refine lv_iload_n hx hb dX0_top_12 rfl (lv_at hl 0 rfl) ?_
      refine lv_aload_n hx hb dX0_top_13 rfl (lv_at hl 2 rfl) ?_
      refine lv_iload_n hx hb dX0_top_14 rfl (lv_at hl 1 rfl) ?_
      refine z_calli hP hD hS hA (va_runV (As := [.int (zI i)]) (rest := [.int (zI t)]) hC (c_X0_height l D τ α γ rl rg ln sl pd hg9 la9 sg od hs i (by first | assumption | rfl | omega) (by first | assumption | rfl | omega) (by first | assumption | rfl | omega) _) (cwV 1 hts (gV hB wl_X0_47 wn_X0_height ws_X0_height wi_X0 wc_X0_height) rfl rfl rfl hd_X0_height ⟨Nat.le_of_ble_eq_true rfl, Nat.le_of_ble_eq_true rfl⟩) (zp_V hK hP hD hS hA hG (ci := 0) (q0 := 6) rfl rfl rfl) rfl rfl hl.1 rfl (lv_room (Nat.le_of_ble_eq_true rfl)) dX0_top_15 ⟨Nat.le_of_ble_eq_true rfl, Nat.le_of_ble_eq_true rfl⟩) (fun r w1 H locs hq9 hP hD hS => ?_)
      obtain ⟨v15_1, hv15_0, hv15_1, rfl, rfl⟩ := hq9
      have hP : va_P D vwCl (wH α γ rl rg ln sl pd (hg9, la9) sg od hs) H := hP
      have hD : va_D A (wH α γ rl rg ln sl pd (hg9, la9) sg od hs) := hD
      refine z_mmax hx hb (hml.trans hl.1.symm) hown (hW0 _ wl_X0_25) (hW0 _ wt_Lib_Math_max_name) (hW0 _ wi_Math) (hW0 _ wc_Lib_Math_max_name) (Nat.le_of_ble_eq_true rfl) (Nat.le_of_ble_eq_true rfl) (Nat.le_of_ble_eq_true rfl) (Nat.le_of_ble_eq_true rfl) ⟨by omega, by omega⟩ ⟨by omega, by omega⟩ dX0_top_18 ?_
      obtain ⟨x18_2, hx18_2⟩ : ∃ z : Int, z = zmax t v15_1 := ⟨_, rfl⟩
      rw [← hx18_2]
      have kx18_2 := zmax_spec t v15_1
      rw [← hx18_2] at kx18_2
      refine lv_istore_n (lv' := [(1, .int (zI x18_2)), (2, .int (zI i)), (0, .ref (α 6))]) hx hb dX0_top_21 rfl hl (by decide) rfl (fun ls hl => ?_)
      refine z_iinc (k := 1) (v := i + 1) (lv' := [(2, .int (zI (i + 1))), (1, .int (zI x18_2)), (0, .ref (α 6))]) hx hb dX0_top_22 hl rfl rfl (by decide) rfl (fun ls hl => ?_)
      refine lv_goto (tgt := 4) hx hb dX0_top_25 (by decide) ?_
      exact ih_4 x18_2 (i + 1) _ _ hP hD hS _ (lv_sub hl [1, 0, 2] rfl) (by first | assumption | rfl | omega) (by rw [S_top_up (by omega), ← ht, hx18_2, hv15_0]) (by omega) (by omega)

abbrev wz_X0_isClear : List Cond := .code yX0_isClear cX0_isClear 2 (some .boolean) :: W0
abbrev rm_X0_isClear : Room := { frames := 1, cells := 0, slots := 0, locals := 21 }
theorem hd_X0_isClear : yX0_isClear.cls = RX0 ∧ yX0_isClear.cls ≠ "java/lang/invoke/MethodHandle" ∧ yX0_isClear.cls ≠ "java/lang/invoke/VarHandle" ∧ (parseMethodDescriptor yX0_isClear.desc).map (fun d => d.parameters.length) = some 0 := by decide +kernel
set_option maxHeartbeats 4000000 in
set_option maxRecDepth 100000 in
theorem c_X0_isClear (l : Launch) (D : va_G) (τ : Nat → Nat) (α : Nat → Nat) (γ : Nat → ClassId) (rl : TRl) (rg : TRg) (ln : TLn) (sl : TSl) (pd : TPd) (hg9 : IA) (la9 : Int) (sg : TSg) (od : TOd) (hs : THs) (hla : 0 ≤ la9 ∧ la9 ≤ 6) (hhg : ∀ k, 0 ≤ k → k ≤ la9 → 0 ≤ hg9 k ∧ hg9 k ≤ 99) : cM l yX0_isClear wz_X0_isClear rm_X0_isClear D τ (tyH γ) [.ref (α 6)] (wH α γ rl rg ln sl pd (hg9, la9) sg od hs) (zQi (fun r w => ∃ (v : Bool), (v = true ↔ (∀ i, 1 ≤ i → i < la9 → hg9 i * la9 ≤ (la9 - i) * hg9 0 + i * hg9 la9)) ∧ r = bI v ∧ wH α γ rl rg ln sl pd (hg9, la9) sg od hs = w)) := by
  refine z_ofM (cc := cX0_isClear) (maxL := 2) (ret := (some .boolean)) (by decide +kernel) rfl (Nat.le_of_ble_eq_true rfl) ?_
  intro pg e s m args below meth c hC hr hlk hnm hK hP A hD hG hA hS ls hl Q hQ
  have hx := hC.1
  have hb := hC.2.1
  have hml := hC.2.2.1
  have hown := hC.2.2.2.1
  have hts := hC.2.2.2.2
  have hB : ∀ w ∈ W0, w ∈ wz_X0_isClear := fun _ h => List.mem_cons_of_mem _ h
  have hW0 : ∀ w ∈ W0, w.before args s = true := fun w h => hts w (hB w h)
  have hl : lv_has ls 2 [(0, .ref (α 6))] := hl
  refine lv_iconst (v := zI 1) hx hb dX0_isClear_0 rfl ?_
  refine lv_istore_n (lv' := [(1, .int (zI 1)), (0, .ref (α 6))]) hx hb dX0_isClear_1 rfl hl (by decide) rfl (fun ls hl => ?_)
  suffices HL_2 : ∀ (n_2 : Nat), ∀ (i : Int) (H : Heap) (locs : List Loc) (hP : va_P D vwCl (wH α γ rl rg ln sl pd (hg9, la9) sg od hs) H) (hD : va_D A (wH α γ rl rg ln sl pd (hg9, la9) sg od hs)) (hS : va_S A s.heap H locs) (ls : Array Slot) (hl : lv_has ls 2 [(1, .int (zI i)), (0, .ref (α 6))]) (hi : 1 ≤ i ∧ (i ≤ la9 ∨ i = 1)) (hc : ∀ k, 1 ≤ k → k < i → hg9 k * la9 ≤ (la9 - k) * hg9 0 + k * hg9 la9) (hm : (la9 + 1 - i).toNat < n_2), W pg l e rm_X0_isClear s m args below meth c H locs 0 0 Q (F0 m 2 ls []) from HL_2 _ 1 _ _ hP hD hS _ (lv_sub hl [0, 1] rfl) (by first | assumption | rfl | omega) (by intro k h1 h2; omega) (Nat.lt_succ_self _)
  intro n_2
  induction n_2 with
  | zero => intro i H locs hP hD hS ls hl hi hc hm; exact absurd hm (Nat.not_lt_zero _)
  | succ n_2 ih_2 =>
    intro i H locs hP hD hS ls hl hi hc hm
    refine lv_iload_n hx hb dX0_isClear_2 rfl (lv_at hl 0 rfl) ?_
    refine lv_aload_n hx hb dX0_isClear_3 rfl (lv_at hl 1 rfl) ?_
    refine va_get (D := D) (ci := 0) (v := .int (zI la9)) (C := RX0) (T := TX0) (N := 2) hx hb hts (fun w h => List.mem_cons_of_mem _ (wx_X0 w h)) hown hK hP 6 rfl rfl 1 (by decide) (hW0 _ wf_X0_15) (fun _ h9 => h9) rfl dX0_isClear_4 ?_
    refine z_icge (tgt := 54) hx hb ⟨by omega, by omega⟩ ⟨by omega, by omega⟩ dX0_isClear_7 (by decide) (fun c_7 => ?_) (fun c_7 => ?_)
    · refine lv_iconst (v := zI 1) hx hb dX0_isClear_54 rfl ?_
      refine W.eq (g2 := F0 m 55 ls [.int (bI true)]) rfl ?_
      exact z_zret hC hr hlk hQ hP hD hS ⟨true, (by exact ⟨fun _ k h1 h2 => hc k h1 (by omega), fun _ => rfl⟩), rfl, rfl⟩ dX0_isClear_55
    · refine lv_aload_n hx hb dX0_isClear_10 rfl (lv_at hl 1 rfl) ?_
      refine lv_iload_n hx hb dX0_isClear_11 rfl (lv_at hl 0 rfl) ?_
      refine z_calli hP hD hS hA (va_runV (As := [.int (zI i)]) (rest := []) hC (c_X0_height l D τ α γ rl rg ln sl pd hg9 la9 sg od hs i (by first | assumption | rfl | omega) (by first | assumption | rfl | omega) (by first | assumption | rfl | omega) _) (cwV 1 hts (gV hB wl_X0_47 wn_X0_height ws_X0_height wi_X0 wc_X0_height) rfl rfl rfl hd_X0_height ⟨Nat.le_of_ble_eq_true rfl, Nat.le_of_ble_eq_true rfl⟩) (zp_V hK hP hD hS hA hG (ci := 0) (q0 := 6) rfl rfl rfl) rfl rfl hl.1 rfl (lv_room (Nat.le_of_ble_eq_true rfl)) dX0_isClear_12 ⟨Nat.le_of_ble_eq_true rfl, Nat.le_of_ble_eq_true rfl⟩) (fun r w1 H locs hq9 hP hD hS => ?_)
      obtain ⟨v12_1, hv12_0, hv12_1, rfl, rfl⟩ := hq9
      have hP : va_P D vwCl (wH α γ rl rg ln sl pd (hg9, la9) sg od hs) H := hP
      have hD : va_D A (wH α γ rl rg ln sl pd (hg9, la9) sg od hs) := hD
      refine lv_aload_n hx hb dX0_isClear_15 rfl (lv_at hl 1 rfl) ?_
      refine va_get (D := D) (ci := 0) (v := .int (zI la9)) (C := RX0) (T := TX0) (N := 2) hx hb hts (fun w h => List.mem_cons_of_mem _ (wx_X0 w h)) hown hK hP 6 rfl rfl 1 (by decide) (hW0 _ wf_X0_15) (fun _ h9 => h9) rfl dX0_isClear_16 ?_
      refine z_imul hx hb dX0_isClear_19 ?_
      refine lv_aload_n hx hb dX0_isClear_20 rfl (lv_at hl 1 rfl) ?_
      refine va_get (D := D) (ci := 0) (v := .int (zI la9)) (C := RX0) (T := TX0) (N := 2) hx hb hts (fun w h => List.mem_cons_of_mem _ (wx_X0 w h)) hown hK hP 6 rfl rfl 1 (by decide) (hW0 _ wf_X0_15) (fun _ h9 => h9) rfl dX0_isClear_21 ?_
      refine lv_iload_n hx hb dX0_isClear_24 rfl (lv_at hl 0 rfl) ?_
      refine z_isub hx hb dX0_isClear_25 ?_
      refine lv_aload_n hx hb dX0_isClear_26 rfl (lv_at hl 1 rfl) ?_
      refine lv_iconst (v := zI 0) hx hb dX0_isClear_27 rfl ?_
      refine z_calli hP hD hS hA (va_runV (As := [.int (zI 0)]) (rest := [.int (zI (la9 - i)), .int (zI (v12_1 * la9))]) hC (c_X0_height l D τ α γ rl rg ln sl pd hg9 la9 sg od hs 0 (by first | assumption | rfl | omega) (by first | assumption | rfl | omega) (by first | assumption | rfl | omega) _) (cwV 1 hts (gV hB wl_X0_47 wn_X0_height ws_X0_height wi_X0 wc_X0_height) rfl rfl rfl hd_X0_height ⟨Nat.le_of_ble_eq_true rfl, Nat.le_of_ble_eq_true rfl⟩) (zp_V hK hP hD hS hA hG (ci := 0) (q0 := 6) rfl rfl rfl) rfl rfl hl.1 rfl (lv_room (Nat.le_of_ble_eq_true rfl)) dX0_isClear_28 ⟨Nat.le_of_ble_eq_true rfl, Nat.le_of_ble_eq_true rfl⟩) (fun r w1 H locs hq9 hP hD hS => ?_)
      obtain ⟨v28_2, hv28_0, hv28_1, rfl, rfl⟩ := hq9
      have hP : va_P D vwCl (wH α γ rl rg ln sl pd (hg9, la9) sg od hs) H := hP
      have hD : va_D A (wH α γ rl rg ln sl pd (hg9, la9) sg od hs) := hD
      refine z_imul hx hb dX0_isClear_31 ?_
      refine lv_iload_n hx hb dX0_isClear_32 rfl (lv_at hl 0 rfl) ?_
      refine lv_aload_n hx hb dX0_isClear_33 rfl (lv_at hl 1 rfl) ?_
      refine lv_aload_n hx hb dX0_isClear_34 rfl (lv_at hl 1 rfl) ?_
      refine va_get (D := D) (ci := 0) (v := .int (zI la9)) (C := RX0) (T := TX0) (N := 2) hx hb hts (fun w h => List.mem_cons_of_mem _ (wx_X0 w h)) hown hK hP 6 rfl rfl 1 (by decide) (hW0 _ wf_X0_15) (fun _ h9 => h9) rfl dX0_isClear_35 ?_
      refine z_calli hP hD hS hA (va_runV (As := [.int (zI la9)]) (rest := [.int (zI i), .int (zI ((la9 - i) * v28_2)), .int (zI (v12_1 * la9))]) hC (c_X0_height l D τ α γ rl rg ln sl pd hg9 la9 sg od hs la9 (by first | assumption | rfl | omega) (by first | assumption | rfl | omega) (by first | assumption | rfl | omega) _) (cwV 1 hts (gV hB wl_X0_47 wn_X0_height ws_X0_height wi_X0 wc_X0_height) rfl rfl rfl hd_X0_height ⟨Nat.le_of_ble_eq_true rfl, Nat.le_of_ble_eq_true rfl⟩) (zp_V hK hP hD hS hA hG (ci := 0) (q0 := 6) rfl rfl rfl) rfl rfl hl.1 rfl (lv_room (Nat.le_of_ble_eq_true rfl)) dX0_isClear_38 ⟨Nat.le_of_ble_eq_true rfl, Nat.le_of_ble_eq_true rfl⟩) (fun r w1 H locs hq9 hP hD hS => ?_)
      obtain ⟨v38_3, hv38_0, hv38_1, rfl, rfl⟩ := hq9
      have hP : va_P D vwCl (wH α γ rl rg ln sl pd (hg9, la9) sg od hs) H := hP
      have hD : va_D A (wH α γ rl rg ln sl pd (hg9, la9) sg od hs) := hD
      refine z_imul hx hb dX0_isClear_41 ?_
      refine z_iadd hx hb dX0_isClear_42 ?_
      have z1 := zmul_b (x := v12_1) (y := la9) (a := 99) (b := 6) (by omega) (by omega)
      have z2 := zmul_b (x := la9 - i) (y := v28_2) (a := 6) (b := 99) (by omega) (by omega)
      have z3 := zmul_b (x := i) (y := v38_3) (a := 6) (b := 99) (by omega) (by omega)
      refine z_icle (tgt := 48) hx hb ⟨by omega, by omega⟩ ⟨by omega, by omega⟩ dX0_isClear_43 (by decide) (fun c_43 => ?_) (fun c_43 => ?_)
      · refine z_iinc (k := 0) (v := i + 1) (lv' := [(1, .int (zI (i + 1))), (0, .ref (α 6))]) hx hb dX0_isClear_48 hl rfl rfl (by decide) rfl (fun ls hl => ?_)
        refine lv_goto (tgt := 2) hx hb dX0_isClear_51 (by decide) ?_
        exact ih_2 (i + 1) _ _ hP hD hS _ (lv_sub hl [0, 1] rfl) (by first | assumption | rfl | omega) (by intro k h1 h2; by_cases e9 : k = i; (rw [e9, ← hv12_0, ← hv28_0, ← hv38_0]; exact c_43); exact hc k h1 (by omega)) (by omega)
      · refine lv_iconst (v := zI 0) hx hb dX0_isClear_46 rfl ?_
        refine W.eq (g2 := F0 m 47 ls [.int (bI false)]) rfl ?_
        exact z_zret hC hr hlk hQ hP hD hS ⟨false, (by exact ⟨fun h9 => (by cases h9), fun h9 => absurd (h9 i hi.1 (by omega)) (by rw [← hv12_0, ← hv28_0, ← hv38_0]; exact Int.not_le.mpr c_43)⟩), rfl, rfl⟩ dX0_isClear_47

abbrev wz_X7_countFrom : List Cond := .code yX7_countFrom cX7_countFrom 6 (some .int) :: W0
abbrev rm_X7_countFrom : Room := { frames := 3, cells := 0, slots := 0, locals := 73 }
theorem hd_X7_countFrom : yX7_countFrom.cls = RX7 ∧ yX7_countFrom.cls ≠ "java/lang/invoke/MethodHandle" ∧ yX7_countFrom.cls ≠ "java/lang/invoke/VarHandle" ∧ (parseMethodDescriptor yX7_countFrom.desc).map (fun d => d.parameters.length) = some 3 := by decide +kernel
set_option maxHeartbeats 4000000 in
set_option maxRecDepth 100000 in
theorem c_X7_countFrom (l : Launch) (D : va_G) (τ : Nat → Nat) (α : Nat → Nat) (γ : Nat → ClassId) (h : IA) (old : IA) (ch : IA) (rg : TRg) (ln : TLn) (sl : TSl) (pd : TPd) (hg9 : IA) (la9 : Int) (sg : TSg) (od : TOd) (hs : THs) (a : Int) (hh : ∀ k, 0 ≤ k → k < 49 → 0 ≤ h k ∧ h k ≤ 99) (ha : 0 ≤ a ∧ a < 49) : cM l yX7_countFrom wz_X7_countFrom rm_X7_countFrom D τ (tyH γ) [.ref (α 7), .ref (α 1), .ref (α 6), .int (zI a)] (wH α γ (h, old, ch) rg ln sl pd (hg9, la9) sg od hs) (zQi (fun r w => ∃ (f2 : IA), ∃ (n2 : Int), ∃ (v : Int), (v = S_seen h a) ∧ (0 ≤ v ∧ v ≤ 49) ∧ r = zI v ∧ wH α γ (h, old, ch) rg ln sl pd (f2, n2) sg od hs = w)) := by
  refine z_ofM (cc := cX7_countFrom) (maxL := 6) (ret := (some .int)) (by decide +kernel) rfl (Nat.le_of_ble_eq_true rfl) ?_
  intro pg e s m args below meth c hC hr hlk hnm hK hP A hD hG hA hS ls hl Q hQ
  have hx := hC.1
  have hb := hC.2.1
  have hml := hC.2.2.1
  have hown := hC.2.2.2.1
  have hts := hC.2.2.2.2
  have hB : ∀ w ∈ W0, w ∈ wz_X7_countFrom := fun _ h => List.mem_cons_of_mem _ h
  have hW0 : ∀ w ∈ W0, w.before args s = true := fun w h => hts w (hB w h)
  have hl : lv_has ls 6 [(0, .ref (α 7)), (1, .ref (α 1)), (2, .ref (α 6)), (3, .int (zI a))] := hl
  refine lv_iconst (v := zI 0) hx hb dX7_countFrom_0 rfl ?_
  refine lv_istore (lv' := [(4, .int (zI 0)), (0, .ref (α 7)), (1, .ref (α 1)), (2, .ref (α 6)), (3, .int (zI a))]) hx hb dX7_countFrom_1 hl (by decide) rfl (fun ls hl => ?_)
  refine lv_iconst (v := zI 0) hx hb dX7_countFrom_3 rfl ?_
  refine lv_istore (lv' := [(5, .int (zI 0)), (4, .int (zI 0)), (0, .ref (α 7)), (1, .ref (α 1)), (2, .ref (α 6)), (3, .int (zI a))]) hx hb dX7_countFrom_4 hl (by decide) rfl (fun ls hl => ?_)
  suffices HL_6 : ∀ (n_6 : Nat), ∀ (f1 : IA) (n1 : Int) (cn : Int) (i : Int) (H : Heap) (locs : List Loc) (hP : va_P D vwCl (wH α γ (h, old, ch) rg ln sl pd (f1, n1) sg od hs) H) (hD : va_D A (wH α γ (h, old, ch) rg ln sl pd (f1, n1) sg od hs)) (hS : va_S A s.heap H locs) (ls : Array Slot) (hl : lv_has ls 6 [(4, .int (zI cn)), (5, .int (zI i)), (0, .ref (α 7)), (1, .ref (α 1)), (2, .ref (α 6)), (3, .int (zI a))]) (hi : 0 ≤ i ∧ i ≤ 49) (hcn : cn = zC (S_sees h a) i) (hcb : 0 ≤ cn ∧ cn ≤ i) (hm : (49 - i).toNat < n_6), W pg l e rm_X7_countFrom s m args below meth c H locs 0 0 Q (F0 m 6 ls []) from HL_6 _ hg9 la9 0 0 _ _ hP hD hS _ (lv_sub hl [1, 0, 2, 3, 4, 5] rfl) (by first | assumption | rfl | omega) (by exact (zC_0 _).symm) (by first | assumption | rfl | omega) (Nat.lt_succ_self _)
  intro n_6
  induction n_6 with
  | zero => intro f1 n1 cn i H locs hP hD hS ls hl hi hcn hcb hm; exact absurd hm (Nat.not_lt_zero _)
  | succ n_6 ih_6 =>
    intro f1 n1 cn i H locs hP hD hS ls hl hi hcn hcb hm
    refine lv_iload hx hb dX7_countFrom_6 (lv_at hl 1 rfl) ?_
    refine lv_bipush (v := zI 49) hx hb dX7_countFrom_8 (zI_b8 (by decide)) ?_
    refine z_icge (tgt := 43) hx hb ⟨by omega, by omega⟩ ⟨by omega, by omega⟩ dX7_countFrom_10 (by decide) (fun c_10 => ?_) (fun c_10 => ?_)
    · refine lv_iload hx hb dX7_countFrom_43 (lv_at hl 0 rfl) ?_
      exact z_iret hC hr hlk hQ hP hD hS ⟨f1, n1, cn, (by rw [hcn, show i = 49 by omega]; rfl), (by omega), rfl, rfl⟩ dX7_countFrom_45
    · refine lv_iload hx hb dX7_countFrom_13 (lv_at hl 1 rfl) ?_
      refine lv_iload_n hx hb dX7_countFrom_15 rfl (lv_at hl 5 rfl) ?_
      refine z_iceq (tgt := 37) hx hb ⟨by omega, by omega⟩ ⟨by omega, by omega⟩ dX7_countFrom_16 (by decide) (fun c_16 => ?_) (fun c_16 => ?_)
      · refine z_iinc (k := 1) (v := i + 1) (lv' := [(5, .int (zI (i + 1))), (4, .int (zI cn)), (0, .ref (α 7)), (1, .ref (α 1)), (2, .ref (α 6)), (3, .int (zI a))]) hx hb dX7_countFrom_37 hl rfl rfl (by decide) rfl (fun ls hl => ?_)
        refine lv_goto (tgt := 6) hx hb dX7_countFrom_40 (by decide) ?_
        exact ih_6 f1 n1 cn (i + 1) _ _ hP hD hS _ (lv_sub hl [1, 0, 2, 3, 4, 5] rfl) (by first | assumption | rfl | omega) (by rw [zC_up hi.1, ← hcn]; first | (rw [z1_t (show S_sees h a i = true from cb_iff.mpr ⟨by omega, (S_clear_of ha (by omega) hv24_1).mp (hv24_0 ▸ hb_31)⟩)]; done) | (rw [z1_f (show S_sees h a i = false from cb_f.mpr (fun h9 => hb_31 (hv24_0 ▸ (S_clear_of ha (by omega) hv24_1).mpr h9.2)))]; omega) | (rw [z1_f (show S_sees h a i = false from cb_f.mpr (fun h9 => h9.1 (by omega)))]; omega)) (by first | assumption | rfl | omega) (by omega)
      · refine lv_aload_n hx hb dX7_countFrom_19 rfl (lv_at hl 4 rfl) ?_
        refine lv_aload_n hx hb dX7_countFrom_20 rfl (lv_at hl 3 rfl) ?_
        refine lv_iload_n hx hb dX7_countFrom_21 rfl (lv_at hl 5 rfl) ?_
        refine lv_iload hx hb dX7_countFrom_22 (lv_at hl 1 rfl) ?_
        refine z_callv hP hD hS hA (va_runV (As := [.ref (α 1), .int (zI a), .int (zI i)]) (rest := []) hC (c_X0_lay l D τ α γ h old ch rg ln sl pd f1 n1 sg od hs a i (by first | assumption | rfl | omega) (by first | assumption | rfl | omega) (by first | assumption | rfl | omega) _) (cwV 3 hts (gV hB wl_X7_19 wn_X0_lay ws_X0_lay wi_X0 wc_X0_lay) rfl rfl rfl hd_X0_lay ⟨Nat.le_of_ble_eq_true rfl, Nat.le_of_ble_eq_true rfl⟩) (zp_V hK hP hD hS hA hG (ci := 0) (q0 := 6) rfl rfl rfl) rfl rfl hl.1 rfl (lv_room (Nat.le_of_ble_eq_true rfl)) dX7_countFrom_24 ⟨Nat.le_of_ble_eq_true rfl, Nat.le_of_ble_eq_true rfl⟩) (fun w1 H locs hq9 hP hD hS => ?_)
        obtain ⟨f24_1, n24_2, hv24_0, hv24_1, rfl⟩ := hq9
        have hP : va_P D vwCl (wH α γ (h, old, ch) rg ln sl pd (f24_1, n24_2) sg od hs) H := hP
        have hD : va_D A (wH α γ (h, old, ch) rg ln sl pd (f24_1, n24_2) sg od hs) := hD
        have zn := S_cutn_b ha (b := i) (by omega)
        refine lv_aload_n hx hb dX7_countFrom_27 rfl (lv_at hl 4 rfl) ?_
        refine z_calli hP hD hS hA (va_runV (As := []) (rest := []) hC (c_X0_isClear l D τ α γ (h, old, ch) rg ln sl pd f24_1 n24_2 sg od hs (by rw [hv24_0]; exact zn) (by intro k h1 h2; rw [hv24_1, zmix_at (by omega)]; exact hh _ (S_on_b ha (by omega) (by omega)).1 (S_on_b ha (by omega) (by omega)).2) _) (cwV 0 hts (gV hB wl_X7_25 wn_X0_isClear ws_X0_isClear wi_X0 wc_X0_isClear) rfl rfl rfl hd_X0_isClear ⟨Nat.le_of_ble_eq_true rfl, Nat.le_of_ble_eq_true rfl⟩) (zp_V hK hP hD hS hA hG (ci := 0) (q0 := 6) rfl rfl rfl) rfl rfl hl.1 rfl (lv_room (Nat.le_of_ble_eq_true rfl)) dX7_countFrom_28 ⟨Nat.le_of_ble_eq_true rfl, Nat.le_of_ble_eq_true rfl⟩) (fun r w1 H locs hq9 hP hD hS => ?_)
        obtain ⟨v28_3, hv28_0, rfl, rfl⟩ := hq9
        have hP : va_P D vwCl (wH α γ (h, old, ch) rg ln sl pd (f24_1, n24_2) sg od hs) H := hP
        have hD : va_D A (wH α γ (h, old, ch) rg ln sl pd (f24_1, n24_2) sg od hs) := hD
        refine z_ifeqB (tgt := 37) hx hb dX7_countFrom_31 (by decide) (fun c_31 => ?_) (fun c_31 => ?_)
        · have hb_31 := zb_neg hv28_0 c_31
          refine z_iinc (k := 1) (v := i + 1) (lv' := [(5, .int (zI (i + 1))), (4, .int (zI cn)), (0, .ref (α 7)), (1, .ref (α 1)), (2, .ref (α 6)), (3, .int (zI a))]) hx hb dX7_countFrom_37 hl rfl rfl (by decide) rfl (fun ls hl => ?_)
          refine lv_goto (tgt := 6) hx hb dX7_countFrom_40 (by decide) ?_
          exact ih_6 f24_1 n24_2 cn (i + 1) _ _ hP hD hS _ (lv_sub hl [1, 0, 2, 3, 4, 5] rfl) (by first | assumption | rfl | omega) (by rw [zC_up hi.1, ← hcn]; first | (rw [z1_t (show S_sees h a i = true from cb_iff.mpr ⟨by omega, (S_clear_of ha (by omega) hv24_1).mp (hv24_0 ▸ hb_31)⟩)]; done) | (rw [z1_f (show S_sees h a i = false from cb_f.mpr (fun h9 => hb_31 (hv24_0 ▸ (S_clear_of ha (by omega) hv24_1).mpr h9.2)))]; omega) | (rw [z1_f (show S_sees h a i = false from cb_f.mpr (fun h9 => h9.1 (by omega)))]; omega)) (by first | assumption | rfl | omega) (by omega)
        · have hb_31 := hv28_0.mp c_31
          refine z_iinc (k := 0) (v := cn + 1) (lv' := [(4, .int (zI (cn + 1))), (5, .int (zI i)), (0, .ref (α 7)), (1, .ref (α 1)), (2, .ref (α 6)), (3, .int (zI a))]) hx hb dX7_countFrom_34 hl rfl rfl (by decide) rfl (fun ls hl => ?_)
          refine z_iinc (k := 1) (v := i + 1) (lv' := [(5, .int (zI (i + 1))), (4, .int (zI (cn + 1))), (0, .ref (α 7)), (1, .ref (α 1)), (2, .ref (α 6)), (3, .int (zI a))]) hx hb dX7_countFrom_37 hl rfl rfl (by decide) rfl (fun ls hl => ?_)
          refine lv_goto (tgt := 6) hx hb dX7_countFrom_40 (by decide) ?_
          exact ih_6 f24_1 n24_2 (cn + 1) (i + 1) _ _ hP hD hS _ (lv_sub hl [1, 0, 2, 3, 4, 5] rfl) (by first | assumption | rfl | omega) (by rw [zC_up hi.1, ← hcn]; first | (rw [z1_t (show S_sees h a i = true from cb_iff.mpr ⟨by omega, (S_clear_of ha (by omega) hv24_1).mp (hv24_0 ▸ hb_31)⟩)]; done) | (rw [z1_f (show S_sees h a i = false from cb_f.mpr (fun h9 => hb_31 (hv24_0 ▸ (S_clear_of ha (by omega) hv24_1).mpr h9.2)))]; omega) | (rw [z1_f (show S_sees h a i = false from cb_f.mpr (fun h9 => h9.1 (by omega)))]; omega)) (by first | assumption | rfl | omega) (by omega)
