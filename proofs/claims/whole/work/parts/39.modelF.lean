abbrev wz_X10_cutOf : List Cond := .code yX10_cutOf cX10_cutOf 4 (some .int) :: W0
abbrev rm_X10_cutOf : Room := { frames := 1, cells := 0, slots := 0, locals := 20 }
theorem hd_X10_cutOf : yX10_cutOf.cls = RX10 ∧ yX10_cutOf.cls ≠ "java/lang/invoke/MethodHandle" ∧ yX10_cutOf.cls ≠ "java/lang/invoke/VarHandle" ∧ (parseMethodDescriptor yX10_cutOf.desc).map (fun d => d.parameters.length) = some 2 := by decide +kernel
set_option maxHeartbeats 4000000 in
set_option maxRecDepth 100000 in
theorem c_X10_cutOf (l : Launch) (D : va_G) (τ : Nat → Nat) (ws : va_W) (tys : List (ClassId × FieldType)) (a : Int) (b : Int) (ha : 0 ≤ a ∧ a < 49) (hb2 : 0 ≤ b ∧ b < 49) : cM l yX10_cutOf wz_X10_cutOf rm_X10_cutOf D τ tys [.int (zI a), .int (zI b)] (ws) (zQi (fun r w => ∃ (v : Int), (v = S_cutn a b) ∧ (0 ≤ v ∧ v ≤ 6) ∧ r = zI v ∧ ws = w)) := by
  refine z_ofM (cc := cX10_cutOf) (maxL := 4) (ret := (some .int)) (by decide +kernel) rfl (Nat.le_of_ble_eq_true rfl) ?_
  intro pg e s m args below meth c hC hr hlk hnm hK hP A hD hG hA hS ls hl Q hQ
  have hx := hC.1
  have hb := hC.2.1
  have hml := hC.2.2.1
  have hown := hC.2.2.2.1
  have hts := hC.2.2.2.2
  have hB : ∀ w ∈ W0, w ∈ wz_X10_cutOf := fun _ h => List.mem_cons_of_mem _ h
  have hW0 : ∀ w ∈ W0, w.before args s = true := fun w h => hts w (hB w h)
  have hl : lv_has ls 4 [(0, .int (zI a)), (1, .int (zI b))] := hl
  have hzn := S_cutn_b ha hb2
  refine lv_iload_n hx hb dX10_cutOf_0 rfl (lv_at hl 1 rfl) ?_
  refine lv_bipush (v := zI 7) hx hb dX10_cutOf_1 (zI_b8 (by decide)) ?_
  refine z_idiv hx hb ⟨⟨by omega, by omega⟩, by omega, by omega⟩ dX10_cutOf_3 ?_
  refine lv_iload_n hx hb dX10_cutOf_4 rfl (lv_at hl 0 rfl) ?_
  refine lv_bipush (v := zI 7) hx hb dX10_cutOf_5 (zI_b8 (by decide)) ?_
  refine z_idiv hx hb ⟨⟨by omega, by omega⟩, by omega, by omega⟩ dX10_cutOf_7 ?_
  refine z_isub hx hb dX10_cutOf_8 ?_
  refine z_calli hP hD hS hA (va_runS (As := [.int (zI ((b / 7) - (a / 7)))]) (rest := []) hC (c_X10_size l D τ _ _ ((b / 7) - (a / 7)) (by first | assumption | rfl | omega) _) (va_cwS 1 hts (gS hB wl_X10_63 wt_X10_size wi_X10 wc_X10_size) rfl rfl rfl hd_X10_size.2 ⟨Nat.le_of_ble_eq_true rfl, Nat.le_of_ble_eq_true rfl⟩) (zp_S hK hP hD hS hA hG) rfl rfl hl.1 rfl (lv_room (Nat.le_of_ble_eq_true rfl)) dX10_cutOf_9 ⟨Nat.le_of_ble_eq_true rfl, Nat.le_of_ble_eq_true rfl⟩) (fun r w1 H locs hq9 hP hD hS => ?_)
  obtain ⟨v9_1, hv9_0, rfl, rfl⟩ := hq9
  refine lv_istore_n (lv' := [(2, .int (zI v9_1)), (0, .int (zI a)), (1, .int (zI b))]) hx hb dX10_cutOf_12 rfl hl (by decide) rfl (fun ls hl => ?_)
  refine lv_iload_n hx hb dX10_cutOf_13 rfl (lv_at hl 2 rfl) ?_
  refine lv_bipush (v := zI 7) hx hb dX10_cutOf_14 (zI_b8 (by decide)) ?_
  refine z_irem hx hb ⟨⟨by omega, by omega⟩, by omega, by omega⟩ dX10_cutOf_16 ?_
  refine lv_iload_n hx hb dX10_cutOf_17 rfl (lv_at hl 1 rfl) ?_
  refine lv_bipush (v := zI 7) hx hb dX10_cutOf_18 (zI_b8 (by decide)) ?_
  refine z_irem hx hb ⟨⟨by omega, by omega⟩, by omega, by omega⟩ dX10_cutOf_20 ?_
  refine z_isub hx hb dX10_cutOf_21 ?_
  refine z_calli hP hD hS hA (va_runS (As := [.int (zI ((b % 7) - (a % 7)))]) (rest := []) hC (c_X10_size l D τ _ _ ((b % 7) - (a % 7)) (by first | assumption | rfl | omega) _) (va_cwS 1 hts (gS hB wl_X10_63 wt_X10_size wi_X10 wc_X10_size) rfl rfl rfl hd_X10_size.2 ⟨Nat.le_of_ble_eq_true rfl, Nat.le_of_ble_eq_true rfl⟩) (zp_S hK hP hD hS hA hG) rfl rfl hl.1 rfl (lv_room (Nat.le_of_ble_eq_true rfl)) dX10_cutOf_22 ⟨Nat.le_of_ble_eq_true rfl, Nat.le_of_ble_eq_true rfl⟩) (fun r w1 H locs hq9 hP hD hS => ?_)
  obtain ⟨v22_2, hv22_0, rfl, rfl⟩ := hq9
  refine lv_istore_n (lv' := [(3, .int (zI v22_2)), (2, .int (zI v9_1)), (0, .int (zI a)), (1, .int (zI b))]) hx hb dX10_cutOf_25 rfl hl (by decide) rfl (fun ls hl => ?_)
  have e9 := hv9_0
  have e22 := hv22_0
  have s9 := zabs_spec (b / 7 - a / 7)
  have s22 := zabs_spec (b % 7 - a % 7)
  refine lv_iload_n hx hb dX10_cutOf_26 rfl (lv_at hl 1 rfl) ?_
  refine lv_iload_n hx hb dX10_cutOf_27 rfl (lv_at hl 0 rfl) ?_
  refine z_icle (tgt := 35) hx hb ⟨by omega, by omega⟩ ⟨by omega, by omega⟩ dX10_cutOf_28 (by decide) (fun c_28 => ?_) (fun c_28 => ?_)
  · refine lv_iload_n hx hb dX10_cutOf_35 rfl (lv_at hl 0 rfl) ?_
    exact z_iret hC hr hlk hQ hP hD hS ⟨v22_2, (by unfold S_cutn zmax; rw [← e9, ← e22]; split <;> omega), (by unfold S_cutn zmax at hzn; rw [← e9, ← e22] at hzn; split at hzn <;> omega), rfl, rfl⟩ dX10_cutOf_36
  · refine lv_iload_n hx hb dX10_cutOf_31 rfl (lv_at hl 1 rfl) ?_
    refine lv_goto (tgt := 36) hx hb dX10_cutOf_32 (by decide) ?_
    exact z_iret hC hr hlk hQ hP hD hS ⟨v9_1, (by unfold S_cutn zmax; rw [← e9, ← e22]; split <;> omega), (by unfold S_cutn zmax at hzn; rw [← e9, ← e22] at hzn; split at hzn <;> omega), rfl, rfl⟩ dX10_cutOf_36

abbrev wz_X10_onCut : List Cond := .code yX10_onCut cX10_onCut 6 (some .int) :: W0
abbrev rm_X10_onCut : Room := { frames := 2, cells := 0, slots := 0, locals := 43 }
theorem hd_X10_onCut : yX10_onCut.cls = RX10 ∧ yX10_onCut.cls ≠ "java/lang/invoke/MethodHandle" ∧ yX10_onCut.cls ≠ "java/lang/invoke/VarHandle" ∧ (parseMethodDescriptor yX10_onCut.desc).map (fun d => d.parameters.length) = some 3 := by decide +kernel
set_option maxHeartbeats 4000000 in
set_option maxRecDepth 100000 in
theorem c_X10_onCut (l : Launch) (D : va_G) (τ : Nat → Nat) (ws : va_W) (tys : List (ClassId × FieldType)) (a : Int) (b : Int) (i : Int) (ha : 0 ≤ a ∧ a < 49) (hb2 : 0 ≤ b ∧ b < 49) (hi : 0 ≤ i ∧ i ≤ S_cutn a b) : cM l yX10_onCut wz_X10_onCut rm_X10_onCut D τ tys [.int (zI a), .int (zI b), .int (zI i)] (ws) (zQi (fun r w => ∃ (v : Int), (v = S_on a b i) ∧ (0 ≤ v ∧ v < 49) ∧ r = zI v ∧ ws = w)) := by
  refine z_ofM (cc := cX10_onCut) (maxL := 6) (ret := (some .int)) (by decide +kernel) rfl (Nat.le_of_ble_eq_true rfl) ?_
  intro pg e s m args below meth c hC hr hlk hnm hK hP A hD hG hA hS ls hl Q hQ
  have hx := hC.1
  have hb := hC.2.1
  have hml := hC.2.2.1
  have hown := hC.2.2.2.1
  have hts := hC.2.2.2.2
  have hB : ∀ w ∈ W0, w ∈ wz_X10_onCut := fun _ h => List.mem_cons_of_mem _ h
  have hW0 : ∀ w ∈ W0, w.before args s = true := fun w h => hts w (hB w h)
  have hl : lv_has ls 6 [(0, .int (zI a)), (1, .int (zI b)), (2, .int (zI i))] := hl
  have hob := S_on_b ha hb2 hi
  have hcd := S_cutn_d (a := a) (b := b)
  refine lv_iload_n hx hb dX10_onCut_0 rfl (lv_at hl 0 rfl) ?_
  refine lv_iload_n hx hb dX10_onCut_1 rfl (lv_at hl 1 rfl) ?_
  refine z_calli hP hD hS hA (va_runS (As := [.int (zI a), .int (zI b)]) (rest := []) hC (c_X10_cutOf l D τ _ _ a b (by first | assumption | rfl | omega) (by first | assumption | rfl | omega) _) (va_cwS 2 hts (gS hB wl_X10_217 wt_X10_cutOf wi_X10 wc_X10_cutOf) rfl rfl rfl hd_X10_cutOf.2 ⟨Nat.le_of_ble_eq_true rfl, Nat.le_of_ble_eq_true rfl⟩) (zp_S hK hP hD hS hA hG) rfl rfl hl.1 rfl (lv_room (Nat.le_of_ble_eq_true rfl)) dX10_onCut_2 ⟨Nat.le_of_ble_eq_true rfl, Nat.le_of_ble_eq_true rfl⟩) (fun r w1 H locs hq9 hP hD hS => ?_)
  obtain ⟨v2_1, hv2_0, hv2_1, rfl, rfl⟩ := hq9
  refine lv_istore_n (lv' := [(3, .int (zI v2_1)), (0, .int (zI a)), (1, .int (zI b)), (2, .int (zI i))]) hx hb dX10_onCut_5 rfl hl (by decide) rfl (fun ls hl => ?_)
  refine lv_iload_n hx hb dX10_onCut_6 rfl (lv_at hl 0 rfl) ?_
  refine z_ifne (tgt := 12) hx hb ⟨by omega, by omega⟩ dX10_onCut_7 (by decide) (fun c_7 => ?_) (fun c_7 => ?_)
  · have hnn : 0 < v2_1 ∧ v2_1 ≤ 6 := by omega
    have hin : 0 ≤ i ∧ i ≤ v2_1 := by rw [hv2_0]; exact hi
    have al1 := S_al_n (n := v2_1) (st := a / 7) (d := b / 7 - a / 7) (i := i) hnn hin (by omega) (by omega)
    have al2 := S_al_n (n := v2_1) (st := a % 7) (d := b % 7 - a % 7) (i := i) hnn hin (by omega) (by omega)
    refine lv_iconst (v := zI 2) hx hb dX10_onCut_12 rfl ?_
    refine lv_iload_n hx hb dX10_onCut_13 rfl (lv_at hl 0 rfl) ?_
    refine z_imul hx hb dX10_onCut_14 ?_
    refine lv_iload_n hx hb dX10_onCut_15 rfl (lv_at hl 1 rfl) ?_
    refine lv_bipush (v := zI 7) hx hb dX10_onCut_16 (zI_b8 (by decide)) ?_
    refine z_idiv hx hb ⟨⟨by omega, by omega⟩, by omega, by omega⟩ dX10_onCut_18 ?_
    refine z_imul hx hb dX10_onCut_19 ?_
    refine lv_iconst (v := zI 2) hx hb dX10_onCut_20 rfl ?_
    refine lv_iload_n hx hb dX10_onCut_21 rfl (lv_at hl 3 rfl) ?_
    refine z_imul hx hb dX10_onCut_22 ?_
    refine lv_iload_n hx hb dX10_onCut_23 rfl (lv_at hl 2 rfl) ?_
    refine lv_bipush (v := zI 7) hx hb dX10_onCut_24 (zI_b8 (by decide)) ?_
    refine z_idiv hx hb ⟨⟨by omega, by omega⟩, by omega, by omega⟩ dX10_onCut_26 ?_
    refine lv_iload_n hx hb dX10_onCut_27 rfl (lv_at hl 1 rfl) ?_
    refine lv_bipush (v := zI 7) hx hb dX10_onCut_28 (zI_b8 (by decide)) ?_
    refine z_idiv hx hb ⟨⟨by omega, by omega⟩, by omega, by omega⟩ dX10_onCut_30 ?_
    refine z_isub hx hb dX10_onCut_31 ?_
    refine z_imul hx hb dX10_onCut_32 ?_
    refine z_iadd hx hb dX10_onCut_33 ?_
    refine lv_iload_n hx hb dX10_onCut_34 rfl (lv_at hl 0 rfl) ?_
    refine z_iadd hx hb dX10_onCut_35 ?_
    refine lv_iconst (v := zI 2) hx hb dX10_onCut_36 rfl ?_
    refine lv_iload_n hx hb dX10_onCut_37 rfl (lv_at hl 0 rfl) ?_
    refine z_imul hx hb dX10_onCut_38 ?_
    refine z_idiv hx hb ⟨⟨by omega, by omega⟩, by omega, by omega⟩ dX10_onCut_39 ?_
    refine lv_istore (lv' := [(4, .int (zI (((((2 * v2_1) * (a / 7)) + ((2 * i) * ((b / 7) - (a / 7)))) + v2_1) / (2 * v2_1)))), (3, .int (zI v2_1)), (0, .int (zI a)), (1, .int (zI b)), (2, .int (zI i))]) hx hb dX10_onCut_40 hl (by decide) rfl (fun ls hl => ?_)
    refine lv_iconst (v := zI 2) hx hb dX10_onCut_42 rfl ?_
    refine lv_iload_n hx hb dX10_onCut_43 rfl (lv_at hl 1 rfl) ?_
    refine z_imul hx hb dX10_onCut_44 ?_
    refine lv_iload_n hx hb dX10_onCut_45 rfl (lv_at hl 2 rfl) ?_
    refine lv_bipush (v := zI 7) hx hb dX10_onCut_46 (zI_b8 (by decide)) ?_
    refine z_irem hx hb ⟨⟨by omega, by omega⟩, by omega, by omega⟩ dX10_onCut_48 ?_
    refine z_imul hx hb dX10_onCut_49 ?_
    refine lv_iconst (v := zI 2) hx hb dX10_onCut_50 rfl ?_
    refine lv_iload_n hx hb dX10_onCut_51 rfl (lv_at hl 4 rfl) ?_
    refine z_imul hx hb dX10_onCut_52 ?_
    refine lv_iload_n hx hb dX10_onCut_53 rfl (lv_at hl 3 rfl) ?_
    refine lv_bipush (v := zI 7) hx hb dX10_onCut_54 (zI_b8 (by decide)) ?_
    refine z_irem hx hb ⟨⟨by omega, by omega⟩, by omega, by omega⟩ dX10_onCut_56 ?_
    refine lv_iload_n hx hb dX10_onCut_57 rfl (lv_at hl 2 rfl) ?_
    refine lv_bipush (v := zI 7) hx hb dX10_onCut_58 (zI_b8 (by decide)) ?_
    refine z_irem hx hb ⟨⟨by omega, by omega⟩, by omega, by omega⟩ dX10_onCut_60 ?_
    refine z_isub hx hb dX10_onCut_61 ?_
    refine z_imul hx hb dX10_onCut_62 ?_
    refine z_iadd hx hb dX10_onCut_63 ?_
    refine lv_iload_n hx hb dX10_onCut_64 rfl (lv_at hl 1 rfl) ?_
    refine z_iadd hx hb dX10_onCut_65 ?_
    refine lv_iconst (v := zI 2) hx hb dX10_onCut_66 rfl ?_
    refine lv_iload_n hx hb dX10_onCut_67 rfl (lv_at hl 1 rfl) ?_
    refine z_imul hx hb dX10_onCut_68 ?_
    refine z_idiv hx hb ⟨⟨by omega, by omega⟩, by omega, by omega⟩ dX10_onCut_69 ?_
    refine lv_istore (lv' := [(5, .int (zI (((((2 * v2_1) * (a % 7)) + ((2 * i) * ((b % 7) - (a % 7)))) + v2_1) / (2 * v2_1)))), (4, .int (zI (((((2 * v2_1) * (a / 7)) + ((2 * i) * ((b / 7) - (a / 7)))) + v2_1) / (2 * v2_1)))), (3, .int (zI v2_1)), (0, .int (zI a)), (1, .int (zI b)), (2, .int (zI i))]) hx hb dX10_onCut_70 hl (by decide) rfl (fun ls hl => ?_)
    refine lv_bipush (v := zI 7) hx hb dX10_onCut_72 (zI_b8 (by decide)) ?_
    refine lv_iload hx hb dX10_onCut_74 (lv_at hl 1 rfl) ?_
    refine z_imul hx hb dX10_onCut_76 ?_
    refine lv_iload hx hb dX10_onCut_77 (lv_at hl 0 rfl) ?_
    refine z_iadd hx hb dX10_onCut_79 ?_
    exact z_iret hC hr hlk hQ hP hD hS ⟨(7 * (((((2 * v2_1) * (a / 7)) + ((2 * i) * ((b / 7) - (a / 7)))) + v2_1) / (2 * v2_1))) + (((((2 * v2_1) * (a % 7)) + ((2 * i) * ((b % 7) - (a % 7)))) + v2_1) / (2 * v2_1)), (by unfold S_on S_along; rw [← hv2_0, if_neg (by omega), if_neg (by omega)]; exact congrArg (· + _) (Int.mul_comm _ _)), (by unfold S_on S_along at hob; rw [← hv2_0, if_neg (by omega), if_neg (by omega)] at hob; rw [Int.mul_comm 7]; exact hob), rfl, rfl⟩ dX10_onCut_80
  · refine lv_iload_n hx hb dX10_onCut_10 rfl (lv_at hl 1 rfl) ?_
    exact z_iret hC hr hlk hQ hP hD hS ⟨a, (by exact (S_on_z (hv2_0.symm.trans c_7)).symm), (by exact ha), rfl, rfl⟩ dX10_onCut_11

abbrev wz_X10_isSeen : List Cond := .code yX10_isSeen cX10_isSeen 6 (some .boolean) :: W0
abbrev rm_X10_isSeen : Room := { frames := 3, cells := 0, slots := 0, locals := 68 }
theorem hd_X10_isSeen : yX10_isSeen.cls = RX10 ∧ yX10_isSeen.cls ≠ "java/lang/invoke/MethodHandle" ∧ yX10_isSeen.cls ≠ "java/lang/invoke/VarHandle" ∧ (parseMethodDescriptor yX10_isSeen.desc).map (fun d => d.parameters.length) = some 2 := by decide +kernel
set_option maxHeartbeats 4000000 in
set_option maxRecDepth 100000 in
theorem c_X10_isSeen (l : Launch) (D : va_G) (τ : Nat → Nat) (β : Nat → Nat) (δ : Nat → ClassId) (ms : IA) (mb : IA) (mo : IA) (mp : BA) (mf : IA) (mn : IA) (mi : IA) (mc : IA) (mq : BA) (mr : IA) (mw : IA) (mk : Int) (ml : Int) (mt : Int) (ma : Int) (mx : Bool) (mh : Int64) (a : Int) (b : Int) (ha : 0 ≤ a ∧ a < 49) (hb2 : 0 ≤ b ∧ b < 49) (hms : ∀ k, 0 ≤ k → k < 49 → 0 ≤ ms k ∧ ms k ≤ 99) : cM l yX10_isSeen wz_X10_isSeen rm_X10_isSeen D τ (tyM δ) [.ref (β 0), .int (zI a), .int (zI b)] (wM β δ ms mb mo mp mf mn mi mc mq mr mw mk ml mt ma mx mh) (zQi (fun r w => ∃ (v : Bool), (v = true ↔ S_clear ms a b) ∧ r = bI v ∧ wM β δ ms mb mo mp mf mn mi mc mq mr mw mk ml mt ma mx mh = w)) := by
  refine z_ofM (cc := cX10_isSeen) (maxL := 6) (ret := (some .boolean)) (by decide +kernel) rfl (Nat.le_of_ble_eq_true rfl) ?_
  intro pg e s m args below meth c hC hr hlk hnm hK hP A hD hG hA hS ls hl Q hQ
  have hx := hC.1
  have hb := hC.2.1
  have hml := hC.2.2.1
  have hown := hC.2.2.2.1
  have hts := hC.2.2.2.2
  have hB : ∀ w ∈ W0, w ∈ wz_X10_isSeen := fun _ h => List.mem_cons_of_mem _ h
  have hW0 : ∀ w ∈ W0, w.before args s = true := fun w h => hts w (hB w h)
  have hl : lv_has ls 6 [(0, .ref (β 0)), (1, .int (zI a)), (2, .int (zI b))] := hl
  refine lv_iload_n hx hb dX10_isSeen_0 rfl (lv_at hl 1 rfl) ?_
  refine lv_iload_n hx hb dX10_isSeen_1 rfl (lv_at hl 2 rfl) ?_
  refine z_calli hP hD hS hA (va_runS (As := [.int (zI a), .int (zI b)]) (rest := []) hC (c_X10_cutOf l D τ _ _ a b (by first | assumption | rfl | omega) (by first | assumption | rfl | omega) _) (va_cwS 2 hts (gS hB wl_X10_217 wt_X10_cutOf wi_X10 wc_X10_cutOf) rfl rfl rfl hd_X10_cutOf.2 ⟨Nat.le_of_ble_eq_true rfl, Nat.le_of_ble_eq_true rfl⟩) (zp_S hK hP hD hS hA hG) rfl rfl hl.1 rfl (lv_room (Nat.le_of_ble_eq_true rfl)) dX10_isSeen_2 ⟨Nat.le_of_ble_eq_true rfl, Nat.le_of_ble_eq_true rfl⟩) (fun r w1 H locs hq9 hP hD hS => ?_)
  obtain ⟨v2_1, hv2_0, hv2_1, rfl, rfl⟩ := hq9
  refine lv_istore_n (lv' := [(3, .int (zI v2_1)), (0, .ref (β 0)), (1, .int (zI a)), (2, .int (zI b))]) hx hb dX10_isSeen_5 rfl hl (by decide) rfl (fun ls hl => ?_)
  refine lv_iconst (v := zI 1) hx hb dX10_isSeen_6 rfl ?_
  refine lv_istore (lv' := [(4, .int (zI 1)), (3, .int (zI v2_1)), (0, .ref (β 0)), (1, .int (zI a)), (2, .int (zI b))]) hx hb dX10_isSeen_7 hl (by decide) rfl (fun ls hl => ?_)
  refine lv_iconst (v := zI 1) hx hb dX10_isSeen_9 rfl ?_
  refine lv_istore (lv' := [(5, .int (zI 1)), (4, .int (zI 1)), (3, .int (zI v2_1)), (0, .ref (β 0)), (1, .int (zI a)), (2, .int (zI b))]) hx hb dX10_isSeen_10 hl (by decide) rfl (fun ls hl => ?_)
  suffices HL_12 : ∀ (n_12 : Nat), ∀ (qb : Bool) (i : Int) (H : Heap) (locs : List Loc) (hP : va_P D vwCl (wM β δ ms mb mo mp mf mn mi mc mq mr mw mk ml mt ma mx mh) H) (hD : va_D A (wM β δ ms mb mo mp mf mn mi mc mq mr mw mk ml mt ma mx mh)) (hS : va_S A s.heap H locs) (ls : Array Slot) (hl : lv_has ls 6 [(4, .int (bI qb)), (5, .int (zI i)), (3, .int (zI v2_1)), (0, .ref (β 0)), (1, .int (zI a)), (2, .int (zI b))]) (hi : 1 ≤ i ∧ (i ≤ S_cutn a b ∨ i = 1)) (hqb : qb = true ↔ ∀ k, 1 ≤ k → k < i → ms (S_on a b k) * S_cutn a b ≤ (S_cutn a b - k) * ms a + k * ms b) (hm : (S_cutn a b + 1 - i).toNat < n_12), W pg l e rm_X10_isSeen s m args below meth c H locs 0 0 Q (F0 m 12 ls []) from HL_12 _ true 1 _ _ hP hD hS _ (lv_sub hl [1, 0, 2, 3, 4, 5] rfl) (by first | assumption | rfl | omega) (by exact zb_T (fun k z1 z2 => by omega)) (Nat.lt_succ_self _)
  intro n_12
  induction n_12 with
  | zero => intro qb i H locs hP hD hS ls hl hi hqb hm; exact absurd hm (Nat.not_lt_zero _)
  | succ n_12 ih_12 =>
    intro qb i H locs hP hD hS ls hl hi hqb hm
    refine lv_iload hx hb dX10_isSeen_12 (lv_at hl 1 rfl) ?_
    refine lv_iload_n hx hb dX10_isSeen_14 rfl (lv_at hl 2 rfl) ?_
    refine z_icge (tgt := 74) hx hb ⟨by omega, by omega⟩ ⟨by omega, by omega⟩ dX10_isSeen_15 (by decide) (fun c_15 => ?_) (fun c_15 => ?_)
    · refine lv_iload hx hb dX10_isSeen_74 (lv_at hl 0 rfl) ?_
      exact z_zret hC hr hlk hQ hP hD hS ⟨qb, (by exact ⟨fun h9 k a1 a2 => hqb.mp h9 k a1 (by omega), fun h9 => hqb.mpr (fun k a1 a2 => h9 k a1 (by omega))⟩), rfl, rfl⟩ dX10_isSeen_76
    · refine lv_iload hx hb dX10_isSeen_18 (lv_at hl 0 rfl) ?_
      refine z_ifeqB (tgt := 65) hx hb dX10_isSeen_20 (by decide) (fun c_20 => ?_) (fun c_20 => ?_)
      · refine lv_iconst (v := zI 0) hx hb dX10_isSeen_65 rfl ?_
        refine lv_istore (lv' := [(4, .int (zI 0)), (5, .int (zI i)), (3, .int (zI v2_1)), (0, .ref (β 0)), (1, .int (zI a)), (2, .int (zI b))]) hx hb dX10_isSeen_66 hl (by decide) rfl (fun ls hl => ?_)
        refine z_iinc (k := 1) (v := i + 1) (lv' := [(5, .int (zI (i + 1))), (4, .int (zI 0)), (3, .int (zI v2_1)), (0, .ref (β 0)), (1, .int (zI a)), (2, .int (zI b))]) hx hb dX10_isSeen_68 hl rfl rfl (by decide) rfl (fun ls hl => ?_)
        refine lv_goto (tgt := 12) hx hb dX10_isSeen_71 (by decide) ?_
        exact ih_12 false (i + 1) _ _ hP hD hS _ (lv_sub hl [1, 0, 2, 3, 4, 5] rfl) (by first | assumption | rfl | omega) (by first | exact zb_F (fun h9 => absurd ((hqb.mpr (fun k a1 a2 => h9 k a1 (by omega))).symm.trans c_20) (by decide)) | exact zb_T (fun k a1 a2 => by by_cases e9 : k = i; (focus (rw [e9, ← hv31_0, ← hv2_0]; exact c_58)); exact hqb.mp c_20 k a1 (by omega)) | exact zb_F (fun h9 => absurd (h9 i hi.1 (by omega)) (by rw [← hv31_0, ← hv2_0]; exact Int.not_le.mpr c_58))) (by omega)
      · refine lv_aload_n hx hb dX10_isSeen_23 rfl (lv_at hl 3 rfl) ?_
        refine va_get (D := D) (ci := 10) (v := .ref (β 1)) (C := RX10) (T := TX10) (N := 17) hx hb hts (fun w h => List.mem_cons_of_mem _ (wx_X10 w h)) hown hK hP 0 rfl rfl 0 (by decide) (hW0 _ wf_X10_7) (fun _ h9 => h9) rfl dX10_isSeen_24 ?_
        refine lv_iload_n hx hb dX10_isSeen_27 rfl (lv_at hl 4 rfl) ?_
        refine lv_iload_n hx hb dX10_isSeen_28 rfl (lv_at hl 5 rfl) ?_
        refine lv_iload hx hb dX10_isSeen_29 (lv_at hl 1 rfl) ?_
        refine z_calli hP hD hS hA (va_runS (As := [.int (zI a), .int (zI b), .int (zI i)]) (rest := [.ref (β 1)]) hC (c_X10_onCut l D τ _ _ a b i (by first | assumption | rfl | omega) (by first | assumption | rfl | omega) (by rw [← hv2_0]; omega) _) (va_cwS 3 hts (gS hB wl_X10_220 wt_X10_onCut wi_X10 wc_X10_onCut) rfl rfl rfl hd_X10_onCut.2 ⟨Nat.le_of_ble_eq_true rfl, Nat.le_of_ble_eq_true rfl⟩) (zp_S hK hP hD hS hA hG) rfl rfl hl.1 rfl (lv_room (Nat.le_of_ble_eq_true rfl)) dX10_isSeen_31 ⟨Nat.le_of_ble_eq_true rfl, Nat.le_of_ble_eq_true rfl⟩) (fun r w1 H locs hq9 hP hD hS => ?_)
        obtain ⟨v31_2, hv31_0, hv31_1, rfl, rfl⟩ := hq9
        refine z_iald (f := ms) hx hb hK hP 1 0 rfl rfl ⟨⟨by omega, by omega⟩, by decide⟩ dX10_isSeen_34 ?_
        have hb_34 := hms v31_2 (by omega) (by omega)
        refine lv_iload_n hx hb dX10_isSeen_35 rfl (lv_at hl 2 rfl) ?_
        refine z_imul hx hb dX10_isSeen_36 ?_
        refine lv_iload_n hx hb dX10_isSeen_37 rfl (lv_at hl 2 rfl) ?_
        refine lv_iload hx hb dX10_isSeen_38 (lv_at hl 1 rfl) ?_
        refine z_isub hx hb dX10_isSeen_40 ?_
        refine lv_aload_n hx hb dX10_isSeen_41 rfl (lv_at hl 3 rfl) ?_
        refine va_get (D := D) (ci := 10) (v := .ref (β 1)) (C := RX10) (T := TX10) (N := 17) hx hb hts (fun w h => List.mem_cons_of_mem _ (wx_X10 w h)) hown hK hP 0 rfl rfl 0 (by decide) (hW0 _ wf_X10_7) (fun _ h9 => h9) rfl dX10_isSeen_42 ?_
        refine lv_iload_n hx hb dX10_isSeen_45 rfl (lv_at hl 4 rfl) ?_
        refine z_iald (f := ms) hx hb hK hP 1 0 rfl rfl ⟨⟨by omega, by omega⟩, by decide⟩ dX10_isSeen_46 ?_
        have hb_46 := hms a (by omega) (by omega)
        refine z_imul hx hb dX10_isSeen_47 ?_
        refine lv_iload hx hb dX10_isSeen_48 (lv_at hl 1 rfl) ?_
        refine lv_aload_n hx hb dX10_isSeen_50 rfl (lv_at hl 3 rfl) ?_
        refine va_get (D := D) (ci := 10) (v := .ref (β 1)) (C := RX10) (T := TX10) (N := 17) hx hb hts (fun w h => List.mem_cons_of_mem _ (wx_X10 w h)) hown hK hP 0 rfl rfl 0 (by decide) (hW0 _ wf_X10_7) (fun _ h9 => h9) rfl dX10_isSeen_51 ?_
        refine lv_iload_n hx hb dX10_isSeen_54 rfl (lv_at hl 5 rfl) ?_
        refine z_iald (f := ms) hx hb hK hP 1 0 rfl rfl ⟨⟨by omega, by omega⟩, by decide⟩ dX10_isSeen_55 ?_
        have hb_55 := hms b (by omega) (by omega)
        refine z_imul hx hb dX10_isSeen_56 ?_
        refine z_iadd hx hb dX10_isSeen_57 ?_
        have z1 := zmul_b (x := ms v31_2) (y := v2_1) (a := 99) (b := 6) (by omega) (by omega)
        have z2 := zmul_b (x := v2_1 - i) (y := ms a) (a := 6) (b := 99) (by omega) (hms a ha.1 ha.2)
        have z3 := zmul_b (x := i) (y := ms b) (a := 6) (b := 99) (by omega) (hms b hb2.1 hb2.2)
        refine z_icgt (tgt := 65) hx hb ⟨by omega, by omega⟩ ⟨by omega, by omega⟩ dX10_isSeen_58 (by decide) (fun c_58 => ?_) (fun c_58 => ?_)
        · refine lv_iconst (v := zI 0) hx hb dX10_isSeen_65 rfl ?_
          refine lv_istore (lv' := [(4, .int (zI 0)), (5, .int (zI i)), (3, .int (zI v2_1)), (0, .ref (β 0)), (1, .int (zI a)), (2, .int (zI b))]) hx hb dX10_isSeen_66 hl (by decide) rfl (fun ls hl => ?_)
          refine z_iinc (k := 1) (v := i + 1) (lv' := [(5, .int (zI (i + 1))), (4, .int (zI 0)), (3, .int (zI v2_1)), (0, .ref (β 0)), (1, .int (zI a)), (2, .int (zI b))]) hx hb dX10_isSeen_68 hl rfl rfl (by decide) rfl (fun ls hl => ?_)
          refine lv_goto (tgt := 12) hx hb dX10_isSeen_71 (by decide) ?_
          exact ih_12 false (i + 1) _ _ hP hD hS _ (lv_sub hl [1, 0, 2, 3, 4, 5] rfl) (by first | assumption | rfl | omega) (by first | exact zb_F (fun h9 => absurd ((hqb.mpr (fun k a1 a2 => h9 k a1 (by omega))).symm.trans c_20) (by decide)) | exact zb_T (fun k a1 a2 => by by_cases e9 : k = i; (focus (rw [e9, ← hv31_0, ← hv2_0]; exact c_58)); exact hqb.mp c_20 k a1 (by omega)) | exact zb_F (fun h9 => absurd (h9 i hi.1 (by omega)) (by rw [← hv31_0, ← hv2_0]; exact Int.not_le.mpr c_58))) (by omega)
        · refine lv_iconst (v := zI 1) hx hb dX10_isSeen_61 rfl ?_
          refine lv_goto (tgt := 66) hx hb dX10_isSeen_62 (by decide) ?_
          refine lv_istore (lv' := [(4, .int (zI 1)), (5, .int (zI i)), (3, .int (zI v2_1)), (0, .ref (β 0)), (1, .int (zI a)), (2, .int (zI b))]) hx hb dX10_isSeen_66 hl (by decide) rfl (fun ls hl => ?_)
          refine z_iinc (k := 1) (v := i + 1) (lv' := [(5, .int (zI (i + 1))), (4, .int (zI 1)), (3, .int (zI v2_1)), (0, .ref (β 0)), (1, .int (zI a)), (2, .int (zI b))]) hx hb dX10_isSeen_68 hl rfl rfl (by decide) rfl (fun ls hl => ?_)
          refine lv_goto (tgt := 12) hx hb dX10_isSeen_71 (by decide) ?_
          exact ih_12 true (i + 1) _ _ hP hD hS _ (lv_sub hl [1, 0, 2, 3, 4, 5] rfl) (by first | assumption | rfl | omega) (by first | exact zb_F (fun h9 => absurd ((hqb.mpr (fun k a1 a2 => h9 k a1 (by omega))).symm.trans c_20) (by decide)) | exact zb_T (fun k a1 a2 => by by_cases e9 : k = i; (focus (rw [e9, ← hv31_0, ← hv2_0]; exact c_58)); exact hqb.mp c_20 k a1 (by omega)) | exact zb_F (fun h9 => absurd (h9 i hi.1 (by omega)) (by rw [← hv31_0, ← hv2_0]; exact Int.not_le.mpr c_58))) (by omega)

abbrev wz_X10_seen : List Cond := .code yX10_seen cX10_seen 4 (some .int) :: W0
abbrev rm_X10_seen : Room := { frames := 4, cells := 0, slots := 0, locals := 93 }
theorem hd_X10_seen : yX10_seen.cls = RX10 ∧ yX10_seen.cls ≠ "java/lang/invoke/MethodHandle" ∧ yX10_seen.cls ≠ "java/lang/invoke/VarHandle" ∧ (parseMethodDescriptor yX10_seen.desc).map (fun d => d.parameters.length) = some 1 := by decide +kernel
set_option maxHeartbeats 4000000 in
set_option maxRecDepth 100000 in
theorem c_X10_seen (l : Launch) (D : va_G) (τ : Nat → Nat) (β : Nat → Nat) (δ : Nat → ClassId) (ms : IA) (mb : IA) (mo : IA) (mp : BA) (mf : IA) (mn : IA) (mi : IA) (mc : IA) (mq : BA) (mr : IA) (mw : IA) (mk : Int) (ml : Int) (mt : Int) (ma : Int) (mx : Bool) (mh : Int64) (a : Int) (ha : 0 ≤ a ∧ a < 49) (hms : ∀ k, 0 ≤ k → k < 49 → 0 ≤ ms k ∧ ms k ≤ 99) : cM l yX10_seen wz_X10_seen rm_X10_seen D τ (tyM δ) [.ref (β 0), .int (zI a)] (wM β δ ms mb mo mp mf mn mi mc mq mr mw mk ml mt ma mx mh) (zQi (fun r w => ∃ (v : Int), (v = S_seen ms a) ∧ (0 ≤ v ∧ v ≤ 49) ∧ r = zI v ∧ wM β δ ms mb mo mp mf mn mi mc mq mr mw mk ml mt ma mx mh = w)) := by
  refine z_ofM (cc := cX10_seen) (maxL := 4) (ret := (some .int)) (by decide +kernel) rfl (Nat.le_of_ble_eq_true rfl) ?_
  intro pg e s m args below meth c hC hr hlk hnm hK hP A hD hG hA hS ls hl Q hQ
  have hx := hC.1
  have hb := hC.2.1
  have hml := hC.2.2.1
  have hown := hC.2.2.2.1
  have hts := hC.2.2.2.2
  have hB : ∀ w ∈ W0, w ∈ wz_X10_seen := fun _ h => List.mem_cons_of_mem _ h
  have hW0 : ∀ w ∈ W0, w.before args s = true := fun w h => hts w (hB w h)
  have hl : lv_has ls 4 [(0, .ref (β 0)), (1, .int (zI a))] := hl
  refine lv_iconst (v := zI 0) hx hb dX10_seen_0 rfl ?_
  refine lv_istore_n (lv' := [(2, .int (zI 0)), (0, .ref (β 0)), (1, .int (zI a))]) hx hb dX10_seen_1 rfl hl (by decide) rfl (fun ls hl => ?_)
  refine lv_iconst (v := zI 0) hx hb dX10_seen_2 rfl ?_
  refine lv_istore_n (lv' := [(3, .int (zI 0)), (2, .int (zI 0)), (0, .ref (β 0)), (1, .int (zI a))]) hx hb dX10_seen_3 rfl hl (by decide) rfl (fun ls hl => ?_)
  suffices HL_4 : ∀ (n_4 : Nat), ∀ (g : Int) (i : Int) (H : Heap) (locs : List Loc) (hP : va_P D vwCl (wM β δ ms mb mo mp mf mn mi mc mq mr mw mk ml mt ma mx mh) H) (hD : va_D A (wM β δ ms mb mo mp mf mn mi mc mq mr mw mk ml mt ma mx mh)) (hS : va_S A s.heap H locs) (ls : Array Slot) (hl : lv_has ls 4 [(2, .int (zI g)), (3, .int (zI i)), (0, .ref (β 0)), (1, .int (zI a))]) (hi : 0 ≤ i ∧ i ≤ 49) (hg : g = zC (S_sees ms a) i) (hgb : 0 ≤ g ∧ g ≤ i) (hm : (49 - i).toNat < n_4), W pg l e rm_X10_seen s m args below meth c H locs 0 0 Q (F0 m 4 ls []) from HL_4 _ 0 0 _ _ hP hD hS _ (lv_sub hl [1, 0, 2, 3] rfl) (by first | assumption | rfl | omega) (by exact (zC_0 _).symm) (by first | assumption | rfl | omega) (Nat.lt_succ_self _)
  intro n_4
  induction n_4 with
  | zero => intro g i H locs hP hD hS ls hl hi hg hgb hm; exact absurd hm (Nat.not_lt_zero _)
  | succ n_4 ih_4 =>
    intro g i H locs hP hD hS ls hl hi hg hgb hm
    refine lv_iload_n hx hb dX10_seen_4 rfl (lv_at hl 1 rfl) ?_
    refine lv_bipush (v := zI 49) hx hb dX10_seen_5 (zI_b8 (by decide)) ?_
    refine z_icge (tgt := 38) hx hb ⟨by omega, by omega⟩ ⟨by omega, by omega⟩ dX10_seen_7 (by decide) (fun c_7 => ?_) (fun c_7 => ?_)
    · refine lv_iload_n hx hb dX10_seen_38 rfl (lv_at hl 0 rfl) ?_
      exact z_iret hC hr hlk hQ hP hD hS ⟨g, (by rw [hg, show i = 49 by omega]; rfl), (by omega), rfl, rfl⟩ dX10_seen_39
    · refine lv_iload_n hx hb dX10_seen_10 rfl (lv_at hl 0 rfl) ?_
      refine lv_iload_n hx hb dX10_seen_11 rfl (lv_at hl 1 rfl) ?_
      refine lv_iload_n hx hb dX10_seen_12 rfl (lv_at hl 3 rfl) ?_
      refine z_iceq (tgt := 29) hx hb ⟨by omega, by omega⟩ ⟨by omega, by omega⟩ dX10_seen_13 (by decide) (fun c_13 => ?_) (fun c_13 => ?_)
      · refine lv_iconst (v := zI 0) hx hb dX10_seen_29 rfl ?_
        refine z_iadd hx hb dX10_seen_30 ?_
        refine lv_istore_n (lv' := [(2, .int (zI (g + 0))), (3, .int (zI i)), (0, .ref (β 0)), (1, .int (zI a))]) hx hb dX10_seen_31 rfl hl (by decide) rfl (fun ls hl => ?_)
        refine z_iinc (k := 1) (v := i + 1) (lv' := [(3, .int (zI (i + 1))), (2, .int (zI (g + 0))), (0, .ref (β 0)), (1, .int (zI a))]) hx hb dX10_seen_32 hl rfl rfl (by decide) rfl (fun ls hl => ?_)
        refine lv_goto (tgt := 4) hx hb dX10_seen_35 (by decide) ?_
        exact ih_4 (g + 0) (i + 1) _ _ hP hD hS _ (lv_sub hl [1, 0, 2, 3] rfl) (by first | assumption | rfl | omega) (by rw [zC_up hi.1, ← hg]; first | (rw [z1_t (show S_sees ms a i = true from cb_iff.mpr ⟨c_13, hb_22⟩)]; done) | (rw [z1_f (show S_sees ms a i = false from cb_f.mpr (fun h9 => hb_22 h9.2))]; try omega) | (rw [z1_f (show S_sees ms a i = false from cb_f.mpr (fun h9 => h9.1 c_13))]; try omega)) (by first | assumption | rfl | omega) (by omega)
      · refine lv_aload_n hx hb dX10_seen_16 rfl (lv_at hl 2 rfl) ?_
        refine lv_iload_n hx hb dX10_seen_17 rfl (lv_at hl 3 rfl) ?_
        refine lv_iload_n hx hb dX10_seen_18 rfl (lv_at hl 1 rfl) ?_
        refine z_calli hP hD hS hA (va_runV (As := [.int (zI a), .int (zI i)]) (rest := [.int (zI g)]) hC (c_X10_isSeen l D τ β δ ms mb mo mp mf mn mi mc mq mr mw mk ml mt ma mx mh a i (by first | assumption | rfl | omega) (by first | assumption | rfl | omega) (by first | assumption | rfl | omega) _) (cwV 2 hts (gV hB wl_X10_223 wn_X10_isSeen ws_X10_isSeen wi_X10 wc_X10_isSeen) rfl rfl rfl hd_X10_isSeen ⟨Nat.le_of_ble_eq_true rfl, Nat.le_of_ble_eq_true rfl⟩) (zp_V hK hP hD hS hA hG (ci := 10) (q0 := 0) rfl rfl rfl) rfl rfl hl.1 rfl (lv_room (Nat.le_of_ble_eq_true rfl)) dX10_seen_19 ⟨Nat.le_of_ble_eq_true rfl, Nat.le_of_ble_eq_true rfl⟩) (fun r w1 H locs hq9 hP hD hS => ?_)
        obtain ⟨v19_1, hv19_0, rfl, rfl⟩ := hq9
        have hP : va_P D vwCl (wM β δ ms mb mo mp mf mn mi mc mq mr mw mk ml mt ma mx mh) H := hP
        have hD : va_D A (wM β δ ms mb mo mp mf mn mi mc mq mr mw mk ml mt ma mx mh) := hD
        refine z_ifeqB (tgt := 29) hx hb dX10_seen_22 (by decide) (fun c_22 => ?_) (fun c_22 => ?_)
        · have hb_22 := zb_neg hv19_0 c_22
          refine lv_iconst (v := zI 0) hx hb dX10_seen_29 rfl ?_
          refine z_iadd hx hb dX10_seen_30 ?_
          refine lv_istore_n (lv' := [(2, .int (zI (g + 0))), (3, .int (zI i)), (0, .ref (β 0)), (1, .int (zI a))]) hx hb dX10_seen_31 rfl hl (by decide) rfl (fun ls hl => ?_)
          refine z_iinc (k := 1) (v := i + 1) (lv' := [(3, .int (zI (i + 1))), (2, .int (zI (g + 0))), (0, .ref (β 0)), (1, .int (zI a))]) hx hb dX10_seen_32 hl rfl rfl (by decide) rfl (fun ls hl => ?_)
          refine lv_goto (tgt := 4) hx hb dX10_seen_35 (by decide) ?_
          exact ih_4 (g + 0) (i + 1) _ _ hP hD hS _ (lv_sub hl [1, 0, 2, 3] rfl) (by first | assumption | rfl | omega) (by rw [zC_up hi.1, ← hg]; first | (rw [z1_t (show S_sees ms a i = true from cb_iff.mpr ⟨c_13, hb_22⟩)]; done) | (rw [z1_f (show S_sees ms a i = false from cb_f.mpr (fun h9 => hb_22 h9.2))]; try omega) | (rw [z1_f (show S_sees ms a i = false from cb_f.mpr (fun h9 => h9.1 c_13))]; try omega)) (by first | assumption | rfl | omega) (by omega)
        · have hb_22 := hv19_0.mp c_22
          refine lv_iconst (v := zI 1) hx hb dX10_seen_25 rfl ?_
          refine lv_goto (tgt := 30) hx hb dX10_seen_26 (by decide) ?_
          refine z_iadd hx hb dX10_seen_30 ?_
          refine lv_istore_n (lv' := [(2, .int (zI (g + 1))), (3, .int (zI i)), (0, .ref (β 0)), (1, .int (zI a))]) hx hb dX10_seen_31 rfl hl (by decide) rfl (fun ls hl => ?_)
          refine z_iinc (k := 1) (v := i + 1) (lv' := [(3, .int (zI (i + 1))), (2, .int (zI (g + 1))), (0, .ref (β 0)), (1, .int (zI a))]) hx hb dX10_seen_32 hl rfl rfl (by decide) rfl (fun ls hl => ?_)
          refine lv_goto (tgt := 4) hx hb dX10_seen_35 (by decide) ?_
          exact ih_4 (g + 1) (i + 1) _ _ hP hD hS _ (lv_sub hl [1, 0, 2, 3] rfl) (by first | assumption | rfl | omega) (by rw [zC_up hi.1, ← hg]; first | (rw [z1_t (show S_sees ms a i = true from cb_iff.mpr ⟨c_13, hb_22⟩)]; done) | (rw [z1_f (show S_sees ms a i = false from cb_f.mpr (fun h9 => hb_22 h9.2))]; try omega) | (rw [z1_f (show S_sees ms a i = false from cb_f.mpr (fun h9 => h9.1 c_13))]; try omega)) (by first | assumption | rfl | omega) (by omega)

abbrev wz_X10_areThere : List Cond := .code yX10_areThere cX10_areThere 5 (some .boolean) :: W0
abbrev rm_X10_areThere : Room := { frames := 2, cells := 0, slots := 0, locals := 43 }
theorem hd_X10_areThere : yX10_areThere.cls = RX10 ∧ yX10_areThere.cls ≠ "java/lang/invoke/MethodHandle" ∧ yX10_areThere.cls ≠ "java/lang/invoke/VarHandle" ∧ (parseMethodDescriptor yX10_areThere.desc).map (fun d => d.parameters.length) = some 4 := by decide +kernel
set_option maxHeartbeats 4000000 in
set_option maxRecDepth 100000 in
theorem c_X10_areThere (l : Launch) (D : va_G) (τ : Nat → Nat) (β : Nat → Nat) (δ : Nat → ClassId) (ms : IA) (mb : IA) (mo : IA) (mp : BA) (mf : IA) (mn : IA) (mi : IA) (mc : IA) (mq : BA) (mr : IA) (mw : IA) (mk : Int) (ml : Int) (mt : Int) (ma : Int) (mx : Bool) (mh : Int64) (r9 : Int) (c9 : Int) (r8 : Int) (c8 : Int) (hr9 : -2147483648 ≤ r9 ∧ r9 < 2147483648) (hc9 : -2147483648 ≤ c9 ∧ c9 < 2147483648) (hr8 : -2147483648 ≤ r8 ∧ r8 < 2147483648) (hc8 : -2147483648 ≤ c8 ∧ c8 < 2147483648) : cM l yX10_areThere wz_X10_areThere rm_X10_areThere D τ (tyM δ) [.ref (β 0), .int (zI r9), .int (zI c9), .int (zI r8), .int (zI c8)] (wM β δ ms mb mo mp mf mn mi mc mq mr mw mk ml mt ma mx mh) (zQi (fun r w => ∃ (t2 : Int), ∃ (v : Bool), (v = true ↔ (((0 ≤ r9 ∧ r9 ≤ 6) ∧ (0 ≤ c9 ∧ c9 ≤ 6)) ∧ ((0 ≤ r8 ∧ r8 ≤ 6) ∧ (0 ≤ c8 ∧ c8 ≤ 6)))) ∧ (t2 = S_tcut r9 c9 r8 c8) ∧ r = bI v ∧ wM β δ ms mb mo mp mf mn mi mc mq mr mw mk ml t2 ma mx mh = w)) := by
  refine z_ofM (cc := cX10_areThere) (maxL := 5) (ret := (some .boolean)) (by decide +kernel) rfl (Nat.le_of_ble_eq_true rfl) ?_
  intro pg e s m args below meth c hC hr hlk hnm hK hP A hD hG hA hS ls hl Q hQ
  have hx := hC.1
  have hb := hC.2.1
  have hml := hC.2.2.1
  have hown := hC.2.2.2.1
  have hts := hC.2.2.2.2
  have hB : ∀ w ∈ W0, w ∈ wz_X10_areThere := fun _ h => List.mem_cons_of_mem _ h
  have hW0 : ∀ w ∈ W0, w.before args s = true := fun w h => hts w (hB w h)
  have hl : lv_has ls 5 [(0, .ref (β 0)), (1, .int (zI r9)), (2, .int (zI c9)), (3, .int (zI r8)), (4, .int (zI c8))] := hl
  refine lv_aload_n hx hb dX10_areThere_0 rfl (lv_at hl 0 rfl) ?_
  refine lv_iload_n hx hb dX10_areThere_1 rfl (lv_at hl 1 rfl) ?_
  refine lv_iload_n hx hb dX10_areThere_2 rfl (lv_at hl 2 rfl) ?_
  refine z_calli hP hD hS hA (va_runS (As := [.int (zI r9), .int (zI c9)]) (rest := [.ref (β 0)]) hC (c_X10_isPoint l D τ _ _ r9 c9 (by first | assumption | rfl | omega) (by first | assumption | rfl | omega) _) (va_cwS 2 hts (gS hB wl_X10_55 wt_X10_isPoint wi_X10 wc_X10_isPoint) rfl rfl rfl hd_X10_isPoint.2 ⟨Nat.le_of_ble_eq_true rfl, Nat.le_of_ble_eq_true rfl⟩) (zp_S hK hP hD hS hA hG) rfl rfl hl.1 rfl (lv_room (Nat.le_of_ble_eq_true rfl)) dX10_areThere_3 ⟨Nat.le_of_ble_eq_true rfl, Nat.le_of_ble_eq_true rfl⟩) (fun r w1 H locs hq9 hP hD hS => ?_)
  obtain ⟨v3_1, hv3_0, rfl, rfl⟩ := hq9
  refine z_ifeqB (tgt := 22) hx hb dX10_areThere_6 (by decide) (fun c_6 => ?_) (fun c_6 => ?_)
  · have hb_6 := zb_neg hv3_0 c_6
    refine lv_iconst (v := zI 1) hx hb dX10_areThere_22 rfl ?_
    refine va_put (D := D) (ci := 10) (v := .int (zI 1)) (ty := .int) (C := RX10) (T := TX10) (N := 17) hx hb hts (fun w h => List.mem_cons_of_mem _ (wx_X10 w h)) tyX10 tyX10_ok nmX10 hown hK hP hD hS 0 rfl rfl 7 (by decide) (hW0 _ wf_X10_44) (fun _ h9 => h9) rfl (by decide +kernel) rfl rfl (Nat.le_of_ble_eq_true rfl) dX10_areThere_23 (fun H locs hP hD hS => ?_)
    have hP : va_P D vwCl (wM β δ ms mb mo mp mf mn mi mc mq mr mw mk ml 1 ma mx mh) H := hP
    have hD : va_D A (wM β δ ms mb mo mp mf mn mi mc mq mr mw mk ml 1 ma mx mh) := hD
    refine lv_aload_n hx hb dX10_areThere_26 rfl (lv_at hl 0 rfl) ?_
    refine va_get (D := D) (ci := 10) (v := .int (zI 1)) (C := RX10) (T := TX10) (N := 17) hx hb hts (fun w h => List.mem_cons_of_mem _ (wx_X10 w h)) hown hK hP 0 rfl rfl 7 (by decide) (hW0 _ wf_X10_44) (fun _ h9 => h9) rfl dX10_areThere_27 ?_
    refine z_ifne (tgt := 37) hx hb ⟨by omega, by omega⟩ dX10_areThere_30 (by decide) (fun c_30 => ?_) (fun c_30 => ?_)
    · refine lv_iconst (v := zI 0) hx hb dX10_areThere_37 rfl ?_
      refine W.eq (g2 := F0 m 38 ls [.int (bI false)]) rfl ?_
      exact z_zret hC hr hlk hQ hP hD hS ⟨1, false, (by first | exact zb_T ⟨hb_6, hb_15⟩ | exact zb_F (fun h9 => hb_6 h9.1) | exact zb_F (fun h9 => hb_15 h9.2)), (by unfold S_tcut; first | (rw [if_pos ⟨hb_6, hb_15⟩]; done) | (rw [if_neg (fun h9 => hb_6 h9.1)]; done) | (rw [if_neg (fun h9 => hb_15 h9.2)]; done)), rfl, rfl⟩ dX10_areThere_38
    · exact absurd c_30 (by decide)
  · have hb_6 := hv3_0.mp c_6
    refine lv_iload_n hx hb dX10_areThere_9 rfl (lv_at hl 3 rfl) ?_
    refine lv_iload hx hb dX10_areThere_10 (lv_at hl 4 rfl) ?_
    refine z_calli hP hD hS hA (va_runS (As := [.int (zI r8), .int (zI c8)]) (rest := [.ref (β 0)]) hC (c_X10_isPoint l D τ _ _ r8 c8 (by first | assumption | rfl | omega) (by first | assumption | rfl | omega) _) (va_cwS 2 hts (gS hB wl_X10_55 wt_X10_isPoint wi_X10 wc_X10_isPoint) rfl rfl rfl hd_X10_isPoint.2 ⟨Nat.le_of_ble_eq_true rfl, Nat.le_of_ble_eq_true rfl⟩) (zp_S hK hP hD hS hA hG) rfl rfl hl.1 rfl (lv_room (Nat.le_of_ble_eq_true rfl)) dX10_areThere_12 ⟨Nat.le_of_ble_eq_true rfl, Nat.le_of_ble_eq_true rfl⟩) (fun r w1 H locs hq9 hP hD hS => ?_)
    obtain ⟨v12_2, hv12_0, rfl, rfl⟩ := hq9
    refine z_ifeqB (tgt := 22) hx hb dX10_areThere_15 (by decide) (fun c_15 => ?_) (fun c_15 => ?_)
    · have hb_15 := zb_neg hv12_0 c_15
      refine lv_iconst (v := zI 1) hx hb dX10_areThere_22 rfl ?_
      refine va_put (D := D) (ci := 10) (v := .int (zI 1)) (ty := .int) (C := RX10) (T := TX10) (N := 17) hx hb hts (fun w h => List.mem_cons_of_mem _ (wx_X10 w h)) tyX10 tyX10_ok nmX10 hown hK hP hD hS 0 rfl rfl 7 (by decide) (hW0 _ wf_X10_44) (fun _ h9 => h9) rfl (by decide +kernel) rfl rfl (Nat.le_of_ble_eq_true rfl) dX10_areThere_23 (fun H locs hP hD hS => ?_)
      have hP : va_P D vwCl (wM β δ ms mb mo mp mf mn mi mc mq mr mw mk ml 1 ma mx mh) H := hP
      have hD : va_D A (wM β δ ms mb mo mp mf mn mi mc mq mr mw mk ml 1 ma mx mh) := hD
      refine lv_aload_n hx hb dX10_areThere_26 rfl (lv_at hl 0 rfl) ?_
      refine va_get (D := D) (ci := 10) (v := .int (zI 1)) (C := RX10) (T := TX10) (N := 17) hx hb hts (fun w h => List.mem_cons_of_mem _ (wx_X10 w h)) hown hK hP 0 rfl rfl 7 (by decide) (hW0 _ wf_X10_44) (fun _ h9 => h9) rfl dX10_areThere_27 ?_
      refine z_ifne (tgt := 37) hx hb ⟨by omega, by omega⟩ dX10_areThere_30 (by decide) (fun c_30 => ?_) (fun c_30 => ?_)
      · refine lv_iconst (v := zI 0) hx hb dX10_areThere_37 rfl ?_
        refine W.eq (g2 := F0 m 38 ls [.int (bI false)]) rfl ?_
        exact z_zret hC hr hlk hQ hP hD hS ⟨1, false, (by first | exact zb_T ⟨hb_6, hb_15⟩ | exact zb_F (fun h9 => hb_6 h9.1) | exact zb_F (fun h9 => hb_15 h9.2)), (by unfold S_tcut; first | (rw [if_pos ⟨hb_6, hb_15⟩]; done) | (rw [if_neg (fun h9 => hb_6 h9.1)]; done) | (rw [if_neg (fun h9 => hb_15 h9.2)]; done)), rfl, rfl⟩ dX10_areThere_38
      · exact absurd c_30 (by decide)
    · have hb_15 := hv12_0.mp c_15
      refine lv_iconst (v := zI 0) hx hb dX10_areThere_18 rfl ?_
      refine lv_goto (tgt := 23) hx hb dX10_areThere_19 (by decide) ?_
      refine va_put (D := D) (ci := 10) (v := .int (zI 0)) (ty := .int) (C := RX10) (T := TX10) (N := 17) hx hb hts (fun w h => List.mem_cons_of_mem _ (wx_X10 w h)) tyX10 tyX10_ok nmX10 hown hK hP hD hS 0 rfl rfl 7 (by decide) (hW0 _ wf_X10_44) (fun _ h9 => h9) rfl (by decide +kernel) rfl rfl (Nat.le_of_ble_eq_true rfl) dX10_areThere_23 (fun H locs hP hD hS => ?_)
      have hP : va_P D vwCl (wM β δ ms mb mo mp mf mn mi mc mq mr mw mk ml 0 ma mx mh) H := hP
      have hD : va_D A (wM β δ ms mb mo mp mf mn mi mc mq mr mw mk ml 0 ma mx mh) := hD
      refine lv_aload_n hx hb dX10_areThere_26 rfl (lv_at hl 0 rfl) ?_
      refine va_get (D := D) (ci := 10) (v := .int (zI 0)) (C := RX10) (T := TX10) (N := 17) hx hb hts (fun w h => List.mem_cons_of_mem _ (wx_X10 w h)) hown hK hP 0 rfl rfl 7 (by decide) (hW0 _ wf_X10_44) (fun _ h9 => h9) rfl dX10_areThere_27 ?_
      refine z_ifne (tgt := 37) hx hb ⟨by omega, by omega⟩ dX10_areThere_30 (by decide) (fun c_30 => ?_) (fun c_30 => ?_)
      · exact absurd c_30 (by decide)
      · refine lv_iconst (v := zI 1) hx hb dX10_areThere_33 rfl ?_
        refine lv_goto (tgt := 38) hx hb dX10_areThere_34 (by decide) ?_
        refine W.eq (g2 := F0 m 38 ls [.int (bI true)]) rfl ?_
        exact z_zret hC hr hlk hQ hP hD hS ⟨0, true, (by first | exact zb_T ⟨hb_6, hb_15⟩ | exact zb_F (fun h9 => hb_6 h9.1) | exact zb_F (fun h9 => hb_15 h9.2)), (by unfold S_tcut; first | (rw [if_pos ⟨hb_6, hb_15⟩]; done) | (rw [if_neg (fun h9 => hb_6 h9.1)]; done) | (rw [if_neg (fun h9 => hb_15 h9.2)]; done)), rfl, rfl⟩ dX10_areThere_38

abbrev wz_X10_cutLength : List Cond := .code yX10_cutLength cX10_cutLength 5 (some .int) :: W0
abbrev rm_X10_cutLength : Room := { frames := 3, cells := 0, slots := 0, locals := 67 }
theorem hd_X10_cutLength : yX10_cutLength.cls = RX10 ∧ yX10_cutLength.cls ≠ "java/lang/invoke/MethodHandle" ∧ yX10_cutLength.cls ≠ "java/lang/invoke/VarHandle" ∧ (parseMethodDescriptor yX10_cutLength.desc).map (fun d => d.parameters.length) = some 4 := by decide +kernel
set_option maxHeartbeats 4000000 in
set_option maxRecDepth 100000 in
theorem c_X10_cutLength (l : Launch) (D : va_G) (τ : Nat → Nat) (β : Nat → Nat) (δ : Nat → ClassId) (ms : IA) (mb : IA) (mo : IA) (mp : BA) (mf : IA) (mn : IA) (mi : IA) (mc : IA) (mq : BA) (mr : IA) (mw : IA) (mk : Int) (ml : Int) (mt : Int) (ma : Int) (mx : Bool) (mh : Int64) (r9 : Int) (c9 : Int) (r8 : Int) (c8 : Int) (hr9 : -2147483648 ≤ r9 ∧ r9 < 2147483648) (hc9 : -2147483648 ≤ c9 ∧ c9 < 2147483648) (hr8 : -2147483648 ≤ r8 ∧ r8 < 2147483648) (hc8 : -2147483648 ≤ c8 ∧ c8 < 2147483648) : cM l yX10_cutLength wz_X10_cutLength rm_X10_cutLength D τ (tyM δ) [.ref (β 0), .int (zI r9), .int (zI c9), .int (zI r8), .int (zI c8)] (wM β δ ms mb mo mp mf mn mi mc mq mr mw mk ml mt ma mx mh) (zQi (fun r w => ∃ (t2 : Int), ∃ (v : Int), (t2 = S_tcut r9 c9 r8 c8) ∧ (t2 = 0 → v = S_cutn (7 * r9 + c9) (7 * r8 + c8) + 1) ∧ r = zI v ∧ wM β δ ms mb mo mp mf mn mi mc mq mr mw mk ml t2 ma mx mh = w)) := by
  refine z_ofM (cc := cX10_cutLength) (maxL := 5) (ret := (some .int)) (by decide +kernel) rfl (Nat.le_of_ble_eq_true rfl) ?_
  intro pg e s m args below meth c hC hr hlk hnm hK hP A hD hG hA hS ls hl Q hQ
  have hx := hC.1
  have hb := hC.2.1
  have hml := hC.2.2.1
  have hown := hC.2.2.2.1
  have hts := hC.2.2.2.2
  have hB : ∀ w ∈ W0, w ∈ wz_X10_cutLength := fun _ h => List.mem_cons_of_mem _ h
  have hW0 : ∀ w ∈ W0, w.before args s = true := fun w h => hts w (hB w h)
  have hl : lv_has ls 5 [(0, .ref (β 0)), (1, .int (zI r9)), (2, .int (zI c9)), (3, .int (zI r8)), (4, .int (zI c8))] := hl
  refine lv_aload_n hx hb dX10_cutLength_0 rfl (lv_at hl 0 rfl) ?_
  refine lv_iload_n hx hb dX10_cutLength_1 rfl (lv_at hl 1 rfl) ?_
  refine lv_iload_n hx hb dX10_cutLength_2 rfl (lv_at hl 2 rfl) ?_
  refine lv_iload_n hx hb dX10_cutLength_3 rfl (lv_at hl 3 rfl) ?_
  refine lv_iload hx hb dX10_cutLength_4 (lv_at hl 4 rfl) ?_
  refine z_calli hP hD hS hA (va_runV (As := [.int (zI r9), .int (zI c9), .int (zI r8), .int (zI c8)]) (rest := []) hC (c_X10_areThere l D τ β δ ms mb mo mp mf mn mi mc mq mr mw mk ml mt ma mx mh r9 c9 r8 c8 (by first | assumption | rfl | omega) (by first | assumption | rfl | omega) (by first | assumption | rfl | omega) (by first | assumption | rfl | omega) _) (cwV 4 hts (gV hB wl_X10_226 wn_X10_areThere ws_X10_areThere wi_X10 wc_X10_areThere) rfl rfl rfl hd_X10_areThere ⟨Nat.le_of_ble_eq_true rfl, Nat.le_of_ble_eq_true rfl⟩) (zp_V hK hP hD hS hA hG (ci := 10) (q0 := 0) rfl rfl rfl) rfl rfl hl.1 rfl (lv_room (Nat.le_of_ble_eq_true rfl)) dX10_cutLength_6 ⟨Nat.le_of_ble_eq_true rfl, Nat.le_of_ble_eq_true rfl⟩) (fun r w1 H locs hq9 hP hD hS => ?_)
  obtain ⟨t6_1, v6_2, hv6_0, hv6_1, rfl, rfl⟩ := hq9
  have hP : va_P D vwCl (wM β δ ms mb mo mp mf mn mi mc mq mr mw mk ml t6_1 ma mx mh) H := hP
  have hD : va_D A (wM β δ ms mb mo mp mf mn mi mc mq mr mw mk ml t6_1 ma mx mh) := hD
  refine z_ifeqB (tgt := 33) hx hb dX10_cutLength_9 (by decide) (fun c_9 => ?_) (fun c_9 => ?_)
  · have hb_9 := zb_neg hv6_0 c_9
    refine lv_iconst (v := zI 0) hx hb dX10_cutLength_33 rfl ?_
    exact z_iret hC hr hlk hQ hP hD hS ⟨t6_1, 0, (by exact hv6_1), (by first | exact fun _ => by rw [hv25_0] | (intro h9; rw [hv6_1] at h9; unfold S_tcut at h9; rw [if_neg hb_9] at h9; exact absurd h9 (by decide))), rfl, rfl⟩ dX10_cutLength_34
  · have hb_9 := hv6_0.mp c_9
    refine lv_bipush (v := zI 7) hx hb dX10_cutLength_12 (zI_b8 (by decide)) ?_
    refine lv_iload_n hx hb dX10_cutLength_14 rfl (lv_at hl 1 rfl) ?_
    refine z_imul hx hb dX10_cutLength_15 ?_
    refine lv_iload_n hx hb dX10_cutLength_16 rfl (lv_at hl 2 rfl) ?_
    refine z_iadd hx hb dX10_cutLength_17 ?_
    refine lv_bipush (v := zI 7) hx hb dX10_cutLength_18 (zI_b8 (by decide)) ?_
    refine lv_iload_n hx hb dX10_cutLength_20 rfl (lv_at hl 3 rfl) ?_
    refine z_imul hx hb dX10_cutLength_21 ?_
    refine lv_iload hx hb dX10_cutLength_22 (lv_at hl 4 rfl) ?_
    refine z_iadd hx hb dX10_cutLength_24 ?_
    refine z_calli hP hD hS hA (va_runS (As := [.int (zI ((7 * r9) + c9)), .int (zI ((7 * r8) + c8))]) (rest := []) hC (c_X10_cutOf l D τ _ _ ((7 * r9) + c9) ((7 * r8) + c8) (by omega) (by omega) _) (va_cwS 2 hts (gS hB wl_X10_217 wt_X10_cutOf wi_X10 wc_X10_cutOf) rfl rfl rfl hd_X10_cutOf.2 ⟨Nat.le_of_ble_eq_true rfl, Nat.le_of_ble_eq_true rfl⟩) (zp_S hK hP hD hS hA hG) rfl rfl hl.1 rfl (lv_room (Nat.le_of_ble_eq_true rfl)) dX10_cutLength_25 ⟨Nat.le_of_ble_eq_true rfl, Nat.le_of_ble_eq_true rfl⟩) (fun r w1 H locs hq9 hP hD hS => ?_)
    obtain ⟨v25_3, hv25_0, hv25_1, rfl, rfl⟩ := hq9
    refine lv_iconst (v := zI 1) hx hb dX10_cutLength_28 rfl ?_
    refine z_iadd hx hb dX10_cutLength_29 ?_
    refine lv_goto (tgt := 34) hx hb dX10_cutLength_30 (by decide) ?_
    exact z_iret hC hr hlk hQ hP hD hS ⟨t6_1, v25_3 + 1, (by exact hv6_1), (by first | exact fun _ => by rw [hv25_0] | (intro h9; rw [hv6_1] at h9; unfold S_tcut at h9; rw [if_neg hb_9] at h9; exact absurd h9 (by decide))), rfl, rfl⟩ dX10_cutLength_34

abbrev wz_X10_cutHeight : List Cond := .code yX10_cutHeight cX10_cutHeight 8 (some .int) :: W0
abbrev rm_X10_cutHeight : Room := { frames := 3, cells := 0, slots := 0, locals := 68 }
theorem hd_X10_cutHeight : yX10_cutHeight.cls = RX10 ∧ yX10_cutHeight.cls ≠ "java/lang/invoke/MethodHandle" ∧ yX10_cutHeight.cls ≠ "java/lang/invoke/VarHandle" ∧ (parseMethodDescriptor yX10_cutHeight.desc).map (fun d => d.parameters.length) = some 5 := by decide +kernel
set_option maxHeartbeats 4000000 in
set_option maxRecDepth 100000 in
theorem c_X10_cutHeight (l : Launch) (D : va_G) (τ : Nat → Nat) (β : Nat → Nat) (δ : Nat → ClassId) (ms : IA) (mb : IA) (mo : IA) (mp : BA) (mf : IA) (mn : IA) (mi : IA) (mc : IA) (mq : BA) (mr : IA) (mw : IA) (mk : Int) (ml : Int) (mt : Int) (ma : Int) (mx : Bool) (mh : Int64) (r9 : Int) (c9 : Int) (r8 : Int) (c8 : Int) (i : Int) (hr9 : -2147483648 ≤ r9 ∧ r9 < 2147483648) (hc9 : -2147483648 ≤ c9 ∧ c9 < 2147483648) (hr8 : -2147483648 ≤ r8 ∧ r8 < 2147483648) (hc8 : -2147483648 ≤ c8 ∧ c8 < 2147483648) (hi9 : -2147483648 ≤ i ∧ i < 2147483648) (hms : ∀ k, 0 ≤ k → k < 49 → 0 ≤ ms k ∧ ms k ≤ 99) : cM l yX10_cutHeight wz_X10_cutHeight rm_X10_cutHeight D τ (tyM δ) [.ref (β 0), .int (zI r9), .int (zI c9), .int (zI r8), .int (zI c8), .int (zI i)] (wM β δ ms mb mo mp mf mn mi mc mq mr mw mk ml mt ma mx mh) (zQi (fun r w => ∃ (t2 : Int), ∃ (v : Int), (t2 = S_tch r9 c9 r8 c8 i) ∧ (t2 = 0 → v = ms (S_on (7 * r9 + c9) (7 * r8 + c8) i)) ∧ r = zI v ∧ wM β δ ms mb mo mp mf mn mi mc mq mr mw mk ml t2 ma mx mh = w)) := by
  refine z_ofM (cc := cX10_cutHeight) (maxL := 8) (ret := (some .int)) (by decide +kernel) rfl (Nat.le_of_ble_eq_true rfl) ?_
  intro pg e s m args below meth c hC hr hlk hnm hK hP A hD hG hA hS ls hl Q hQ
  have hx := hC.1
  have hb := hC.2.1
  have hml := hC.2.2.1
  have hown := hC.2.2.2.1
  have hts := hC.2.2.2.2
  have hB : ∀ w ∈ W0, w ∈ wz_X10_cutHeight := fun _ h => List.mem_cons_of_mem _ h
  have hW0 : ∀ w ∈ W0, w.before args s = true := fun w h => hts w (hB w h)
  have hl : lv_has ls 8 [(0, .ref (β 0)), (1, .int (zI r9)), (2, .int (zI c9)), (3, .int (zI r8)), (4, .int (zI c8)), (5, .int (zI i))] := hl
  refine lv_aload_n hx hb dX10_cutHeight_0 rfl (lv_at hl 0 rfl) ?_
  refine lv_iload_n hx hb dX10_cutHeight_1 rfl (lv_at hl 1 rfl) ?_
  refine lv_iload_n hx hb dX10_cutHeight_2 rfl (lv_at hl 2 rfl) ?_
  refine lv_iload_n hx hb dX10_cutHeight_3 rfl (lv_at hl 3 rfl) ?_
  refine lv_iload hx hb dX10_cutHeight_4 (lv_at hl 4 rfl) ?_
  refine z_calli hP hD hS hA (va_runV (As := [.int (zI r9), .int (zI c9), .int (zI r8), .int (zI c8)]) (rest := []) hC (c_X10_areThere l D τ β δ ms mb mo mp mf mn mi mc mq mr mw mk ml mt ma mx mh r9 c9 r8 c8 (by first | assumption | rfl | omega) (by first | assumption | rfl | omega) (by first | assumption | rfl | omega) (by first | assumption | rfl | omega) _) (cwV 4 hts (gV hB wl_X10_226 wn_X10_areThere ws_X10_areThere wi_X10 wc_X10_areThere) rfl rfl rfl hd_X10_areThere ⟨Nat.le_of_ble_eq_true rfl, Nat.le_of_ble_eq_true rfl⟩) (zp_V hK hP hD hS hA hG (ci := 10) (q0 := 0) rfl rfl rfl) rfl rfl hl.1 rfl (lv_room (Nat.le_of_ble_eq_true rfl)) dX10_cutHeight_6 ⟨Nat.le_of_ble_eq_true rfl, Nat.le_of_ble_eq_true rfl⟩) (fun r w1 H locs hq9 hP hD hS => ?_)
  obtain ⟨t6_1, v6_2, hv6_0, hv6_1, rfl, rfl⟩ := hq9
  have hP : va_P D vwCl (wM β δ ms mb mo mp mf mn mi mc mq mr mw mk ml t6_1 ma mx mh) H := hP
  have hD : va_D A (wM β δ ms mb mo mp mf mn mi mc mq mr mw mk ml t6_1 ma mx mh) := hD
  refine z_ifneB (tgt := 14) hx hb dX10_cutHeight_9 (by decide) (fun c_9 => ?_) (fun c_9 => ?_)
  · have hb_9 := hv6_0.mp c_9
    refine lv_bipush (v := zI 7) hx hb dX10_cutHeight_14 (zI_b8 (by decide)) ?_
    refine lv_iload_n hx hb dX10_cutHeight_16 rfl (lv_at hl 1 rfl) ?_
    refine z_imul hx hb dX10_cutHeight_17 ?_
    refine lv_iload_n hx hb dX10_cutHeight_18 rfl (lv_at hl 2 rfl) ?_
    refine z_iadd hx hb dX10_cutHeight_19 ?_
    refine lv_istore (lv' := [(6, .int (zI ((7 * r9) + c9))), (0, .ref (β 0)), (1, .int (zI r9)), (2, .int (zI c9)), (3, .int (zI r8)), (4, .int (zI c8)), (5, .int (zI i))]) hx hb dX10_cutHeight_20 hl (by decide) rfl (fun ls hl => ?_)
    refine lv_bipush (v := zI 7) hx hb dX10_cutHeight_22 (zI_b8 (by decide)) ?_
    refine lv_iload_n hx hb dX10_cutHeight_24 rfl (lv_at hl 4 rfl) ?_
    refine z_imul hx hb dX10_cutHeight_25 ?_
    refine lv_iload hx hb dX10_cutHeight_26 (lv_at hl 5 rfl) ?_
    refine z_iadd hx hb dX10_cutHeight_28 ?_
    refine lv_istore (lv' := [(7, .int (zI ((7 * r8) + c8))), (6, .int (zI ((7 * r9) + c9))), (0, .ref (β 0)), (1, .int (zI r9)), (2, .int (zI c9)), (3, .int (zI r8)), (4, .int (zI c8)), (5, .int (zI i))]) hx hb dX10_cutHeight_29 hl (by decide) rfl (fun ls hl => ?_)
    refine lv_iload hx hb dX10_cutHeight_31 (lv_at hl 7 rfl) ?_
    refine lv_iconst (v := zI 0) hx hb dX10_cutHeight_33 rfl ?_
    refine lv_iload hx hb dX10_cutHeight_34 (lv_at hl 1 rfl) ?_
    refine lv_iload hx hb dX10_cutHeight_36 (lv_at hl 0 rfl) ?_
    refine z_calli hP hD hS hA (va_runS (As := [.int (zI ((7 * r9) + c9)), .int (zI ((7 * r8) + c8))]) (rest := [.int (zI 0), .int (zI i)]) hC (c_X10_cutOf l D τ _ _ ((7 * r9) + c9) ((7 * r8) + c8) (by omega) (by omega) _) (va_cwS 2 hts (gS hB wl_X10_217 wt_X10_cutOf wi_X10 wc_X10_cutOf) rfl rfl rfl hd_X10_cutOf.2 ⟨Nat.le_of_ble_eq_true rfl, Nat.le_of_ble_eq_true rfl⟩) (zp_S hK hP hD hS hA hG) rfl rfl hl.1 rfl (lv_room (Nat.le_of_ble_eq_true rfl)) dX10_cutHeight_38 ⟨Nat.le_of_ble_eq_true rfl, Nat.le_of_ble_eq_true rfl⟩) (fun r w1 H locs hq9 hP hD hS => ?_)
    obtain ⟨v38_3, hv38_0, hv38_1, rfl, rfl⟩ := hq9
    refine z_calli hP hD hS hA (va_runS (As := [.int (zI i), .int (zI 0), .int (zI v38_3)]) (rest := []) hC (c_X10_in l D τ _ _ i 0 v38_3 (by first | assumption | rfl | omega) (by first | assumption | rfl | omega) (by first | assumption | rfl | omega) _) (va_cwS 3 hts (gS hB wl_X10_48 wt_X10_in wi_X10 wc_X10_in) rfl rfl rfl hd_X10_in.2 ⟨Nat.le_of_ble_eq_true rfl, Nat.le_of_ble_eq_true rfl⟩) (zp_S hK hP hD hS hA hG) rfl rfl hl.1 rfl (lv_room (Nat.le_of_ble_eq_true rfl)) dX10_cutHeight_41 ⟨Nat.le_of_ble_eq_true rfl, Nat.le_of_ble_eq_true rfl⟩) (fun r w1 H locs hq9 hP hD hS => ?_)
    obtain ⟨v41_4, hv41_0, rfl, rfl⟩ := hq9
    refine z_ifeqB (tgt := 64) hx hb dX10_cutHeight_44 (by decide) (fun c_44 => ?_) (fun c_44 => ?_)
    · have hb_44 := zb_neg hv41_0 c_44
      refine lv_aload_n hx hb dX10_cutHeight_64 rfl (lv_at hl 2 rfl) ?_
      refine lv_iconst (v := zI 1) hx hb dX10_cutHeight_65 rfl ?_
      refine z_calli hP hD hS hA (va_runV (As := [.int (zI 1)]) (rest := []) hC (c_X10_throwing l D τ β δ ms mb mo mp mf mn mi mc mq mr mw mk ml t6_1 ma mx mh 1 _) (cwV 1 hts (gV hB wl_X10_90 wn_X10_throwing ws_X10_throwing wi_X10 wc_X10_throwing) rfl rfl rfl hd_X10_throwing ⟨Nat.le_of_ble_eq_true rfl, Nat.le_of_ble_eq_true rfl⟩) (zp_V hK hP hD hS hA hG (ci := 10) (q0 := 0) rfl rfl rfl) rfl rfl hl.1 rfl (lv_room (Nat.le_of_ble_eq_true rfl)) dX10_cutHeight_66 ⟨Nat.le_of_ble_eq_true rfl, Nat.le_of_ble_eq_true rfl⟩) (fun r w1 H locs hq9 hP hD hS => ?_)
      obtain ⟨t66_5, v66_6, hv66_0, hv66_1, rfl, rfl⟩ := hq9
      have hP : va_P D vwCl (wM β δ ms mb mo mp mf mn mi mc mq mr mw mk ml t66_5 ma mx mh) H := hP
      have hD : va_D A (wM β δ ms mb mo mp mf mn mi mc mq mr mw mk ml t66_5 ma mx mh) := hD
      exact z_iret hC hr hlk hQ hP hD hS ⟨t66_5, v66_6, (by first | (rw [hv6_1]; unfold S_tcut S_tch; rw [if_neg hb_9, if_neg hb_9]; done) | (rw [hv66_1]; unfold S_tch; rw [if_pos hb_9, if_neg (by rw [← hv38_0]; exact hb_44)]; done) | (rw [hv6_1]; unfold S_tcut S_tch; rw [if_pos hb_9, if_pos hb_9, if_pos (by rw [← hv38_0]; exact hb_44)]; done)), (by first | exact fun _ => congrArg ms hv57_0 | (intro h9; exfalso; rw [hv6_1] at h9; unfold S_tcut at h9; rw [if_neg hb_9] at h9; exact absurd h9 (by decide)) | (intro h9; exfalso; omega)), rfl, rfl⟩ dX10_cutHeight_69
    · have hb_44 := hv41_0.mp c_44
      refine lv_aload_n hx hb dX10_cutHeight_47 rfl (lv_at hl 2 rfl) ?_
      refine va_get (D := D) (ci := 10) (v := .ref (β 1)) (C := RX10) (T := TX10) (N := 17) hx hb hts (fun w h => List.mem_cons_of_mem _ (wx_X10 w h)) hown hK hP 0 rfl rfl 0 (by decide) (hW0 _ wf_X10_7) (fun _ h9 => h9) rfl dX10_cutHeight_48 ?_
      refine lv_iload hx hb dX10_cutHeight_51 (lv_at hl 1 rfl) ?_
      refine lv_iload hx hb dX10_cutHeight_53 (lv_at hl 0 rfl) ?_
      refine lv_iload hx hb dX10_cutHeight_55 (lv_at hl 7 rfl) ?_
      refine z_calli hP hD hS hA (va_runS (As := [.int (zI ((7 * r9) + c9)), .int (zI ((7 * r8) + c8)), .int (zI i)]) (rest := [.ref (β 1)]) hC (c_X10_onCut l D τ _ _ ((7 * r9) + c9) ((7 * r8) + c8) i (by omega) (by omega) (by rw [← hv38_0]; exact hb_44) _) (va_cwS 3 hts (gS hB wl_X10_220 wt_X10_onCut wi_X10 wc_X10_onCut) rfl rfl rfl hd_X10_onCut.2 ⟨Nat.le_of_ble_eq_true rfl, Nat.le_of_ble_eq_true rfl⟩) (zp_S hK hP hD hS hA hG) rfl rfl hl.1 rfl (lv_room (Nat.le_of_ble_eq_true rfl)) dX10_cutHeight_57 ⟨Nat.le_of_ble_eq_true rfl, Nat.le_of_ble_eq_true rfl⟩) (fun r w1 H locs hq9 hP hD hS => ?_)
      obtain ⟨v57_7, hv57_0, hv57_1, rfl, rfl⟩ := hq9
      refine z_iald (f := ms) hx hb hK hP 1 0 rfl rfl ⟨⟨by omega, by omega⟩, by decide⟩ dX10_cutHeight_60 ?_
      refine lv_goto (tgt := 69) hx hb dX10_cutHeight_61 (by decide) ?_
      exact z_iret hC hr hlk hQ hP hD hS ⟨t6_1, ms v57_7, (by first | (rw [hv6_1]; unfold S_tcut S_tch; rw [if_neg hb_9, if_neg hb_9]; done) | (rw [hv66_1]; unfold S_tch; rw [if_pos hb_9, if_neg (by rw [← hv38_0]; exact hb_44)]; done) | (rw [hv6_1]; unfold S_tcut S_tch; rw [if_pos hb_9, if_pos hb_9, if_pos (by rw [← hv38_0]; exact hb_44)]; done)), (by first | exact fun _ => congrArg ms hv57_0 | (intro h9; exfalso; rw [hv6_1] at h9; unfold S_tcut at h9; rw [if_neg hb_9] at h9; exact absurd h9 (by decide)) | (intro h9; exfalso; omega)), rfl, rfl⟩ dX10_cutHeight_69
  · have hb_9 := zb_neg hv6_0 c_9
    refine lv_iconst (v := zI 0) hx hb dX10_cutHeight_12 rfl ?_
    exact z_iret hC hr hlk hQ hP hD hS ⟨t6_1, 0, (by first | (rw [hv6_1]; unfold S_tcut S_tch; rw [if_neg hb_9, if_neg hb_9]; done) | (rw [hv66_1]; unfold S_tch; rw [if_pos hb_9, if_neg (by rw [← hv38_0]; exact hb_44)]; done) | (rw [hv6_1]; unfold S_tcut S_tch; rw [if_pos hb_9, if_pos hb_9, if_pos (by rw [← hv38_0]; exact hb_44)]; done)), (by first | exact fun _ => congrArg ms hv57_0 | (intro h9; exfalso; rw [hv6_1] at h9; unfold S_tcut at h9; rw [if_neg hb_9] at h9; exact absurd h9 (by decide)) | (intro h9; exfalso; omega)), rfl, rfl⟩ dX10_cutHeight_13

abbrev wz_X10_climb : List Cond := .code yX10_climb cX10_climb 10 (some .int) :: W0
abbrev rm_X10_climb : Room := { frames := 3, cells := 0, slots := 0, locals := 68 }
theorem hd_X10_climb : yX10_climb.cls = RX10 ∧ yX10_climb.cls ≠ "java/lang/invoke/MethodHandle" ∧ yX10_climb.cls ≠ "java/lang/invoke/VarHandle" ∧ (parseMethodDescriptor yX10_climb.desc).map (fun d => d.parameters.length) = some 4 := by decide +kernel
set_option maxHeartbeats 4000000 in
set_option maxRecDepth 100000 in
theorem c_X10_climb (l : Launch) (D : va_G) (τ : Nat → Nat) (β : Nat → Nat) (δ : Nat → ClassId) (ms : IA) (mb : IA) (mo : IA) (mp : BA) (mf : IA) (mn : IA) (mi : IA) (mc : IA) (mq : BA) (mr : IA) (mw : IA) (mk : Int) (ml : Int) (mt : Int) (ma : Int) (mx : Bool) (mh : Int64) (r9 : Int) (c9 : Int) (r8 : Int) (c8 : Int) (hr9 : -2147483648 ≤ r9 ∧ r9 < 2147483648) (hc9 : -2147483648 ≤ c9 ∧ c9 < 2147483648) (hr8 : -2147483648 ≤ r8 ∧ r8 < 2147483648) (hc8 : -2147483648 ≤ c8 ∧ c8 < 2147483648) (hms : ∀ k, 0 ≤ k → k < 49 → 0 ≤ ms k ∧ ms k ≤ 99) : cM l yX10_climb wz_X10_climb rm_X10_climb D τ (tyM δ) [.ref (β 0), .int (zI r9), .int (zI c9), .int (zI r8), .int (zI c8)] (wM β δ ms mb mo mp mf mn mi mc mq mr mw mk ml mt ma mx mh) (zQi (fun r w => ∃ (t2 : Int), ∃ (v : Int), (t2 = S_tcut r9 c9 r8 c8) ∧ (t2 = 0 → v = S_rise ms (7 * r9 + c9) (7 * r8 + c8)) ∧ r = zI v ∧ wM β δ ms mb mo mp mf mn mi mc mq mr mw mk ml t2 ma mx mh = w)) := by
  refine z_ofM (cc := cX10_climb) (maxL := 10) (ret := (some .int)) (by decide +kernel) rfl (Nat.le_of_ble_eq_true rfl) ?_
  intro pg e s m args below meth c hC hr hlk hnm hK hP A hD hG hA hS ls hl Q hQ
  have hx := hC.1
  have hb := hC.2.1
  have hml := hC.2.2.1
  have hown := hC.2.2.2.1
  have hts := hC.2.2.2.2
  have hB : ∀ w ∈ W0, w ∈ wz_X10_climb := fun _ h => List.mem_cons_of_mem _ h
  have hW0 : ∀ w ∈ W0, w.before args s = true := fun w h => hts w (hB w h)
  have hl : lv_has ls 10 [(0, .ref (β 0)), (1, .int (zI r9)), (2, .int (zI c9)), (3, .int (zI r8)), (4, .int (zI c8))] := hl
  refine lv_aload_n hx hb dX10_climb_0 rfl (lv_at hl 0 rfl) ?_
  refine lv_iload_n hx hb dX10_climb_1 rfl (lv_at hl 1 rfl) ?_
  refine lv_iload_n hx hb dX10_climb_2 rfl (lv_at hl 2 rfl) ?_
  refine lv_iload_n hx hb dX10_climb_3 rfl (lv_at hl 3 rfl) ?_
  refine lv_iload hx hb dX10_climb_4 (lv_at hl 4 rfl) ?_
  refine z_calli hP hD hS hA (va_runV (As := [.int (zI r9), .int (zI c9), .int (zI r8), .int (zI c8)]) (rest := []) hC (c_X10_areThere l D τ β δ ms mb mo mp mf mn mi mc mq mr mw mk ml mt ma mx mh r9 c9 r8 c8 (by first | assumption | rfl | omega) (by first | assumption | rfl | omega) (by first | assumption | rfl | omega) (by first | assumption | rfl | omega) _) (cwV 4 hts (gV hB wl_X10_226 wn_X10_areThere ws_X10_areThere wi_X10 wc_X10_areThere) rfl rfl rfl hd_X10_areThere ⟨Nat.le_of_ble_eq_true rfl, Nat.le_of_ble_eq_true rfl⟩) (zp_V hK hP hD hS hA hG (ci := 10) (q0 := 0) rfl rfl rfl) rfl rfl hl.1 rfl (lv_room (Nat.le_of_ble_eq_true rfl)) dX10_climb_6 ⟨Nat.le_of_ble_eq_true rfl, Nat.le_of_ble_eq_true rfl⟩) (fun r w1 H locs hq9 hP hD hS => ?_)
  obtain ⟨t6_1, v6_2, hv6_0, hv6_1, rfl, rfl⟩ := hq9
  have hP : va_P D vwCl (wM β δ ms mb mo mp mf mn mi mc mq mr mw mk ml t6_1 ma mx mh) H := hP
  have hD : va_D A (wM β δ ms mb mo mp mf mn mi mc mq mr mw mk ml t6_1 ma mx mh) := hD
  refine z_ifneB (tgt := 14) hx hb dX10_climb_9 (by decide) (fun c_9 => ?_) (fun c_9 => ?_)
  · have hb_9 := hv6_0.mp c_9
    refine lv_bipush (v := zI 7) hx hb dX10_climb_14 (zI_b8 (by decide)) ?_
    refine lv_iload_n hx hb dX10_climb_16 rfl (lv_at hl 1 rfl) ?_
    refine z_imul hx hb dX10_climb_17 ?_
    refine lv_iload_n hx hb dX10_climb_18 rfl (lv_at hl 2 rfl) ?_
    refine z_iadd hx hb dX10_climb_19 ?_
    refine lv_istore (lv' := [(5, .int (zI ((7 * r9) + c9))), (0, .ref (β 0)), (1, .int (zI r9)), (2, .int (zI c9)), (3, .int (zI r8)), (4, .int (zI c8))]) hx hb dX10_climb_20 hl (by decide) rfl (fun ls hl => ?_)
    refine lv_bipush (v := zI 7) hx hb dX10_climb_22 (zI_b8 (by decide)) ?_
    refine lv_iload_n hx hb dX10_climb_24 rfl (lv_at hl 4 rfl) ?_
    refine z_imul hx hb dX10_climb_25 ?_
    refine lv_iload hx hb dX10_climb_26 (lv_at hl 5 rfl) ?_
    refine z_iadd hx hb dX10_climb_28 ?_
    refine lv_istore (lv' := [(6, .int (zI ((7 * r8) + c8))), (5, .int (zI ((7 * r9) + c9))), (0, .ref (β 0)), (1, .int (zI r9)), (2, .int (zI c9)), (3, .int (zI r8)), (4, .int (zI c8))]) hx hb dX10_climb_29 hl (by decide) rfl (fun ls hl => ?_)
    refine lv_iconst (v := zI 0) hx hb dX10_climb_31 rfl ?_
    refine lv_istore (lv' := [(7, .int (zI 0)), (6, .int (zI ((7 * r8) + c8))), (5, .int (zI ((7 * r9) + c9))), (0, .ref (β 0)), (1, .int (zI r9)), (2, .int (zI c9)), (3, .int (zI r8)), (4, .int (zI c8))]) hx hb dX10_climb_32 hl (by decide) rfl (fun ls hl => ?_)
    have hcb := S_cutn_b (a := (7 * r9 + c9)) (b := (7 * r8 + c8)) (by omega) (by omega)
    refine lv_iconst (v := zI 0) hx hb dX10_climb_34 rfl ?_
    refine lv_istore (lv' := [(8, .int (zI 0)), (7, .int (zI 0)), (6, .int (zI ((7 * r8) + c8))), (5, .int (zI ((7 * r9) + c9))), (0, .ref (β 0)), (1, .int (zI r9)), (2, .int (zI c9)), (3, .int (zI r8)), (4, .int (zI c8))]) hx hb dX10_climb_35 hl (by decide) rfl (fun ls hl => ?_)
    suffices HL_37 : ∀ (n_37 : Nat), ∀ (g : Int) (i : Int) (H : Heap) (locs : List Loc) (hP : va_P D vwCl (wM β δ ms mb mo mp mf mn mi mc mq mr mw mk ml t6_1 ma mx mh) H) (hD : va_D A (wM β δ ms mb mo mp mf mn mi mc mq mr mw mk ml t6_1 ma mx mh)) (hS : va_S A s.heap H locs) (ls : Array Slot) (hl : lv_has ls 10 [(7, .int (zI g)), (8, .int (zI i)), (6, .int (zI ((7 * r8) + c8))), (5, .int (zI ((7 * r9) + c9))), (0, .ref (β 0)), (1, .int (zI r9)), (2, .int (zI c9)), (3, .int (zI r8)), (4, .int (zI c8))]) (hi : 0 ≤ i ∧ i ≤ S_cutn (7 * r9 + c9) (7 * r8 + c8)) (hg : g = zS (fun i => zmax 0 (ms (S_on (7 * r9 + c9) (7 * r8 + c8) (i + 1)) - ms (S_on (7 * r9 + c9) (7 * r8 + c8) i))) i) (hgb : 0 ≤ g ∧ g ≤ 99 * i) (hm : (S_cutn (7 * r9 + c9) (7 * r8 + c8) - i).toNat < n_37), W pg l e rm_X10_climb s m args below meth c H locs 0 0 Q (F0 m 37 ls []) from HL_37 _ 0 0 _ _ hP hD hS _ (lv_sub hl [1, 0, 2, 3, 4, 5, 6, 7, 8] rfl) (by first | assumption | rfl | omega) (by exact (zS_0 _).symm) (by first | assumption | rfl | omega) (Nat.lt_succ_self _)
    intro n_37
    induction n_37 with
    | zero => intro g i H locs hP hD hS ls hl hi hg hgb hm; exact absurd hm (Nat.not_lt_zero _)
    | succ n_37 ih_37 =>
      intro g i H locs hP hD hS ls hl hi hg hgb hm
      refine lv_iload hx hb dX10_climb_37 (lv_at hl 1 rfl) ?_
      refine lv_iload hx hb dX10_climb_39 (lv_at hl 3 rfl) ?_
      refine lv_iload hx hb dX10_climb_41 (lv_at hl 2 rfl) ?_
      refine z_calli hP hD hS hA (va_runS (As := [.int (zI ((7 * r9) + c9)), .int (zI ((7 * r8) + c8))]) (rest := [.int (zI i)]) hC (c_X10_cutOf l D τ _ _ ((7 * r9) + c9) ((7 * r8) + c8) (by omega) (by omega) _) (va_cwS 2 hts (gS hB wl_X10_217 wt_X10_cutOf wi_X10 wc_X10_cutOf) rfl rfl rfl hd_X10_cutOf.2 ⟨Nat.le_of_ble_eq_true rfl, Nat.le_of_ble_eq_true rfl⟩) (zp_S hK hP hD hS hA hG) rfl rfl hl.1 rfl (lv_room (Nat.le_of_ble_eq_true rfl)) dX10_climb_43 ⟨Nat.le_of_ble_eq_true rfl, Nat.le_of_ble_eq_true rfl⟩) (fun r w1 H locs hq9 hP hD hS => ?_)
      obtain ⟨v43_3, hv43_0, hv43_1, rfl, rfl⟩ := hq9
      refine z_icge (tgt := 104) hx hb ⟨by omega, by omega⟩ ⟨by omega, by omega⟩ dX10_climb_46 (by decide) (fun c_46 => ?_) (fun c_46 => ?_)
      · refine lv_iload hx hb dX10_climb_104 (lv_at hl 0 rfl) ?_
        exact z_iret hC hr hlk hQ hP hD hS ⟨t6_1, g, (by exact hv6_1), (by first | exact fun _ => by rw [hg, show i = S_cutn (7 * r9 + c9) (7 * r8 + c8) by omega]; rfl | (intro h9; rw [hv6_1] at h9; unfold S_tcut at h9; rw [if_neg hb_9] at h9; exact absurd h9 (by decide))), rfl, rfl⟩ dX10_climb_106
      · refine lv_aload_n hx hb dX10_climb_49 rfl (lv_at hl 4 rfl) ?_
        refine va_get (D := D) (ci := 10) (v := .ref (β 1)) (C := RX10) (T := TX10) (N := 17) hx hb hts (fun w h => List.mem_cons_of_mem _ (wx_X10 w h)) hown hK hP 0 rfl rfl 0 (by decide) (hW0 _ wf_X10_7) (fun _ h9 => h9) rfl dX10_climb_50 ?_
        refine lv_iload hx hb dX10_climb_53 (lv_at hl 3 rfl) ?_
        refine lv_iload hx hb dX10_climb_55 (lv_at hl 2 rfl) ?_
        refine lv_iload hx hb dX10_climb_57 (lv_at hl 1 rfl) ?_
        refine lv_iconst (v := zI 1) hx hb dX10_climb_59 rfl ?_
        refine z_iadd hx hb dX10_climb_60 ?_
        refine z_calli hP hD hS hA (va_runS (As := [.int (zI ((7 * r9) + c9)), .int (zI ((7 * r8) + c8)), .int (zI (i + 1))]) (rest := [.ref (β 1)]) hC (c_X10_onCut l D τ _ _ ((7 * r9) + c9) ((7 * r8) + c8) (i + 1) (by omega) (by omega) (by omega) _) (va_cwS 3 hts (gS hB wl_X10_220 wt_X10_onCut wi_X10 wc_X10_onCut) rfl rfl rfl hd_X10_onCut.2 ⟨Nat.le_of_ble_eq_true rfl, Nat.le_of_ble_eq_true rfl⟩) (zp_S hK hP hD hS hA hG) rfl rfl hl.1 rfl (lv_room (Nat.le_of_ble_eq_true rfl)) dX10_climb_61 ⟨Nat.le_of_ble_eq_true rfl, Nat.le_of_ble_eq_true rfl⟩) (fun r w1 H locs hq9 hP hD hS => ?_)
        obtain ⟨v61_4, hv61_0, hv61_1, rfl, rfl⟩ := hq9
        refine z_iald (f := ms) hx hb hK hP 1 0 rfl rfl ⟨⟨by omega, by omega⟩, by decide⟩ dX10_climb_64 ?_
        have hb_64 := hms v61_4 (by omega) (by omega)
        refine lv_aload_n hx hb dX10_climb_65 rfl (lv_at hl 4 rfl) ?_
        refine va_get (D := D) (ci := 10) (v := .ref (β 1)) (C := RX10) (T := TX10) (N := 17) hx hb hts (fun w h => List.mem_cons_of_mem _ (wx_X10 w h)) hown hK hP 0 rfl rfl 0 (by decide) (hW0 _ wf_X10_7) (fun _ h9 => h9) rfl dX10_climb_66 ?_
        refine lv_iload hx hb dX10_climb_69 (lv_at hl 3 rfl) ?_
        refine lv_iload hx hb dX10_climb_71 (lv_at hl 2 rfl) ?_
        refine lv_iload hx hb dX10_climb_73 (lv_at hl 1 rfl) ?_
        refine z_calli hP hD hS hA (va_runS (As := [.int (zI ((7 * r9) + c9)), .int (zI ((7 * r8) + c8)), .int (zI i)]) (rest := [.ref (β 1), .int (zI (ms v61_4))]) hC (c_X10_onCut l D τ _ _ ((7 * r9) + c9) ((7 * r8) + c8) i (by omega) (by omega) (by omega) _) (va_cwS 3 hts (gS hB wl_X10_220 wt_X10_onCut wi_X10 wc_X10_onCut) rfl rfl rfl hd_X10_onCut.2 ⟨Nat.le_of_ble_eq_true rfl, Nat.le_of_ble_eq_true rfl⟩) (zp_S hK hP hD hS hA hG) rfl rfl hl.1 rfl (lv_room (Nat.le_of_ble_eq_true rfl)) dX10_climb_75 ⟨Nat.le_of_ble_eq_true rfl, Nat.le_of_ble_eq_true rfl⟩) (fun r w1 H locs hq9 hP hD hS => ?_)
        obtain ⟨v75_5, hv75_0, hv75_1, rfl, rfl⟩ := hq9
        refine z_iald (f := ms) hx hb hK hP 1 0 rfl rfl ⟨⟨by omega, by omega⟩, by decide⟩ dX10_climb_78 ?_
        have hb_78 := hms v75_5 (by omega) (by omega)
        refine z_isub hx hb dX10_climb_79 ?_
        refine lv_istore (lv' := [(9, .int (zI ((ms v61_4) - (ms v75_5)))), (7, .int (zI g)), (8, .int (zI i)), (6, .int (zI ((7 * r8) + c8))), (5, .int (zI ((7 * r9) + c9))), (0, .ref (β 0)), (1, .int (zI r9)), (2, .int (zI c9)), (3, .int (zI r8)), (4, .int (zI c8))]) hx hb dX10_climb_80 hl (by decide) rfl (fun ls hl => ?_)
        refine lv_iload hx hb dX10_climb_82 (lv_at hl 1 rfl) ?_
        refine lv_iload hx hb dX10_climb_84 (lv_at hl 0 rfl) ?_
        refine z_ifle (tgt := 94) hx hb ⟨by omega, by omega⟩ dX10_climb_86 (by decide) (fun c_86 => ?_) (fun c_86 => ?_)
        · refine lv_iconst (v := zI 0) hx hb dX10_climb_94 rfl ?_
          refine z_iadd hx hb dX10_climb_95 ?_
          refine lv_istore (lv' := [(7, .int (zI (g + 0))), (9, .int (zI ((ms v61_4) - (ms v75_5)))), (8, .int (zI i)), (6, .int (zI ((7 * r8) + c8))), (5, .int (zI ((7 * r9) + c9))), (0, .ref (β 0)), (1, .int (zI r9)), (2, .int (zI c9)), (3, .int (zI r8)), (4, .int (zI c8))]) hx hb dX10_climb_96 hl (by decide) rfl (fun ls hl => ?_)
          refine z_iinc (k := 2) (v := i + 1) (lv' := [(8, .int (zI (i + 1))), (7, .int (zI (g + 0))), (9, .int (zI ((ms v61_4) - (ms v75_5)))), (6, .int (zI ((7 * r8) + c8))), (5, .int (zI ((7 * r9) + c9))), (0, .ref (β 0)), (1, .int (zI r9)), (2, .int (zI c9)), (3, .int (zI r8)), (4, .int (zI c8))]) hx hb dX10_climb_98 hl rfl rfl (by decide) rfl (fun ls hl => ?_)
          refine lv_goto (tgt := 37) hx hb dX10_climb_101 (by decide) ?_
          exact ih_37 (g + 0) (i + 1) _ _ hP hD hS _ (lv_sub hl [1, 0, 3, 4, 5, 6, 7, 8, 9] rfl) (by first | assumption | rfl | omega) (by rw [zS_up hi.1, ← hg]; show _ = g + zmax 0 (ms (S_on _ _ (i + 1)) - ms (S_on _ _ i)); unfold zmax; rw [← hv61_0, ← hv75_0]; split <;> omega) (by first | assumption | rfl | omega) (by omega)
        · refine lv_iload hx hb dX10_climb_89 (lv_at hl 0 rfl) ?_
          refine lv_goto (tgt := 95) hx hb dX10_climb_91 (by decide) ?_
          refine z_iadd hx hb dX10_climb_95 ?_
          refine lv_istore (lv' := [(7, .int (zI (g + ((ms v61_4) - (ms v75_5))))), (9, .int (zI ((ms v61_4) - (ms v75_5)))), (8, .int (zI i)), (6, .int (zI ((7 * r8) + c8))), (5, .int (zI ((7 * r9) + c9))), (0, .ref (β 0)), (1, .int (zI r9)), (2, .int (zI c9)), (3, .int (zI r8)), (4, .int (zI c8))]) hx hb dX10_climb_96 hl (by decide) rfl (fun ls hl => ?_)
          refine z_iinc (k := 2) (v := i + 1) (lv' := [(8, .int (zI (i + 1))), (7, .int (zI (g + ((ms v61_4) - (ms v75_5))))), (9, .int (zI ((ms v61_4) - (ms v75_5)))), (6, .int (zI ((7 * r8) + c8))), (5, .int (zI ((7 * r9) + c9))), (0, .ref (β 0)), (1, .int (zI r9)), (2, .int (zI c9)), (3, .int (zI r8)), (4, .int (zI c8))]) hx hb dX10_climb_98 hl rfl rfl (by decide) rfl (fun ls hl => ?_)
          refine lv_goto (tgt := 37) hx hb dX10_climb_101 (by decide) ?_
          exact ih_37 (g + ((ms v61_4) - (ms v75_5))) (i + 1) _ _ hP hD hS _ (lv_sub hl [1, 0, 3, 4, 5, 6, 7, 8, 9] rfl) (by first | assumption | rfl | omega) (by rw [zS_up hi.1, ← hg]; show _ = g + zmax 0 (ms (S_on _ _ (i + 1)) - ms (S_on _ _ i)); unfold zmax; rw [← hv61_0, ← hv75_0]; split <;> omega) (by first | assumption | rfl | omega) (by omega)
  · have hb_9 := zb_neg hv6_0 c_9
    refine lv_iconst (v := zI 0) hx hb dX10_climb_12 rfl ?_
    exact z_iret hC hr hlk hQ hP hD hS ⟨t6_1, 0, (by exact hv6_1), (by first | exact fun _ => by rw [hg, show i = S_cutn (7 * r9 + c9) (7 * r8 + c8) by omega]; rfl | (intro h9; rw [hv6_1] at h9; unfold S_tcut at h9; rw [if_neg hb_9] at h9; exact absurd h9 (by decide))), rfl, rfl⟩ dX10_climb_13

abbrev wz_X10_pass : List Cond := .code yX10_pass cX10_pass 10 (some .int) :: W0
abbrev rm_X10_pass : Room := { frames := 3, cells := 0, slots := 0, locals := 68 }
theorem hd_X10_pass : yX10_pass.cls = RX10 ∧ yX10_pass.cls ≠ "java/lang/invoke/MethodHandle" ∧ yX10_pass.cls ≠ "java/lang/invoke/VarHandle" ∧ (parseMethodDescriptor yX10_pass.desc).map (fun d => d.parameters.length) = some 4 := by decide +kernel
set_option maxHeartbeats 4000000 in
set_option maxRecDepth 100000 in
theorem c_X10_pass (l : Launch) (D : va_G) (τ : Nat → Nat) (β : Nat → Nat) (δ : Nat → ClassId) (ms : IA) (mb : IA) (mo : IA) (mp : BA) (mf : IA) (mn : IA) (mi : IA) (mc : IA) (mq : BA) (mr : IA) (mw : IA) (mk : Int) (ml : Int) (mt : Int) (ma : Int) (mx : Bool) (mh : Int64) (r9 : Int) (c9 : Int) (r8 : Int) (c8 : Int) (hr9 : -2147483648 ≤ r9 ∧ r9 < 2147483648) (hc9 : -2147483648 ≤ c9 ∧ c9 < 2147483648) (hr8 : -2147483648 ≤ r8 ∧ r8 < 2147483648) (hc8 : -2147483648 ≤ c8 ∧ c8 < 2147483648) (hms : ∀ k, 0 ≤ k → k < 49 → 0 ≤ ms k ∧ ms k ≤ 99) : cM l yX10_pass wz_X10_pass rm_X10_pass D τ (tyM δ) [.ref (β 0), .int (zI r9), .int (zI c9), .int (zI r8), .int (zI c8)] (wM β δ ms mb mo mp mf mn mi mc mq mr mw mk ml mt ma mx mh) (zQi (fun r w => ∃ (t2 : Int), ∃ (v : Int), (t2 = S_tcut r9 c9 r8 c8) ∧ (t2 = 0 → v = S_pass ms (7 * r9 + c9) (7 * r8 + c8)) ∧ r = zI v ∧ wM β δ ms mb mo mp mf mn mi mc mq mr mw mk ml t2 ma mx mh = w)) := by
  refine z_ofM (cc := cX10_pass) (maxL := 10) (ret := (some .int)) (by decide +kernel) rfl (Nat.le_of_ble_eq_true rfl) ?_
  intro pg e s m args below meth c hC hr hlk hnm hK hP A hD hG hA hS ls hl Q hQ
  have hx := hC.1
  have hb := hC.2.1
  have hml := hC.2.2.1
  have hown := hC.2.2.2.1
  have hts := hC.2.2.2.2
  have hB : ∀ w ∈ W0, w ∈ wz_X10_pass := fun _ h => List.mem_cons_of_mem _ h
  have hW0 : ∀ w ∈ W0, w.before args s = true := fun w h => hts w (hB w h)
  have hl : lv_has ls 10 [(0, .ref (β 0)), (1, .int (zI r9)), (2, .int (zI c9)), (3, .int (zI r8)), (4, .int (zI c8))] := hl
  refine lv_aload_n hx hb dX10_pass_0 rfl (lv_at hl 0 rfl) ?_
  refine lv_iload_n hx hb dX10_pass_1 rfl (lv_at hl 1 rfl) ?_
  refine lv_iload_n hx hb dX10_pass_2 rfl (lv_at hl 2 rfl) ?_
  refine lv_iload_n hx hb dX10_pass_3 rfl (lv_at hl 3 rfl) ?_
  refine lv_iload hx hb dX10_pass_4 (lv_at hl 4 rfl) ?_
  refine z_calli hP hD hS hA (va_runV (As := [.int (zI r9), .int (zI c9), .int (zI r8), .int (zI c8)]) (rest := []) hC (c_X10_areThere l D τ β δ ms mb mo mp mf mn mi mc mq mr mw mk ml mt ma mx mh r9 c9 r8 c8 (by first | assumption | rfl | omega) (by first | assumption | rfl | omega) (by first | assumption | rfl | omega) (by first | assumption | rfl | omega) _) (cwV 4 hts (gV hB wl_X10_226 wn_X10_areThere ws_X10_areThere wi_X10 wc_X10_areThere) rfl rfl rfl hd_X10_areThere ⟨Nat.le_of_ble_eq_true rfl, Nat.le_of_ble_eq_true rfl⟩) (zp_V hK hP hD hS hA hG (ci := 10) (q0 := 0) rfl rfl rfl) rfl rfl hl.1 rfl (lv_room (Nat.le_of_ble_eq_true rfl)) dX10_pass_6 ⟨Nat.le_of_ble_eq_true rfl, Nat.le_of_ble_eq_true rfl⟩) (fun r w1 H locs hq9 hP hD hS => ?_)
  obtain ⟨t6_1, v6_2, hv6_0, hv6_1, rfl, rfl⟩ := hq9
  have hP : va_P D vwCl (wM β δ ms mb mo mp mf mn mi mc mq mr mw mk ml t6_1 ma mx mh) H := hP
  have hD : va_D A (wM β δ ms mb mo mp mf mn mi mc mq mr mw mk ml t6_1 ma mx mh) := hD
  refine z_ifneB (tgt := 14) hx hb dX10_pass_9 (by decide) (fun c_9 => ?_) (fun c_9 => ?_)
  · have hb_9 := hv6_0.mp c_9
    refine lv_bipush (v := zI 7) hx hb dX10_pass_14 (zI_b8 (by decide)) ?_
    refine lv_iload_n hx hb dX10_pass_16 rfl (lv_at hl 1 rfl) ?_
    refine z_imul hx hb dX10_pass_17 ?_
    refine lv_iload_n hx hb dX10_pass_18 rfl (lv_at hl 2 rfl) ?_
    refine z_iadd hx hb dX10_pass_19 ?_
    refine lv_istore (lv' := [(5, .int (zI ((7 * r9) + c9))), (0, .ref (β 0)), (1, .int (zI r9)), (2, .int (zI c9)), (3, .int (zI r8)), (4, .int (zI c8))]) hx hb dX10_pass_20 hl (by decide) rfl (fun ls hl => ?_)
    refine lv_bipush (v := zI 7) hx hb dX10_pass_22 (zI_b8 (by decide)) ?_
    refine lv_iload_n hx hb dX10_pass_24 rfl (lv_at hl 4 rfl) ?_
    refine z_imul hx hb dX10_pass_25 ?_
    refine lv_iload hx hb dX10_pass_26 (lv_at hl 5 rfl) ?_
    refine z_iadd hx hb dX10_pass_28 ?_
    refine lv_istore (lv' := [(6, .int (zI ((7 * r8) + c8))), (5, .int (zI ((7 * r9) + c9))), (0, .ref (β 0)), (1, .int (zI r9)), (2, .int (zI c9)), (3, .int (zI r8)), (4, .int (zI c8))]) hx hb dX10_pass_29 hl (by decide) rfl (fun ls hl => ?_)
    refine lv_iconst (v := zI 0) hx hb dX10_pass_31 rfl ?_
    refine lv_istore (lv' := [(7, .int (zI 0)), (6, .int (zI ((7 * r8) + c8))), (5, .int (zI ((7 * r9) + c9))), (0, .ref (β 0)), (1, .int (zI r9)), (2, .int (zI c9)), (3, .int (zI r8)), (4, .int (zI c8))]) hx hb dX10_pass_32 hl (by decide) rfl (fun ls hl => ?_)
    have hcb := S_cutn_b (a := (7 * r9 + c9)) (b := (7 * r8 + c8)) (by omega) (by omega)
    refine lv_iconst (v := zI 0) hx hb dX10_pass_34 rfl ?_
    refine lv_istore (lv' := [(8, .int (zI 0)), (7, .int (zI 0)), (6, .int (zI ((7 * r8) + c8))), (5, .int (zI ((7 * r9) + c9))), (0, .ref (β 0)), (1, .int (zI r9)), (2, .int (zI c9)), (3, .int (zI r8)), (4, .int (zI c8))]) hx hb dX10_pass_35 hl (by decide) rfl (fun ls hl => ?_)
    suffices HL_37 : ∀ (n_37 : Nat), ∀ (g : Int) (i : Int) (H : Heap) (locs : List Loc) (hP : va_P D vwCl (wM β δ ms mb mo mp mf mn mi mc mq mr mw mk ml t6_1 ma mx mh) H) (hD : va_D A (wM β δ ms mb mo mp mf mn mi mc mq mr mw mk ml t6_1 ma mx mh)) (hS : va_S A s.heap H locs) (ls : Array Slot) (hl : lv_has ls 10 [(7, .int (zI g)), (8, .int (zI i)), (6, .int (zI ((7 * r8) + c8))), (5, .int (zI ((7 * r9) + c9))), (0, .ref (β 0)), (1, .int (zI r9)), (2, .int (zI c9)), (3, .int (zI r8)), (4, .int (zI c8))]) (hi : 0 ≤ i ∧ i ≤ S_cutn (7 * r9 + c9) (7 * r8 + c8) + 1) (hg : g = S_top (fun i => ms (S_on (7 * r9 + c9) (7 * r8 + c8) i)) i) (hgb : 0 ≤ g ∧ g ≤ 99) (hm : (S_cutn (7 * r9 + c9) (7 * r8 + c8) + 1 - i).toNat < n_37), W pg l e rm_X10_pass s m args below meth c H locs 0 0 Q (F0 m 37 ls []) from HL_37 _ 0 0 _ _ hP hD hS _ (lv_sub hl [1, 0, 2, 3, 4, 5, 6, 7, 8] rfl) (by first | assumption | rfl | omega) (by exact (S_top_0 _).symm) (by first | assumption | rfl | omega) (Nat.lt_succ_self _)
    intro n_37
    induction n_37 with
    | zero => intro g i H locs hP hD hS ls hl hi hg hgb hm; exact absurd hm (Nat.not_lt_zero _)
    | succ n_37 ih_37 =>
      intro g i H locs hP hD hS ls hl hi hg hgb hm
      refine lv_iload hx hb dX10_pass_37 (lv_at hl 1 rfl) ?_
      refine lv_iload hx hb dX10_pass_39 (lv_at hl 3 rfl) ?_
      refine lv_iload hx hb dX10_pass_41 (lv_at hl 2 rfl) ?_
      refine z_calli hP hD hS hA (va_runS (As := [.int (zI ((7 * r9) + c9)), .int (zI ((7 * r8) + c8))]) (rest := [.int (zI i)]) hC (c_X10_cutOf l D τ _ _ ((7 * r9) + c9) ((7 * r8) + c8) (by omega) (by omega) _) (va_cwS 2 hts (gS hB wl_X10_217 wt_X10_cutOf wi_X10 wc_X10_cutOf) rfl rfl rfl hd_X10_cutOf.2 ⟨Nat.le_of_ble_eq_true rfl, Nat.le_of_ble_eq_true rfl⟩) (zp_S hK hP hD hS hA hG) rfl rfl hl.1 rfl (lv_room (Nat.le_of_ble_eq_true rfl)) dX10_pass_43 ⟨Nat.le_of_ble_eq_true rfl, Nat.le_of_ble_eq_true rfl⟩) (fun r w1 H locs hq9 hP hD hS => ?_)
      obtain ⟨v43_3, hv43_0, hv43_1, rfl, rfl⟩ := hq9
      refine z_icgt (tgt := 87) hx hb ⟨by omega, by omega⟩ ⟨by omega, by omega⟩ dX10_pass_46 (by decide) (fun c_46 => ?_) (fun c_46 => ?_)
      · refine lv_iload hx hb dX10_pass_87 (lv_at hl 0 rfl) ?_
        exact z_iret hC hr hlk hQ hP hD hS ⟨t6_1, g, (by exact hv6_1), (by first | exact fun _ => by rw [hg, show i = S_cutn (7 * r9 + c9) (7 * r8 + c8) + 1 by omega]; rfl | (intro h9; rw [hv6_1] at h9; unfold S_tcut at h9; rw [if_neg hb_9] at h9; exact absurd h9 (by decide))), rfl, rfl⟩ dX10_pass_89
      · refine lv_aload_n hx hb dX10_pass_49 rfl (lv_at hl 4 rfl) ?_
        refine va_get (D := D) (ci := 10) (v := .ref (β 1)) (C := RX10) (T := TX10) (N := 17) hx hb hts (fun w h => List.mem_cons_of_mem _ (wx_X10 w h)) hown hK hP 0 rfl rfl 0 (by decide) (hW0 _ wf_X10_7) (fun _ h9 => h9) rfl dX10_pass_50 ?_
        refine lv_iload hx hb dX10_pass_53 (lv_at hl 3 rfl) ?_
        refine lv_iload hx hb dX10_pass_55 (lv_at hl 2 rfl) ?_
        refine lv_iload hx hb dX10_pass_57 (lv_at hl 1 rfl) ?_
        refine z_calli hP hD hS hA (va_runS (As := [.int (zI ((7 * r9) + c9)), .int (zI ((7 * r8) + c8)), .int (zI i)]) (rest := [.ref (β 1)]) hC (c_X10_onCut l D τ _ _ ((7 * r9) + c9) ((7 * r8) + c8) i (by omega) (by omega) (by omega) _) (va_cwS 3 hts (gS hB wl_X10_220 wt_X10_onCut wi_X10 wc_X10_onCut) rfl rfl rfl hd_X10_onCut.2 ⟨Nat.le_of_ble_eq_true rfl, Nat.le_of_ble_eq_true rfl⟩) (zp_S hK hP hD hS hA hG) rfl rfl hl.1 rfl (lv_room (Nat.le_of_ble_eq_true rfl)) dX10_pass_59 ⟨Nat.le_of_ble_eq_true rfl, Nat.le_of_ble_eq_true rfl⟩) (fun r w1 H locs hq9 hP hD hS => ?_)
        obtain ⟨v59_4, hv59_0, hv59_1, rfl, rfl⟩ := hq9
        refine z_iald (f := ms) hx hb hK hP 1 0 rfl rfl ⟨⟨by omega, by omega⟩, by decide⟩ dX10_pass_62 ?_
        have hb_62 := hms v59_4 (by omega) (by omega)
        refine lv_istore (lv' := [(9, .int (zI (ms v59_4))), (7, .int (zI g)), (8, .int (zI i)), (6, .int (zI ((7 * r8) + c8))), (5, .int (zI ((7 * r9) + c9))), (0, .ref (β 0)), (1, .int (zI r9)), (2, .int (zI c9)), (3, .int (zI r8)), (4, .int (zI c8))]) hx hb dX10_pass_63 hl (by decide) rfl (fun ls hl => ?_)
        refine lv_iload hx hb dX10_pass_65 (lv_at hl 0 rfl) ?_
        refine lv_iload hx hb dX10_pass_67 (lv_at hl 1 rfl) ?_
        refine z_icle (tgt := 77) hx hb ⟨by omega, by omega⟩ ⟨by omega, by omega⟩ dX10_pass_69 (by decide) (fun c_69 => ?_) (fun c_69 => ?_)
        · refine lv_iload hx hb dX10_pass_77 (lv_at hl 1 rfl) ?_
          refine lv_istore (lv' := [(7, .int (zI g)), (9, .int (zI (ms v59_4))), (8, .int (zI i)), (6, .int (zI ((7 * r8) + c8))), (5, .int (zI ((7 * r9) + c9))), (0, .ref (β 0)), (1, .int (zI r9)), (2, .int (zI c9)), (3, .int (zI r8)), (4, .int (zI c8))]) hx hb dX10_pass_79 hl (by decide) rfl (fun ls hl => ?_)
          refine z_iinc (k := 2) (v := i + 1) (lv' := [(8, .int (zI (i + 1))), (7, .int (zI g)), (9, .int (zI (ms v59_4))), (6, .int (zI ((7 * r8) + c8))), (5, .int (zI ((7 * r9) + c9))), (0, .ref (β 0)), (1, .int (zI r9)), (2, .int (zI c9)), (3, .int (zI r8)), (4, .int (zI c8))]) hx hb dX10_pass_81 hl rfl rfl (by decide) rfl (fun ls hl => ?_)
          refine lv_goto (tgt := 37) hx hb dX10_pass_84 (by decide) ?_
          exact ih_37 g (i + 1) _ _ hP hD hS _ (lv_sub hl [1, 0, 3, 4, 5, 6, 7, 8, 9] rfl) (by first | assumption | rfl | omega) (by rw [S_top_up hi.1, ← hg]; show _ = zmax g (ms (S_on _ _ i)); unfold zmax; rw [← hv59_0]; split <;> omega) (by first | assumption | rfl | omega) (by omega)
        · refine lv_iload hx hb dX10_pass_72 (lv_at hl 0 rfl) ?_
          refine lv_goto (tgt := 79) hx hb dX10_pass_74 (by decide) ?_
          refine lv_istore (lv' := [(7, .int (zI (ms v59_4))), (9, .int (zI (ms v59_4))), (8, .int (zI i)), (6, .int (zI ((7 * r8) + c8))), (5, .int (zI ((7 * r9) + c9))), (0, .ref (β 0)), (1, .int (zI r9)), (2, .int (zI c9)), (3, .int (zI r8)), (4, .int (zI c8))]) hx hb dX10_pass_79 hl (by decide) rfl (fun ls hl => ?_)
          refine z_iinc (k := 2) (v := i + 1) (lv' := [(8, .int (zI (i + 1))), (7, .int (zI (ms v59_4))), (9, .int (zI (ms v59_4))), (6, .int (zI ((7 * r8) + c8))), (5, .int (zI ((7 * r9) + c9))), (0, .ref (β 0)), (1, .int (zI r9)), (2, .int (zI c9)), (3, .int (zI r8)), (4, .int (zI c8))]) hx hb dX10_pass_81 hl rfl rfl (by decide) rfl (fun ls hl => ?_)
          refine lv_goto (tgt := 37) hx hb dX10_pass_84 (by decide) ?_
          exact ih_37 (ms v59_4) (i + 1) _ _ hP hD hS _ (lv_sub hl [1, 0, 3, 4, 5, 6, 7, 8, 9] rfl) (by first | assumption | rfl | omega) (by rw [S_top_up hi.1, ← hg]; show _ = zmax g (ms (S_on _ _ i)); unfold zmax; rw [← hv59_0]; split <;> omega) (by first | assumption | rfl | omega) (by omega)
  · have hb_9 := zb_neg hv6_0 c_9
    refine lv_iconst (v := zI 0) hx hb dX10_pass_12 rfl ?_
    exact z_iret hC hr hlk hQ hP hD hS ⟨t6_1, 0, (by exact hv6_1), (by first | exact fun _ => by rw [hg, show i = S_cutn (7 * r9 + c9) (7 * r8 + c8) + 1 by omega]; rfl | (intro h9; rw [hv6_1] at h9; unfold S_tcut at h9; rw [if_neg hb_9] at h9; exact absurd h9 (by decide))), rfl, rfl⟩ dX10_pass_13

abbrev wz_X10_sees : List Cond := .code yX10_sees cX10_sees 5 (some .boolean) :: W0
abbrev rm_X10_sees : Room := { frames := 4, cells := 0, slots := 0, locals := 93 }
theorem hd_X10_sees : yX10_sees.cls = RX10 ∧ yX10_sees.cls ≠ "java/lang/invoke/MethodHandle" ∧ yX10_sees.cls ≠ "java/lang/invoke/VarHandle" ∧ (parseMethodDescriptor yX10_sees.desc).map (fun d => d.parameters.length) = some 4 := by decide +kernel
set_option maxHeartbeats 4000000 in
set_option maxRecDepth 100000 in
theorem c_X10_sees (l : Launch) (D : va_G) (τ : Nat → Nat) (β : Nat → Nat) (δ : Nat → ClassId) (ms : IA) (mb : IA) (mo : IA) (mp : BA) (mf : IA) (mn : IA) (mi : IA) (mc : IA) (mq : BA) (mr : IA) (mw : IA) (mk : Int) (ml : Int) (mt : Int) (ma : Int) (mx : Bool) (mh : Int64) (r9 : Int) (c9 : Int) (r8 : Int) (c8 : Int) (hr9 : -2147483648 ≤ r9 ∧ r9 < 2147483648) (hc9 : -2147483648 ≤ c9 ∧ c9 < 2147483648) (hr8 : -2147483648 ≤ r8 ∧ r8 < 2147483648) (hc8 : -2147483648 ≤ c8 ∧ c8 < 2147483648) (hms : ∀ k, 0 ≤ k → k < 49 → 0 ≤ ms k ∧ ms k ≤ 99) : cM l yX10_sees wz_X10_sees rm_X10_sees D τ (tyM δ) [.ref (β 0), .int (zI r9), .int (zI c9), .int (zI r8), .int (zI c8)] (wM β δ ms mb mo mp mf mn mi mc mq mr mw mk ml mt ma mx mh) (zQi (fun r w => ∃ (t2 : Int), ∃ (v : Bool), (t2 = S_tcut r9 c9 r8 c8) ∧ (t2 = 0 → (v = true ↔ S_clear ms (7 * r9 + c9) (7 * r8 + c8))) ∧ r = bI v ∧ wM β δ ms mb mo mp mf mn mi mc mq mr mw mk ml t2 ma mx mh = w)) := by
  refine z_ofM (cc := cX10_sees) (maxL := 5) (ret := (some .boolean)) (by decide +kernel) rfl (Nat.le_of_ble_eq_true rfl) ?_
  intro pg e s m args below meth c hC hr hlk hnm hK hP A hD hG hA hS ls hl Q hQ
  have hx := hC.1
  have hb := hC.2.1
  have hml := hC.2.2.1
  have hown := hC.2.2.2.1
  have hts := hC.2.2.2.2
  have hB : ∀ w ∈ W0, w ∈ wz_X10_sees := fun _ h => List.mem_cons_of_mem _ h
  have hW0 : ∀ w ∈ W0, w.before args s = true := fun w h => hts w (hB w h)
  have hl : lv_has ls 5 [(0, .ref (β 0)), (1, .int (zI r9)), (2, .int (zI c9)), (3, .int (zI r8)), (4, .int (zI c8))] := hl
  refine lv_aload_n hx hb dX10_sees_0 rfl (lv_at hl 0 rfl) ?_
  refine lv_iload_n hx hb dX10_sees_1 rfl (lv_at hl 1 rfl) ?_
  refine lv_iload_n hx hb dX10_sees_2 rfl (lv_at hl 2 rfl) ?_
  refine lv_iload_n hx hb dX10_sees_3 rfl (lv_at hl 3 rfl) ?_
  refine lv_iload hx hb dX10_sees_4 (lv_at hl 4 rfl) ?_
  refine z_calli hP hD hS hA (va_runV (As := [.int (zI r9), .int (zI c9), .int (zI r8), .int (zI c8)]) (rest := []) hC (c_X10_areThere l D τ β δ ms mb mo mp mf mn mi mc mq mr mw mk ml mt ma mx mh r9 c9 r8 c8 (by first | assumption | rfl | omega) (by first | assumption | rfl | omega) (by first | assumption | rfl | omega) (by first | assumption | rfl | omega) _) (cwV 4 hts (gV hB wl_X10_226 wn_X10_areThere ws_X10_areThere wi_X10 wc_X10_areThere) rfl rfl rfl hd_X10_areThere ⟨Nat.le_of_ble_eq_true rfl, Nat.le_of_ble_eq_true rfl⟩) (zp_V hK hP hD hS hA hG (ci := 10) (q0 := 0) rfl rfl rfl) rfl rfl hl.1 rfl (lv_room (Nat.le_of_ble_eq_true rfl)) dX10_sees_6 ⟨Nat.le_of_ble_eq_true rfl, Nat.le_of_ble_eq_true rfl⟩) (fun r w1 H locs hq9 hP hD hS => ?_)
  obtain ⟨t6_1, v6_2, hv6_0, hv6_1, rfl, rfl⟩ := hq9
  have hP : va_P D vwCl (wM β δ ms mb mo mp mf mn mi mc mq mr mw mk ml t6_1 ma mx mh) H := hP
  have hD : va_D A (wM β δ ms mb mo mp mf mn mi mc mq mr mw mk ml t6_1 ma mx mh) := hD
  refine z_ifeqB (tgt := 36) hx hb dX10_sees_9 (by decide) (fun c_9 => ?_) (fun c_9 => ?_)
  · have hb_9 := zb_neg hv6_0 c_9
    refine lv_iconst (v := zI 0) hx hb dX10_sees_36 rfl ?_
    refine W.eq (g2 := F0 m 37 ls [.int (bI false)]) rfl ?_
    exact z_zret hC hr hlk hQ hP hD hS ⟨t6_1, false, (by exact hv6_1), (by first | exact fun _ => zb_T hb_29 | exact fun _ => zb_F hb_29 | (intro h9; exfalso; rw [hv6_1] at h9; unfold S_tcut at h9; rw [if_neg hb_9] at h9; exact absurd h9 (by decide))), rfl, rfl⟩ dX10_sees_37
  · have hb_9 := hv6_0.mp c_9
    refine lv_aload_n hx hb dX10_sees_12 rfl (lv_at hl 0 rfl) ?_
    refine lv_bipush (v := zI 7) hx hb dX10_sees_13 (zI_b8 (by decide)) ?_
    refine lv_iload_n hx hb dX10_sees_15 rfl (lv_at hl 1 rfl) ?_
    refine z_imul hx hb dX10_sees_16 ?_
    refine lv_iload_n hx hb dX10_sees_17 rfl (lv_at hl 2 rfl) ?_
    refine z_iadd hx hb dX10_sees_18 ?_
    refine lv_bipush (v := zI 7) hx hb dX10_sees_19 (zI_b8 (by decide)) ?_
    refine lv_iload_n hx hb dX10_sees_21 rfl (lv_at hl 3 rfl) ?_
    refine z_imul hx hb dX10_sees_22 ?_
    refine lv_iload hx hb dX10_sees_23 (lv_at hl 4 rfl) ?_
    refine z_iadd hx hb dX10_sees_25 ?_
    refine z_calli hP hD hS hA (va_runV (As := [.int (zI ((7 * r9) + c9)), .int (zI ((7 * r8) + c8))]) (rest := []) hC (c_X10_isSeen l D τ β δ ms mb mo mp mf mn mi mc mq mr mw mk ml t6_1 ma mx mh ((7 * r9) + c9) ((7 * r8) + c8) (by omega) (by omega) (by first | assumption | rfl | omega) _) (cwV 2 hts (gV hB wl_X10_223 wn_X10_isSeen ws_X10_isSeen wi_X10 wc_X10_isSeen) rfl rfl rfl hd_X10_isSeen ⟨Nat.le_of_ble_eq_true rfl, Nat.le_of_ble_eq_true rfl⟩) (zp_V hK hP hD hS hA hG (ci := 10) (q0 := 0) rfl rfl rfl) rfl rfl hl.1 rfl (lv_room (Nat.le_of_ble_eq_true rfl)) dX10_sees_26 ⟨Nat.le_of_ble_eq_true rfl, Nat.le_of_ble_eq_true rfl⟩) (fun r w1 H locs hq9 hP hD hS => ?_)
    obtain ⟨v26_3, hv26_0, rfl, rfl⟩ := hq9
    have hP : va_P D vwCl (wM β δ ms mb mo mp mf mn mi mc mq mr mw mk ml t6_1 ma mx mh) H := hP
    have hD : va_D A (wM β δ ms mb mo mp mf mn mi mc mq mr mw mk ml t6_1 ma mx mh) := hD
    refine z_ifeqB (tgt := 36) hx hb dX10_sees_29 (by decide) (fun c_29 => ?_) (fun c_29 => ?_)
    · have hb_29 := zb_neg hv26_0 c_29
      refine lv_iconst (v := zI 0) hx hb dX10_sees_36 rfl ?_
      refine W.eq (g2 := F0 m 37 ls [.int (bI false)]) rfl ?_
      exact z_zret hC hr hlk hQ hP hD hS ⟨t6_1, false, (by exact hv6_1), (by first | exact fun _ => zb_T hb_29 | exact fun _ => zb_F hb_29 | (intro h9; exfalso; rw [hv6_1] at h9; unfold S_tcut at h9; rw [if_neg hb_9] at h9; exact absurd h9 (by decide))), rfl, rfl⟩ dX10_sees_37
    · have hb_29 := hv26_0.mp c_29
      refine lv_iconst (v := zI 1) hx hb dX10_sees_32 rfl ?_
      refine lv_goto (tgt := 37) hx hb dX10_sees_33 (by decide) ?_
      refine W.eq (g2 := F0 m 37 ls [.int (bI true)]) rfl ?_
      exact z_zret hC hr hlk hQ hP hD hS ⟨t6_1, true, (by exact hv6_1), (by first | exact fun _ => zb_T hb_29 | exact fun _ => zb_F hb_29 | (intro h9; exfalso; rw [hv6_1] at h9; unfold S_tcut at h9; rw [if_neg hb_9] at h9; exact absurd h9 (by decide))), rfl, rfl⟩ dX10_sees_37

abbrev wz_X10_seenFrom : List Cond := .code yX10_seenFrom cX10_seenFrom 3 (some .int) :: W0
abbrev rm_X10_seenFrom : Room := { frames := 5, cells := 0, slots := 0, locals := 116 }
theorem hd_X10_seenFrom : yX10_seenFrom.cls = RX10 ∧ yX10_seenFrom.cls ≠ "java/lang/invoke/MethodHandle" ∧ yX10_seenFrom.cls ≠ "java/lang/invoke/VarHandle" ∧ (parseMethodDescriptor yX10_seenFrom.desc).map (fun d => d.parameters.length) = some 2 := by decide +kernel
set_option maxHeartbeats 4000000 in
set_option maxRecDepth 100000 in
theorem c_X10_seenFrom (l : Launch) (D : va_G) (τ : Nat → Nat) (β : Nat → Nat) (δ : Nat → ClassId) (ms : IA) (mb : IA) (mo : IA) (mp : BA) (mf : IA) (mn : IA) (mi : IA) (mc : IA) (mq : BA) (mr : IA) (mw : IA) (mk : Int) (ml : Int) (mt : Int) (ma : Int) (mx : Bool) (mh : Int64) (r9 : Int) (c9 : Int) (hr9 : -2147483648 ≤ r9 ∧ r9 < 2147483648) (hc9 : -2147483648 ≤ c9 ∧ c9 < 2147483648) (hms : ∀ k, 0 ≤ k → k < 49 → 0 ≤ ms k ∧ ms k ≤ 99) : cM l yX10_seenFrom wz_X10_seenFrom rm_X10_seenFrom D τ (tyM δ) [.ref (β 0), .int (zI r9), .int (zI c9)] (wM β δ ms mb mo mp mf mn mi mc mq mr mw mk ml mt ma mx mh) (zQi (fun r w => ∃ (t2 : Int), ∃ (v : Int), (t2 = S_tpt r9 c9) ∧ (t2 = 0 → v = S_seen ms (7 * r9 + c9)) ∧ r = zI v ∧ wM β δ ms mb mo mp mf mn mi mc mq mr mw mk ml t2 ma mx mh = w)) := by
  refine z_ofM (cc := cX10_seenFrom) (maxL := 3) (ret := (some .int)) (by decide +kernel) rfl (Nat.le_of_ble_eq_true rfl) ?_
  intro pg e s m args below meth c hC hr hlk hnm hK hP A hD hG hA hS ls hl Q hQ
  have hx := hC.1
  have hb := hC.2.1
  have hml := hC.2.2.1
  have hown := hC.2.2.2.1
  have hts := hC.2.2.2.2
  have hB : ∀ w ∈ W0, w ∈ wz_X10_seenFrom := fun _ h => List.mem_cons_of_mem _ h
  have hW0 : ∀ w ∈ W0, w.before args s = true := fun w h => hts w (hB w h)
  have hl : lv_has ls 3 [(0, .ref (β 0)), (1, .int (zI r9)), (2, .int (zI c9))] := hl
  refine lv_aload_n hx hb dX10_seenFrom_0 rfl (lv_at hl 0 rfl) ?_
  refine lv_iload_n hx hb dX10_seenFrom_1 rfl (lv_at hl 1 rfl) ?_
  refine lv_iload_n hx hb dX10_seenFrom_2 rfl (lv_at hl 2 rfl) ?_
  refine z_calli hP hD hS hA (va_runV (As := [.int (zI r9), .int (zI c9)]) (rest := []) hC (c_X10_isThere l D τ β δ ms mb mo mp mf mn mi mc mq mr mw mk ml mt ma mx mh r9 c9 (by first | assumption | rfl | omega) (by first | assumption | rfl | omega) _) (cwV 2 hts (gV hB wl_X10_120 wn_X10_isThere ws_X10_isThere wi_X10 wc_X10_isThere) rfl rfl rfl hd_X10_isThere ⟨Nat.le_of_ble_eq_true rfl, Nat.le_of_ble_eq_true rfl⟩) (zp_V hK hP hD hS hA hG (ci := 10) (q0 := 0) rfl rfl rfl) rfl rfl hl.1 rfl (lv_room (Nat.le_of_ble_eq_true rfl)) dX10_seenFrom_3 ⟨Nat.le_of_ble_eq_true rfl, Nat.le_of_ble_eq_true rfl⟩) (fun r w1 H locs hq9 hP hD hS => ?_)
  obtain ⟨t3_1, v3_2, hv3_0, hv3_1, rfl, rfl⟩ := hq9
  have hP : va_P D vwCl (wM β δ ms mb mo mp mf mn mi mc mq mr mw mk ml t3_1 ma mx mh) H := hP
  have hD : va_D A (wM β δ ms mb mo mp mf mn mi mc mq mr mw mk ml t3_1 ma mx mh) := hD
  refine z_ifeqB (tgt := 22) hx hb dX10_seenFrom_6 (by decide) (fun c_6 => ?_) (fun c_6 => ?_)
  · have hb_6 := zb_neg hv3_0 c_6
    refine lv_iconst (v := zI 0) hx hb dX10_seenFrom_22 rfl ?_
    exact z_iret hC hr hlk hQ hP hD hS ⟨t3_1, 0, (by exact hv3_1), (by first | exact fun _ => hv16_0 | (intro h9; rw [hv3_1] at h9; unfold S_tpt at h9; rw [if_neg hb_6] at h9; exact absurd h9 (by decide))), rfl, rfl⟩ dX10_seenFrom_23
  · have hb_6 := hv3_0.mp c_6
    refine lv_aload_n hx hb dX10_seenFrom_9 rfl (lv_at hl 0 rfl) ?_
    refine lv_bipush (v := zI 7) hx hb dX10_seenFrom_10 (zI_b8 (by decide)) ?_
    refine lv_iload_n hx hb dX10_seenFrom_12 rfl (lv_at hl 1 rfl) ?_
    refine z_imul hx hb dX10_seenFrom_13 ?_
    refine lv_iload_n hx hb dX10_seenFrom_14 rfl (lv_at hl 2 rfl) ?_
    refine z_iadd hx hb dX10_seenFrom_15 ?_
    refine z_calli hP hD hS hA (va_runV (As := [.int (zI ((7 * r9) + c9))]) (rest := []) hC (c_X10_seen l D τ β δ ms mb mo mp mf mn mi mc mq mr mw mk ml t3_1 ma mx mh ((7 * r9) + c9) (by omega) (by first | assumption | rfl | omega) _) (cwV 1 hts (gV hB wl_X10_230 wn_X10_seen ws_X10_seen wi_X10 wc_X10_seen) rfl rfl rfl hd_X10_seen ⟨Nat.le_of_ble_eq_true rfl, Nat.le_of_ble_eq_true rfl⟩) (zp_V hK hP hD hS hA hG (ci := 10) (q0 := 0) rfl rfl rfl) rfl rfl hl.1 rfl (lv_room (Nat.le_of_ble_eq_true rfl)) dX10_seenFrom_16 ⟨Nat.le_of_ble_eq_true rfl, Nat.le_of_ble_eq_true rfl⟩) (fun r w1 H locs hq9 hP hD hS => ?_)
    obtain ⟨v16_3, hv16_0, hv16_1, rfl, rfl⟩ := hq9
    have hP : va_P D vwCl (wM β δ ms mb mo mp mf mn mi mc mq mr mw mk ml t3_1 ma mx mh) H := hP
    have hD : va_D A (wM β δ ms mb mo mp mf mn mi mc mq mr mw mk ml t3_1 ma mx mh) := hD
    refine lv_goto (tgt := 23) hx hb dX10_seenFrom_19 (by decide) ?_
    exact z_iret hC hr hlk hQ hP hD hS ⟨t3_1, v16_3, (by exact hv3_1), (by first | exact fun _ => hv16_0 | (intro h9; rw [hv3_1] at h9; unfold S_tpt at h9; rw [if_neg hb_6] at h9; exact absurd h9 (by decide))), rfl, rfl⟩ dX10_seenFrom_23

abbrev wz_X10_outlook : List Cond := .code yX10_outlook cX10_outlook 5 (some .int) :: W0
abbrev rm_X10_outlook : Room := { frames := 5, cells := 0, slots := 0, locals := 116 }
theorem hd_X10_outlook : yX10_outlook.cls = RX10 ∧ yX10_outlook.cls ≠ "java/lang/invoke/MethodHandle" ∧ yX10_outlook.cls ≠ "java/lang/invoke/VarHandle" ∧ (parseMethodDescriptor yX10_outlook.desc).map (fun d => d.parameters.length) = some 0 := by decide +kernel
set_option maxHeartbeats 4000000 in
set_option maxRecDepth 100000 in
theorem c_X10_outlook (l : Launch) (D : va_G) (τ : Nat → Nat) (β : Nat → Nat) (δ : Nat → ClassId) (ms : IA) (mb : IA) (mo : IA) (mp : BA) (mf : IA) (mn : IA) (mi : IA) (mc : IA) (mq : BA) (mr : IA) (mw : IA) (mk : Int) (ml : Int) (mt : Int) (ma : Int) (mx : Bool) (mh : Int64) (hms : ∀ k, 0 ≤ k → k < 49 → 0 ≤ ms k ∧ ms k ≤ 99) : cM l yX10_outlook wz_X10_outlook rm_X10_outlook D τ (tyM δ) [.ref (β 0)] (wM β δ ms mb mo mp mf mn mi mc mq mr mw mk ml mt ma mx mh) (zQi (fun r w => ∃ (v : Int), (v = S_arg (S_seen ms) 49) ∧ (0 ≤ v ∧ v < 49) ∧ r = zI v ∧ wM β δ ms mb mo mp mf mn mi mc mq mr mw mk ml mt ma mx mh = w)) := by
  refine z_ofM (cc := cX10_outlook) (maxL := 5) (ret := (some .int)) (by decide +kernel) rfl (Nat.le_of_ble_eq_true rfl) ?_
  intro pg e s m args below meth c hC hr hlk hnm hK hP A hD hG hA hS ls hl Q hQ
  have hx := hC.1
  have hb := hC.2.1
  have hml := hC.2.2.1
  have hown := hC.2.2.2.1
  have hts := hC.2.2.2.2
  have hB : ∀ w ∈ W0, w ∈ wz_X10_outlook := fun _ h => List.mem_cons_of_mem _ h
  have hW0 : ∀ w ∈ W0, w.before args s = true := fun w h => hts w (hB w h)
  have hl : lv_has ls 5 [(0, .ref (β 0))] := hl
  refine lv_iconst (v := zI 0) hx hb dX10_outlook_0 rfl ?_
  refine lv_istore_n (lv' := [(1, .int (zI 0)), (0, .ref (β 0))]) hx hb dX10_outlook_1 rfl hl (by decide) rfl (fun ls hl => ?_)
  refine lv_iconst (v := zI (-1)) hx hb dX10_outlook_2 rfl ?_
  refine lv_istore_n (lv' := [(2, .int (zI (-1))), (1, .int (zI 0)), (0, .ref (β 0))]) hx hb dX10_outlook_3 rfl hl (by decide) rfl (fun ls hl => ?_)
  refine lv_iconst (v := zI 0) hx hb dX10_outlook_4 rfl ?_
  refine lv_istore_n (lv' := [(3, .int (zI 0)), (2, .int (zI (-1))), (1, .int (zI 0)), (0, .ref (β 0))]) hx hb dX10_outlook_5 rfl hl (by decide) rfl (fun ls hl => ?_)
  suffices HL_6 : ∀ (n_6 : Nat), ∀ (q : Int) (mz : Int) (i : Int) (H : Heap) (locs : List Loc) (hP : va_P D vwCl (wM β δ ms mb mo mp mf mn mi mc mq mr mw mk ml mt ma mx mh) H) (hD : va_D A (wM β δ ms mb mo mp mf mn mi mc mq mr mw mk ml mt ma mx mh)) (hS : va_S A s.heap H locs) (ls : Array Slot) (hl : lv_has ls 5 [(1, .int (zI q)), (2, .int (zI mz)), (3, .int (zI i)), (0, .ref (β 0))]) (hi : 0 ≤ i ∧ i ≤ 49) (hq : q = S_arg (S_seen ms) i) (hqb : 0 ≤ q ∧ q < 49) (hmo : (i = 0 ∧ mz ≤ S_seen ms 0 ∧ (S_seen ms 0 ≤ mz → mz = S_seen ms 0)) ∨ (1 ≤ i ∧ mz = S_seen ms q)) (hmb : -1 ≤ mz ∧ mz ≤ 49) (hm : (49 - i).toNat < n_6), W pg l e rm_X10_outlook s m args below meth c H locs 0 0 Q (F0 m 6 ls []) from HL_6 _ 0 (-1) 0 _ _ hP hD hS _ (lv_sub hl [2, 1, 0, 3] rfl) (by first | assumption | rfl | omega) (by exact (S_arg_0 _).symm) (by first | assumption | rfl | omega) (by have z9 := S_seen_b ms 0; exact Or.inl ⟨rfl, by omega, fun _ => by omega⟩) (by first | assumption | rfl | omega) (Nat.lt_succ_self _)
  intro n_6
  induction n_6 with
  | zero => intro q mz i H locs hP hD hS ls hl hi hq hqb hmo hmb hm; exact absurd hm (Nat.not_lt_zero _)
  | succ n_6 ih_6 =>
    intro q mz i H locs hP hD hS ls hl hi hq hqb hmo hmb hm
    refine lv_iload_n hx hb dX10_outlook_6 rfl (lv_at hl 2 rfl) ?_
    refine lv_bipush (v := zI 49) hx hb dX10_outlook_7 (zI_b8 (by decide)) ?_
    refine z_icge (tgt := 50) hx hb ⟨by omega, by omega⟩ ⟨by omega, by omega⟩ dX10_outlook_9 (by decide) (fun c_9 => ?_) (fun c_9 => ?_)
    · refine lv_iload_n hx hb dX10_outlook_50 rfl (lv_at hl 0 rfl) ?_
      exact z_iret hC hr hlk hQ hP hD hS ⟨q, (by rw [hq, show i = 49 by omega]), (by omega), rfl, rfl⟩ dX10_outlook_51
    · refine lv_aload_n hx hb dX10_outlook_12 rfl (lv_at hl 3 rfl) ?_
      refine lv_iload_n hx hb dX10_outlook_13 rfl (lv_at hl 2 rfl) ?_
      refine z_calli hP hD hS hA (va_runV (As := [.int (zI i)]) (rest := []) hC (c_X10_seen l D τ β δ ms mb mo mp mf mn mi mc mq mr mw mk ml mt ma mx mh i (by first | assumption | rfl | omega) (by first | assumption | rfl | omega) _) (cwV 1 hts (gV hB wl_X10_230 wn_X10_seen ws_X10_seen wi_X10 wc_X10_seen) rfl rfl rfl hd_X10_seen ⟨Nat.le_of_ble_eq_true rfl, Nat.le_of_ble_eq_true rfl⟩) (zp_V hK hP hD hS hA hG (ci := 10) (q0 := 0) rfl rfl rfl) rfl rfl hl.1 rfl (lv_room (Nat.le_of_ble_eq_true rfl)) dX10_outlook_14 ⟨Nat.le_of_ble_eq_true rfl, Nat.le_of_ble_eq_true rfl⟩) (fun r w1 H locs hq9 hP hD hS => ?_)
      obtain ⟨v14_1, hv14_0, hv14_1, rfl, rfl⟩ := hq9
      have hP : va_P D vwCl (wM β δ ms mb mo mp mf mn mi mc mq mr mw mk ml mt ma mx mh) H := hP
      have hD : va_D A (wM β δ ms mb mo mp mf mn mi mc mq mr mw mk ml mt ma mx mh) := hD
      have hup := arg_up (f := S_seen ms) hi.1 hq hmo
      refine lv_istore (lv' := [(4, .int (zI v14_1)), (1, .int (zI q)), (2, .int (zI mz)), (3, .int (zI i)), (0, .ref (β 0))]) hx hb dX10_outlook_17 hl (by decide) rfl (fun ls hl => ?_)
      refine lv_iload hx hb dX10_outlook_19 (lv_at hl 0 rfl) ?_
      refine lv_iload_n hx hb dX10_outlook_21 rfl (lv_at hl 2 rfl) ?_
      refine z_icle (tgt := 29) hx hb ⟨by omega, by omega⟩ ⟨by omega, by omega⟩ dX10_outlook_22 (by decide) (fun c_22 => ?_) (fun c_22 => ?_)
      · refine lv_iload_n hx hb dX10_outlook_29 rfl (lv_at hl 1 rfl) ?_
        refine lv_istore_n (lv' := [(1, .int (zI q)), (4, .int (zI v14_1)), (2, .int (zI mz)), (3, .int (zI i)), (0, .ref (β 0))]) hx hb dX10_outlook_30 rfl hl (by decide) rfl (fun ls hl => ?_)
        refine lv_iload hx hb dX10_outlook_31 (lv_at hl 1 rfl) ?_
        refine lv_iload_n hx hb dX10_outlook_33 rfl (lv_at hl 2 rfl) ?_
        refine z_icle (tgt := 42) hx hb ⟨by omega, by omega⟩ ⟨by omega, by omega⟩ dX10_outlook_34 (by decide) (fun c_34 => ?_) (fun c_34 => ?_)
        · refine lv_iload_n hx hb dX10_outlook_42 rfl (lv_at hl 2 rfl) ?_
          refine lv_istore_n (lv' := [(2, .int (zI mz)), (1, .int (zI q)), (4, .int (zI v14_1)), (3, .int (zI i)), (0, .ref (β 0))]) hx hb dX10_outlook_43 rfl hl (by decide) rfl (fun ls hl => ?_)
          refine z_iinc (k := 3) (v := i + 1) (lv' := [(3, .int (zI (i + 1))), (2, .int (zI mz)), (1, .int (zI q)), (4, .int (zI v14_1)), (0, .ref (β 0))]) hx hb dX10_outlook_44 hl rfl rfl (by decide) rfl (fun ls hl => ?_)
          refine lv_goto (tgt := 6) hx hb dX10_outlook_47 (by decide) ?_
          exact ih_6 q mz (i + 1) _ _ hP hD hS _ (lv_sub hl [2, 1, 0, 4] rfl) (by first | assumption | rfl | omega) (by rw [hv14_0] at c_22; first | exact (hup.1 c_22).1 | exact (hup.2 (Int.not_lt.mpr c_22)).1) (by first | assumption | rfl | omega) (by refine Or.inr ⟨by omega, ?_⟩; first | exact hv14_0 | (rw [hv14_0] at c_22; exact (hup.2 (Int.not_lt.mpr c_22)).2)) (by first | assumption | rfl | omega) (by omega)
        · exact absurd c_34 (by omega)
      · refine lv_iload_n hx hb dX10_outlook_25 rfl (lv_at hl 3 rfl) ?_
        refine lv_goto (tgt := 30) hx hb dX10_outlook_26 (by decide) ?_
        refine lv_istore_n (lv' := [(1, .int (zI i)), (4, .int (zI v14_1)), (2, .int (zI mz)), (3, .int (zI i)), (0, .ref (β 0))]) hx hb dX10_outlook_30 rfl hl (by decide) rfl (fun ls hl => ?_)
        refine lv_iload hx hb dX10_outlook_31 (lv_at hl 1 rfl) ?_
        refine lv_iload_n hx hb dX10_outlook_33 rfl (lv_at hl 2 rfl) ?_
        refine z_icle (tgt := 42) hx hb ⟨by omega, by omega⟩ ⟨by omega, by omega⟩ dX10_outlook_34 (by decide) (fun c_34 => ?_) (fun c_34 => ?_)
        · exact absurd c_34 (by omega)
        · refine lv_iload hx hb dX10_outlook_37 (lv_at hl 1 rfl) ?_
          refine lv_goto (tgt := 43) hx hb dX10_outlook_39 (by decide) ?_
          refine lv_istore_n (lv' := [(2, .int (zI v14_1)), (1, .int (zI i)), (4, .int (zI v14_1)), (3, .int (zI i)), (0, .ref (β 0))]) hx hb dX10_outlook_43 rfl hl (by decide) rfl (fun ls hl => ?_)
          refine z_iinc (k := 3) (v := i + 1) (lv' := [(3, .int (zI (i + 1))), (2, .int (zI v14_1)), (1, .int (zI i)), (4, .int (zI v14_1)), (0, .ref (β 0))]) hx hb dX10_outlook_44 hl rfl rfl (by decide) rfl (fun ls hl => ?_)
          refine lv_goto (tgt := 6) hx hb dX10_outlook_47 (by decide) ?_
          exact ih_6 i v14_1 (i + 1) _ _ hP hD hS _ (lv_sub hl [2, 1, 0, 4] rfl) (by first | assumption | rfl | omega) (by rw [hv14_0] at c_22; first | exact (hup.1 c_22).1 | exact (hup.2 (Int.not_lt.mpr c_22)).1) (by first | assumption | rfl | omega) (by refine Or.inr ⟨by omega, ?_⟩; first | exact hv14_0 | (rw [hv14_0] at c_22; exact (hup.2 (Int.not_lt.mpr c_22)).2)) (by first | assumption | rfl | omega) (by omega)

abbrev wz_X10_lookout : List Cond := .code yX10_lookout cX10_lookout 1 (some .int) :: W0
abbrev rm_X10_lookout : Room := { frames := 6, cells := 0, slots := 0, locals := 140 }
theorem hd_X10_lookout : yX10_lookout.cls = RX10 ∧ yX10_lookout.cls ≠ "java/lang/invoke/MethodHandle" ∧ yX10_lookout.cls ≠ "java/lang/invoke/VarHandle" ∧ (parseMethodDescriptor yX10_lookout.desc).map (fun d => d.parameters.length) = some 0 := by decide +kernel
set_option maxHeartbeats 4000000 in
set_option maxRecDepth 100000 in
theorem c_X10_lookout (l : Launch) (D : va_G) (τ : Nat → Nat) (β : Nat → Nat) (δ : Nat → ClassId) (ms : IA) (mb : IA) (mo : IA) (mp : BA) (mf : IA) (mn : IA) (mi : IA) (mc : IA) (mq : BA) (mr : IA) (mw : IA) (mk : Int) (ml : Int) (mt : Int) (ma : Int) (mx : Bool) (mh : Int64) (hms : ∀ k, 0 ≤ k → k < 49 → 0 ≤ ms k ∧ ms k ≤ 99) : cM l yX10_lookout wz_X10_lookout rm_X10_lookout D τ (tyM δ) [.ref (β 0)] (wM β δ ms mb mo mp mf mn mi mc mq mr mw mk ml mt ma mx mh) (zQi (fun r w => ∃ (v : Int), (v = S_arg (S_seen ms) 49) ∧ (0 ≤ v ∧ v < 49) ∧ r = zI v ∧ wM β δ ms mb mo mp mf mn mi mc mq mr mw mk ml 0 ma mx mh = w)) := by
  refine z_ofM (cc := cX10_lookout) (maxL := 1) (ret := (some .int)) (by decide +kernel) rfl (Nat.le_of_ble_eq_true rfl) ?_
  intro pg e s m args below meth c hC hr hlk hnm hK hP A hD hG hA hS ls hl Q hQ
  have hx := hC.1
  have hb := hC.2.1
  have hml := hC.2.2.1
  have hown := hC.2.2.2.1
  have hts := hC.2.2.2.2
  have hB : ∀ w ∈ W0, w ∈ wz_X10_lookout := fun _ h => List.mem_cons_of_mem _ h
  have hW0 : ∀ w ∈ W0, w.before args s = true := fun w h => hts w (hB w h)
  have hl : lv_has ls 1 [(0, .ref (β 0))] := hl
  refine lv_aload_n hx hb dX10_lookout_0 rfl (lv_at hl 0 rfl) ?_
  refine lv_iconst (v := zI 0) hx hb dX10_lookout_1 rfl ?_
  refine va_put (D := D) (ci := 10) (v := .int (zI 0)) (ty := .int) (C := RX10) (T := TX10) (N := 17) hx hb hts (fun w h => List.mem_cons_of_mem _ (wx_X10 w h)) tyX10 tyX10_ok nmX10 hown hK hP hD hS 0 rfl rfl 7 (by decide) (hW0 _ wf_X10_44) (fun _ h9 => h9) rfl (by decide +kernel) rfl rfl (Nat.le_of_ble_eq_true rfl) dX10_lookout_2 (fun H locs hP hD hS => ?_)
  have hP : va_P D vwCl (wM β δ ms mb mo mp mf mn mi mc mq mr mw mk ml 0 ma mx mh) H := hP
  have hD : va_D A (wM β δ ms mb mo mp mf mn mi mc mq mr mw mk ml 0 ma mx mh) := hD
  refine lv_aload_n hx hb dX10_lookout_5 rfl (lv_at hl 0 rfl) ?_
  refine z_calli hP hD hS hA (va_runV (As := []) (rest := []) hC (c_X10_outlook l D τ β δ ms mb mo mp mf mn mi mc mq mr mw mk ml 0 ma mx mh (by first | assumption | rfl | omega) _) (cwV 0 hts (gV hB wl_X10_233 wn_X10_outlook ws_X10_outlook wi_X10 wc_X10_outlook) rfl rfl rfl hd_X10_outlook ⟨Nat.le_of_ble_eq_true rfl, Nat.le_of_ble_eq_true rfl⟩) (zp_V hK hP hD hS hA hG (ci := 10) (q0 := 0) rfl rfl rfl) rfl rfl hl.1 rfl (lv_room (Nat.le_of_ble_eq_true rfl)) dX10_lookout_6 ⟨Nat.le_of_ble_eq_true rfl, Nat.le_of_ble_eq_true rfl⟩) (fun r w1 H locs hq9 hP hD hS => ?_)
  obtain ⟨v6_1, hv6_0, hv6_1, rfl, rfl⟩ := hq9
  have hP : va_P D vwCl (wM β δ ms mb mo mp mf mn mi mc mq mr mw mk ml 0 ma mx mh) H := hP
  have hD : va_D A (wM β δ ms mb mo mp mf mn mi mc mq mr mw mk ml 0 ma mx mh) := hD
  exact z_iret hC hr hlk hQ hP hD hS ⟨v6_1, (by first | assumption | rfl | omega), (by first | assumption | rfl | omega), rfl, rfl⟩ dX10_lookout_9

