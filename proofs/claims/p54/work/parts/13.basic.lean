abbrev wz_X9_isPoint : List Cond := .code yX9_isPoint cX9_isPoint 1 (some .boolean) :: W0
abbrev rm_X9_isPoint : Room := { frames := 0, cells := 0, slots := 0, locals := 0 }
theorem hd_X9_isPoint : yX9_isPoint.cls = RX9 ∧ yX9_isPoint.cls ≠ "java/lang/invoke/MethodHandle" ∧ yX9_isPoint.cls ≠ "java/lang/invoke/VarHandle" ∧ (parseMethodDescriptor yX9_isPoint.desc).map (fun d => d.parameters.length) = some 1 := by decide +kernel
set_option maxHeartbeats 4000000 in
set_option maxRecDepth 100000 in
theorem c_X9_isPoint (l : Launch) (D : va_G) (τ : Nat → Nat) (ws : va_W) (tys : List (ClassId × FieldType)) (a : Int) (ha : -2147483648 ≤ a ∧ a < 2147483648) : cM l yX9_isPoint wz_X9_isPoint rm_X9_isPoint D τ tys [.int (zI a)] (ws) (zQi (fun r w => ∃ (v : Bool), (v = true ↔ (0 ≤ a ∧ a < 49)) ∧ r = bI v ∧ ws = w)) := by
  refine z_ofM (cc := cX9_isPoint) (maxL := 1) (ret := (some .boolean)) (by decide +kernel) rfl (Nat.le_of_ble_eq_true rfl) ?_
  intro pg e s m args below meth c hC hr hlk hnm hK hP A hD hG hA hS ls hl Q hQ
  have hx := hC.1
  have hb := hC.2.1
  have hml := hC.2.2.1
  have hown := hC.2.2.2.1
  have hts := hC.2.2.2.2
  have hB : ∀ w ∈ W0, w ∈ wz_X9_isPoint := fun _ h => List.mem_cons_of_mem _ h
  have hW0 : ∀ w ∈ W0, w.before args s = true := fun w h => hts w (hB w h)
  have hl : lv_has ls 1 [(0, .int (zI a))] := hl
  refine lv_iload_n hx hb dX9_isPoint_0 rfl (lv_at hl 0 rfl) ?_
  refine z_iflt (tgt := 14) hx hb ⟨by omega, by omega⟩ dX9_isPoint_1 (by decide) (fun c_1 => ?_) (fun c_1 => ?_)
  · refine lv_iconst (v := zI 0) hx hb dX9_isPoint_14 rfl ?_
    refine W.eq (g2 := F0 m 15 ls [.int (bI false)]) rfl ?_
    exact z_zret hC hr hlk hQ hP hD hS ⟨false, (by constructor <;> intro h9 <;> first | (cases h9; done) | rfl | omega | assumption), rfl, rfl⟩ dX9_isPoint_15
  · refine lv_iload_n hx hb dX9_isPoint_4 rfl (lv_at hl 0 rfl) ?_
    refine lv_bipush (v := zI 49) hx hb dX9_isPoint_5 (zI_b8 (by decide)) ?_
    refine z_icge (tgt := 14) hx hb ⟨by omega, by omega⟩ ⟨by omega, by omega⟩ dX9_isPoint_7 (by decide) (fun c_7 => ?_) (fun c_7 => ?_)
    · refine lv_iconst (v := zI 0) hx hb dX9_isPoint_14 rfl ?_
      refine W.eq (g2 := F0 m 15 ls [.int (bI false)]) rfl ?_
      exact z_zret hC hr hlk hQ hP hD hS ⟨false, (by constructor <;> intro h9 <;> first | (cases h9; done) | rfl | omega | assumption), rfl, rfl⟩ dX9_isPoint_15
    · refine lv_iconst (v := zI 1) hx hb dX9_isPoint_10 rfl ?_
      refine lv_goto (tgt := 15) hx hb dX9_isPoint_11 (by decide) ?_
      refine W.eq (g2 := F0 m 15 ls [.int (bI true)]) rfl ?_
      exact z_zret hC hr hlk hQ hP hD hS ⟨true, (by constructor <;> intro h9 <;> first | (cases h9; done) | rfl | omega | assumption), rfl, rfl⟩ dX9_isPoint_15

abbrev wz_X9_pointAt : List Cond := .code yX9_pointAt cX9_pointAt 2 (some .int) :: W0
abbrev rm_X9_pointAt : Room := { frames := 0, cells := 0, slots := 0, locals := 0 }
theorem hd_X9_pointAt : yX9_pointAt.cls = RX9 ∧ yX9_pointAt.cls ≠ "java/lang/invoke/MethodHandle" ∧ yX9_pointAt.cls ≠ "java/lang/invoke/VarHandle" ∧ (parseMethodDescriptor yX9_pointAt.desc).map (fun d => d.parameters.length) = some 2 := by decide +kernel
set_option maxHeartbeats 4000000 in
set_option maxRecDepth 100000 in
theorem c_X9_pointAt (l : Launch) (D : va_G) (τ : Nat → Nat) (ws : va_W) (tys : List (ClassId × FieldType)) (a : Int) (b : Int) (ha : -2147483648 ≤ a ∧ a < 2147483648) (hb2 : -2147483648 ≤ b ∧ b < 2147483648) : cM l yX9_pointAt wz_X9_pointAt rm_X9_pointAt D τ tys [.int (zI a), .int (zI b)] (ws) (zQi (fun r w => ∃ (v : Int), (v = S_pointAt a b) ∧ (-1 ≤ v ∧ v < 49) ∧ r = zI v ∧ ws = w)) := by
  refine z_ofM (cc := cX9_pointAt) (maxL := 2) (ret := (some .int)) (by decide +kernel) rfl (Nat.le_of_ble_eq_true rfl) ?_
  intro pg e s m args below meth c hC hr hlk hnm hK hP A hD hG hA hS ls hl Q hQ
  have hx := hC.1
  have hb := hC.2.1
  have hml := hC.2.2.1
  have hown := hC.2.2.2.1
  have hts := hC.2.2.2.2
  have hB : ∀ w ∈ W0, w ∈ wz_X9_pointAt := fun _ h => List.mem_cons_of_mem _ h
  have hW0 : ∀ w ∈ W0, w.before args s = true := fun w h => hts w (hB w h)
  have hl : lv_has ls 2 [(0, .int (zI a)), (1, .int (zI b))] := hl
  refine lv_iload_n hx hb dX9_pointAt_0 rfl (lv_at hl 0 rfl) ?_
  refine z_iflt (tgt := 20) hx hb ⟨by omega, by omega⟩ dX9_pointAt_1 (by decide) (fun c_1 => ?_) (fun c_1 => ?_)
  · refine lv_iconst (v := zI (-1)) hx hb dX9_pointAt_20 rfl ?_
    exact z_iret hC hr hlk hQ hP hD hS ⟨(-1), (by unfold S_pointAt; split <;> omega), (by omega), rfl, rfl⟩ dX9_pointAt_21
  · refine lv_iload_n hx hb dX9_pointAt_4 rfl (lv_at hl 0 rfl) ?_
    refine lv_bipush (v := zI 7) hx hb dX9_pointAt_5 (zI_b8 (by decide)) ?_
    refine z_icge (tgt := 20) hx hb ⟨by omega, by omega⟩ ⟨by omega, by omega⟩ dX9_pointAt_7 (by decide) (fun c_7 => ?_) (fun c_7 => ?_)
    · refine lv_iconst (v := zI (-1)) hx hb dX9_pointAt_20 rfl ?_
      exact z_iret hC hr hlk hQ hP hD hS ⟨(-1), (by unfold S_pointAt; split <;> omega), (by omega), rfl, rfl⟩ dX9_pointAt_21
    · refine lv_iload_n hx hb dX9_pointAt_10 rfl (lv_at hl 1 rfl) ?_
      refine z_iflt (tgt := 20) hx hb ⟨by omega, by omega⟩ dX9_pointAt_11 (by decide) (fun c_11 => ?_) (fun c_11 => ?_)
      · refine lv_iconst (v := zI (-1)) hx hb dX9_pointAt_20 rfl ?_
        exact z_iret hC hr hlk hQ hP hD hS ⟨(-1), (by unfold S_pointAt; split <;> omega), (by omega), rfl, rfl⟩ dX9_pointAt_21
      · refine lv_iload_n hx hb dX9_pointAt_14 rfl (lv_at hl 1 rfl) ?_
        refine lv_bipush (v := zI 7) hx hb dX9_pointAt_15 (zI_b8 (by decide)) ?_
        refine z_iclt (tgt := 22) hx hb ⟨by omega, by omega⟩ ⟨by omega, by omega⟩ dX9_pointAt_17 (by decide) (fun c_17 => ?_) (fun c_17 => ?_)
        · refine lv_iload_n hx hb dX9_pointAt_22 rfl (lv_at hl 0 rfl) ?_
          refine lv_bipush (v := zI 7) hx hb dX9_pointAt_23 (zI_b8 (by decide)) ?_
          refine z_imul hx hb dX9_pointAt_25 ?_
          refine lv_iload_n hx hb dX9_pointAt_26 rfl (lv_at hl 1 rfl) ?_
          refine z_iadd hx hb dX9_pointAt_27 ?_
          exact z_iret hC hr hlk hQ hP hD hS ⟨(a * 7) + b, (by unfold S_pointAt; split <;> omega), (by omega), rfl, rfl⟩ dX9_pointAt_28
        · refine lv_iconst (v := zI (-1)) hx hb dX9_pointAt_20 rfl ?_
          exact z_iret hC hr hlk hQ hP hD hS ⟨(-1), (by unfold S_pointAt; split <;> omega), (by omega), rfl, rfl⟩ dX9_pointAt_21

abbrev wz_X9_stepFrom : List Cond := .code yX9_stepFrom cX9_stepFrom 2 (some .int) :: W0
abbrev rm_X9_stepFrom : Room := { frames := 1, cells := 0, slots := 0, locals := 21 }
theorem hd_X9_stepFrom : yX9_stepFrom.cls = RX9 ∧ yX9_stepFrom.cls ≠ "java/lang/invoke/MethodHandle" ∧ yX9_stepFrom.cls ≠ "java/lang/invoke/VarHandle" ∧ (parseMethodDescriptor yX9_stepFrom.desc).map (fun d => d.parameters.length) = some 2 := by decide +kernel
set_option maxHeartbeats 4000000 in
set_option maxRecDepth 100000 in
theorem c_X9_stepFrom (l : Launch) (D : va_G) (τ : Nat → Nat) (ws : va_W) (tys : List (ClassId × FieldType)) (a : Int) (b : Int) (ha : -2147483648 ≤ a ∧ a < 2147483648) (hb2 : -2147483648 ≤ b ∧ b < 2147483648) : cM l yX9_stepFrom wz_X9_stepFrom rm_X9_stepFrom D τ tys [.int (zI a), .int (zI b)] (ws) (zQi (fun r w => ∃ (v : Int), (v = S_step a b) ∧ (-1 ≤ v ∧ v < 49) ∧ r = zI v ∧ ws = w)) := by
  refine z_ofM (cc := cX9_stepFrom) (maxL := 2) (ret := (some .int)) (by decide +kernel) rfl (Nat.le_of_ble_eq_true rfl) ?_
  intro pg e s m args below meth c hC hr hlk hnm hK hP A hD hG hA hS ls hl Q hQ
  have hx := hC.1
  have hb := hC.2.1
  have hml := hC.2.2.1
  have hown := hC.2.2.2.1
  have hts := hC.2.2.2.2
  have hB : ∀ w ∈ W0, w ∈ wz_X9_stepFrom := fun _ h => List.mem_cons_of_mem _ h
  have hW0 : ∀ w ∈ W0, w.before args s = true := fun w h => hts w (hB w h)
  have hl : lv_has ls 2 [(0, .int (zI a)), (1, .int (zI b))] := hl
  refine lv_iload_n hx hb dX9_stepFrom_0 rfl (lv_at hl 0 rfl) ?_
  refine z_calli hP hD hS hA (va_runS (As := [.int (zI a)]) (rest := []) hC (c_X9_isPoint l D τ _ _ a (by assumption) _) (va_cwS 1 hts (gS hB wl_X9_359 wt_X9_isPoint wi_X9 wc_X9_isPoint) rfl rfl rfl hd_X9_isPoint.2 ⟨Nat.le_of_ble_eq_true rfl, Nat.le_of_ble_eq_true rfl⟩) (zp_S hK hP hD hS hA hG) rfl rfl hl.1 rfl (lv_room (Nat.le_of_ble_eq_true rfl)) dX9_stepFrom_1 ⟨Nat.le_of_ble_eq_true rfl, Nat.le_of_ble_eq_true rfl⟩) (fun r w1 H locs hq9 hP hD hS => ?_)
  obtain ⟨v1_1, hv1_0, rfl, rfl⟩ := hq9
  refine z_ifeqB (tgt := 27) hx hb dX9_stepFrom_4 (by decide) (fun c_4 => ?_) (fun c_4 => ?_)
  · have hb_4 := zb_neg hv1_0 c_4
    refine lv_iconst (v := zI (-1)) hx hb dX9_stepFrom_27 rfl ?_
    exact z_iret hC hr hlk hQ hP hD hS ⟨(-1), (by unfold S_step; rw [if_neg (by omega)]), (by omega), rfl, rfl⟩ dX9_stepFrom_28
  · have hb_4 := hv1_0.mp c_4
    refine lv_iload_n hx hb dX9_stepFrom_7 rfl (lv_at hl 1 rfl) ?_
    refine z_iflt (tgt := 27) hx hb ⟨by omega, by omega⟩ dX9_stepFrom_8 (by decide) (fun c_8 => ?_) (fun c_8 => ?_)
    · refine lv_iconst (v := zI (-1)) hx hb dX9_stepFrom_27 rfl ?_
      exact z_iret hC hr hlk hQ hP hD hS ⟨(-1), (by unfold S_step; rw [if_neg (by omega)]), (by omega), rfl, rfl⟩ dX9_stepFrom_28
    · refine lv_iload_n hx hb dX9_stepFrom_11 rfl (lv_at hl 1 rfl) ?_
      refine va_gets hx hb hG.1.1 hS hown (hW0 _ wf_X9_362) (fun _ h9 => h9) dX9_stepFrom_12 ?_
      refine va_tlen (v := zI 8) hx hb hG.1.2 hS rfl dX9_stepFrom_15 ?_
      refine z_icge (tgt := 27) hx hb ⟨by omega, by omega⟩ ⟨by omega, by omega⟩ dX9_stepFrom_16 (by decide) (fun c_16 => ?_) (fun c_16 => ?_)
      · refine lv_iconst (v := zI (-1)) hx hb dX9_stepFrom_27 rfl ?_
        exact z_iret hC hr hlk hQ hP hD hS ⟨(-1), (by unfold S_step; rw [if_neg (by omega)]), (by omega), rfl, rfl⟩ dX9_stepFrom_28
      · refine lv_iload_n hx hb dX9_stepFrom_19 rfl (lv_at hl 1 rfl) ?_
        refine va_gets hx hb hG.2.1.1 hS hown (hW0 _ wf_X9_365) (fun _ h9 => h9) dX9_stepFrom_20 ?_
        refine va_tlen (v := zI 8) hx hb hG.2.1.2 hS rfl dX9_stepFrom_23 ?_
        refine z_iclt (tgt := 29) hx hb ⟨by omega, by omega⟩ ⟨by omega, by omega⟩ dX9_stepFrom_24 (by decide) (fun c_24 => ?_) (fun c_24 => ?_)
        · refine lv_iload_n hx hb dX9_stepFrom_29 rfl (lv_at hl 0 rfl) ?_
          refine lv_bipush (v := zI 7) hx hb dX9_stepFrom_30 (zI_b8 (by decide)) ?_
          refine z_idiv hx hb ⟨⟨by omega, by omega⟩, by omega, by omega⟩ dX9_stepFrom_32 ?_
          refine va_gets hx hb hG.1.1 hS hown (hW0 _ wf_X9_362) (fun _ h9 => h9) dX9_stepFrom_33 ?_
          refine lv_iload_n hx hb dX9_stepFrom_36 rfl (lv_at hl 1 rfl) ?_
          refine z_ti hx hb hG.1.2 hS ⟨⟨by omega, by omega⟩, by decide⟩ dX9_stepFrom_37 ?_
          have hs_37 := ROWS_b b
          refine z_iadd hx hb dX9_stepFrom_38 ?_
          refine lv_iload_n hx hb dX9_stepFrom_39 rfl (lv_at hl 0 rfl) ?_
          refine lv_bipush (v := zI 7) hx hb dX9_stepFrom_40 (zI_b8 (by decide)) ?_
          refine z_irem hx hb ⟨⟨by omega, by omega⟩, by omega, by omega⟩ dX9_stepFrom_42 ?_
          refine va_gets hx hb hG.2.1.1 hS hown (hW0 _ wf_X9_365) (fun _ h9 => h9) dX9_stepFrom_43 ?_
          refine lv_iload_n hx hb dX9_stepFrom_46 rfl (lv_at hl 1 rfl) ?_
          refine z_ti hx hb hG.2.1.2 hS ⟨⟨by omega, by omega⟩, by decide⟩ dX9_stepFrom_47 ?_
          have hs_47 := COLS_b b
          refine z_iadd hx hb dX9_stepFrom_48 ?_
          refine z_calli hP hD hS hA (va_runS (As := [.int (zI ((a / 7) + (ROWS b))), .int (zI ((a % 7) + (COLS b)))]) (rest := []) hC (c_X9_pointAt l D τ _ _ ((a / 7) + (ROWS b)) ((a % 7) + (COLS b)) (by exact ⟨by omega, by omega⟩) (by exact ⟨by omega, by omega⟩) _) (va_cwS 2 hts (gS hB wl_X9_350 wt_X9_pointAt wi_X9 wc_X9_pointAt) rfl rfl rfl hd_X9_pointAt.2 ⟨Nat.le_of_ble_eq_true rfl, Nat.le_of_ble_eq_true rfl⟩) (zp_S hK hP hD hS hA hG) rfl rfl hl.1 rfl (lv_room (Nat.le_of_ble_eq_true rfl)) dX9_stepFrom_49 ⟨Nat.le_of_ble_eq_true rfl, Nat.le_of_ble_eq_true rfl⟩) (fun r w1 H locs hq9 hP hD hS => ?_)
          obtain ⟨v49_2, hv49_0, hv49_1, rfl, rfl⟩ := hq9
          exact z_iret hC hr hlk hQ hP hD hS ⟨v49_2, (by rw [hv49_0]; unfold S_step; rw [if_pos (by omega)]), (by omega), rfl, rfl⟩ dX9_stepFrom_52
        · refine lv_iconst (v := zI (-1)) hx hb dX9_stepFrom_27 rfl ?_
          exact z_iret hC hr hlk hQ hP hD hS ⟨(-1), (by unfold S_step; rw [if_neg (by omega)]), (by omega), rfl, rfl⟩ dX9_stepFrom_28

abbrev wz_X9_isBorder : List Cond := .code yX9_isBorder cX9_isBorder 3 (some .boolean) :: W0
abbrev rm_X9_isBorder : Room := { frames := 0, cells := 0, slots := 0, locals := 0 }
theorem hd_X9_isBorder : yX9_isBorder.cls = RX9 ∧ yX9_isBorder.cls ≠ "java/lang/invoke/MethodHandle" ∧ yX9_isBorder.cls ≠ "java/lang/invoke/VarHandle" ∧ (parseMethodDescriptor yX9_isBorder.desc).map (fun d => d.parameters.length) = some 1 := by decide +kernel
set_option maxHeartbeats 4000000 in
set_option maxRecDepth 100000 in
theorem c_X9_isBorder (l : Launch) (D : va_G) (τ : Nat → Nat) (ws : va_W) (tys : List (ClassId × FieldType)) (a : Int) (ha : 0 ≤ a ∧ a < 49) : cM l yX9_isBorder wz_X9_isBorder rm_X9_isBorder D τ tys [.int (zI a)] (ws) (zQi (fun r w => ∃ (v : Bool), (v = true ↔ (a < 7 ∨ 42 ≤ a ∨ a % 7 = 0 ∨ a % 7 = 6)) ∧ r = bI v ∧ ws = w)) := by
  refine z_ofM (cc := cX9_isBorder) (maxL := 3) (ret := (some .boolean)) (by decide +kernel) rfl (Nat.le_of_ble_eq_true rfl) ?_
  intro pg e s m args below meth c hC hr hlk hnm hK hP A hD hG hA hS ls hl Q hQ
  have hx := hC.1
  have hb := hC.2.1
  have hml := hC.2.2.1
  have hown := hC.2.2.2.1
  have hts := hC.2.2.2.2
  have hB : ∀ w ∈ W0, w ∈ wz_X9_isBorder := fun _ h => List.mem_cons_of_mem _ h
  have hW0 : ∀ w ∈ W0, w.before args s = true := fun w h => hts w (hB w h)
  have hl : lv_has ls 3 [(0, .int (zI a))] := hl
  refine lv_iload_n hx hb dX9_isBorder_0 rfl (lv_at hl 0 rfl) ?_
  refine lv_bipush (v := zI 7) hx hb dX9_isBorder_1 (zI_b8 (by decide)) ?_
  refine z_idiv hx hb ⟨⟨by omega, by omega⟩, by omega, by omega⟩ dX9_isBorder_3 ?_
  refine lv_istore_n (lv' := [(1, .int (zI (a / 7))), (0, .int (zI a))]) hx hb dX9_isBorder_4 rfl hl (by decide) rfl (fun ls hl => ?_)
  refine lv_iload_n hx hb dX9_isBorder_5 rfl (lv_at hl 1 rfl) ?_
  refine lv_bipush (v := zI 7) hx hb dX9_isBorder_6 (zI_b8 (by decide)) ?_
  refine z_irem hx hb ⟨⟨by omega, by omega⟩, by omega, by omega⟩ dX9_isBorder_8 ?_
  refine lv_istore_n (lv' := [(2, .int (zI (a % 7))), (1, .int (zI (a / 7))), (0, .int (zI a))]) hx hb dX9_isBorder_9 rfl hl (by decide) rfl (fun ls hl => ?_)
  refine lv_iload_n hx hb dX9_isBorder_10 rfl (lv_at hl 1 rfl) ?_
  refine z_ifeq (tgt := 30) hx hb ⟨by omega, by omega⟩ dX9_isBorder_11 (by decide) (fun c_11 => ?_) (fun c_11 => ?_)
  · refine lv_iconst (v := zI 1) hx hb dX9_isBorder_30 rfl ?_
    refine lv_goto (tgt := 35) hx hb dX9_isBorder_31 (by decide) ?_
    refine W.eq (g2 := F0 m 35 ls [.int (bI true)]) rfl ?_
    exact z_zret hC hr hlk hQ hP hD hS ⟨true, (by constructor <;> intro h9 <;> first | (cases h9; done) | rfl | omega | assumption), rfl, rfl⟩ dX9_isBorder_35
  · refine lv_iload_n hx hb dX9_isBorder_14 rfl (lv_at hl 1 rfl) ?_
    refine lv_bipush (v := zI 6) hx hb dX9_isBorder_15 (zI_b8 (by decide)) ?_
    refine z_iceq (tgt := 30) hx hb ⟨by omega, by omega⟩ ⟨by omega, by omega⟩ dX9_isBorder_17 (by decide) (fun c_17 => ?_) (fun c_17 => ?_)
    · refine lv_iconst (v := zI 1) hx hb dX9_isBorder_30 rfl ?_
      refine lv_goto (tgt := 35) hx hb dX9_isBorder_31 (by decide) ?_
      refine W.eq (g2 := F0 m 35 ls [.int (bI true)]) rfl ?_
      exact z_zret hC hr hlk hQ hP hD hS ⟨true, (by constructor <;> intro h9 <;> first | (cases h9; done) | rfl | omega | assumption), rfl, rfl⟩ dX9_isBorder_35
    · refine lv_iload_n hx hb dX9_isBorder_20 rfl (lv_at hl 0 rfl) ?_
      refine z_ifeq (tgt := 30) hx hb ⟨by omega, by omega⟩ dX9_isBorder_21 (by decide) (fun c_21 => ?_) (fun c_21 => ?_)
      · refine lv_iconst (v := zI 1) hx hb dX9_isBorder_30 rfl ?_
        refine lv_goto (tgt := 35) hx hb dX9_isBorder_31 (by decide) ?_
        refine W.eq (g2 := F0 m 35 ls [.int (bI true)]) rfl ?_
        exact z_zret hC hr hlk hQ hP hD hS ⟨true, (by constructor <;> intro h9 <;> first | (cases h9; done) | rfl | omega | assumption), rfl, rfl⟩ dX9_isBorder_35
      · refine lv_iload_n hx hb dX9_isBorder_24 rfl (lv_at hl 0 rfl) ?_
        refine lv_bipush (v := zI 6) hx hb dX9_isBorder_25 (zI_b8 (by decide)) ?_
        refine z_icne (tgt := 34) hx hb ⟨by omega, by omega⟩ ⟨by omega, by omega⟩ dX9_isBorder_27 (by decide) (fun c_27 => ?_) (fun c_27 => ?_)
        · refine lv_iconst (v := zI 0) hx hb dX9_isBorder_34 rfl ?_
          refine W.eq (g2 := F0 m 35 ls [.int (bI false)]) rfl ?_
          exact z_zret hC hr hlk hQ hP hD hS ⟨false, (by constructor <;> intro h9 <;> first | (cases h9; done) | rfl | omega | assumption), rfl, rfl⟩ dX9_isBorder_35
        · refine lv_iconst (v := zI 1) hx hb dX9_isBorder_30 rfl ?_
          refine lv_goto (tgt := 35) hx hb dX9_isBorder_31 (by decide) ?_
          refine W.eq (g2 := F0 m 35 ls [.int (bI true)]) rfl ?_
          exact z_zret hC hr hlk hQ hP hD hS ⟨true, (by constructor <;> intro h9 <;> first | (cases h9; done) | rfl | omega | assumption), rfl, rfl⟩ dX9_isBorder_35

abbrev wz_X6_at : List Cond := .code yX6_at cX6_at 2 (some .int) :: W0
abbrev rm_X6_at : Room := { frames := 1, cells := 0, slots := 0, locals := 20 }
theorem hd_X6_at : yX6_at.cls = RX6 ∧ yX6_at.cls ≠ "java/lang/invoke/MethodHandle" ∧ yX6_at.cls ≠ "java/lang/invoke/VarHandle" ∧ (parseMethodDescriptor yX6_at.desc).map (fun d => d.parameters.length) = some 1 := by decide +kernel
set_option maxHeartbeats 4000000 in
set_option maxRecDepth 100000 in
theorem c_X6_at (l : Launch) (D : va_G) (τ : Nat → Nat) (α : Nat → Nat) (γ : Nat → ClassId) (h : IA) (old : IA) (ch : IA) (rg : TRg) (ln : TLn) (sl : TSl) (pd : TPd) (ct : TCt) (sg : TSg) (od : TOd) (hs : THs) (a : Int) (ha : -2147483648 ≤ a ∧ a < 2147483648) (hh : ∀ k, 0 ≤ k → k < 49 → 0 ≤ h k ∧ h k ≤ 99) : cM l yX6_at wz_X6_at rm_X6_at D τ (tyH γ) [.ref (α 1), .int (zI a)] (wH α γ (h, old, ch) rg ln sl pd ct sg od hs) (zQi (fun r w => ∃ (v : Int), (v = S_at h a) ∧ (0 ≤ v ∧ v ≤ 99) ∧ (0 ≤ a ∧ a < 49 → v = h a) ∧ r = zI v ∧ wH α γ (h, old, ch) rg ln sl pd ct sg od hs = w)) := by
  refine z_ofM (cc := cX6_at) (maxL := 2) (ret := (some .int)) (by decide +kernel) rfl (Nat.le_of_ble_eq_true rfl) ?_
  intro pg e s m args below meth c hC hr hlk hnm hK hP A hD hG hA hS ls hl Q hQ
  have hx := hC.1
  have hb := hC.2.1
  have hml := hC.2.2.1
  have hown := hC.2.2.2.1
  have hts := hC.2.2.2.2
  have hB : ∀ w ∈ W0, w ∈ wz_X6_at := fun _ h => List.mem_cons_of_mem _ h
  have hW0 : ∀ w ∈ W0, w.before args s = true := fun w h => hts w (hB w h)
  have hl : lv_has ls 2 [(0, .ref (α 1)), (1, .int (zI a))] := hl
  refine lv_iload_n hx hb dX6_at_0 rfl (lv_at hl 1 rfl) ?_
  refine z_calli hP hD hS hA (va_runSN (As := [.int (zI a)]) (rest := []) hC (c_X9_isPoint l D τ _ _ a (by first | assumption | rfl | omega) _) ⟨va_cnB 1 hts (gC hB wc_X9_isPoint) rfl rfl rfl (hG.2.2.2.2.2.2.2 _ (List.mem_of_getElem? (i := 9) rfl)) (hW0 _ wi_X9) hd_X9_isPoint.2 ⟨Nat.le_of_ble_eq_true rfl, Nat.le_of_ble_eq_true rfl⟩, (hW0 _ wt_X9_isPoint), trivial⟩ (zp_S hK hP hD hS hA hG) rfl rfl hl.1 rfl (lv_room (Nat.le_of_ble_eq_true rfl)) dX6_at_1 ⟨Nat.le_of_ble_eq_true rfl, Nat.le_of_ble_eq_true rfl⟩) (fun r w1 H locs hq9 hP hD hS => ?_)
  obtain ⟨v1_1, hv1_0, rfl, rfl⟩ := hq9
  refine z_ifeqB (tgt := 16) hx hb dX6_at_4 (by decide) (fun c_4 => ?_) (fun c_4 => ?_)
  · have hb_4 := zb_neg hv1_0 c_4
    refine lv_iconst (v := zI 0) hx hb dX6_at_16 rfl ?_
    exact z_iret hC hr hlk hQ hP hD hS ⟨0, (by unfold S_at; first | (rw [if_pos (by omega)]; done) | (rw [if_neg (by omega)]; done)), (by first | assumption | rfl | omega), (by first | assumption | rfl | omega), rfl, rfl⟩ dX6_at_17
  · have hb_4 := hv1_0.mp c_4
    refine lv_aload_n hx hb dX6_at_7 rfl (lv_at hl 0 rfl) ?_
    refine va_get (D := D) (ci := 6) (v := .ref (α 10)) (C := RX6) (T := TX6) (N := 3) hx hb hts (fun w h => List.mem_cons_of_mem _ (wx_X6 w h)) hown hK hP 1 rfl rfl 0 (by decide) (hW0 _ wf_X6_9) (fun _ h9 => h9) rfl dX6_at_8 ?_
    refine lv_iload_n hx hb dX6_at_11 rfl (lv_at hl 1 rfl) ?_
    refine z_iald (f := h) hx hb hK hP 10 0 rfl rfl ⟨⟨by omega, by omega⟩, by decide⟩ dX6_at_12 ?_
    have hb_12 := hh a (by omega) (by omega)
    refine lv_goto (tgt := 17) hx hb dX6_at_13 (by decide) ?_
    exact z_iret hC hr hlk hQ hP hD hS ⟨h a, (by unfold S_at; first | (rw [if_pos (by omega)]; done) | (rw [if_neg (by omega)]; done)), (by first | assumption | rfl | omega), (by first | assumption | rfl | omega), rfl, rfl⟩ dX6_at_17

abbrev wz_X6_put : List Cond := .code yX6_put cX6_put 3 none :: W0
abbrev rm_X6_put : Room := { frames := 1, cells := 0, slots := 0, locals := 21 }
theorem hd_X6_put : yX6_put.cls = RX6 ∧ yX6_put.cls ≠ "java/lang/invoke/MethodHandle" ∧ yX6_put.cls ≠ "java/lang/invoke/VarHandle" ∧ (parseMethodDescriptor yX6_put.desc).map (fun d => d.parameters.length) = some 2 := by decide +kernel
set_option maxHeartbeats 4000000 in
set_option maxRecDepth 100000 in
theorem c_X6_put (l : Launch) (D : va_G) (τ : Nat → Nat) (α : Nat → Nat) (γ : Nat → ClassId) (h : IA) (old : IA) (ch : IA) (rg : TRg) (ln : TLn) (sl : TSl) (pd : TPd) (ct : TCt) (sg : TSg) (od : TOd) (hs : THs) (a : Int) (b : Int) (ha : -2147483648 ≤ a ∧ a < 2147483648) (hb2 : -2147483648 ≤ b ∧ b < 2147483648) : cM l yX6_put wz_X6_put rm_X6_put D τ (tyH γ) [.ref (α 1), .int (zI a), .int (zI b)] (wH α γ (h, old, ch) rg ln sl pd ct sg od hs) (zQv (fun w => ∃ (h2 : IA), (h2 = S_put h a b) ∧ wH α γ (h2, old, ch) rg ln sl pd ct sg od hs = w)) := by
  refine z_ofM (cc := cX6_put) (maxL := 3) (ret := none) (by decide +kernel) rfl (Nat.le_of_ble_eq_true rfl) ?_
  intro pg e s m args below meth c hC hr hlk hnm hK hP A hD hG hA hS ls hl Q hQ
  have hx := hC.1
  have hb := hC.2.1
  have hml := hC.2.2.1
  have hown := hC.2.2.2.1
  have hts := hC.2.2.2.2
  have hB : ∀ w ∈ W0, w ∈ wz_X6_put := fun _ h => List.mem_cons_of_mem _ h
  have hW0 : ∀ w ∈ W0, w.before args s = true := fun w h => hts w (hB w h)
  have hl : lv_has ls 3 [(0, .ref (α 1)), (1, .int (zI a)), (2, .int (zI b))] := hl
  refine lv_iload_n hx hb dX6_put_0 rfl (lv_at hl 1 rfl) ?_
  refine z_calli hP hD hS hA (va_runSN (As := [.int (zI a)]) (rest := []) hC (c_X9_isPoint l D τ _ _ a (by first | assumption | rfl | omega) _) ⟨va_cnB 1 hts (gC hB wc_X9_isPoint) rfl rfl rfl (hG.2.2.2.2.2.2.2 _ (List.mem_of_getElem? (i := 9) rfl)) (hW0 _ wi_X9) hd_X9_isPoint.2 ⟨Nat.le_of_ble_eq_true rfl, Nat.le_of_ble_eq_true rfl⟩, (hW0 _ wt_X9_isPoint), trivial⟩ (zp_S hK hP hD hS hA hG) rfl rfl hl.1 rfl (lv_room (Nat.le_of_ble_eq_true rfl)) dX6_put_1 ⟨Nat.le_of_ble_eq_true rfl, Nat.le_of_ble_eq_true rfl⟩) (fun r w1 H locs hq9 hP hD hS => ?_)
  obtain ⟨v1_1, hv1_0, rfl, rfl⟩ := hq9
  refine z_ifeqB (tgt := 23) hx hb dX6_put_4 (by decide) (fun c_4 => ?_) (fun c_4 => ?_)
  · have hb_4 := zb_neg hv1_0 c_4
    exact z_vret hC hr hlk hQ hP hD hS ⟨h, (by unfold S_put; first | (rw [if_pos (by omega)]; subst_vars; rfl) | (rw [if_neg (by omega)]; done)), rfl⟩ dX6_put_23
  · have hb_4 := hv1_0.mp c_4
    refine lv_aload_n hx hb dX6_put_7 rfl (lv_at hl 0 rfl) ?_
    refine va_get (D := D) (ci := 6) (v := .ref (α 10)) (C := RX6) (T := TX6) (N := 3) hx hb hts (fun w h => List.mem_cons_of_mem _ (wx_X6 w h)) hown hK hP 1 rfl rfl 0 (by decide) (hW0 _ wf_X6_9) (fun _ h9 => h9) rfl dX6_put_8 ?_
    refine lv_iload_n hx hb dX6_put_11 rfl (lv_at hl 1 rfl) ?_
    refine lv_iconst (v := zI 0) hx hb dX6_put_12 rfl ?_
    refine lv_bipush (v := zI 99) hx hb dX6_put_13 (zI_b8 (by decide)) ?_
    refine lv_iload_n hx hb dX6_put_15 rfl (lv_at hl 2 rfl) ?_
    refine z_mmin hx hb (hml.trans hl.1.symm) hown (hW0 _ wl_X6_25) (hW0 _ wt_Lib_Math_min_name) (hW0 _ wi_Math) (hW0 _ wc_Lib_Math_min_name) (Nat.le_of_ble_eq_true rfl) (Nat.le_of_ble_eq_true rfl) (Nat.le_of_ble_eq_true rfl) (Nat.le_of_ble_eq_true rfl) ⟨by omega, by omega⟩ ⟨by omega, by omega⟩ dX6_put_16 ?_
    obtain ⟨x16_2, hx16_2⟩ : ∃ z : Int, z = zmin 99 b := ⟨_, rfl⟩
    rw [← hx16_2]
    have kx16_2 := zmin_spec 99 b
    rw [← hx16_2] at kx16_2
    refine z_mmax hx hb (hml.trans hl.1.symm) hown (hW0 _ wl_X6_31) (hW0 _ wt_Lib_Math_max_name) (hW0 _ wi_Math) (hW0 _ wc_Lib_Math_max_name) (Nat.le_of_ble_eq_true rfl) (Nat.le_of_ble_eq_true rfl) (Nat.le_of_ble_eq_true rfl) (Nat.le_of_ble_eq_true rfl) ⟨by omega, by omega⟩ ⟨by omega, by omega⟩ dX6_put_19 ?_
    obtain ⟨x19_3, hx19_3⟩ : ∃ z : Int, z = zmax 0 x16_2 := ⟨_, rfl⟩
    rw [← hx19_3]
    have kx19_3 := zmax_spec 0 x16_2
    rw [← hx19_3] at kx19_3
    refine z_iast (f := h) (v := x19_3) hx hb hK hP hD hS 10 0 rfl rfl ⟨⟨by omega, by omega⟩, by decide⟩ dX6_put_22 (fun H locs hP hD hS => ?_)
    have hP : va_P D vwCl (wH α γ (zu h a x19_3, old, ch) rg ln sl pd ct sg od hs) H := hP
    have hD : va_D A (wH α γ (zu h a x19_3, old, ch) rg ln sl pd ct sg od hs) := hD
    exact z_vret hC hr hlk hQ hP hD hS ⟨zu h a x19_3, (by unfold S_put; first | (rw [if_pos (by omega)]; subst_vars; rfl) | (rw [if_neg (by omega)]; done)), rfl⟩ dX6_put_23

abbrev wz_X6_remember : List Cond := .code yX6_remember cX6_remember 1 none :: W0
abbrev rm_X6_remember : Room := { frames := 1, cells := 0, slots := 0, locals := 32 }
theorem hd_X6_remember : yX6_remember.cls = RX6 ∧ yX6_remember.cls ≠ "java/lang/invoke/MethodHandle" ∧ yX6_remember.cls ≠ "java/lang/invoke/VarHandle" ∧ (parseMethodDescriptor yX6_remember.desc).map (fun d => d.parameters.length) = some 0 := by decide +kernel
set_option maxHeartbeats 4000000 in
set_option maxRecDepth 100000 in
theorem c_X6_remember (l : Launch) (D : va_G) (τ : Nat → Nat) (α : Nat → Nat) (γ : Nat → ClassId) (h : IA) (old : IA) (ch : IA) (rg : TRg) (ln : TLn) (sl : TSl) (pd : TPd) (ct : TCt) (sg : TSg) (od : TOd) (hs : THs) : cM l yX6_remember wz_X6_remember rm_X6_remember D τ (tyH γ) [.ref (α 1)] (wH α γ (h, old, ch) rg ln sl pd ct sg od hs) (zQv (fun w => ∃ (o2 : IA), (o2 = zmix 49 h old) ∧ wH α γ (h, o2, ch) rg ln sl pd ct sg od hs = w)) := by
  refine z_ofM (cc := cX6_remember) (maxL := 1) (ret := none) (by decide +kernel) rfl (Nat.le_of_ble_eq_true rfl) ?_
  intro pg e s m args below meth c hC hr hlk hnm hK hP A hD hG hA hS ls hl Q hQ
  have hx := hC.1
  have hb := hC.2.1
  have hml := hC.2.2.1
  have hown := hC.2.2.2.1
  have hts := hC.2.2.2.2
  have hB : ∀ w ∈ W0, w ∈ wz_X6_remember := fun _ h => List.mem_cons_of_mem _ h
  have hW0 : ∀ w ∈ W0, w.before args s = true := fun w h => hts w (hB w h)
  have hl : lv_has ls 1 [(0, .ref (α 1))] := hl
  refine lv_aload_n hx hb dX6_remember_0 rfl (lv_at hl 0 rfl) ?_
  refine va_get (D := D) (ci := 6) (v := .ref (α 10)) (C := RX6) (T := TX6) (N := 3) hx hb hts (fun w h => List.mem_cons_of_mem _ (wx_X6 w h)) hown hK hP 1 rfl rfl 0 (by decide) (hW0 _ wf_X6_9) (fun _ h9 => h9) rfl dX6_remember_1 ?_
  refine lv_iconst (v := zI 0) hx hb dX6_remember_4 rfl ?_
  refine lv_aload_n hx hb dX6_remember_5 rfl (lv_at hl 0 rfl) ?_
  refine va_get (D := D) (ci := 6) (v := .ref (α 11)) (C := RX6) (T := TX6) (N := 3) hx hb hts (fun w h => List.mem_cons_of_mem _ (wx_X6 w h)) hown hK hP 1 rfl rfl 1 (by decide) (hW0 _ wf_X6_15) (fun _ h9 => h9) rfl dX6_remember_6 ?_
  refine lv_iconst (v := zI 0) hx hb dX6_remember_9 rfl ?_
  refine lv_bipush (v := zI 49) hx hb dX6_remember_10 (zI_b8 (by decide)) ?_
  refine z_copyi hx hb (hml.trans hl.1.symm) hown (hW0 _ wl_X6_69) (hW0 _ wna_arraycopyName) (hW0 _ wt_arraycopyName) (hW0 _ wi_System) hK hP hD hS 10 11 0 1 rfl rfl rfl rfl ⟨by omega, by omega, by omega, by omega, by omega⟩ (Nat.le_of_ble_eq_true rfl) (Nat.le_of_ble_eq_true rfl) dX6_remember_12 (fun H locs hP hD hS => ?_)
  have hP : va_P D vwCl (wH α γ (h, zcpy h old 0 0 49, ch) rg ln sl pd ct sg od hs) H := hP
  have hD : va_D A (wH α γ (h, zcpy h old 0 0 49, ch) rg ln sl pd ct sg od hs) := hD
  exact z_vret hC hr hlk hQ hP hD hS ⟨zcpy h old 0 0 49, (by exact zcpy_mix _ _ _), rfl⟩ dX6_remember_15

abbrev wz_X6_countChanged : List Cond := .code yX6_countChanged cX6_countChanged 3 (some .int) :: W0
abbrev rm_X6_countChanged : Room := { frames := 0, cells := 0, slots := 0, locals := 0 }
theorem hd_X6_countChanged : yX6_countChanged.cls = RX6 ∧ yX6_countChanged.cls ≠ "java/lang/invoke/MethodHandle" ∧ yX6_countChanged.cls ≠ "java/lang/invoke/VarHandle" ∧ (parseMethodDescriptor yX6_countChanged.desc).map (fun d => d.parameters.length) = some 0 := by decide +kernel
set_option maxHeartbeats 4000000 in
set_option maxRecDepth 100000 in
theorem c_X6_countChanged (l : Launch) (D : va_G) (τ : Nat → Nat) (α : Nat → Nat) (γ : Nat → ClassId) (h : IA) (old : IA) (ch : IA) (rg : TRg) (ln : TLn) (sl : TSl) (pd : TPd) (ct : TCt) (sg : TSg) (od : TOd) (hs : THs) (hh : ∀ k, 0 ≤ k → k < 49 → 0 ≤ h k ∧ h k ≤ 99) (ho : ∀ k, 0 ≤ k → k < 49 → 0 ≤ old k ∧ old k ≤ 99) : cM l yX6_countChanged wz_X6_countChanged rm_X6_countChanged D τ (tyH γ) [.ref (α 1)] (wH α γ (h, old, ch) rg ln sl pd ct sg od hs) (zQi (fun r w => ∃ (v : Int), (v = S_diff h old) ∧ (0 ≤ v ∧ v ≤ 49) ∧ r = zI v ∧ wH α γ (h, old, ch) rg ln sl pd ct sg od hs = w)) := by
  refine z_ofM (cc := cX6_countChanged) (maxL := 3) (ret := (some .int)) (by decide +kernel) rfl (Nat.le_of_ble_eq_true rfl) ?_
  intro pg e s m args below meth c hC hr hlk hnm hK hP A hD hG hA hS ls hl Q hQ
  have hx := hC.1
  have hb := hC.2.1
  have hml := hC.2.2.1
  have hown := hC.2.2.2.1
  have hts := hC.2.2.2.2
  have hB : ∀ w ∈ W0, w ∈ wz_X6_countChanged := fun _ h => List.mem_cons_of_mem _ h
  have hW0 : ∀ w ∈ W0, w.before args s = true := fun w h => hts w (hB w h)
  have hl : lv_has ls 3 [(0, .ref (α 1))] := hl
  refine lv_iconst (v := zI 0) hx hb dX6_countChanged_0 rfl ?_
  refine lv_istore_n (lv' := [(1, .int (zI 0)), (0, .ref (α 1))]) hx hb dX6_countChanged_1 rfl hl (by decide) rfl (fun ls hl => ?_)
  refine lv_iconst (v := zI 0) hx hb dX6_countChanged_2 rfl ?_
  refine lv_istore_n (lv' := [(2, .int (zI 0)), (1, .int (zI 0)), (0, .ref (α 1))]) hx hb dX6_countChanged_3 rfl hl (by decide) rfl (fun ls hl => ?_)
  suffices HL_4 : ∀ (n_4 : Nat), ∀ (cn : Int) (i : Int) (H : Heap) (locs : List Loc) (hP : va_P D vwCl (wH α γ (h, old, ch) rg ln sl pd ct sg od hs) H) (hD : va_D A (wH α γ (h, old, ch) rg ln sl pd ct sg od hs)) (hS : va_S A s.heap H locs) (ls : Array Slot) (hl : lv_has ls 3 [(1, .int (zI cn)), (2, .int (zI i)), (0, .ref (α 1))]) (hi : 0 ≤ i ∧ i ≤ 49) (hc : cn = zC (fun k => !decide (h k = old k)) i) (hcb : 0 ≤ cn ∧ cn ≤ i) (hm : (49 - i).toNat < n_4), W pg l e rm_X6_countChanged s m args below meth c H locs 0 0 Q (F0 m 4 ls []) from HL_4 _ 0 0 _ _ hP hD hS _ (lv_sub hl [1, 0, 2] rfl) (by first | assumption | rfl | omega) (by exact (zC_0 _).symm) (by first | assumption | rfl | omega) (Nat.lt_succ_self _)
  intro n_4
  induction n_4 with
  | zero => intro cn i H locs hP hD hS ls hl hi hc hcb hm; exact absurd hm (Nat.not_lt_zero _)
  | succ n_4 ih_4 =>
    intro cn i H locs hP hD hS ls hl hi hc hcb hm
    refine lv_iload_n hx hb dX6_countChanged_4 rfl (lv_at hl 1 rfl) ?_
    refine lv_bipush (v := zI 49) hx hb dX6_countChanged_5 (zI_b8 (by decide)) ?_
    refine z_icge (tgt := 34) hx hb ⟨by omega, by omega⟩ ⟨by omega, by omega⟩ dX6_countChanged_7 (by decide) (fun c_7 => ?_) (fun c_7 => ?_)
    · refine lv_iload_n hx hb dX6_countChanged_34 rfl (lv_at hl 0 rfl) ?_
      exact z_iret hC hr hlk hQ hP hD hS ⟨cn, (by rw [hc, show i = 49 by omega]; rfl), (by first | assumption | rfl | omega), rfl, rfl⟩ dX6_countChanged_35
    · refine lv_aload_n hx hb dX6_countChanged_10 rfl (lv_at hl 2 rfl) ?_
      refine va_get (D := D) (ci := 6) (v := .ref (α 10)) (C := RX6) (T := TX6) (N := 3) hx hb hts (fun w h => List.mem_cons_of_mem _ (wx_X6 w h)) hown hK hP 1 rfl rfl 0 (by decide) (hW0 _ wf_X6_9) (fun _ h9 => h9) rfl dX6_countChanged_11 ?_
      refine lv_iload_n hx hb dX6_countChanged_14 rfl (lv_at hl 1 rfl) ?_
      refine z_iald (f := h) hx hb hK hP 10 0 rfl rfl ⟨⟨by omega, by omega⟩, by decide⟩ dX6_countChanged_15 ?_
      have hb_15 := hh i (by omega) (by omega)
      refine lv_aload_n hx hb dX6_countChanged_16 rfl (lv_at hl 2 rfl) ?_
      refine va_get (D := D) (ci := 6) (v := .ref (α 11)) (C := RX6) (T := TX6) (N := 3) hx hb hts (fun w h => List.mem_cons_of_mem _ (wx_X6 w h)) hown hK hP 1 rfl rfl 1 (by decide) (hW0 _ wf_X6_15) (fun _ h9 => h9) rfl dX6_countChanged_17 ?_
      refine lv_iload_n hx hb dX6_countChanged_20 rfl (lv_at hl 1 rfl) ?_
      refine z_iald (f := old) hx hb hK hP 11 1 rfl rfl ⟨⟨by omega, by omega⟩, by decide⟩ dX6_countChanged_21 ?_
      have hb_21 := ho i (by omega) (by omega)
      refine z_iceq (tgt := 28) hx hb ⟨by omega, by omega⟩ ⟨by omega, by omega⟩ dX6_countChanged_22 (by decide) (fun c_22 => ?_) (fun c_22 => ?_)
      · refine z_iinc (k := 1) (v := i + 1) (lv' := [(2, .int (zI (i + 1))), (1, .int (zI cn)), (0, .ref (α 1))]) hx hb dX6_countChanged_28 hl rfl rfl (by decide) rfl (fun ls hl => ?_)
        refine lv_goto (tgt := 4) hx hb dX6_countChanged_31 (by decide) ?_
        exact ih_4 cn (i + 1) _ _ hP hD hS _ (lv_sub hl [1, 0, 2] rfl) (by first | assumption | rfl | omega) (by first | (rw [zC_up hi.1, ← hc, z1_f (by simp [c_22])]; omega) | (rw [zC_up hi.1, ← hc, z1_t (by simp [c_22])])) (by first | assumption | rfl | omega) (by omega)
      · refine z_iinc (k := 0) (v := cn + 1) (lv' := [(1, .int (zI (cn + 1))), (2, .int (zI i)), (0, .ref (α 1))]) hx hb dX6_countChanged_25 hl rfl rfl (by decide) rfl (fun ls hl => ?_)
        refine z_iinc (k := 1) (v := i + 1) (lv' := [(2, .int (zI (i + 1))), (1, .int (zI (cn + 1))), (0, .ref (α 1))]) hx hb dX6_countChanged_28 hl rfl rfl (by decide) rfl (fun ls hl => ?_)
        refine lv_goto (tgt := 4) hx hb dX6_countChanged_31 (by decide) ?_
        exact ih_4 (cn + 1) (i + 1) _ _ hP hD hS _ (lv_sub hl [1, 0, 2] rfl) (by first | assumption | rfl | omega) (by first | (rw [zC_up hi.1, ← hc, z1_f (by simp [c_22])]; omega) | (rw [zC_up hi.1, ← hc, z1_t (by simp [c_22])])) (by first | assumption | rfl | omega) (by omega)

