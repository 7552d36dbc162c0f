abbrev wz_X9_knownPoint : List Cond := .code yX9_knownPoint cX9_knownPoint 3 (some .int) :: W0
abbrev rm_X9_knownPoint : Room := { frames := 1, cells := 0, slots := 0, locals := 21 }
theorem hd_X9_knownPoint : yX9_knownPoint.cls = RX9 ∧ yX9_knownPoint.cls ≠ "java/lang/invoke/MethodHandle" ∧ yX9_knownPoint.cls ≠ "java/lang/invoke/VarHandle" ∧ (parseMethodDescriptor yX9_knownPoint.desc).map (fun d => d.parameters.length) = some 2 := by decide +kernel
set_option maxHeartbeats 4000000 in
set_option maxRecDepth 100000 in
theorem c_X9_knownPoint (l : Launch) (D : va_G) (τ : Nat → Nat) (ws : va_W) (tys : List (ClassId × FieldType)) (r9 : Int) (c9 : Int) (hin : ((0 ≤ r9 ∧ r9 ≤ 6) ∧ (0 ≤ c9 ∧ c9 ≤ 6))) : cM l yX9_knownPoint wz_X9_knownPoint rm_X9_knownPoint D τ tys [.int (zI r9), .int (zI c9)] (ws) (zQi (fun r w => ∃ (v : Int), (((0 ≤ r9 ∧ r9 ≤ 6) ∧ (0 ≤ c9 ∧ c9 ≤ 6))) ∧ (v = 7 * r9 + c9) ∧ (0 ≤ v ∧ v < 49) ∧ r = zI v ∧ ws = w)) := by
  refine z_ofM (cc := cX9_knownPoint) (maxL := 3) (ret := (some .int)) (by decide +kernel) rfl (Nat.le_of_ble_eq_true rfl) ?_
  intro pg e s m args below meth c hC hr hlk hnm hK hP A hD hG hA hS ls hl Q hQ
  have hx := hC.1
  have hb := hC.2.1
  have hml := hC.2.2.1
  have hown := hC.2.2.2.1
  have hts := hC.2.2.2.2
  have hB : ∀ w ∈ W0, w ∈ wz_X9_knownPoint := fun _ h => List.mem_cons_of_mem _ h
  have hW0 : ∀ w ∈ W0, w.before args s = true := fun w h => hts w (hB w h)
  have hl : lv_has ls 3 [(0, .int (zI r9)), (1, .int (zI c9))] := hl
  refine lv_iload_n hx hb dX9_knownPoint_0 rfl (lv_at hl 0 rfl) ?_
  refine lv_iload_n hx hb dX9_knownPoint_1 rfl (lv_at hl 1 rfl) ?_
  refine z_calli hP hD hS hA (va_runS (As := [.int (zI r9), .int (zI c9)]) (rest := []) hC (c_X9_pointAt l D τ _ _ r9 c9 (by first | assumption | rfl | omega) (by first | assumption | rfl | omega) _) (va_cwS 2 hts (gS hB wl_X9_350 wt_X9_pointAt wi_X9 wc_X9_pointAt) rfl rfl rfl hd_X9_pointAt.2 ⟨Nat.le_of_ble_eq_true rfl, Nat.le_of_ble_eq_true rfl⟩) (zp_S hK hP hD hS hA hG) rfl rfl hl.1 rfl (lv_room (Nat.le_of_ble_eq_true rfl)) dX9_knownPoint_2 ⟨Nat.le_of_ble_eq_true rfl, Nat.le_of_ble_eq_true rfl⟩) (fun r w1 H locs hq9 hP hD hS => ?_)
  obtain ⟨v2_1, hv2_0, hv2_1, rfl, rfl⟩ := hq9
  refine lv_istore_n (lv' := [(2, .int (zI v2_1)), (0, .int (zI r9)), (1, .int (zI c9))]) hx hb dX9_knownPoint_5 rfl hl (by decide) rfl (fun ls hl => ?_)
  refine lv_iload_n hx hb dX9_knownPoint_6 rfl (lv_at hl 0 rfl) ?_
  refine lv_iconst (v := zI (-1)) hx hb dX9_knownPoint_7 rfl ?_
  refine z_icne (tgt := 22) hx hb ⟨by omega, by omega⟩ ⟨by omega, by omega⟩ dX9_knownPoint_8 (by decide) (fun c_8 => ?_) (fun c_8 => ?_)
  · have hpt := pt_in hin
    refine lv_iload_n hx hb dX9_knownPoint_22 rfl (lv_at hl 0 rfl) ?_
    exact z_iret hC hr hlk hQ hP hD hS ⟨v2_1, (by exact hin), (by exact hv2_0.trans hpt.1), (by rw [hv2_0, hpt.1]; exact hpt.2), rfl, rfl⟩ dX9_knownPoint_23
  · exact absurd hin (pt_no.mp (hv2_0.symm.trans c_8))

abbrev wz_X9_checkLevel : List Cond := .code yX9_checkLevel cX9_checkLevel 1 none :: W0
abbrev rm_X9_checkLevel : Room := { frames := 0, cells := 0, slots := 0, locals := 0 }
theorem hd_X9_checkLevel : yX9_checkLevel.cls = RX9 ∧ yX9_checkLevel.cls ≠ "java/lang/invoke/MethodHandle" ∧ yX9_checkLevel.cls ≠ "java/lang/invoke/VarHandle" ∧ (parseMethodDescriptor yX9_checkLevel.desc).map (fun d => d.parameters.length) = some 1 := by decide +kernel
set_option maxHeartbeats 4000000 in
set_option maxRecDepth 100000 in
theorem c_X9_checkLevel (l : Launch) (D : va_G) (τ : Nat → Nat) (ws : va_W) (tys : List (ClassId × FieldType)) (lv9 : Int) (hlv : 0 ≤ lv9 ∧ lv9 ≤ 98) : cM l yX9_checkLevel wz_X9_checkLevel rm_X9_checkLevel D τ tys [.int (zI lv9)] (ws) (zQv (fun w => (0 ≤ lv9 ∧ lv9 ≤ 98) ∧ ws = w)) := by
  refine z_ofM (cc := cX9_checkLevel) (maxL := 1) (ret := none) (by decide +kernel) rfl (Nat.le_of_ble_eq_true rfl) ?_
  intro pg e s m args below meth c hC hr hlk hnm hK hP A hD hG hA hS ls hl Q hQ
  have hx := hC.1
  have hb := hC.2.1
  have hml := hC.2.2.1
  have hown := hC.2.2.2.1
  have hts := hC.2.2.2.2
  have hB : ∀ w ∈ W0, w ∈ wz_X9_checkLevel := fun _ h => List.mem_cons_of_mem _ h
  have hW0 : ∀ w ∈ W0, w.before args s = true := fun w h => hts w (hB w h)
  have hl : lv_has ls 1 [(0, .int (zI lv9))] := hl
  refine lv_iload_n hx hb dX9_checkLevel_0 rfl (lv_at hl 0 rfl) ?_
  refine z_iflt (tgt := 10) hx hb ⟨by omega, by omega⟩ dX9_checkLevel_1 (by decide) (fun c_1 => ?_) (fun c_1 => ?_)
  · exact absurd c_1 (by omega)
  · refine lv_iload_n hx hb dX9_checkLevel_4 rfl (lv_at hl 0 rfl) ?_
    refine lv_bipush (v := zI 98) hx hb dX9_checkLevel_5 (zI_b8 (by decide)) ?_
    refine z_icle (tgt := 21) hx hb ⟨by omega, by omega⟩ ⟨by omega, by omega⟩ dX9_checkLevel_7 (by decide) (fun c_7 => ?_) (fun c_7 => ?_)
    · exact z_vret hC hr hlk hQ hP hD hS ⟨(by exact hlv), rfl⟩ dX9_checkLevel_21
    · exact absurd c_7 (by omega)

abbrev wz_X9_set : List Cond := .code yX9_set cX9_set 6 (some .int) :: W0
abbrev rm_X9_set : Room := { frames := 3, cells := 0, slots := 0, locals := 76 }
theorem hd_X9_set : yX9_set.cls = RX9 ∧ yX9_set.cls ≠ "java/lang/invoke/MethodHandle" ∧ yX9_set.cls ≠ "java/lang/invoke/VarHandle" ∧ (parseMethodDescriptor yX9_set.desc).map (fun d => d.parameters.length) = some 3 := by decide +kernel
set_option maxHeartbeats 4000000 in
set_option maxRecDepth 100000 in
theorem c_X9_set (l : Launch) (D : va_G) (τ : Nat → Nat) (α : Nat → Nat) (γ : Nat → ClassId) (h : IA) (old : IA) (ch : IA) (rg : TRg) (ln : TLn) (sl : TSl) (pd : TPd) (ct : TCt) (sg : TSg) (od : TOd) (sv : IA) (sl9 : IA) (tk : BA) (ct9 : Int) (r9 : Int) (c9 : Int) (g9 : Int) (hr9 : 0 ≤ r9 ∧ r9 ≤ 6) (hc9 : 0 ≤ c9 ∧ c9 ≤ 6) (hg9 : 0 ≤ g9 ∧ g9 ≤ 99) (hh : ∀ k, 0 ≤ k → k < 49 → 0 ≤ h k ∧ h k ≤ 99) (hct : 0 ≤ ct9 ∧ ct9 ≤ 6) : cM l yX9_set wz_X9_set rm_X9_set D τ (tyH γ) [.ref (α 0), .int (zI r9), .int (zI c9), .int (zI g9)] (wH α γ (h, old, ch) rg ln sl pd ct sg od (sv, sl9, tk, ct9)) (zQi (fun r w => ∃ (h2 : IA), ∃ (s2 : IA), ∃ (c2 : Int), ∃ (v : Int), (True) ∧ (v = h (7 * r9 + c9)) ∧ (h2 = zu h (7 * r9 + c9) g9) ∧ (s2 = S_sv sv h ct9) ∧ (c2 = S_svC ct9) ∧ r = zI v ∧ wH α γ (h2, old, ch) rg ln sl pd ct sg od (s2, sl9, tk, c2) = w)) := by
  refine z_ofM (cc := cX9_set) (maxL := 6) (ret := (some .int)) (by decide +kernel) rfl (Nat.le_of_ble_eq_true rfl) ?_
  intro pg e s m args below meth c hC hr hlk hnm hK hP A hD hG hA hS ls hl Q hQ
  have hx := hC.1
  have hb := hC.2.1
  have hml := hC.2.2.1
  have hown := hC.2.2.2.1
  have hts := hC.2.2.2.2
  have hB : ∀ w ∈ W0, w ∈ wz_X9_set := fun _ h => List.mem_cons_of_mem _ h
  have hW0 : ∀ w ∈ W0, w.before args s = true := fun w h => hts w (hB w h)
  have hl : lv_has ls 6 [(0, .ref (α 0)), (1, .int (zI r9)), (2, .int (zI c9)), (3, .int (zI g9))] := hl
  refine lv_iload_n hx hb dX9_set_0 rfl (lv_at hl 1 rfl) ?_
  refine lv_iload_n hx hb dX9_set_1 rfl (lv_at hl 2 rfl) ?_
  refine z_calli hP hD hS hA (va_runS (As := [.int (zI r9), .int (zI c9)]) (rest := []) hC (c_X9_knownPoint l D τ _ _ r9 c9 (by first | assumption | rfl | omega) _) (va_cwS 2 hts (gS hB wl_X9_72 wt_X9_knownPoint wi_X9 wc_X9_knownPoint) rfl rfl rfl hd_X9_knownPoint.2 ⟨Nat.le_of_ble_eq_true rfl, Nat.le_of_ble_eq_true rfl⟩) (zp_S hK hP hD hS hA hG) rfl rfl hl.1 rfl (lv_room (Nat.le_of_ble_eq_true rfl)) dX9_set_2 ⟨Nat.le_of_ble_eq_true rfl, Nat.le_of_ble_eq_true rfl⟩) (fun r w1 H locs hq9 hP hD hS => ?_)
  obtain ⟨v2_1, hv2_0, hv2_1, hv2_2, rfl, rfl⟩ := hq9
  refine lv_istore (lv' := [(4, .int (zI v2_1)), (0, .ref (α 0)), (1, .int (zI r9)), (2, .int (zI c9)), (3, .int (zI g9))]) hx hb dX9_set_5 hl (by decide) rfl (fun ls hl => ?_)
  refine lv_iload_n hx hb dX9_set_7 rfl (lv_at hl 4 rfl) ?_
  refine z_iflt (tgt := 17) hx hb ⟨by omega, by omega⟩ dX9_set_8 (by decide) (fun c_8 => ?_) (fun c_8 => ?_)
  · exfalso; omega
  · refine lv_iload_n hx hb dX9_set_11 rfl (lv_at hl 4 rfl) ?_
    refine lv_bipush (v := zI 99) hx hb dX9_set_12 (zI_b8 (by decide)) ?_
    refine z_icle (tgt := 27) hx hb ⟨by omega, by omega⟩ ⟨by omega, by omega⟩ dX9_set_14 (by decide) (fun c_14 => ?_) (fun c_14 => ?_)
    · refine lv_aload_n hx hb dX9_set_27 rfl (lv_at hl 1 rfl) ?_
      refine va_get (D := D) (ci := 9) (v := .ref (α 9)) (C := RX9) (T := TX9) (N := 9) hx hb hts (fun w h => List.mem_cons_of_mem _ (wx_X9 w h)) hown hK hP 0 rfl rfl 8 (by decide) (hW0 _ wf_X9_68) (fun _ h9 => h9) rfl dX9_set_28 ?_
      refine lv_aload_n hx hb dX9_set_31 rfl (lv_at hl 1 rfl) ?_
      refine va_get (D := D) (ci := 9) (v := .ref (α 1)) (C := RX9) (T := TX9) (N := 9) hx hb hts (fun w h => List.mem_cons_of_mem _ (wx_X9 w h)) hown hK hP 0 rfl rfl 0 (by decide) (hW0 _ wf_X9_12) (fun _ h9 => h9) rfl dX9_set_32 ?_
      refine z_callv hP hD hS hA (va_runV (As := [.ref (α 1)]) (rest := []) hC (c_X1_save l D τ α γ h old ch rg ln sl pd ct sg od sv sl9 tk ct9 (by first | assumption | rfl | omega) _) (cwV 1 hts (gV hB wl_X9_83 wn_X1_save ws_X1_save wi_X1 wc_X1_save) rfl rfl rfl hd_X1_save ⟨Nat.le_of_ble_eq_true rfl, Nat.le_of_ble_eq_true rfl⟩) (zp_V hK hP hD hS hA hG (ci := 1) (q0 := 9) rfl rfl rfl) rfl rfl hl.1 rfl (lv_room (Nat.le_of_ble_eq_true rfl)) dX9_set_35 ⟨Nat.le_of_ble_eq_true rfl, Nat.le_of_ble_eq_true rfl⟩) (fun w1 H locs hq9 hP hD hS => ?_)
      obtain ⟨s35_2, c35_3, hv35_0, hv35_1, rfl⟩ := hq9
      have hP : va_P D vwCl (wH α γ (h, old, ch) rg ln sl pd ct sg od (s35_2, sl9, tk, c35_3)) H := hP
      have hD : va_D A (wH α γ (h, old, ch) rg ln sl pd ct sg od (s35_2, sl9, tk, c35_3)) := hD
      refine lv_aload_n hx hb dX9_set_38 rfl (lv_at hl 1 rfl) ?_
      refine va_get (D := D) (ci := 9) (v := .ref (α 1)) (C := RX9) (T := TX9) (N := 9) hx hb hts (fun w h => List.mem_cons_of_mem _ (wx_X9 w h)) hown hK hP 0 rfl rfl 0 (by decide) (hW0 _ wf_X9_12) (fun _ h9 => h9) rfl dX9_set_39 ?_
      refine lv_iload hx hb dX9_set_42 (lv_at hl 0 rfl) ?_
      refine z_calli hP hD hS hA (va_runV (As := [.int (zI v2_1)]) (rest := []) hC (c_X6_at l D τ α γ h old ch rg ln sl pd ct sg od (s35_2, sl9, tk, c35_3) v2_1 (by first | assumption | rfl | omega) (by first | assumption | rfl | omega) _) (cwV 1 hts (gV hB wl_X9_87 wn_X6_at ws_X6_at wi_X6 wc_X6_at) rfl rfl rfl hd_X6_at ⟨Nat.le_of_ble_eq_true rfl, Nat.le_of_ble_eq_true rfl⟩) (zp_V hK hP hD hS hA hG (ci := 6) (q0 := 1) rfl rfl rfl) rfl rfl hl.1 rfl (lv_room (Nat.le_of_ble_eq_true rfl)) dX9_set_44 ⟨Nat.le_of_ble_eq_true rfl, Nat.le_of_ble_eq_true rfl⟩) (fun r w1 H locs hq9 hP hD hS => ?_)
      obtain ⟨v44_4, hv44_0, hv44_1, hv44_2, rfl, rfl⟩ := hq9
      have hP : va_P D vwCl (wH α γ (h, old, ch) rg ln sl pd ct sg od (s35_2, sl9, tk, c35_3)) H := hP
      have hD : va_D A (wH α γ (h, old, ch) rg ln sl pd ct sg od (s35_2, sl9, tk, c35_3)) := hD
      refine lv_istore (lv' := [(5, .int (zI v44_4)), (4, .int (zI v2_1)), (0, .ref (α 0)), (1, .int (zI r9)), (2, .int (zI c9)), (3, .int (zI g9))]) hx hb dX9_set_47 hl (by decide) rfl (fun ls hl => ?_)
      refine lv_aload_n hx hb dX9_set_49 rfl (lv_at hl 2 rfl) ?_
      refine va_get (D := D) (ci := 9) (v := .ref (α 1)) (C := RX9) (T := TX9) (N := 9) hx hb hts (fun w h => List.mem_cons_of_mem _ (wx_X9 w h)) hown hK hP 0 rfl rfl 0 (by decide) (hW0 _ wf_X9_12) (fun _ h9 => h9) rfl dX9_set_50 ?_
      refine lv_iload hx hb dX9_set_53 (lv_at hl 1 rfl) ?_
      refine lv_iload_n hx hb dX9_set_55 rfl (lv_at hl 5 rfl) ?_
      refine z_callv hP hD hS hA (va_runV (As := [.int (zI v2_1), .int (zI g9)]) (rest := []) hC (c_X6_put l D τ α γ h old ch rg ln sl pd ct sg od (s35_2, sl9, tk, c35_3) v2_1 g9 (by first | assumption | rfl | omega) (by first | assumption | rfl | omega) _) (cwV 2 hts (gV hB wl_X9_91 wn_X6_put ws_X6_put wi_X6 wc_X6_put) rfl rfl rfl hd_X6_put ⟨Nat.le_of_ble_eq_true rfl, Nat.le_of_ble_eq_true rfl⟩) (zp_V hK hP hD hS hA hG (ci := 6) (q0 := 1) rfl rfl rfl) rfl rfl hl.1 rfl (lv_room (Nat.le_of_ble_eq_true rfl)) dX9_set_56 ⟨Nat.le_of_ble_eq_true rfl, Nat.le_of_ble_eq_true rfl⟩) (fun w1 H locs hq9 hP hD hS => ?_)
      obtain ⟨h56_5, hv56_0, rfl⟩ := hq9
      have hP : va_P D vwCl (wH α γ (h56_5, old, ch) rg ln sl pd ct sg od (s35_2, sl9, tk, c35_3)) H := hP
      have hD : va_D A (wH α γ (h56_5, old, ch) rg ln sl pd ct sg od (s35_2, sl9, tk, c35_3)) := hD
      refine lv_iload hx hb dX9_set_59 (lv_at hl 0 rfl) ?_
      exact z_iret hC hr hlk hQ hP hD hS ⟨h56_5, s35_2, c35_3, v44_4, (by trivial), (by rw [hv44_2 (by omega), hv2_1]), (by rw [hv56_0, S_put_in (by omega), clip_id (by omega), hv2_1]), (by exact hv35_0), (by exact hv35_1), rfl, rfl⟩ dX9_set_61
    · exfalso; omega

abbrev wz_X9_heap : List Cond := .code yX9_heap cX9_heap 5 (some .int) :: W0
abbrev rm_X9_heap : Room := { frames := 3, cells := 0, slots := 0, locals := 80 }
theorem hd_X9_heap : yX9_heap.cls = RX9 ∧ yX9_heap.cls ≠ "java/lang/invoke/MethodHandle" ∧ yX9_heap.cls ≠ "java/lang/invoke/VarHandle" ∧ (parseMethodDescriptor yX9_heap.desc).map (fun d => d.parameters.length) = some 3 := by decide +kernel
set_option maxHeartbeats 4000000 in
set_option maxRecDepth 100000 in
theorem c_X9_heap (l : Launch) (D : va_G) (τ : Nat → Nat) (α : Nat → Nat) (γ : Nat → ClassId) (h : IA) (old : IA) (ch : IA) (rg : TRg) (ln : TLn) (sl : TSl) (pd : TPd) (ct : TCt) (sg : TSg) (od : TOd) (sv : IA) (sl9 : IA) (tk : BA) (ct9 : Int) (r9 : Int) (c9 : Int) (a : Int) (hr9 : 0 ≤ r9 ∧ r9 ≤ 6) (hc9 : 0 ≤ c9 ∧ c9 ≤ 6) (ham : (-60 ≤ a ∧ a ≤ 60) ∧ a ≠ 0) (hh : ∀ k, 0 ≤ k → k < 49 → 0 ≤ h k ∧ h k ≤ 99) (hct : 0 ≤ ct9 ∧ ct9 ≤ 6) : cM l yX9_heap wz_X9_heap rm_X9_heap D τ (tyH γ) [.ref (α 0), .int (zI r9), .int (zI c9), .int (zI a)] (wH α γ (h, old, ch) rg ln sl pd ct sg od (sv, sl9, tk, ct9)) (zQi (fun r w => ∃ (h2 : IA), ∃ (o2 : IA), ∃ (s2 : IA), ∃ (c2 : Int), ∃ (v : Int), (True) ∧ (v = S_diff (S_heap h (7 * r9 + c9) a) h) ∧ (h2 = S_heap h (7 * r9 + c9) a) ∧ (s2 = S_sv sv h ct9) ∧ (c2 = S_svC ct9) ∧ r = zI v ∧ wH α γ (h2, o2, ch) rg ln sl pd ct sg od (s2, sl9, tk, c2) = w)) := by
  refine z_ofM (cc := cX9_heap) (maxL := 5) (ret := (some .int)) (by decide +kernel) rfl (Nat.le_of_ble_eq_true rfl) ?_
  intro pg e s m args below meth c hC hr hlk hnm hK hP A hD hG hA hS ls hl Q hQ
  have hx := hC.1
  have hb := hC.2.1
  have hml := hC.2.2.1
  have hown := hC.2.2.2.1
  have hts := hC.2.2.2.2
  have hB : ∀ w ∈ W0, w ∈ wz_X9_heap := fun _ h => List.mem_cons_of_mem _ h
  have hW0 : ∀ w ∈ W0, w.before args s = true := fun w h => hts w (hB w h)
  have hl : lv_has ls 5 [(0, .ref (α 0)), (1, .int (zI r9)), (2, .int (zI c9)), (3, .int (zI a))] := hl
  refine lv_iload_n hx hb dX9_heap_0 rfl (lv_at hl 1 rfl) ?_
  refine lv_iload_n hx hb dX9_heap_1 rfl (lv_at hl 2 rfl) ?_
  refine z_calli hP hD hS hA (va_runS (As := [.int (zI r9), .int (zI c9)]) (rest := []) hC (c_X9_knownPoint l D τ _ _ r9 c9 (by first | assumption | rfl | omega) _) (va_cwS 2 hts (gS hB wl_X9_72 wt_X9_knownPoint wi_X9 wc_X9_knownPoint) rfl rfl rfl hd_X9_knownPoint.2 ⟨Nat.le_of_ble_eq_true rfl, Nat.le_of_ble_eq_true rfl⟩) (zp_S hK hP hD hS hA hG) rfl rfl hl.1 rfl (lv_room (Nat.le_of_ble_eq_true rfl)) dX9_heap_2 ⟨Nat.le_of_ble_eq_true rfl, Nat.le_of_ble_eq_true rfl⟩) (fun r w1 H locs hq9 hP hD hS => ?_)
  obtain ⟨v2_1, hv2_0, hv2_1, hv2_2, rfl, rfl⟩ := hq9
  refine lv_istore (lv' := [(4, .int (zI v2_1)), (0, .ref (α 0)), (1, .int (zI r9)), (2, .int (zI c9)), (3, .int (zI a))]) hx hb dX9_heap_5 hl (by decide) rfl (fun ls hl => ?_)
  refine lv_iload_n hx hb dX9_heap_7 rfl (lv_at hl 4 rfl) ?_
  refine lv_bipush (v := zI (-60)) hx hb dX9_heap_8 (zI_b8 (by decide)) ?_
  refine z_iclt (tgt := 23) hx hb ⟨by omega, by omega⟩ ⟨by omega, by omega⟩ dX9_heap_10 (by decide) (fun c_10 => ?_) (fun c_10 => ?_)
  · exfalso; omega
  · refine lv_iload_n hx hb dX9_heap_13 rfl (lv_at hl 4 rfl) ?_
    refine lv_bipush (v := zI 60) hx hb dX9_heap_14 (zI_b8 (by decide)) ?_
    refine z_icgt (tgt := 23) hx hb ⟨by omega, by omega⟩ ⟨by omega, by omega⟩ dX9_heap_16 (by decide) (fun c_16 => ?_) (fun c_16 => ?_)
    · exfalso; omega
    · refine lv_iload_n hx hb dX9_heap_19 rfl (lv_at hl 4 rfl) ?_
      refine z_ifne (tgt := 33) hx hb ⟨by omega, by omega⟩ dX9_heap_20 (by decide) (fun c_20 => ?_) (fun c_20 => ?_)
      · refine lv_aload_n hx hb dX9_heap_33 rfl (lv_at hl 1 rfl) ?_
        refine va_get (D := D) (ci := 9) (v := .ref (α 9)) (C := RX9) (T := TX9) (N := 9) hx hb hts (fun w h => List.mem_cons_of_mem _ (wx_X9 w h)) hown hK hP 0 rfl rfl 8 (by decide) (hW0 _ wf_X9_68) (fun _ h9 => h9) rfl dX9_heap_34 ?_
        refine lv_aload_n hx hb dX9_heap_37 rfl (lv_at hl 1 rfl) ?_
        refine va_get (D := D) (ci := 9) (v := .ref (α 1)) (C := RX9) (T := TX9) (N := 9) hx hb hts (fun w h => List.mem_cons_of_mem _ (wx_X9 w h)) hown hK hP 0 rfl rfl 0 (by decide) (hW0 _ wf_X9_12) (fun _ h9 => h9) rfl dX9_heap_38 ?_
        refine z_callv hP hD hS hA (va_runV (As := [.ref (α 1)]) (rest := []) hC (c_X1_save l D τ α γ h old ch rg ln sl pd ct sg od sv sl9 tk ct9 (by first | assumption | rfl | omega) _) (cwV 1 hts (gV hB wl_X9_83 wn_X1_save ws_X1_save wi_X1 wc_X1_save) rfl rfl rfl hd_X1_save ⟨Nat.le_of_ble_eq_true rfl, Nat.le_of_ble_eq_true rfl⟩) (zp_V hK hP hD hS hA hG (ci := 1) (q0 := 9) rfl rfl rfl) rfl rfl hl.1 rfl (lv_room (Nat.le_of_ble_eq_true rfl)) dX9_heap_41 ⟨Nat.le_of_ble_eq_true rfl, Nat.le_of_ble_eq_true rfl⟩) (fun w1 H locs hq9 hP hD hS => ?_)
        obtain ⟨s41_2, c41_3, hv41_0, hv41_1, rfl⟩ := hq9
        have hP : va_P D vwCl (wH α γ (h, old, ch) rg ln sl pd ct sg od (s41_2, sl9, tk, c41_3)) H := hP
        have hD : va_D A (wH α γ (h, old, ch) rg ln sl pd ct sg od (s41_2, sl9, tk, c41_3)) := hD
        refine lv_aload_n hx hb dX9_heap_44 rfl (lv_at hl 1 rfl) ?_
        refine va_get (D := D) (ci := 9) (v := .ref (α 1)) (C := RX9) (T := TX9) (N := 9) hx hb hts (fun w h => List.mem_cons_of_mem _ (wx_X9 w h)) hown hK hP 0 rfl rfl 0 (by decide) (hW0 _ wf_X9_12) (fun _ h9 => h9) rfl dX9_heap_45 ?_
        refine lv_iload hx hb dX9_heap_48 (lv_at hl 0 rfl) ?_
        refine lv_iload_n hx hb dX9_heap_50 rfl (lv_at hl 4 rfl) ?_
        refine z_calli hP hD hS hA (va_runV (As := [.int (zI v2_1), .int (zI a)]) (rest := []) hC (c_X6_heapUp l D τ α γ h old ch rg ln sl pd ct sg od (s41_2, sl9, tk, c41_3) v2_1 a (by first | assumption | rfl | omega) (by first | assumption | rfl | omega) (by first | assumption | rfl | omega) _) (cwV 2 hts (gV hB wl_X9_97 wn_X6_heapUp ws_X6_heapUp wi_X6 wc_X6_heapUp) rfl rfl rfl hd_X6_heapUp ⟨Nat.le_of_ble_eq_true rfl, Nat.le_of_ble_eq_true rfl⟩) (zp_V hK hP hD hS hA hG (ci := 6) (q0 := 1) rfl rfl rfl) rfl rfl hl.1 rfl (lv_room (Nat.le_of_ble_eq_true rfl)) dX9_heap_51 ⟨Nat.le_of_ble_eq_true rfl, Nat.le_of_ble_eq_true rfl⟩) (fun r w1 H locs hq9 hP hD hS => ?_)
        obtain ⟨h51_4, o51_5, v51_6, hv51_0, hv51_1, hv51_2, rfl, rfl⟩ := hq9
        have hP : va_P D vwCl (wH α γ (h51_4, o51_5, ch) rg ln sl pd ct sg od (s41_2, sl9, tk, c41_3)) H := hP
        have hD : va_D A (wH α γ (h51_4, o51_5, ch) rg ln sl pd ct sg od (s41_2, sl9, tk, c41_3)) := hD
        exact z_iret hC hr hlk hQ hP hD hS ⟨h51_4, o51_5, s41_2, c41_3, v51_6, (by trivial), (by rw [hv51_1, hv2_1]), (by rw [hv51_0, hv2_1]), (by exact hv41_0), (by exact hv41_1), rfl, rfl⟩ dX9_heap_54
      · exfalso; omega

abbrev wz_X9_smooth : List Cond := .code yX9_smooth cX9_smooth 1 (some .int) :: W0
abbrev rm_X9_smooth : Room := { frames := 4, cells := 0, slots := 0, locals := 88 }
theorem hd_X9_smooth : yX9_smooth.cls = RX9 ∧ yX9_smooth.cls ≠ "java/lang/invoke/MethodHandle" ∧ yX9_smooth.cls ≠ "java/lang/invoke/VarHandle" ∧ (parseMethodDescriptor yX9_smooth.desc).map (fun d => d.parameters.length) = some 0 := by decide +kernel
set_option maxHeartbeats 4000000 in
set_option maxRecDepth 100000 in
theorem c_X9_smooth (l : Launch) (D : va_G) (τ : Nat → Nat) (α : Nat → Nat) (γ : Nat → ClassId) (h : IA) (old : IA) (ch : IA) (rg : TRg) (ln : TLn) (sl : TSl) (pd : TPd) (ct : TCt) (sg : TSg) (od : TOd) (sv : IA) (sl9 : IA) (tk : BA) (ct9 : Int) (hh : ∀ k, 0 ≤ k → k < 49 → 0 ≤ h k ∧ h k ≤ 99) (hct : 0 ≤ ct9 ∧ ct9 ≤ 6) : cM l yX9_smooth wz_X9_smooth rm_X9_smooth D τ (tyH γ) [.ref (α 0)] (wH α γ (h, old, ch) rg ln sl pd ct sg od (sv, sl9, tk, ct9)) (zQi (fun r w => ∃ (h2 : IA), ∃ (o2 : IA), ∃ (s2 : IA), ∃ (c2 : Int), ∃ (v : Int), (v = S_diff (S_smooth h) h) ∧ (h2 = S_smooth h) ∧ (s2 = S_sv sv h ct9) ∧ (c2 = S_svC ct9) ∧ r = zI v ∧ wH α γ (h2, o2, ch) rg ln sl pd ct sg od (s2, sl9, tk, c2) = w)) := by
  refine z_ofM (cc := cX9_smooth) (maxL := 1) (ret := (some .int)) (by decide +kernel) rfl (Nat.le_of_ble_eq_true rfl) ?_
  intro pg e s m args below meth c hC hr hlk hnm hK hP A hD hG hA hS ls hl Q hQ
  have hx := hC.1
  have hb := hC.2.1
  have hml := hC.2.2.1
  have hown := hC.2.2.2.1
  have hts := hC.2.2.2.2
  have hB : ∀ w ∈ W0, w ∈ wz_X9_smooth := fun _ h => List.mem_cons_of_mem _ h
  have hW0 : ∀ w ∈ W0, w.before args s = true := fun w h => hts w (hB w h)
  have hl : lv_has ls 1 [(0, .ref (α 0))] := hl
  refine lv_aload_n hx hb dX9_smooth_0 rfl (lv_at hl 0 rfl) ?_
  refine va_get (D := D) (ci := 9) (v := .ref (α 9)) (C := RX9) (T := TX9) (N := 9) hx hb hts (fun w h => List.mem_cons_of_mem _ (wx_X9 w h)) hown hK hP 0 rfl rfl 8 (by decide) (hW0 _ wf_X9_68) (fun _ h9 => h9) rfl dX9_smooth_1 ?_
  refine lv_aload_n hx hb dX9_smooth_4 rfl (lv_at hl 0 rfl) ?_
  refine va_get (D := D) (ci := 9) (v := .ref (α 1)) (C := RX9) (T := TX9) (N := 9) hx hb hts (fun w h => List.mem_cons_of_mem _ (wx_X9 w h)) hown hK hP 0 rfl rfl 0 (by decide) (hW0 _ wf_X9_12) (fun _ h9 => h9) rfl dX9_smooth_5 ?_
  refine z_callv hP hD hS hA (va_runV (As := [.ref (α 1)]) (rest := []) hC (c_X1_save l D τ α γ h old ch rg ln sl pd ct sg od sv sl9 tk ct9 (by first | assumption | rfl | omega) _) (cwV 1 hts (gV hB wl_X9_83 wn_X1_save ws_X1_save wi_X1 wc_X1_save) rfl rfl rfl hd_X1_save ⟨Nat.le_of_ble_eq_true rfl, Nat.le_of_ble_eq_true rfl⟩) (zp_V hK hP hD hS hA hG (ci := 1) (q0 := 9) rfl rfl rfl) rfl rfl hl.1 rfl (lv_room (Nat.le_of_ble_eq_true rfl)) dX9_smooth_8 ⟨Nat.le_of_ble_eq_true rfl, Nat.le_of_ble_eq_true rfl⟩) (fun w1 H locs hq9 hP hD hS => ?_)
  obtain ⟨s8_1, c8_2, hv8_0, hv8_1, rfl⟩ := hq9
  have hP : va_P D vwCl (wH α γ (h, old, ch) rg ln sl pd ct sg od (s8_1, sl9, tk, c8_2)) H := hP
  have hD : va_D A (wH α γ (h, old, ch) rg ln sl pd ct sg od (s8_1, sl9, tk, c8_2)) := hD
  refine lv_aload_n hx hb dX9_smooth_11 rfl (lv_at hl 0 rfl) ?_
  refine va_get (D := D) (ci := 9) (v := .ref (α 1)) (C := RX9) (T := TX9) (N := 9) hx hb hts (fun w h => List.mem_cons_of_mem _ (wx_X9 w h)) hown hK hP 0 rfl rfl 0 (by decide) (hW0 _ wf_X9_12) (fun _ h9 => h9) rfl dX9_smooth_12 ?_
  refine z_calli hP hD hS hA (va_runV (As := []) (rest := []) hC (c_X6_smoothOut l D τ α γ h old ch rg ln sl pd ct sg od (s8_1, sl9, tk, c8_2) (by first | assumption | rfl | omega) _) (cwV 0 hts (gV hB wl_X9_100 wn_X6_smoothOut ws_X6_smoothOut wi_X6 wc_X6_smoothOut) rfl rfl rfl hd_X6_smoothOut ⟨Nat.le_of_ble_eq_true rfl, Nat.le_of_ble_eq_true rfl⟩) (zp_V hK hP hD hS hA hG (ci := 6) (q0 := 1) rfl rfl rfl) rfl rfl hl.1 rfl (lv_room (Nat.le_of_ble_eq_true rfl)) dX9_smooth_15 ⟨Nat.le_of_ble_eq_true rfl, Nat.le_of_ble_eq_true rfl⟩) (fun r w1 H locs hq9 hP hD hS => ?_)
  obtain ⟨h15_3, o15_4, v15_5, hv15_0, hv15_1, hv15_2, rfl, rfl⟩ := hq9
  have hP : va_P D vwCl (wH α γ (h15_3, o15_4, ch) rg ln sl pd ct sg od (s8_1, sl9, tk, c8_2)) H := hP
  have hD : va_D A (wH α γ (h15_3, o15_4, ch) rg ln sl pd ct sg od (s8_1, sl9, tk, c8_2)) := hD
  exact z_iret hC hr hlk hQ hP hD hS ⟨h15_3, o15_4, s8_1, c8_2, v15_5, (by assumption), (by assumption), (by assumption), (by assumption), rfl, rfl⟩ dX9_smooth_18

abbrev wz_X9_turnMap : List Cond := .code yX9_turnMap cX9_turnMap 1 (some .int) :: W0
abbrev rm_X9_turnMap : Room := { frames := 3, cells := 0, slots := 0, locals := 76 }
theorem hd_X9_turnMap : yX9_turnMap.cls = RX9 ∧ yX9_turnMap.cls ≠ "java/lang/invoke/MethodHandle" ∧ yX9_turnMap.cls ≠ "java/lang/invoke/VarHandle" ∧ (parseMethodDescriptor yX9_turnMap.desc).map (fun d => d.parameters.length) = some 0 := by decide +kernel
set_option maxHeartbeats 4000000 in
set_option maxRecDepth 100000 in
theorem c_X9_turnMap (l : Launch) (D : va_G) (τ : Nat → Nat) (α : Nat → Nat) (γ : Nat → ClassId) (h : IA) (old : IA) (ch : IA) (rg : TRg) (ln : TLn) (sl : TSl) (pd : TPd) (ct : TCt) (sg : TSg) (od : TOd) (sv : IA) (sl9 : IA) (tk : BA) (ct9 : Int) (hh : ∀ k, 0 ≤ k → k < 49 → 0 ≤ h k ∧ h k ≤ 99) (hct : 0 ≤ ct9 ∧ ct9 ≤ 6) : cM l yX9_turnMap wz_X9_turnMap rm_X9_turnMap D τ (tyH γ) [.ref (α 0)] (wH α γ (h, old, ch) rg ln sl pd ct sg od (sv, sl9, tk, ct9)) (zQi (fun r w => ∃ (h2 : IA), ∃ (o2 : IA), ∃ (s2 : IA), ∃ (c2 : Int), ∃ (v : Int), (v = S_diff (S_turn h) h) ∧ (h2 = S_turn h) ∧ (s2 = S_sv sv h ct9) ∧ (c2 = S_svC ct9) ∧ r = zI v ∧ wH α γ (h2, o2, ch) rg ln sl pd ct sg od (s2, sl9, tk, c2) = w)) := by
  refine z_ofM (cc := cX9_turnMap) (maxL := 1) (ret := (some .int)) (by decide +kernel) rfl (Nat.le_of_ble_eq_true rfl) ?_
  intro pg e s m args below meth c hC hr hlk hnm hK hP A hD hG hA hS ls hl Q hQ
  have hx := hC.1
  have hb := hC.2.1
  have hml := hC.2.2.1
  have hown := hC.2.2.2.1
  have hts := hC.2.2.2.2
  have hB : ∀ w ∈ W0, w ∈ wz_X9_turnMap := fun _ h => List.mem_cons_of_mem _ h
  have hW0 : ∀ w ∈ W0, w.before args s = true := fun w h => hts w (hB w h)
  have hl : lv_has ls 1 [(0, .ref (α 0))] := hl
  refine lv_aload_n hx hb dX9_turnMap_0 rfl (lv_at hl 0 rfl) ?_
  refine va_get (D := D) (ci := 9) (v := .ref (α 9)) (C := RX9) (T := TX9) (N := 9) hx hb hts (fun w h => List.mem_cons_of_mem _ (wx_X9 w h)) hown hK hP 0 rfl rfl 8 (by decide) (hW0 _ wf_X9_68) (fun _ h9 => h9) rfl dX9_turnMap_1 ?_
  refine lv_aload_n hx hb dX9_turnMap_4 rfl (lv_at hl 0 rfl) ?_
  refine va_get (D := D) (ci := 9) (v := .ref (α 1)) (C := RX9) (T := TX9) (N := 9) hx hb hts (fun w h => List.mem_cons_of_mem _ (wx_X9 w h)) hown hK hP 0 rfl rfl 0 (by decide) (hW0 _ wf_X9_12) (fun _ h9 => h9) rfl dX9_turnMap_5 ?_
  refine z_callv hP hD hS hA (va_runV (As := [.ref (α 1)]) (rest := []) hC (c_X1_save l D τ α γ h old ch rg ln sl pd ct sg od sv sl9 tk ct9 (by first | assumption | rfl | omega) _) (cwV 1 hts (gV hB wl_X9_83 wn_X1_save ws_X1_save wi_X1 wc_X1_save) rfl rfl rfl hd_X1_save ⟨Nat.le_of_ble_eq_true rfl, Nat.le_of_ble_eq_true rfl⟩) (zp_V hK hP hD hS hA hG (ci := 1) (q0 := 9) rfl rfl rfl) rfl rfl hl.1 rfl (lv_room (Nat.le_of_ble_eq_true rfl)) dX9_turnMap_8 ⟨Nat.le_of_ble_eq_true rfl, Nat.le_of_ble_eq_true rfl⟩) (fun w1 H locs hq9 hP hD hS => ?_)
  obtain ⟨s8_1, c8_2, hv8_0, hv8_1, rfl⟩ := hq9
  have hP : va_P D vwCl (wH α γ (h, old, ch) rg ln sl pd ct sg od (s8_1, sl9, tk, c8_2)) H := hP
  have hD : va_D A (wH α γ (h, old, ch) rg ln sl pd ct sg od (s8_1, sl9, tk, c8_2)) := hD
  refine lv_aload_n hx hb dX9_turnMap_11 rfl (lv_at hl 0 rfl) ?_
  refine va_get (D := D) (ci := 9) (v := .ref (α 1)) (C := RX9) (T := TX9) (N := 9) hx hb hts (fun w h => List.mem_cons_of_mem _ (wx_X9 w h)) hown hK hP 0 rfl rfl 0 (by decide) (hW0 _ wf_X9_12) (fun _ h9 => h9) rfl dX9_turnMap_12 ?_
  refine z_calli hP hD hS hA (va_runV (As := []) (rest := []) hC (c_X6_turnRight l D τ α γ h old ch rg ln sl pd ct sg od (s8_1, sl9, tk, c8_2) (by first | assumption | rfl | omega) _) (cwV 0 hts (gV hB wl_X9_113 wn_X6_turnRight ws_X6_turnRight wi_X6 wc_X6_turnRight) rfl rfl rfl hd_X6_turnRight ⟨Nat.le_of_ble_eq_true rfl, Nat.le_of_ble_eq_true rfl⟩) (zp_V hK hP hD hS hA hG (ci := 6) (q0 := 1) rfl rfl rfl) rfl rfl hl.1 rfl (lv_room (Nat.le_of_ble_eq_true rfl)) dX9_turnMap_15 ⟨Nat.le_of_ble_eq_true rfl, Nat.le_of_ble_eq_true rfl⟩) (fun r w1 H locs hq9 hP hD hS => ?_)
  obtain ⟨h15_3, o15_4, v15_5, hv15_0, hv15_1, hv15_2, rfl, rfl⟩ := hq9
  have hP : va_P D vwCl (wH α γ (h15_3, o15_4, ch) rg ln sl pd ct sg od (s8_1, sl9, tk, c8_2)) H := hP
  have hD : va_D A (wH α γ (h15_3, o15_4, ch) rg ln sl pd ct sg od (s8_1, sl9, tk, c8_2)) := hD
  exact z_iret hC hr hlk hQ hP hD hS ⟨h15_3, o15_4, s8_1, c8_2, v15_5, (by assumption), (by assumption), (by assumption), (by assumption), rfl, rfl⟩ dX9_turnMap_18

abbrev wz_X9_wash : List Cond := .code yX9_wash cX9_wash 4 (some .int) :: W0
abbrev rm_X9_wash : Room := { frames := 3, cells := 0, slots := 0, locals := 76 }
theorem hd_X9_wash : yX9_wash.cls = RX9 ∧ yX9_wash.cls ≠ "java/lang/invoke/MethodHandle" ∧ yX9_wash.cls ≠ "java/lang/invoke/VarHandle" ∧ (parseMethodDescriptor yX9_wash.desc).map (fun d => d.parameters.length) = some 1 := by decide +kernel
set_option maxHeartbeats 4000000 in
set_option maxRecDepth 100000 in
theorem c_X9_wash (l : Launch) (D : va_G) (τ : Nat → Nat) (α : Nat → Nat) (γ : Nat → ClassId) (h : IA) (old : IA) (ch : IA) (rg : TRg) (ln : TLn) (nx : IA) (dr : IA) (qu : IA) (pd : TPd) (ct : TCt) (sg : TSg) (od : TOd) (sv : IA) (sl9 : IA) (tk : BA) (ct9 : Int) (n9 : Int) (hn9 : 1 ≤ n9 ∧ n9 ≤ 50) (hh : ∀ k, 0 ≤ k → k < 49 → 0 ≤ h k ∧ h k ≤ 99) (hct : 0 ≤ ct9 ∧ ct9 ≤ 6) : cM l yX9_wash wz_X9_wash rm_X9_wash D τ (tyH γ) [.ref (α 0), .int (zI n9)] (wH α γ (h, old, ch) rg ln (nx, dr, qu) pd ct sg od (sv, sl9, tk, ct9)) (zQi (fun r w => ∃ (h2 : IA), ∃ (ch2 : IA), ∃ (s2 : IA), ∃ (c2 : Int), ∃ (n2 : IA), ∃ (d2 : IA), ∃ (v : Int), (True) ∧ (v = S_given h n9) ∧ (h2 = S_wash h n9) ∧ (s2 = S_sv sv h ct9) ∧ (c2 = S_svC ct9) ∧ r = zI v ∧ wH α γ (h2, old, ch2) rg ln (n2, d2, qu) pd ct sg od (s2, sl9, tk, c2) = w)) := by
  refine z_ofM (cc := cX9_wash) (maxL := 4) (ret := (some .int)) (by decide +kernel) rfl (Nat.le_of_ble_eq_true rfl) ?_
  intro pg e s m args below meth c hC hr hlk hnm hK hP A hD hG hA hS ls hl Q hQ
  have hx := hC.1
  have hb := hC.2.1
  have hml := hC.2.2.1
  have hown := hC.2.2.2.1
  have hts := hC.2.2.2.2
  have hB : ∀ w ∈ W0, w ∈ wz_X9_wash := fun _ h => List.mem_cons_of_mem _ h
  have hW0 : ∀ w ∈ W0, w.before args s = true := fun w h => hts w (hB w h)
  have hl : lv_has ls 4 [(0, .ref (α 0)), (1, .int (zI n9))] := hl
  refine lv_iload_n hx hb dX9_wash_0 rfl (lv_at hl 1 rfl) ?_
  refine lv_iconst (v := zI 1) hx hb dX9_wash_1 rfl ?_
  refine z_iclt (tgt := 11) hx hb ⟨by omega, by omega⟩ ⟨by omega, by omega⟩ dX9_wash_2 (by decide) (fun c_2 => ?_) (fun c_2 => ?_)
  · exfalso; omega
  · refine lv_iload_n hx hb dX9_wash_5 rfl (lv_at hl 1 rfl) ?_
    refine lv_bipush (v := zI 50) hx hb dX9_wash_6 (zI_b8 (by decide)) ?_
    refine z_icle (tgt := 21) hx hb ⟨by omega, by omega⟩ ⟨by omega, by omega⟩ dX9_wash_8 (by decide) (fun c_8 => ?_) (fun c_8 => ?_)
    · refine lv_aload_n hx hb dX9_wash_21 rfl (lv_at hl 0 rfl) ?_
      refine va_get (D := D) (ci := 9) (v := .ref (α 9)) (C := RX9) (T := TX9) (N := 9) hx hb hts (fun w h => List.mem_cons_of_mem _ (wx_X9 w h)) hown hK hP 0 rfl rfl 8 (by decide) (hW0 _ wf_X9_68) (fun _ h9 => h9) rfl dX9_wash_22 ?_
      refine lv_aload_n hx hb dX9_wash_25 rfl (lv_at hl 0 rfl) ?_
      refine va_get (D := D) (ci := 9) (v := .ref (α 1)) (C := RX9) (T := TX9) (N := 9) hx hb hts (fun w h => List.mem_cons_of_mem _ (wx_X9 w h)) hown hK hP 0 rfl rfl 0 (by decide) (hW0 _ wf_X9_12) (fun _ h9 => h9) rfl dX9_wash_26 ?_
      refine z_callv hP hD hS hA (va_runV (As := [.ref (α 1)]) (rest := []) hC (c_X1_save l D τ α γ h old ch rg ln (nx, dr, qu) pd ct sg od sv sl9 tk ct9 (by first | assumption | rfl | omega) _) (cwV 1 hts (gV hB wl_X9_83 wn_X1_save ws_X1_save wi_X1 wc_X1_save) rfl rfl rfl hd_X1_save ⟨Nat.le_of_ble_eq_true rfl, Nat.le_of_ble_eq_true rfl⟩) (zp_V hK hP hD hS hA hG (ci := 1) (q0 := 9) rfl rfl rfl) rfl rfl hl.1 rfl (lv_room (Nat.le_of_ble_eq_true rfl)) dX9_wash_29 ⟨Nat.le_of_ble_eq_true rfl, Nat.le_of_ble_eq_true rfl⟩) (fun w1 H locs hq9 hP hD hS => ?_)
      obtain ⟨s29_1, c29_2, hv29_0, hv29_1, rfl⟩ := hq9
      have hP : va_P D vwCl (wH α γ (h, old, ch) rg ln (nx, dr, qu) pd ct sg od (s29_1, sl9, tk, c29_2)) H := hP
      have hD : va_D A (wH α γ (h, old, ch) rg ln (nx, dr, qu) pd ct sg od (s29_1, sl9, tk, c29_2)) := hD
      refine lv_iconst (v := zI 0) hx hb dX9_wash_32 rfl ?_
      refine lv_istore_n (lv' := [(2, .int (zI 0)), (0, .ref (α 0)), (1, .int (zI n9))]) hx hb dX9_wash_33 rfl hl (by decide) rfl (fun ls hl => ?_)
      refine lv_iconst (v := zI 0) hx hb dX9_wash_34 rfl ?_
      refine lv_istore_n (lv' := [(3, .int (zI 0)), (2, .int (zI 0)), (0, .ref (α 0)), (1, .int (zI n9))]) hx hb dX9_wash_35 rfl hl (by decide) rfl (fun ls hl => ?_)
      suffices HL_36 : ∀ (n_36 : Nat), ∀ (h1 : IA) (c1 : IA) (n1 : IA) (d1 : IA) (g : Int) (i : Int) (H : Heap) (locs : List Loc) (hP : va_P D vwCl (wH α γ (h1, old, c1) rg ln (n1, d1, qu) pd ct sg od (s29_1, sl9, tk, c29_2)) H) (hD : va_D A (wH α γ (h1, old, c1) rg ln (n1, d1, qu) pd ct sg od (s29_1, sl9, tk, c29_2))) (hS : va_S A s.heap H locs) (ls : Array Slot) (hl : lv_has ls 4 [(2, .int (zI g)), (3, .int (zI i)), (0, .ref (α 0)), (1, .int (zI n9))]) (hi : 0 ≤ i ∧ i ≤ n9) (hh1 : h1 = S_wash h i) (hg : g = S_given h i) (hb1 : ∀ k, 0 ≤ k → k < 49 → 0 ≤ h1 k ∧ h1 k ≤ 99) (hm : (n9 - i).toNat < n_36), W pg l e rm_X9_wash s m args below meth c H locs 0 0 Q (F0 m 36 ls []) from HL_36 _ h ch nx dr 0 0 _ _ hP hD hS _ (lv_sub hl [1, 0, 2, 3] rfl) (by first | assumption | rfl | omega) (by rfl) (by rfl) (by exact hh) (Nat.lt_succ_self _)
      intro n_36
      induction n_36 with
      | zero => intro h1 c1 n1 d1 g i H locs hP hD hS ls hl hi hh1 hg hb1 hm; exact absurd hm (Nat.not_lt_zero _)
      | succ n_36 ih_36 =>
        intro h1 c1 n1 d1 g i H locs hP hD hS ls hl hi hh1 hg hb1 hm
        refine lv_iload_n hx hb dX9_wash_36 rfl (lv_at hl 1 rfl) ?_
        refine lv_iload_n hx hb dX9_wash_37 rfl (lv_at hl 3 rfl) ?_
        refine z_icge (tgt := 72) hx hb ⟨by omega, by omega⟩ ⟨by omega, by omega⟩ dX9_wash_38 (by decide) (fun c_38 => ?_) (fun c_38 => ?_)
        · refine lv_iload_n hx hb dX9_wash_72 rfl (lv_at hl 0 rfl) ?_
          exact z_iret hC hr hlk hQ hP hD hS ⟨h1, c1, s29_1, c29_2, n1, d1, g, (by trivial), (by rw [hg, show i = n9 by omega]), (by rw [hh1, show i = n9 by omega]), (by exact hv29_0), (by exact hv29_1), rfl, rfl⟩ dX9_wash_73
        · refine lv_aload_n hx hb dX9_wash_41 rfl (lv_at hl 2 rfl) ?_
          refine va_get (D := D) (ci := 9) (v := .ref (α 4)) (C := RX9) (T := TX9) (N := 9) hx hb hts (fun w h => List.mem_cons_of_mem _ (wx_X9 w h)) hown hK hP 0 rfl rfl 3 (by decide) (hW0 _ wf_X9_33) (fun _ h9 => h9) rfl dX9_wash_42 ?_
          refine lv_aload_n hx hb dX9_wash_45 rfl (lv_at hl 2 rfl) ?_
          refine va_get (D := D) (ci := 9) (v := .ref (α 1)) (C := RX9) (T := TX9) (N := 9) hx hb hts (fun w h => List.mem_cons_of_mem _ (wx_X9 w h)) hown hK hP 0 rfl rfl 0 (by decide) (hW0 _ wf_X9_12) (fun _ h9 => h9) rfl dX9_wash_46 ?_
          refine z_callv hP hD hS hA (va_runV (As := [.ref (α 1)]) (rest := []) hC (c_X8_read l D τ α γ h1 old c1 rg ln n1 d1 qu pd ct sg od (s29_1, sl9, tk, c29_2) (by exact hb1) _) (cwV 1 hts (gV hB wl_X9_106 wn_X8_read ws_X8_read wi_X8 wc_X8_read) rfl rfl rfl hd_X8_read ⟨Nat.le_of_ble_eq_true rfl, Nat.le_of_ble_eq_true rfl⟩) (zp_V hK hP hD hS hA hG (ci := 8) (q0 := 4) rfl rfl rfl) rfl rfl hl.1 rfl (lv_room (Nat.le_of_ble_eq_true rfl)) dX9_wash_49 ⟨Nat.le_of_ble_eq_true rfl, Nat.le_of_ble_eq_true rfl⟩) (fun w1 H locs hq9 hP hD hS => ?_)
          obtain ⟨n49_3, d49_4, hv49_0, hv49_1, rfl⟩ := hq9
          have hP : va_P D vwCl (wH α γ (h1, old, c1) rg ln (n49_3, d49_4, qu) pd ct sg od (s29_1, sl9, tk, c29_2)) H := hP
          have hD : va_D A (wH α γ (h1, old, c1) rg ln (n49_3, d49_4, qu) pd ct sg od (s29_1, sl9, tk, c29_2)) := hD
          refine lv_iload_n hx hb dX9_wash_52 rfl (lv_at hl 0 rfl) ?_
          refine lv_aload_n hx hb dX9_wash_53 rfl (lv_at hl 2 rfl) ?_
          refine va_get (D := D) (ci := 9) (v := .ref (α 1)) (C := RX9) (T := TX9) (N := 9) hx hb hts (fun w h => List.mem_cons_of_mem _ (wx_X9 w h)) hown hK hP 0 rfl rfl 0 (by decide) (hW0 _ wf_X9_12) (fun _ h9 => h9) rfl dX9_wash_54 ?_
          refine lv_aload_n hx hb dX9_wash_57 rfl (lv_at hl 2 rfl) ?_
          refine va_get (D := D) (ci := 9) (v := .ref (α 4)) (C := RX9) (T := TX9) (N := 9) hx hb hts (fun w h => List.mem_cons_of_mem _ (wx_X9 w h)) hown hK hP 0 rfl rfl 3 (by decide) (hW0 _ wf_X9_33) (fun _ h9 => h9) rfl dX9_wash_58 ?_
          refine z_calli hP hD hS hA (va_runV (As := [.ref (α 4)]) (rest := [.int (zI g)]) hC (c_X6_washDown l D τ α γ h1 old c1 rg ln n49_3 d49_4 qu pd ct sg od (s29_1, sl9, tk, c29_2) (by exact hb1) (by intro k z1 z2; rw [hv49_0, zmix_at ⟨z1, z2⟩]) _) (cwV 1 hts (gV hB wl_X9_109 wn_X6_washDown ws_X6_washDown wi_X6 wc_X6_washDown) rfl rfl rfl hd_X6_washDown ⟨Nat.le_of_ble_eq_true rfl, Nat.le_of_ble_eq_true rfl⟩) (zp_V hK hP hD hS hA hG (ci := 6) (q0 := 1) rfl rfl rfl) rfl rfl hl.1 rfl (lv_room (Nat.le_of_ble_eq_true rfl)) dX9_wash_61 ⟨Nat.le_of_ble_eq_true rfl, Nat.le_of_ble_eq_true rfl⟩) (fun r w1 H locs hq9 hP hD hS => ?_)
          obtain ⟨h61_5, c61_6, v61_7, hv61_0, hv61_1, hv61_2, rfl, rfl⟩ := hq9
          have hP : va_P D vwCl (wH α γ (h61_5, old, c61_6) rg ln (n49_3, d49_4, qu) pd ct sg od (s29_1, sl9, tk, c29_2)) H := hP
          have hD : va_D A (wH α γ (h61_5, old, c61_6) rg ln (n49_3, d49_4, qu) pd ct sg od (s29_1, sl9, tk, c29_2)) := hD
          refine z_iadd hx hb dX9_wash_64 ?_
          refine lv_istore_n (lv' := [(2, .int (zI (g + v61_7))), (3, .int (zI i)), (0, .ref (α 0)), (1, .int (zI n9))]) hx hb dX9_wash_65 rfl hl (by decide) rfl (fun ls hl => ?_)
          refine z_iinc (k := 1) (v := i + 1) (lv' := [(3, .int (zI (i + 1))), (2, .int (zI (g + v61_7))), (0, .ref (α 0)), (1, .int (zI n9))]) hx hb dX9_wash_66 hl rfl rfl (by decide) rfl (fun ls hl => ?_)
          refine lv_goto (tgt := 36) hx hb dX9_wash_69 (by decide) ?_
          exact ih_36 h61_5 c61_6 n49_3 d49_4 (g + v61_7) (i + 1) _ _ hP hD hS _ (lv_sub hl [1, 0, 2, 3] rfl) (by first | assumption | rfl | omega) (by rw [S_wash_up hi.1, ← hh1]; exact hv61_0) (by rw [S_given_up hi.1, ← hg, ← hh1, hv61_1]) (by rw [hv61_0]; exact S_wash1_b hb1) (by omega)
    · exfalso; omega

abbrev wz_X9_heightOf : List Cond := .code yX9_heightOf cX9_heightOf 3 (some .int) :: W0
abbrev rm_X9_heightOf : Room := { frames := 2, cells := 0, slots := 0, locals := 43 }
theorem hd_X9_heightOf : yX9_heightOf.cls = RX9 ∧ yX9_heightOf.cls ≠ "java/lang/invoke/MethodHandle" ∧ yX9_heightOf.cls ≠ "java/lang/invoke/VarHandle" ∧ (parseMethodDescriptor yX9_heightOf.desc).map (fun d => d.parameters.length) = some 2 := by decide +kernel
set_option maxHeartbeats 4000000 in
set_option maxRecDepth 100000 in
theorem c_X9_heightOf (l : Launch) (D : va_G) (τ : Nat → Nat) (α : Nat → Nat) (γ : Nat → ClassId) (h : IA) (old : IA) (ch : IA) (rg : TRg) (ln : TLn) (sl : TSl) (pd : TPd) (ct : TCt) (sg : TSg) (od : TOd) (hs : THs) (r9 : Int) (c9 : Int) (hr9 : 0 ≤ r9 ∧ r9 ≤ 6) (hc9 : 0 ≤ c9 ∧ c9 ≤ 6) (hh : ∀ k, 0 ≤ k → k < 49 → 0 ≤ h k ∧ h k ≤ 99) : cM l yX9_heightOf wz_X9_heightOf rm_X9_heightOf D τ (tyH γ) [.ref (α 0), .int (zI r9), .int (zI c9)] (wH α γ (h, old, ch) rg ln sl pd ct sg od hs) (zQi (fun r w => ∃ (v : Int), (True) ∧ (v = h (7 * r9 + c9)) ∧ r = zI v ∧ wH α γ (h, old, ch) rg ln sl pd ct sg od hs = w)) := by
  refine z_ofM (cc := cX9_heightOf) (maxL := 3) (ret := (some .int)) (by decide +kernel) rfl (Nat.le_of_ble_eq_true rfl) ?_
  intro pg e s m args below meth c hC hr hlk hnm hK hP A hD hG hA hS ls hl Q hQ
  have hx := hC.1
  have hb := hC.2.1
  have hml := hC.2.2.1
  have hown := hC.2.2.2.1
  have hts := hC.2.2.2.2
  have hB : ∀ w ∈ W0, w ∈ wz_X9_heightOf := fun _ h => List.mem_cons_of_mem _ h
  have hW0 : ∀ w ∈ W0, w.before args s = true := fun w h => hts w (hB w h)
  have hl : lv_has ls 3 [(0, .ref (α 0)), (1, .int (zI r9)), (2, .int (zI c9))] := hl
  refine lv_aload_n hx hb dX9_heightOf_0 rfl (lv_at hl 0 rfl) ?_
  refine va_get (D := D) (ci := 9) (v := .ref (α 1)) (C := RX9) (T := TX9) (N := 9) hx hb hts (fun w h => List.mem_cons_of_mem _ (wx_X9 w h)) hown hK hP 0 rfl rfl 0 (by decide) (hW0 _ wf_X9_12) (fun _ h9 => h9) rfl dX9_heightOf_1 ?_
  refine lv_iload_n hx hb dX9_heightOf_4 rfl (lv_at hl 1 rfl) ?_
  refine lv_iload_n hx hb dX9_heightOf_5 rfl (lv_at hl 2 rfl) ?_
  refine z_calli hP hD hS hA (va_runS (As := [.int (zI r9), .int (zI c9)]) (rest := [.ref (α 1)]) hC (c_X9_knownPoint l D τ _ _ r9 c9 (by first | assumption | rfl | omega) _) (va_cwS 2 hts (gS hB wl_X9_72 wt_X9_knownPoint wi_X9 wc_X9_knownPoint) rfl rfl rfl hd_X9_knownPoint.2 ⟨Nat.le_of_ble_eq_true rfl, Nat.le_of_ble_eq_true rfl⟩) (zp_S hK hP hD hS hA hG) rfl rfl hl.1 rfl (lv_room (Nat.le_of_ble_eq_true rfl)) dX9_heightOf_6 ⟨Nat.le_of_ble_eq_true rfl, Nat.le_of_ble_eq_true rfl⟩) (fun r w1 H locs hq9 hP hD hS => ?_)
  obtain ⟨v6_1, hv6_0, hv6_1, hv6_2, rfl, rfl⟩ := hq9
  refine z_calli hP hD hS hA (va_runV (As := [.int (zI v6_1)]) (rest := []) hC (c_X6_at l D τ α γ h old ch rg ln sl pd ct sg od hs v6_1 (by first | assumption | rfl | omega) (by first | assumption | rfl | omega) _) (cwV 1 hts (gV hB wl_X9_87 wn_X6_at ws_X6_at wi_X6 wc_X6_at) rfl rfl rfl hd_X6_at ⟨Nat.le_of_ble_eq_true rfl, Nat.le_of_ble_eq_true rfl⟩) (zp_V hK hP hD hS hA hG (ci := 6) (q0 := 1) rfl rfl rfl) rfl rfl hl.1 rfl (lv_room (Nat.le_of_ble_eq_true rfl)) dX9_heightOf_9 ⟨Nat.le_of_ble_eq_true rfl, Nat.le_of_ble_eq_true rfl⟩) (fun r w1 H locs hq9 hP hD hS => ?_)
  obtain ⟨v9_2, hv9_0, hv9_1, hv9_2, rfl, rfl⟩ := hq9
  have hP : va_P D vwCl (wH α γ (h, old, ch) rg ln sl pd ct sg od hs) H := hP
  have hD : va_D A (wH α γ (h, old, ch) rg ln sl pd ct sg od hs) := hD
  exact z_iret hC hr hlk hQ hP hD hS ⟨v9_2, (by trivial), (by rw [hv9_2 (by omega), hv6_1]), rfl, rfl⟩ dX9_heightOf_12

abbrev wz_X9_regionsAbove : List Cond := .code yX9_regionsAbove cX9_regionsAbove 3 (some .int) :: W0
abbrev rm_X9_regionsAbove : Room := { frames := 4, cells := 0, slots := 0, locals := 91 }
theorem hd_X9_regionsAbove : yX9_regionsAbove.cls = RX9 ∧ yX9_regionsAbove.cls ≠ "java/lang/invoke/MethodHandle" ∧ yX9_regionsAbove.cls ≠ "java/lang/invoke/VarHandle" ∧ (parseMethodDescriptor yX9_regionsAbove.desc).map (fun d => d.parameters.length) = some 1 := by decide +kernel
set_option maxHeartbeats 4000000 in
set_option maxRecDepth 100000 in
theorem c_X9_regionsAbove (l : Launch) (D : va_G) (τ : Nat → Nat) (α : Nat → Nat) (γ : Nat → ClassId) (h : IA) (old : IA) (ch : IA) (wt : BA) (qu5 : IA) (ln : TLn) (sl : TSl) (pd : TPd) (ct : TCt) (sg : TSg) (od : TOd) (hs : THs) (lv9 : Int) (hlv : 0 ≤ lv9 ∧ lv9 ≤ 98) (hh : ∀ k, 0 ≤ k → k < 49 → 0 ≤ h k ∧ h k ≤ 99) : cM l yX9_regionsAbove wz_X9_regionsAbove rm_X9_regionsAbove D τ (tyH γ) [.ref (α 0), .int (zI lv9)] (wH α γ (h, old, ch) (wt, qu5) ln sl pd ct sg od hs) (zQi (fun r w => ∃ (w2 : BA), ∃ (q2 : IA), ∃ (v : Int), (v = S_comps 4 (S_hi h lv9)) ∧ (0 ≤ v ∧ v ≤ 49) ∧ r = zI v ∧ wH α γ (h, old, ch) (w2, q2) ln sl pd ct sg od hs = w)) := by
  refine z_ofM (cc := cX9_regionsAbove) (maxL := 3) (ret := (some .int)) (by decide +kernel) rfl (Nat.le_of_ble_eq_true rfl) ?_
  intro pg e s m args below meth c hC hr hlk hnm hK hP A hD hG hA hS ls hl Q hQ
  have hx := hC.1
  have hb := hC.2.1
  have hml := hC.2.2.1
  have hown := hC.2.2.2.1
  have hts := hC.2.2.2.2
  have hB : ∀ w ∈ W0, w ∈ wz_X9_regionsAbove := fun _ h => List.mem_cons_of_mem _ h
  have hW0 : ∀ w ∈ W0, w.before args s = true := fun w h => hts w (hB w h)
  have hl : lv_has ls 3 [(0, .ref (α 0)), (1, .int (zI lv9))] := hl
  refine lv_aload_n hx hb dX9_regionsAbove_0 rfl (lv_at hl 0 rfl) ?_
  refine va_get (D := D) (ci := 9) (v := .ref (α 2)) (C := RX9) (T := TX9) (N := 9) hx hb hts (fun w h => List.mem_cons_of_mem _ (wx_X9 w h)) hown hK hP 0 rfl rfl 1 (by decide) (hW0 _ wf_X9_19) (fun _ h9 => h9) rfl dX9_regionsAbove_1 ?_
  refine z_callv hP hD hS hA (va_runV (As := []) (rest := []) hC (c_X5_clear l D τ α γ (h, old, ch) wt qu5 ln sl pd ct sg od hs _) (cwV 0 hts (gV hB wl_X9_245 wn_X5_clear ws_X5_clear wi_X5 wc_X5_clear) rfl rfl rfl hd_X5_clear ⟨Nat.le_of_ble_eq_true rfl, Nat.le_of_ble_eq_true rfl⟩) (zp_V hK hP hD hS hA hG (ci := 5) (q0 := 2) rfl rfl rfl) rfl rfl hl.1 rfl (lv_room (Nat.le_of_ble_eq_true rfl)) dX9_regionsAbove_4 ⟨Nat.le_of_ble_eq_true rfl, Nat.le_of_ble_eq_true rfl⟩) (fun w1 H locs hq9 hP hD hS => ?_)
  obtain ⟨w4_1, hv4_0, rfl⟩ := hq9
  have hP : va_P D vwCl (wH α γ (h, old, ch) (w4_1, qu5) ln sl pd ct sg od hs) H := hP
  have hD : va_D A (wH α γ (h, old, ch) (w4_1, qu5) ln sl pd ct sg od hs) := hD
  refine lv_iconst (v := zI 0) hx hb dX9_regionsAbove_7 rfl ?_
  refine lv_istore_n (lv' := [(2, .int (zI 0)), (0, .ref (α 0)), (1, .int (zI lv9))]) hx hb dX9_regionsAbove_8 rfl hl (by decide) rfl (fun ls hl => ?_)
  suffices HL_9 : ∀ (n_9 : Nat), ∀ (w1 : BA) (i : Int) (H : Heap) (locs : List Loc) (hP : va_P D vwCl (wH α γ (h, old, ch) (w1, qu5) ln sl pd ct sg od hs) H) (hD : va_D A (wH α γ (h, old, ch) (w1, qu5) ln sl pd ct sg od hs)) (hS : va_S A s.heap H locs) (ls : Array Slot) (hl : lv_has ls 3 [(2, .int (zI i)), (0, .ref (α 0)), (1, .int (zI lv9))]) (hi : 0 ≤ i ∧ i ≤ 49) (hw1 : w1 = bmix i (S_hi h lv9) (bmix 49 (fun _ => false) wt)) (hm : (49 - i).toNat < n_9), W pg l e rm_X9_regionsAbove s m args below meth c H locs 0 0 Q (F0 m 9 ls []) from HL_9 _ w4_1 0 _ _ hP hD hS _ (lv_sub hl [0, 1, 2] rfl) (by first | assumption | rfl | omega) (by rw [bmix_0]; exact hv4_0) (Nat.lt_succ_self _)
  intro n_9
  induction n_9 with
  | zero => intro w1 i H locs hP hD hS ls hl hi hw1 hm; exact absurd hm (Nat.not_lt_zero _)
  | succ n_9 ih_9 =>
    intro w1 i H locs hP hD hS ls hl hi hw1 hm
    refine lv_iload_n hx hb dX9_regionsAbove_9 rfl (lv_at hl 0 rfl) ?_
    refine lv_bipush (v := zI 49) hx hb dX9_regionsAbove_10 (zI_b8 (by decide)) ?_
    refine z_icge (tgt := 41) hx hb ⟨by omega, by omega⟩ ⟨by omega, by omega⟩ dX9_regionsAbove_12 (by decide) (fun c_12 => ?_) (fun c_12 => ?_)
    · refine lv_aload_n hx hb dX9_regionsAbove_41 rfl (lv_at hl 1 rfl) ?_
      refine va_get (D := D) (ci := 9) (v := .ref (α 2)) (C := RX9) (T := TX9) (N := 9) hx hb hts (fun w h => List.mem_cons_of_mem _ (wx_X9 w h)) hown hK hP 0 rfl rfl 1 (by decide) (hW0 _ wf_X9_19) (fun _ h9 => h9) rfl dX9_regionsAbove_42 ?_
      refine lv_iconst (v := zI 4) hx hb dX9_regionsAbove_45 rfl ?_
      refine z_calli hP hD hS hA (va_runV (As := [.int (zI 4)]) (rest := []) hC (c_X5_count l D τ α γ (h, old, ch) w1 qu5 ln sl pd ct sg od hs 4 (by first | assumption | rfl | omega) _) (cwV 1 hts (gV hB wl_X9_249 wn_X5_count ws_X5_count wi_X5 wc_X5_count) rfl rfl rfl hd_X5_count ⟨Nat.le_of_ble_eq_true rfl, Nat.le_of_ble_eq_true rfl⟩) (zp_V hK hP hD hS hA hG (ci := 5) (q0 := 2) rfl rfl rfl) rfl rfl hl.1 rfl (lv_room (Nat.le_of_ble_eq_true rfl)) dX9_regionsAbove_46 ⟨Nat.le_of_ble_eq_true rfl, Nat.le_of_ble_eq_true rfl⟩) (fun r w1 H locs hq9 hP hD hS => ?_)
      obtain ⟨w46_2, q46_3, v46_4, hv46_0, hv46_1, rfl, rfl⟩ := hq9
      have hP : va_P D vwCl (wH α γ (h, old, ch) (w46_2, q46_3) ln sl pd ct sg od hs) H := hP
      have hD : va_D A (wH α γ (h, old, ch) (w46_2, q46_3) ln sl pd ct sg od hs) := hD
      exact z_iret hC hr hlk hQ hP hD hS ⟨w46_2, q46_3, v46_4, (by rw [hv46_0]; exact S_comps_cg (marks hw1 (by omega))), (by omega), rfl, rfl⟩ dX9_regionsAbove_49
    · refine lv_aload_n hx hb dX9_regionsAbove_15 rfl (lv_at hl 1 rfl) ?_
      refine va_get (D := D) (ci := 9) (v := .ref (α 1)) (C := RX9) (T := TX9) (N := 9) hx hb hts (fun w h => List.mem_cons_of_mem _ (wx_X9 w h)) hown hK hP 0 rfl rfl 0 (by decide) (hW0 _ wf_X9_12) (fun _ h9 => h9) rfl dX9_regionsAbove_16 ?_
      refine lv_iload_n hx hb dX9_regionsAbove_19 rfl (lv_at hl 0 rfl) ?_
      refine z_calli hP hD hS hA (va_runV (As := [.int (zI i)]) (rest := []) hC (c_X6_at l D τ α γ h old ch (w1, qu5) ln sl pd ct sg od hs i (by first | assumption | rfl | omega) (by first | assumption | rfl | omega) _) (cwV 1 hts (gV hB wl_X9_87 wn_X6_at ws_X6_at wi_X6 wc_X6_at) rfl rfl rfl hd_X6_at ⟨Nat.le_of_ble_eq_true rfl, Nat.le_of_ble_eq_true rfl⟩) (zp_V hK hP hD hS hA hG (ci := 6) (q0 := 1) rfl rfl rfl) rfl rfl hl.1 rfl (lv_room (Nat.le_of_ble_eq_true rfl)) dX9_regionsAbove_20 ⟨Nat.le_of_ble_eq_true rfl, Nat.le_of_ble_eq_true rfl⟩) (fun r w1 H locs hq9 hP hD hS => ?_)
      obtain ⟨v20_5, hv20_0, hv20_1, hv20_2, rfl, rfl⟩ := hq9
      have hP : va_P D vwCl (wH α γ (h, old, ch) (w1, qu5) ln sl pd ct sg od hs) H := hP
      have hD : va_D A (wH α γ (h, old, ch) (w1, qu5) ln sl pd ct sg od hs) := hD
      have e20 := hv20_2 (by omega)
      refine lv_iload_n hx hb dX9_regionsAbove_23 rfl (lv_at hl 2 rfl) ?_
      refine z_icle (tgt := 35) hx hb ⟨by omega, by omega⟩ ⟨by omega, by omega⟩ dX9_regionsAbove_24 (by decide) (fun c_24 => ?_) (fun c_24 => ?_)
      · refine z_iinc (k := 0) (v := i + 1) (lv' := [(2, .int (zI (i + 1))), (0, .ref (α 0)), (1, .int (zI lv9))]) hx hb dX9_regionsAbove_35 hl rfl rfl (by decide) rfl (fun ls hl => ?_)
        refine lv_goto (tgt := 9) hx hb dX9_regionsAbove_38 (by decide) ?_
        exact ih_9 w1 (i + 1) _ _ hP hD hS _ (lv_sub hl [0, 1, 2] rfl) (by first | assumption | rfl | omega) (by first | (rw [hv32_0, hw1]; exact bmix_up hi.1 (S_hi_t (by omega)).symm) | (rw [hw1]; exact bmix_skip hi.1 (by rw [bmix_at (by omega)]; exact (S_hi_f (by omega)).symm))) (by omega)
      · refine lv_aload_n hx hb dX9_regionsAbove_27 rfl (lv_at hl 1 rfl) ?_
        refine va_get (D := D) (ci := 9) (v := .ref (α 2)) (C := RX9) (T := TX9) (N := 9) hx hb hts (fun w h => List.mem_cons_of_mem _ (wx_X9 w h)) hown hK hP 0 rfl rfl 1 (by decide) (hW0 _ wf_X9_19) (fun _ h9 => h9) rfl dX9_regionsAbove_28 ?_
        refine lv_iload_n hx hb dX9_regionsAbove_31 rfl (lv_at hl 0 rfl) ?_
        refine z_callv hP hD hS hA (va_runV (As := [.int (zI i)]) (rest := []) hC (c_X5_add l D τ α γ (h, old, ch) w1 qu5 ln sl pd ct sg od hs i (by first | assumption | rfl | omega) _) (cwV 1 hts (gV hB wl_X9_248 wn_X5_add ws_X5_add wi_X5 wc_X5_add) rfl rfl rfl hd_X5_add ⟨Nat.le_of_ble_eq_true rfl, Nat.le_of_ble_eq_true rfl⟩) (zp_V hK hP hD hS hA hG (ci := 5) (q0 := 2) rfl rfl rfl) rfl rfl hl.1 rfl (lv_room (Nat.le_of_ble_eq_true rfl)) dX9_regionsAbove_32 ⟨Nat.le_of_ble_eq_true rfl, Nat.le_of_ble_eq_true rfl⟩) (fun w1 H locs hq9 hP hD hS => ?_)
        obtain ⟨w32_6, hv32_0, rfl⟩ := hq9
        have hP : va_P D vwCl (wH α γ (h, old, ch) (w32_6, qu5) ln sl pd ct sg od hs) H := hP
        have hD : va_D A (wH α γ (h, old, ch) (w32_6, qu5) ln sl pd ct sg od hs) := hD
        refine z_iinc (k := 0) (v := i + 1) (lv' := [(2, .int (zI (i + 1))), (0, .ref (α 0)), (1, .int (zI lv9))]) hx hb dX9_regionsAbove_35 hl rfl rfl (by decide) rfl (fun ls hl => ?_)
        refine lv_goto (tgt := 9) hx hb dX9_regionsAbove_38 (by decide) ?_
        exact ih_9 w32_6 (i + 1) _ _ hP hD hS _ (lv_sub hl [0, 1, 2] rfl) (by first | assumption | rfl | omega) (by first | (rw [hv32_0, hw1]; exact bmix_up hi.1 (S_hi_t (by omega)).symm) | (rw [hw1]; exact bmix_skip hi.1 (by rw [bmix_at (by omega)]; exact (S_hi_f (by omega)).symm))) (by omega)

abbrev wz_X9_regionsNotAbove : List Cond := .code yX9_regionsNotAbove cX9_regionsNotAbove 3 (some .int) :: W0
abbrev rm_X9_regionsNotAbove : Room := { frames := 4, cells := 0, slots := 0, locals := 91 }
theorem hd_X9_regionsNotAbove : yX9_regionsNotAbove.cls = RX9 ∧ yX9_regionsNotAbove.cls ≠ "java/lang/invoke/MethodHandle" ∧ yX9_regionsNotAbove.cls ≠ "java/lang/invoke/VarHandle" ∧ (parseMethodDescriptor yX9_regionsNotAbove.desc).map (fun d => d.parameters.length) = some 1 := by decide +kernel
set_option maxHeartbeats 4000000 in
set_option maxRecDepth 100000 in
theorem c_X9_regionsNotAbove (l : Launch) (D : va_G) (τ : Nat → Nat) (α : Nat → Nat) (γ : Nat → ClassId) (h : IA) (old : IA) (ch : IA) (wt : BA) (qu5 : IA) (ln : TLn) (sl : TSl) (pd : TPd) (ct : TCt) (sg : TSg) (od : TOd) (hs : THs) (lv9 : Int) (hlv : 0 ≤ lv9 ∧ lv9 ≤ 98) (hh : ∀ k, 0 ≤ k → k < 49 → 0 ≤ h k ∧ h k ≤ 99) : cM l yX9_regionsNotAbove wz_X9_regionsNotAbove rm_X9_regionsNotAbove D τ (tyH γ) [.ref (α 0), .int (zI lv9)] (wH α γ (h, old, ch) (wt, qu5) ln sl pd ct sg od hs) (zQi (fun r w => ∃ (w2 : BA), ∃ (q2 : IA), ∃ (v : Int), (v = S_comps 8 (fun k => !S_hi h lv9 k)) ∧ (0 ≤ v ∧ v ≤ 49) ∧ r = zI v ∧ wH α γ (h, old, ch) (w2, q2) ln sl pd ct sg od hs = w)) := by
  refine z_ofM (cc := cX9_regionsNotAbove) (maxL := 3) (ret := (some .int)) (by decide +kernel) rfl (Nat.le_of_ble_eq_true rfl) ?_
  intro pg e s m args below meth c hC hr hlk hnm hK hP A hD hG hA hS ls hl Q hQ
  have hx := hC.1
  have hb := hC.2.1
  have hml := hC.2.2.1
  have hown := hC.2.2.2.1
  have hts := hC.2.2.2.2
  have hB : ∀ w ∈ W0, w ∈ wz_X9_regionsNotAbove := fun _ h => List.mem_cons_of_mem _ h
  have hW0 : ∀ w ∈ W0, w.before args s = true := fun w h => hts w (hB w h)
  have hl : lv_has ls 3 [(0, .ref (α 0)), (1, .int (zI lv9))] := hl
  refine lv_aload_n hx hb dX9_regionsNotAbove_0 rfl (lv_at hl 0 rfl) ?_
  refine va_get (D := D) (ci := 9) (v := .ref (α 2)) (C := RX9) (T := TX9) (N := 9) hx hb hts (fun w h => List.mem_cons_of_mem _ (wx_X9 w h)) hown hK hP 0 rfl rfl 1 (by decide) (hW0 _ wf_X9_19) (fun _ h9 => h9) rfl dX9_regionsNotAbove_1 ?_
  refine z_callv hP hD hS hA (va_runV (As := []) (rest := []) hC (c_X5_clear l D τ α γ (h, old, ch) wt qu5 ln sl pd ct sg od hs _) (cwV 0 hts (gV hB wl_X9_245 wn_X5_clear ws_X5_clear wi_X5 wc_X5_clear) rfl rfl rfl hd_X5_clear ⟨Nat.le_of_ble_eq_true rfl, Nat.le_of_ble_eq_true rfl⟩) (zp_V hK hP hD hS hA hG (ci := 5) (q0 := 2) rfl rfl rfl) rfl rfl hl.1 rfl (lv_room (Nat.le_of_ble_eq_true rfl)) dX9_regionsNotAbove_4 ⟨Nat.le_of_ble_eq_true rfl, Nat.le_of_ble_eq_true rfl⟩) (fun w1 H locs hq9 hP hD hS => ?_)
  obtain ⟨w4_1, hv4_0, rfl⟩ := hq9
  have hP : va_P D vwCl (wH α γ (h, old, ch) (w4_1, qu5) ln sl pd ct sg od hs) H := hP
  have hD : va_D A (wH α γ (h, old, ch) (w4_1, qu5) ln sl pd ct sg od hs) := hD
  refine lv_iconst (v := zI 0) hx hb dX9_regionsNotAbove_7 rfl ?_
  refine lv_istore_n (lv' := [(2, .int (zI 0)), (0, .ref (α 0)), (1, .int (zI lv9))]) hx hb dX9_regionsNotAbove_8 rfl hl (by decide) rfl (fun ls hl => ?_)
  suffices HL_9 : ∀ (n_9 : Nat), ∀ (w1 : BA) (i : Int) (H : Heap) (locs : List Loc) (hP : va_P D vwCl (wH α γ (h, old, ch) (w1, qu5) ln sl pd ct sg od hs) H) (hD : va_D A (wH α γ (h, old, ch) (w1, qu5) ln sl pd ct sg od hs)) (hS : va_S A s.heap H locs) (ls : Array Slot) (hl : lv_has ls 3 [(2, .int (zI i)), (0, .ref (α 0)), (1, .int (zI lv9))]) (hi : 0 ≤ i ∧ i ≤ 49) (hw1 : w1 = bmix i (fun k => !S_hi h lv9 k) (bmix 49 (fun _ => false) wt)) (hm : (49 - i).toNat < n_9), W pg l e rm_X9_regionsNotAbove s m args below meth c H locs 0 0 Q (F0 m 9 ls []) from HL_9 _ w4_1 0 _ _ hP hD hS _ (lv_sub hl [0, 1, 2] rfl) (by first | assumption | rfl | omega) (by rw [bmix_0]; exact hv4_0) (Nat.lt_succ_self _)
  intro n_9
  induction n_9 with
  | zero => intro w1 i H locs hP hD hS ls hl hi hw1 hm; exact absurd hm (Nat.not_lt_zero _)
  | succ n_9 ih_9 =>
    intro w1 i H locs hP hD hS ls hl hi hw1 hm
    refine lv_iload_n hx hb dX9_regionsNotAbove_9 rfl (lv_at hl 0 rfl) ?_
    refine lv_bipush (v := zI 49) hx hb dX9_regionsNotAbove_10 (zI_b8 (by decide)) ?_
    refine z_icge (tgt := 41) hx hb ⟨by omega, by omega⟩ ⟨by omega, by omega⟩ dX9_regionsNotAbove_12 (by decide) (fun c_12 => ?_) (fun c_12 => ?_)
    · refine lv_aload_n hx hb dX9_regionsNotAbove_41 rfl (lv_at hl 1 rfl) ?_
      refine va_get (D := D) (ci := 9) (v := .ref (α 2)) (C := RX9) (T := TX9) (N := 9) hx hb hts (fun w h => List.mem_cons_of_mem _ (wx_X9 w h)) hown hK hP 0 rfl rfl 1 (by decide) (hW0 _ wf_X9_19) (fun _ h9 => h9) rfl dX9_regionsNotAbove_42 ?_
      refine lv_bipush (v := zI 8) hx hb dX9_regionsNotAbove_45 (zI_b8 (by decide)) ?_
      refine z_calli hP hD hS hA (va_runV (As := [.int (zI 8)]) (rest := []) hC (c_X5_count l D τ α γ (h, old, ch) w1 qu5 ln sl pd ct sg od hs 8 (by first | assumption | rfl | omega) _) (cwV 1 hts (gV hB wl_X9_249 wn_X5_count ws_X5_count wi_X5 wc_X5_count) rfl rfl rfl hd_X5_count ⟨Nat.le_of_ble_eq_true rfl, Nat.le_of_ble_eq_true rfl⟩) (zp_V hK hP hD hS hA hG (ci := 5) (q0 := 2) rfl rfl rfl) rfl rfl hl.1 rfl (lv_room (Nat.le_of_ble_eq_true rfl)) dX9_regionsNotAbove_47 ⟨Nat.le_of_ble_eq_true rfl, Nat.le_of_ble_eq_true rfl⟩) (fun r w1 H locs hq9 hP hD hS => ?_)
      obtain ⟨w47_2, q47_3, v47_4, hv47_0, hv47_1, rfl, rfl⟩ := hq9
      have hP : va_P D vwCl (wH α γ (h, old, ch) (w47_2, q47_3) ln sl pd ct sg od hs) H := hP
      have hD : va_D A (wH α γ (h, old, ch) (w47_2, q47_3) ln sl pd ct sg od hs) := hD
      exact z_iret hC hr hlk hQ hP hD hS ⟨w47_2, q47_3, v47_4, (by rw [hv47_0]; exact S_comps_cg (marks hw1 (by omega))), (by omega), rfl, rfl⟩ dX9_regionsNotAbove_50
    · refine lv_aload_n hx hb dX9_regionsNotAbove_15 rfl (lv_at hl 1 rfl) ?_
      refine va_get (D := D) (ci := 9) (v := .ref (α 1)) (C := RX9) (T := TX9) (N := 9) hx hb hts (fun w h => List.mem_cons_of_mem _ (wx_X9 w h)) hown hK hP 0 rfl rfl 0 (by decide) (hW0 _ wf_X9_12) (fun _ h9 => h9) rfl dX9_regionsNotAbove_16 ?_
      refine lv_iload_n hx hb dX9_regionsNotAbove_19 rfl (lv_at hl 0 rfl) ?_
      refine z_calli hP hD hS hA (va_runV (As := [.int (zI i)]) (rest := []) hC (c_X6_at l D τ α γ h old ch (w1, qu5) ln sl pd ct sg od hs i (by first | assumption | rfl | omega) (by first | assumption | rfl | omega) _) (cwV 1 hts (gV hB wl_X9_87 wn_X6_at ws_X6_at wi_X6 wc_X6_at) rfl rfl rfl hd_X6_at ⟨Nat.le_of_ble_eq_true rfl, Nat.le_of_ble_eq_true rfl⟩) (zp_V hK hP hD hS hA hG (ci := 6) (q0 := 1) rfl rfl rfl) rfl rfl hl.1 rfl (lv_room (Nat.le_of_ble_eq_true rfl)) dX9_regionsNotAbove_20 ⟨Nat.le_of_ble_eq_true rfl, Nat.le_of_ble_eq_true rfl⟩) (fun r w1 H locs hq9 hP hD hS => ?_)
      obtain ⟨v20_5, hv20_0, hv20_1, hv20_2, rfl, rfl⟩ := hq9
      have hP : va_P D vwCl (wH α γ (h, old, ch) (w1, qu5) ln sl pd ct sg od hs) H := hP
      have hD : va_D A (wH α γ (h, old, ch) (w1, qu5) ln sl pd ct sg od hs) := hD
      have e20 := hv20_2 (by omega)
      refine lv_iload_n hx hb dX9_regionsNotAbove_23 rfl (lv_at hl 2 rfl) ?_
      refine z_icgt (tgt := 35) hx hb ⟨by omega, by omega⟩ ⟨by omega, by omega⟩ dX9_regionsNotAbove_24 (by decide) (fun c_24 => ?_) (fun c_24 => ?_)
      · refine z_iinc (k := 0) (v := i + 1) (lv' := [(2, .int (zI (i + 1))), (0, .ref (α 0)), (1, .int (zI lv9))]) hx hb dX9_regionsNotAbove_35 hl rfl rfl (by decide) rfl (fun ls hl => ?_)
        refine lv_goto (tgt := 9) hx hb dX9_regionsNotAbove_38 (by decide) ?_
        exact ih_9 w1 (i + 1) _ _ hP hD hS _ (lv_sub hl [0, 1, 2] rfl) (by first | assumption | rfl | omega) (by first | (rw [hv32_0, hw1]; exact bmix_up hi.1 (show (!S_hi h lv9 i) = true by (rw [S_hi_f (by omega)]; rfl)).symm) | (rw [hw1]; exact bmix_skip hi.1 (by rw [bmix_at (by omega)]; exact ((show (!S_hi h lv9 i) = false by (rw [S_hi_t (by omega)]; rfl))).symm))) (by omega)
      · refine lv_aload_n hx hb dX9_regionsNotAbove_27 rfl (lv_at hl 1 rfl) ?_
        refine va_get (D := D) (ci := 9) (v := .ref (α 2)) (C := RX9) (T := TX9) (N := 9) hx hb hts (fun w h => List.mem_cons_of_mem _ (wx_X9 w h)) hown hK hP 0 rfl rfl 1 (by decide) (hW0 _ wf_X9_19) (fun _ h9 => h9) rfl dX9_regionsNotAbove_28 ?_
        refine lv_iload_n hx hb dX9_regionsNotAbove_31 rfl (lv_at hl 0 rfl) ?_
        refine z_callv hP hD hS hA (va_runV (As := [.int (zI i)]) (rest := []) hC (c_X5_add l D τ α γ (h, old, ch) w1 qu5 ln sl pd ct sg od hs i (by first | assumption | rfl | omega) _) (cwV 1 hts (gV hB wl_X9_248 wn_X5_add ws_X5_add wi_X5 wc_X5_add) rfl rfl rfl hd_X5_add ⟨Nat.le_of_ble_eq_true rfl, Nat.le_of_ble_eq_true rfl⟩) (zp_V hK hP hD hS hA hG (ci := 5) (q0 := 2) rfl rfl rfl) rfl rfl hl.1 rfl (lv_room (Nat.le_of_ble_eq_true rfl)) dX9_regionsNotAbove_32 ⟨Nat.le_of_ble_eq_true rfl, Nat.le_of_ble_eq_true rfl⟩) (fun w1 H locs hq9 hP hD hS => ?_)
        obtain ⟨w32_6, hv32_0, rfl⟩ := hq9
        have hP : va_P D vwCl (wH α γ (h, old, ch) (w32_6, qu5) ln sl pd ct sg od hs) H := hP
        have hD : va_D A (wH α γ (h, old, ch) (w32_6, qu5) ln sl pd ct sg od hs) := hD
        refine z_iinc (k := 0) (v := i + 1) (lv' := [(2, .int (zI (i + 1))), (0, .ref (α 0)), (1, .int (zI lv9))]) hx hb dX9_regionsNotAbove_35 hl rfl rfl (by decide) rfl (fun ls hl => ?_)
        refine lv_goto (tgt := 9) hx hb dX9_regionsNotAbove_38 (by decide) ?_
        exact ih_9 w32_6 (i + 1) _ _ hP hD hS _ (lv_sub hl [0, 1, 2] rfl) (by first | assumption | rfl | omega) (by first | (rw [hv32_0, hw1]; exact bmix_up hi.1 (show (!S_hi h lv9 i) = true by (rw [S_hi_f (by omega)]; rfl)).symm) | (rw [hw1]; exact bmix_skip hi.1 (by rw [bmix_at (by omega)]; exact ((show (!S_hi h lv9 i) = false by (rw [S_hi_t (by omega)]; rfl))).symm))) (by omega)

abbrev wz_X9_summit : List Cond := .code yX9_summit cX9_summit 3 (some .int) :: W0
abbrev rm_X9_summit : Room := { frames := 2, cells := 0, slots := 0, locals := 41 }
theorem hd_X9_summit : yX9_summit.cls = RX9 ∧ yX9_summit.cls ≠ "java/lang/invoke/MethodHandle" ∧ yX9_summit.cls ≠ "java/lang/invoke/VarHandle" ∧ (parseMethodDescriptor yX9_summit.desc).map (fun d => d.parameters.length) = some 0 := by decide +kernel
set_option maxHeartbeats 4000000 in
set_option maxRecDepth 100000 in
theorem c_X9_summit (l : Launch) (D : va_G) (τ : Nat → Nat) (α : Nat → Nat) (γ : Nat → ClassId) (h : IA) (old : IA) (ch : IA) (rg : TRg) (ln : TLn) (sl : TSl) (pd : TPd) (ct : TCt) (sg : TSg) (od : TOd) (hs : THs) (hh : ∀ k, 0 ≤ k → k < 49 → 0 ≤ h k ∧ h k ≤ 99) : cM l yX9_summit wz_X9_summit rm_X9_summit D τ (tyH γ) [.ref (α 0)] (wH α γ (h, old, ch) rg ln sl pd ct sg od hs) (zQi (fun r w => ∃ (v : Int), (v = S_arg h 49) ∧ (0 ≤ v ∧ v < 49) ∧ r = zI v ∧ wH α γ (h, old, ch) rg ln sl pd ct sg od hs = w)) := by
  refine z_ofM (cc := cX9_summit) (maxL := 3) (ret := (some .int)) (by decide +kernel) rfl (Nat.le_of_ble_eq_true rfl) ?_
  intro pg e s m args below meth c hC hr hlk hnm hK hP A hD hG hA hS ls hl Q hQ
  have hx := hC.1
  have hb := hC.2.1
  have hml := hC.2.2.1
  have hown := hC.2.2.2.1
  have hts := hC.2.2.2.2
  have hB : ∀ w ∈ W0, w ∈ wz_X9_summit := fun _ h => List.mem_cons_of_mem _ h
  have hW0 : ∀ w ∈ W0, w.before args s = true := fun w h => hts w (hB w h)
  have hl : lv_has ls 3 [(0, .ref (α 0))] := hl
  refine lv_iconst (v := zI 0) hx hb dX9_summit_0 rfl ?_
  refine lv_istore_n (lv' := [(1, .int (zI 0)), (0, .ref (α 0))]) hx hb dX9_summit_1 rfl hl (by decide) rfl (fun ls hl => ?_)
  refine lv_iconst (v := zI 1) hx hb dX9_summit_2 rfl ?_
  refine lv_istore_n (lv' := [(2, .int (zI 1)), (1, .int (zI 0)), (0, .ref (α 0))]) hx hb dX9_summit_3 rfl hl (by decide) rfl (fun ls hl => ?_)
  suffices HL_4 : ∀ (n_4 : Nat), ∀ (q : Int) (i : Int) (H : Heap) (locs : List Loc) (hP : va_P D vwCl (wH α γ (h, old, ch) rg ln sl pd ct sg od hs) H) (hD : va_D A (wH α γ (h, old, ch) rg ln sl pd ct sg od hs)) (hS : va_S A s.heap H locs) (ls : Array Slot) (hl : lv_has ls 3 [(1, .int (zI q)), (2, .int (zI i)), (0, .ref (α 0))]) (hi : 1 ≤ i ∧ i ≤ 49) (hq : q = S_arg h i) (hqb : 0 ≤ q ∧ q < 49) (hm : (49 - i).toNat < n_4), W pg l e rm_X9_summit s m args below meth c H locs 0 0 Q (F0 m 4 ls []) from HL_4 _ 0 1 _ _ hP hD hS _ (lv_sub hl [1, 0, 2] rfl) (by first | assumption | rfl | omega) (by exact (S_arg_1 _).symm) (by first | assumption | rfl | omega) (Nat.lt_succ_self _)
  intro n_4
  induction n_4 with
  | zero => intro q i H locs hP hD hS ls hl hi hq hqb hm; exact absurd hm (Nat.not_lt_zero _)
  | succ n_4 ih_4 =>
    intro q i H locs hP hD hS ls hl hi hq hqb hm
    refine lv_iload_n hx hb dX9_summit_4 rfl (lv_at hl 1 rfl) ?_
    refine lv_bipush (v := zI 49) hx hb dX9_summit_5 (zI_b8 (by decide)) ?_
    refine z_icge (tgt := 37) hx hb ⟨by omega, by omega⟩ ⟨by omega, by omega⟩ dX9_summit_7 (by decide) (fun c_7 => ?_) (fun c_7 => ?_)
    · refine lv_iload_n hx hb dX9_summit_37 rfl (lv_at hl 0 rfl) ?_
      exact z_iret hC hr hlk hQ hP hD hS ⟨q, (by rw [hq, show i = 49 by omega]), (by omega), rfl, rfl⟩ dX9_summit_38
    · refine lv_aload_n hx hb dX9_summit_10 rfl (lv_at hl 2 rfl) ?_
      refine va_get (D := D) (ci := 9) (v := .ref (α 1)) (C := RX9) (T := TX9) (N := 9) hx hb hts (fun w h => List.mem_cons_of_mem _ (wx_X9 w h)) hown hK hP 0 rfl rfl 0 (by decide) (hW0 _ wf_X9_12) (fun _ h9 => h9) rfl dX9_summit_11 ?_
      refine lv_iload_n hx hb dX9_summit_14 rfl (lv_at hl 1 rfl) ?_
      refine z_calli hP hD hS hA (va_runV (As := [.int (zI i)]) (rest := []) hC (c_X6_at l D τ α γ h old ch rg ln sl pd ct sg od hs i (by first | assumption | rfl | omega) (by first | assumption | rfl | omega) _) (cwV 1 hts (gV hB wl_X9_87 wn_X6_at ws_X6_at wi_X6 wc_X6_at) rfl rfl rfl hd_X6_at ⟨Nat.le_of_ble_eq_true rfl, Nat.le_of_ble_eq_true rfl⟩) (zp_V hK hP hD hS hA hG (ci := 6) (q0 := 1) rfl rfl rfl) rfl rfl hl.1 rfl (lv_room (Nat.le_of_ble_eq_true rfl)) dX9_summit_15 ⟨Nat.le_of_ble_eq_true rfl, Nat.le_of_ble_eq_true rfl⟩) (fun r w1 H locs hq9 hP hD hS => ?_)
      obtain ⟨v15_1, hv15_0, hv15_1, hv15_2, rfl, rfl⟩ := hq9
      have hP : va_P D vwCl (wH α γ (h, old, ch) rg ln sl pd ct sg od hs) H := hP
      have hD : va_D A (wH α γ (h, old, ch) rg ln sl pd ct sg od hs) := hD
      refine lv_aload_n hx hb dX9_summit_18 rfl (lv_at hl 2 rfl) ?_
      refine va_get (D := D) (ci := 9) (v := .ref (α 1)) (C := RX9) (T := TX9) (N := 9) hx hb hts (fun w h => List.mem_cons_of_mem _ (wx_X9 w h)) hown hK hP 0 rfl rfl 0 (by decide) (hW0 _ wf_X9_12) (fun _ h9 => h9) rfl dX9_summit_19 ?_
      refine lv_iload_n hx hb dX9_summit_22 rfl (lv_at hl 0 rfl) ?_
      refine z_calli hP hD hS hA (va_runV (As := [.int (zI q)]) (rest := [.int (zI v15_1)]) hC (c_X6_at l D τ α γ h old ch rg ln sl pd ct sg od hs q (by first | assumption | rfl | omega) (by first | assumption | rfl | omega) _) (cwV 1 hts (gV hB wl_X9_87 wn_X6_at ws_X6_at wi_X6 wc_X6_at) rfl rfl rfl hd_X6_at ⟨Nat.le_of_ble_eq_true rfl, Nat.le_of_ble_eq_true rfl⟩) (zp_V hK hP hD hS hA hG (ci := 6) (q0 := 1) rfl rfl rfl) rfl rfl hl.1 rfl (lv_room (Nat.le_of_ble_eq_true rfl)) dX9_summit_23 ⟨Nat.le_of_ble_eq_true rfl, Nat.le_of_ble_eq_true rfl⟩) (fun r w1 H locs hq9 hP hD hS => ?_)
      obtain ⟨v23_2, hv23_0, hv23_1, hv23_2, rfl, rfl⟩ := hq9
      have hP : va_P D vwCl (wH α γ (h, old, ch) rg ln sl pd ct sg od hs) H := hP
      have hD : va_D A (wH α γ (h, old, ch) rg ln sl pd ct sg od hs) := hD
      have e15 := hv15_2 (by omega)
      have e23 := hv23_2 (by omega)
      refine z_icle (tgt := 31) hx hb ⟨by omega, by omega⟩ ⟨by omega, by omega⟩ dX9_summit_26 (by decide) (fun c_26 => ?_) (fun c_26 => ?_)
      · refine z_iinc (k := 1) (v := i + 1) (lv' := [(2, .int (zI (i + 1))), (1, .int (zI q)), (0, .ref (α 0))]) hx hb dX9_summit_31 hl rfl rfl (by decide) rfl (fun ls hl => ?_)
        refine lv_goto (tgt := 4) hx hb dX9_summit_34 (by decide) ?_
        exact ih_4 q (i + 1) _ _ hP hD hS _ (lv_sub hl [1, 0, 2] rfl) (by first | assumption | rfl | omega) (by rw [S_arg_up (by omega), ← hq]; first | (rw [if_pos (by omega)]; done) | (rw [if_neg (by omega)]; done)) (by first | assumption | rfl | omega) (by omega)
      · refine lv_iload_n hx hb dX9_summit_29 rfl (lv_at hl 1 rfl) ?_
        refine lv_istore_n (lv' := [(1, .int (zI i)), (2, .int (zI i)), (0, .ref (α 0))]) hx hb dX9_summit_30 rfl hl (by decide) rfl (fun ls hl => ?_)
        refine z_iinc (k := 1) (v := i + 1) (lv' := [(2, .int (zI (i + 1))), (1, .int (zI i)), (0, .ref (α 0))]) hx hb dX9_summit_31 hl rfl rfl (by decide) rfl (fun ls hl => ?_)
        refine lv_goto (tgt := 4) hx hb dX9_summit_34 (by decide) ?_
        exact ih_4 i (i + 1) _ _ hP hD hS _ (lv_sub hl [1, 0, 2] rfl) (by first | assumption | rfl | omega) (by rw [S_arg_up (by omega), ← hq]; first | (rw [if_pos (by omega)]; done) | (rw [if_neg (by omega)]; done)) (by first | assumption | rfl | omega) (by omega)

abbrev wz_X9_bulk : List Cond := .code yX9_bulk cX9_bulk 3 (some .int) :: W0
abbrev rm_X9_bulk : Room := { frames := 2, cells := 0, slots := 0, locals := 41 }
theorem hd_X9_bulk : yX9_bulk.cls = RX9 ∧ yX9_bulk.cls ≠ "java/lang/invoke/MethodHandle" ∧ yX9_bulk.cls ≠ "java/lang/invoke/VarHandle" ∧ (parseMethodDescriptor yX9_bulk.desc).map (fun d => d.parameters.length) = some 0 := by decide +kernel
set_option maxHeartbeats 4000000 in
set_option maxRecDepth 100000 in
theorem c_X9_bulk (l : Launch) (D : va_G) (τ : Nat → Nat) (α : Nat → Nat) (γ : Nat → ClassId) (h : IA) (old : IA) (ch : IA) (rg : TRg) (ln : TLn) (sl : TSl) (pd : TPd) (ct : TCt) (sg : TSg) (od : TOd) (hs : THs) (hh : ∀ k, 0 ≤ k → k < 49 → 0 ≤ h k ∧ h k ≤ 99) : cM l yX9_bulk wz_X9_bulk rm_X9_bulk D τ (tyH γ) [.ref (α 0)] (wH α γ (h, old, ch) rg ln sl pd ct sg od hs) (zQi (fun r w => ∃ (v : Int), (v = zS h 49) ∧ (0 ≤ v ∧ v ≤ 4851) ∧ r = zI v ∧ wH α γ (h, old, ch) rg ln sl pd ct sg od hs = w)) := by
  refine z_ofM (cc := cX9_bulk) (maxL := 3) (ret := (some .int)) (by decide +kernel) rfl (Nat.le_of_ble_eq_true rfl) ?_
  intro pg e s m args below meth c hC hr hlk hnm hK hP A hD hG hA hS ls hl Q hQ
  have hx := hC.1
  have hb := hC.2.1
  have hml := hC.2.2.1
  have hown := hC.2.2.2.1
  have hts := hC.2.2.2.2
  have hB : ∀ w ∈ W0, w ∈ wz_X9_bulk := fun _ h => List.mem_cons_of_mem _ h
  have hW0 : ∀ w ∈ W0, w.before args s = true := fun w h => hts w (hB w h)
  have hl : lv_has ls 3 [(0, .ref (α 0))] := hl
  refine lv_iconst (v := zI 0) hx hb dX9_bulk_0 rfl ?_
  refine lv_istore_n (lv' := [(1, .int (zI 0)), (0, .ref (α 0))]) hx hb dX9_bulk_1 rfl hl (by decide) rfl (fun ls hl => ?_)
  refine lv_iconst (v := zI 0) hx hb dX9_bulk_2 rfl ?_
  refine lv_istore_n (lv' := [(2, .int (zI 0)), (1, .int (zI 0)), (0, .ref (α 0))]) hx hb dX9_bulk_3 rfl hl (by decide) rfl (fun ls hl => ?_)
  suffices HL_4 : ∀ (n_4 : Nat), ∀ (g : Int) (i : Int) (H : Heap) (locs : List Loc) (hP : va_P D vwCl (wH α γ (h, old, ch) rg ln sl pd ct sg od hs) H) (hD : va_D A (wH α γ (h, old, ch) rg ln sl pd ct sg od hs)) (hS : va_S A s.heap H locs) (ls : Array Slot) (hl : lv_has ls 3 [(1, .int (zI g)), (2, .int (zI i)), (0, .ref (α 0))]) (hi : 0 ≤ i ∧ i ≤ 49) (hg : g = zS h i) (hgb : 0 ≤ g ∧ g ≤ 99 * i) (hm : (49 - i).toNat < n_4), W pg l e rm_X9_bulk s m args below meth c H locs 0 0 Q (F0 m 4 ls []) from HL_4 _ 0 0 _ _ hP hD hS _ (lv_sub hl [1, 0, 2] rfl) (by first | assumption | rfl | omega) (by exact (zS_0 _).symm) (by first | assumption | rfl | omega) (Nat.lt_succ_self _)
  intro n_4
  induction n_4 with
  | zero => intro g i H locs hP hD hS ls hl hi hg hgb hm; exact absurd hm (Nat.not_lt_zero _)
  | succ n_4 ih_4 =>
    intro g i H locs hP hD hS ls hl hi hg hgb hm
    refine lv_iload_n hx hb dX9_bulk_4 rfl (lv_at hl 1 rfl) ?_
    refine lv_bipush (v := zI 49) hx hb dX9_bulk_5 (zI_b8 (by decide)) ?_
    refine z_icge (tgt := 27) hx hb ⟨by omega, by omega⟩ ⟨by omega, by omega⟩ dX9_bulk_7 (by decide) (fun c_7 => ?_) (fun c_7 => ?_)
    · refine lv_iload_n hx hb dX9_bulk_27 rfl (lv_at hl 0 rfl) ?_
      exact z_iret hC hr hlk hQ hP hD hS ⟨g, (by rw [hg, show i = 49 by omega]), (by omega), rfl, rfl⟩ dX9_bulk_28
    · refine lv_iload_n hx hb dX9_bulk_10 rfl (lv_at hl 0 rfl) ?_
      refine lv_aload_n hx hb dX9_bulk_11 rfl (lv_at hl 2 rfl) ?_
      refine va_get (D := D) (ci := 9) (v := .ref (α 1)) (C := RX9) (T := TX9) (N := 9) hx hb hts (fun w h => List.mem_cons_of_mem _ (wx_X9 w h)) hown hK hP 0 rfl rfl 0 (by decide) (hW0 _ wf_X9_12) (fun _ h9 => h9) rfl dX9_bulk_12 ?_
      refine lv_iload_n hx hb dX9_bulk_15 rfl (lv_at hl 1 rfl) ?_
      refine z_calli hP hD hS hA (va_runV (As := [.int (zI i)]) (rest := [.int (zI g)]) hC (c_X6_at l D τ α γ h old ch rg ln sl pd ct sg od hs i (by first | assumption | rfl | omega) (by first | assumption | rfl | omega) _) (cwV 1 hts (gV hB wl_X9_87 wn_X6_at ws_X6_at wi_X6 wc_X6_at) rfl rfl rfl hd_X6_at ⟨Nat.le_of_ble_eq_true rfl, Nat.le_of_ble_eq_true rfl⟩) (zp_V hK hP hD hS hA hG (ci := 6) (q0 := 1) rfl rfl rfl) rfl rfl hl.1 rfl (lv_room (Nat.le_of_ble_eq_true rfl)) dX9_bulk_16 ⟨Nat.le_of_ble_eq_true rfl, Nat.le_of_ble_eq_true rfl⟩) (fun r w1 H locs hq9 hP hD hS => ?_)
      obtain ⟨v16_1, hv16_0, hv16_1, hv16_2, rfl, rfl⟩ := hq9
      have hP : va_P D vwCl (wH α γ (h, old, ch) rg ln sl pd ct sg od hs) H := hP
      have hD : va_D A (wH α γ (h, old, ch) rg ln sl pd ct sg od hs) := hD
      refine z_iadd hx hb dX9_bulk_19 ?_
      refine lv_istore_n (lv' := [(1, .int (zI (g + v16_1))), (2, .int (zI i)), (0, .ref (α 0))]) hx hb dX9_bulk_20 rfl hl (by decide) rfl (fun ls hl => ?_)
      refine z_iinc (k := 1) (v := i + 1) (lv' := [(2, .int (zI (i + 1))), (1, .int (zI (g + v16_1))), (0, .ref (α 0))]) hx hb dX9_bulk_21 hl rfl rfl (by decide) rfl (fun ls hl => ?_)
      refine lv_goto (tgt := 4) hx hb dX9_bulk_24 (by decide) ?_
      exact ih_4 (g + v16_1) (i + 1) _ _ hP hD hS _ (lv_sub hl [1, 0, 2] rfl) (by first | assumption | rfl | omega) (by rw [zS_up hi.1, ← hg, hv16_2 (by omega)]) (by first | assumption | rfl | omega) (by omega)

abbrev wz_X9_pointsAbove : List Cond := .code yX9_pointsAbove cX9_pointsAbove 4 (some .int) :: W0
abbrev rm_X9_pointsAbove : Room := { frames := 2, cells := 0, slots := 0, locals := 41 }
theorem hd_X9_pointsAbove : yX9_pointsAbove.cls = RX9 ∧ yX9_pointsAbove.cls ≠ "java/lang/invoke/MethodHandle" ∧ yX9_pointsAbove.cls ≠ "java/lang/invoke/VarHandle" ∧ (parseMethodDescriptor yX9_pointsAbove.desc).map (fun d => d.parameters.length) = some 1 := by decide +kernel
set_option maxHeartbeats 4000000 in
set_option maxRecDepth 100000 in
theorem c_X9_pointsAbove (l : Launch) (D : va_G) (τ : Nat → Nat) (α : Nat → Nat) (γ : Nat → ClassId) (h : IA) (old : IA) (ch : IA) (rg : TRg) (ln : TLn) (sl : TSl) (pd : TPd) (ct : TCt) (sg : TSg) (od : TOd) (hs : THs) (lv9 : Int) (hlv : 0 ≤ lv9 ∧ lv9 ≤ 98) (hh : ∀ k, 0 ≤ k → k < 49 → 0 ≤ h k ∧ h k ≤ 99) : cM l yX9_pointsAbove wz_X9_pointsAbove rm_X9_pointsAbove D τ (tyH γ) [.ref (α 0), .int (zI lv9)] (wH α γ (h, old, ch) rg ln sl pd ct sg od hs) (zQi (fun r w => ∃ (v : Int), (True) ∧ (v = zC (S_hi h lv9) 49) ∧ (0 ≤ v ∧ v ≤ 49) ∧ r = zI v ∧ wH α γ (h, old, ch) rg ln sl pd ct sg od hs = w)) := by
  refine z_ofM (cc := cX9_pointsAbove) (maxL := 4) (ret := (some .int)) (by decide +kernel) rfl (Nat.le_of_ble_eq_true rfl) ?_
  intro pg e s m args below meth c hC hr hlk hnm hK hP A hD hG hA hS ls hl Q hQ
  have hx := hC.1
  have hb := hC.2.1
  have hml := hC.2.2.1
  have hown := hC.2.2.2.1
  have hts := hC.2.2.2.2
  have hB : ∀ w ∈ W0, w ∈ wz_X9_pointsAbove := fun _ h => List.mem_cons_of_mem _ h
  have hW0 : ∀ w ∈ W0, w.before args s = true := fun w h => hts w (hB w h)
  have hl : lv_has ls 4 [(0, .ref (α 0)), (1, .int (zI lv9))] := hl
  refine lv_iload_n hx hb dX9_pointsAbove_0 rfl (lv_at hl 1 rfl) ?_
  refine z_callv hP hD hS hA (va_runS (As := [.int (zI lv9)]) (rest := []) hC (c_X9_checkLevel l D τ _ _ lv9 (by first | assumption | rfl | omega) _) (va_cwS 1 hts (gS hB wl_X9_167 wt_X9_checkLevel wi_X9 wc_X9_checkLevel) rfl rfl rfl hd_X9_checkLevel.2 ⟨Nat.le_of_ble_eq_true rfl, Nat.le_of_ble_eq_true rfl⟩) (zp_S hK hP hD hS hA hG) rfl rfl hl.1 rfl (lv_room (Nat.le_of_ble_eq_true rfl)) dX9_pointsAbove_1 ⟨Nat.le_of_ble_eq_true rfl, Nat.le_of_ble_eq_true rfl⟩) (fun w1 H locs hq9 hP hD hS => ?_)
  obtain ⟨hv1_0, rfl⟩ := hq9
  have hlvb := hv1_0
  refine lv_iconst (v := zI 0) hx hb dX9_pointsAbove_4 rfl ?_
  refine lv_istore_n (lv' := [(2, .int (zI 0)), (0, .ref (α 0)), (1, .int (zI lv9))]) hx hb dX9_pointsAbove_5 rfl hl (by decide) rfl (fun ls hl => ?_)
  refine lv_iconst (v := zI 0) hx hb dX9_pointsAbove_6 rfl ?_
  refine lv_istore_n (lv' := [(3, .int (zI 0)), (2, .int (zI 0)), (0, .ref (α 0)), (1, .int (zI lv9))]) hx hb dX9_pointsAbove_7 rfl hl (by decide) rfl (fun ls hl => ?_)
  suffices HL_8 : ∀ (n_8 : Nat), ∀ (g : Int) (i : Int) (H : Heap) (locs : List Loc) (hP : va_P D vwCl (wH α γ (h, old, ch) rg ln sl pd ct sg od hs) H) (hD : va_D A (wH α γ (h, old, ch) rg ln sl pd ct sg od hs)) (hS : va_S A s.heap H locs) (ls : Array Slot) (hl : lv_has ls 4 [(2, .int (zI g)), (3, .int (zI i)), (0, .ref (α 0)), (1, .int (zI lv9))]) (hi : 0 ≤ i ∧ i ≤ 49) (hg : g = zC (S_hi h lv9) i) (hgb : 0 ≤ g ∧ g ≤ i) (hm : (49 - i).toNat < n_8), W pg l e rm_X9_pointsAbove s m args below meth c H locs 0 0 Q (F0 m 8 ls []) from HL_8 _ 0 0 _ _ hP hD hS _ (lv_sub hl [1, 0, 2, 3] rfl) (by first | assumption | rfl | omega) (by exact (zC_0 _).symm) (by first | assumption | rfl | omega) (Nat.lt_succ_self _)
  intro n_8
  induction n_8 with
  | zero => intro g i H locs hP hD hS ls hl hi hg hgb hm; exact absurd hm (Nat.not_lt_zero _)
  | succ n_8 ih_8 =>
    intro g i H locs hP hD hS ls hl hi hg hgb hm
    refine lv_iload_n hx hb dX9_pointsAbove_8 rfl (lv_at hl 1 rfl) ?_
    refine lv_bipush (v := zI 49) hx hb dX9_pointsAbove_9 (zI_b8 (by decide)) ?_
    refine z_icge (tgt := 35) hx hb ⟨by omega, by omega⟩ ⟨by omega, by omega⟩ dX9_pointsAbove_11 (by decide) (fun c_11 => ?_) (fun c_11 => ?_)
    · refine lv_iload_n hx hb dX9_pointsAbove_35 rfl (lv_at hl 0 rfl) ?_
      exact z_iret hC hr hlk hQ hP hD hS ⟨g, (by trivial), (by rw [hg, show i = 49 by omega]), (by omega), rfl, rfl⟩ dX9_pointsAbove_36
    · refine lv_aload_n hx hb dX9_pointsAbove_14 rfl (lv_at hl 2 rfl) ?_
      refine va_get (D := D) (ci := 9) (v := .ref (α 1)) (C := RX9) (T := TX9) (N := 9) hx hb hts (fun w h => List.mem_cons_of_mem _ (wx_X9 w h)) hown hK hP 0 rfl rfl 0 (by decide) (hW0 _ wf_X9_12) (fun _ h9 => h9) rfl dX9_pointsAbove_15 ?_
      refine lv_iload_n hx hb dX9_pointsAbove_18 rfl (lv_at hl 1 rfl) ?_
      refine z_calli hP hD hS hA (va_runV (As := [.int (zI i)]) (rest := []) hC (c_X6_at l D τ α γ h old ch rg ln sl pd ct sg od hs i (by first | assumption | rfl | omega) (by first | assumption | rfl | omega) _) (cwV 1 hts (gV hB wl_X9_87 wn_X6_at ws_X6_at wi_X6 wc_X6_at) rfl rfl rfl hd_X6_at ⟨Nat.le_of_ble_eq_true rfl, Nat.le_of_ble_eq_true rfl⟩) (zp_V hK hP hD hS hA hG (ci := 6) (q0 := 1) rfl rfl rfl) rfl rfl hl.1 rfl (lv_room (Nat.le_of_ble_eq_true rfl)) dX9_pointsAbove_19 ⟨Nat.le_of_ble_eq_true rfl, Nat.le_of_ble_eq_true rfl⟩) (fun r w1 H locs hq9 hP hD hS => ?_)
      obtain ⟨v19_1, hv19_0, hv19_1, hv19_2, rfl, rfl⟩ := hq9
      have hP : va_P D vwCl (wH α γ (h, old, ch) rg ln sl pd ct sg od hs) H := hP
      have hD : va_D A (wH α γ (h, old, ch) rg ln sl pd ct sg od hs) := hD
      have e19 := hv19_2 (by omega)
      refine lv_iload_n hx hb dX9_pointsAbove_22 rfl (lv_at hl 3 rfl) ?_
      refine z_icle (tgt := 29) hx hb ⟨by omega, by omega⟩ ⟨by omega, by omega⟩ dX9_pointsAbove_23 (by decide) (fun c_23 => ?_) (fun c_23 => ?_)
      · refine z_iinc (k := 1) (v := i + 1) (lv' := [(3, .int (zI (i + 1))), (2, .int (zI g)), (0, .ref (α 0)), (1, .int (zI lv9))]) hx hb dX9_pointsAbove_29 hl rfl rfl (by decide) rfl (fun ls hl => ?_)
        refine lv_goto (tgt := 8) hx hb dX9_pointsAbove_32 (by decide) ?_
        exact ih_8 g (i + 1) _ _ hP hD hS _ (lv_sub hl [1, 0, 2, 3] rfl) (by first | assumption | rfl | omega) (by rw [zC_up hi.1, ← hg]; first | (rw [z1_t (S_hi_t (by omega))]; done) | (rw [z1_f (S_hi_f (by omega))]; omega)) (by first | assumption | rfl | omega) (by omega)
      · refine z_iinc (k := 0) (v := g + 1) (lv' := [(2, .int (zI (g + 1))), (3, .int (zI i)), (0, .ref (α 0)), (1, .int (zI lv9))]) hx hb dX9_pointsAbove_26 hl rfl rfl (by decide) rfl (fun ls hl => ?_)
        refine z_iinc (k := 1) (v := i + 1) (lv' := [(3, .int (zI (i + 1))), (2, .int (zI (g + 1))), (0, .ref (α 0)), (1, .int (zI lv9))]) hx hb dX9_pointsAbove_29 hl rfl rfl (by decide) rfl (fun ls hl => ?_)
        refine lv_goto (tgt := 8) hx hb dX9_pointsAbove_32 (by decide) ?_
        exact ih_8 (g + 1) (i + 1) _ _ hP hD hS _ (lv_sub hl [1, 0, 2, 3] rfl) (by first | assumption | rfl | omega) (by rw [zC_up hi.1, ← hg]; first | (rw [z1_t (S_hi_t (by omega))]; done) | (rw [z1_f (S_hi_f (by omega))]; omega)) (by first | assumption | rfl | omega) (by omega)

abbrev wz_X9_bulkAbove : List Cond := .code yX9_bulkAbove cX9_bulkAbove 4 (some .int) :: W0
abbrev rm_X9_bulkAbove : Room := { frames := 2, cells := 0, slots := 0, locals := 41 }
theorem hd_X9_bulkAbove : yX9_bulkAbove.cls = RX9 ∧ yX9_bulkAbove.cls ≠ "java/lang/invoke/MethodHandle" ∧ yX9_bulkAbove.cls ≠ "java/lang/invoke/VarHandle" ∧ (parseMethodDescriptor yX9_bulkAbove.desc).map (fun d => d.parameters.length) = some 1 := by decide +kernel
set_option maxHeartbeats 4000000 in
set_option maxRecDepth 100000 in
theorem c_X9_bulkAbove (l : Launch) (D : va_G) (τ : Nat → Nat) (α : Nat → Nat) (γ : Nat → ClassId) (h : IA) (old : IA) (ch : IA) (rg : TRg) (ln : TLn) (sl : TSl) (pd : TPd) (ct : TCt) (sg : TSg) (od : TOd) (hs : THs) (lv9 : Int) (hlv : 0 ≤ lv9 ∧ lv9 ≤ 98) (hh : ∀ k, 0 ≤ k → k < 49 → 0 ≤ h k ∧ h k ≤ 99) : cM l yX9_bulkAbove wz_X9_bulkAbove rm_X9_bulkAbove D τ (tyH γ) [.ref (α 0), .int (zI lv9)] (wH α γ (h, old, ch) rg ln sl pd ct sg od hs) (zQi (fun r w => ∃ (v : Int), (True) ∧ (v = S_sab h lv9) ∧ (0 ≤ v ∧ v ≤ 4851) ∧ r = zI v ∧ wH α γ (h, old, ch) rg ln sl pd ct sg od hs = w)) := by
  refine z_ofM (cc := cX9_bulkAbove) (maxL := 4) (ret := (some .int)) (by decide +kernel) rfl (Nat.le_of_ble_eq_true rfl) ?_
  intro pg e s m args below meth c hC hr hlk hnm hK hP A hD hG hA hS ls hl Q hQ
  have hx := hC.1
  have hb := hC.2.1
  have hml := hC.2.2.1
  have hown := hC.2.2.2.1
  have hts := hC.2.2.2.2
  have hB : ∀ w ∈ W0, w ∈ wz_X9_bulkAbove := fun _ h => List.mem_cons_of_mem _ h
  have hW0 : ∀ w ∈ W0, w.before args s = true := fun w h => hts w (hB w h)
  have hl : lv_has ls 4 [(0, .ref (α 0)), (1, .int (zI lv9))] := hl
  refine lv_iload_n hx hb dX9_bulkAbove_0 rfl (lv_at hl 1 rfl) ?_
  refine z_callv hP hD hS hA (va_runS (As := [.int (zI lv9)]) (rest := []) hC (c_X9_checkLevel l D τ _ _ lv9 (by first | assumption | rfl | omega) _) (va_cwS 1 hts (gS hB wl_X9_167 wt_X9_checkLevel wi_X9 wc_X9_checkLevel) rfl rfl rfl hd_X9_checkLevel.2 ⟨Nat.le_of_ble_eq_true rfl, Nat.le_of_ble_eq_true rfl⟩) (zp_S hK hP hD hS hA hG) rfl rfl hl.1 rfl (lv_room (Nat.le_of_ble_eq_true rfl)) dX9_bulkAbove_1 ⟨Nat.le_of_ble_eq_true rfl, Nat.le_of_ble_eq_true rfl⟩) (fun w1 H locs hq9 hP hD hS => ?_)
  obtain ⟨hv1_0, rfl⟩ := hq9
  have hlvb := hv1_0
  refine lv_iconst (v := zI 0) hx hb dX9_bulkAbove_4 rfl ?_
  refine lv_istore_n (lv' := [(2, .int (zI 0)), (0, .ref (α 0)), (1, .int (zI lv9))]) hx hb dX9_bulkAbove_5 rfl hl (by decide) rfl (fun ls hl => ?_)
  refine lv_iconst (v := zI 0) hx hb dX9_bulkAbove_6 rfl ?_
  refine lv_istore_n (lv' := [(3, .int (zI 0)), (2, .int (zI 0)), (0, .ref (α 0)), (1, .int (zI lv9))]) hx hb dX9_bulkAbove_7 rfl hl (by decide) rfl (fun ls hl => ?_)
  suffices HL_8 : ∀ (n_8 : Nat), ∀ (g : Int) (i : Int) (H : Heap) (locs : List Loc) (hP : va_P D vwCl (wH α γ (h, old, ch) rg ln sl pd ct sg od hs) H) (hD : va_D A (wH α γ (h, old, ch) rg ln sl pd ct sg od hs)) (hS : va_S A s.heap H locs) (ls : Array Slot) (hl : lv_has ls 4 [(2, .int (zI g)), (3, .int (zI i)), (0, .ref (α 0)), (1, .int (zI lv9))]) (hi : 0 ≤ i ∧ i ≤ 49) (hg : g = zS (fun k => if lv9 < h k then h k - lv9 else 0) i) (hgb : 0 ≤ g ∧ g ≤ 99 * i) (hm : (49 - i).toNat < n_8), W pg l e rm_X9_bulkAbove s m args below meth c H locs 0 0 Q (F0 m 8 ls []) from HL_8 _ 0 0 _ _ hP hD hS _ (lv_sub hl [1, 0, 2, 3] rfl) (by first | assumption | rfl | omega) (by exact (zS_0 _).symm) (by first | assumption | rfl | omega) (Nat.lt_succ_self _)
  intro n_8
  induction n_8 with
  | zero => intro g i H locs hP hD hS ls hl hi hg hgb hm; exact absurd hm (Nat.not_lt_zero _)
  | succ n_8 ih_8 =>
    intro g i H locs hP hD hS ls hl hi hg hgb hm
    refine lv_iload_n hx hb dX9_bulkAbove_8 rfl (lv_at hl 1 rfl) ?_
    refine lv_bipush (v := zI 49) hx hb dX9_bulkAbove_9 (zI_b8 (by decide)) ?_
    refine z_icge (tgt := 37) hx hb ⟨by omega, by omega⟩ ⟨by omega, by omega⟩ dX9_bulkAbove_11 (by decide) (fun c_11 => ?_) (fun c_11 => ?_)
    · refine lv_iload_n hx hb dX9_bulkAbove_37 rfl (lv_at hl 0 rfl) ?_
      exact z_iret hC hr hlk hQ hP hD hS ⟨g, (by trivial), (by rw [hg, show i = 49 by omega]; rfl), (by omega), rfl, rfl⟩ dX9_bulkAbove_38
    · refine lv_iload_n hx hb dX9_bulkAbove_14 rfl (lv_at hl 0 rfl) ?_
      refine lv_iconst (v := zI 0) hx hb dX9_bulkAbove_15 rfl ?_
      refine lv_aload_n hx hb dX9_bulkAbove_16 rfl (lv_at hl 2 rfl) ?_
      refine va_get (D := D) (ci := 9) (v := .ref (α 1)) (C := RX9) (T := TX9) (N := 9) hx hb hts (fun w h => List.mem_cons_of_mem _ (wx_X9 w h)) hown hK hP 0 rfl rfl 0 (by decide) (hW0 _ wf_X9_12) (fun _ h9 => h9) rfl dX9_bulkAbove_17 ?_
      refine lv_iload_n hx hb dX9_bulkAbove_20 rfl (lv_at hl 1 rfl) ?_
      refine z_calli hP hD hS hA (va_runV (As := [.int (zI i)]) (rest := [.int (zI 0), .int (zI g)]) hC (c_X6_at l D τ α γ h old ch rg ln sl pd ct sg od hs i (by first | assumption | rfl | omega) (by first | assumption | rfl | omega) _) (cwV 1 hts (gV hB wl_X9_87 wn_X6_at ws_X6_at wi_X6 wc_X6_at) rfl rfl rfl hd_X6_at ⟨Nat.le_of_ble_eq_true rfl, Nat.le_of_ble_eq_true rfl⟩) (zp_V hK hP hD hS hA hG (ci := 6) (q0 := 1) rfl rfl rfl) rfl rfl hl.1 rfl (lv_room (Nat.le_of_ble_eq_true rfl)) dX9_bulkAbove_21 ⟨Nat.le_of_ble_eq_true rfl, Nat.le_of_ble_eq_true rfl⟩) (fun r w1 H locs hq9 hP hD hS => ?_)
      obtain ⟨v21_1, hv21_0, hv21_1, hv21_2, rfl, rfl⟩ := hq9
      have hP : va_P D vwCl (wH α γ (h, old, ch) rg ln sl pd ct sg od hs) H := hP
      have hD : va_D A (wH α γ (h, old, ch) rg ln sl pd ct sg od hs) := hD
      have e21 := hv21_2 (by omega)
      refine lv_iload_n hx hb dX9_bulkAbove_24 rfl (lv_at hl 3 rfl) ?_
      refine z_isub hx hb dX9_bulkAbove_25 ?_
      refine z_mmax hx hb (hml.trans hl.1.symm) hown (hW0 _ wl_X9_170) (hW0 _ wt_Lib_Math_max_name) (hW0 _ wi_Math) (hW0 _ wc_Lib_Math_max_name) (Nat.le_of_ble_eq_true rfl) (Nat.le_of_ble_eq_true rfl) (Nat.le_of_ble_eq_true rfl) (Nat.le_of_ble_eq_true rfl) ⟨by omega, by omega⟩ ⟨by omega, by omega⟩ dX9_bulkAbove_26 ?_
      obtain ⟨x26_2, hx26_2⟩ : ∃ z : Int, z = zmax 0 (v21_1 - lv9) := ⟨_, rfl⟩
      rw [← hx26_2]
      have kx26_2 := zmax_spec 0 (v21_1 - lv9)
      rw [← hx26_2] at kx26_2
      refine z_iadd hx hb dX9_bulkAbove_29 ?_
      refine lv_istore_n (lv' := [(2, .int (zI (g + x26_2))), (3, .int (zI i)), (0, .ref (α 0)), (1, .int (zI lv9))]) hx hb dX9_bulkAbove_30 rfl hl (by decide) rfl (fun ls hl => ?_)
      refine z_iinc (k := 1) (v := i + 1) (lv' := [(3, .int (zI (i + 1))), (2, .int (zI (g + x26_2))), (0, .ref (α 0)), (1, .int (zI lv9))]) hx hb dX9_bulkAbove_31 hl rfl rfl (by decide) rfl (fun ls hl => ?_)
      refine lv_goto (tgt := 8) hx hb dX9_bulkAbove_34 (by decide) ?_
      exact ih_8 (g + x26_2) (i + 1) _ _ hP hD hS _ (lv_sub hl [1, 0, 2, 3] rfl) (by first | assumption | rfl | omega) (by rw [zS_up hi.1, ← hg]; congr 1; rw [hx26_2, e21]; unfold zmax; split <;> split <;> omega) (by first | assumption | rfl | omega) (by omega)

abbrev wz_X9_crossingsByEdges : List Cond := .code yX9_crossingsByEdges cX9_crossingsByEdges 7 (some .int) :: W0
abbrev rm_X9_crossingsByEdges : Room := { frames := 2, cells := 0, slots := 0, locals := 42 }
theorem hd_X9_crossingsByEdges : yX9_crossingsByEdges.cls = RX9 ∧ yX9_crossingsByEdges.cls ≠ "java/lang/invoke/MethodHandle" ∧ yX9_crossingsByEdges.cls ≠ "java/lang/invoke/VarHandle" ∧ (parseMethodDescriptor yX9_crossingsByEdges.desc).map (fun d => d.parameters.length) = some 1 := by decide +kernel
set_option maxHeartbeats 4000000 in
set_option maxRecDepth 100000 in
theorem c_X9_crossingsByEdges (l : Launch) (D : va_G) (τ : Nat → Nat) (α : Nat → Nat) (γ : Nat → ClassId) (h : IA) (old : IA) (ch : IA) (rg : TRg) (ln : TLn) (sl : TSl) (pd : TPd) (ct : TCt) (sg : TSg) (od : TOd) (hs : THs) (lv9 : Int) (hlv : 0 ≤ lv9 ∧ lv9 ≤ 98) (hh : ∀ k, 0 ≤ k → k < 49 → 0 ≤ h k ∧ h k ≤ 99) : cM l yX9_crossingsByEdges wz_X9_crossingsByEdges rm_X9_crossingsByEdges D τ (tyH γ) [.ref (α 0), .int (zI lv9)] (wH α γ (h, old, ch) rg ln sl pd ct sg od hs) (zQi (fun r w => ∃ (v : Int), (True) ∧ (v = S_ncross (S_hi h lv9)) ∧ (0 ≤ v ∧ v ≤ 84) ∧ r = zI v ∧ wH α γ (h, old, ch) rg ln sl pd ct sg od hs = w)) := by
  refine z_ofM (cc := cX9_crossingsByEdges) (maxL := 7) (ret := (some .int)) (by decide +kernel) rfl (Nat.le_of_ble_eq_true rfl) ?_
  intro pg e s m args below meth c hC hr hlk hnm hK hP A hD hG hA hS ls hl Q hQ
  have hx := hC.1
  have hb := hC.2.1
  have hml := hC.2.2.1
  have hown := hC.2.2.2.1
  have hts := hC.2.2.2.2
  have hB : ∀ w ∈ W0, w ∈ wz_X9_crossingsByEdges := fun _ h => List.mem_cons_of_mem _ h
  have hW0 : ∀ w ∈ W0, w.before args s = true := fun w h => hts w (hB w h)
  have hl : lv_has ls 7 [(0, .ref (α 0)), (1, .int (zI lv9))] := hl
  refine lv_iload_n hx hb dX9_crossingsByEdges_0 rfl (lv_at hl 1 rfl) ?_
  refine z_callv hP hD hS hA (va_runS (As := [.int (zI lv9)]) (rest := []) hC (c_X9_checkLevel l D τ _ _ lv9 (by first | assumption | rfl | omega) _) (va_cwS 1 hts (gS hB wl_X9_167 wt_X9_checkLevel wi_X9 wc_X9_checkLevel) rfl rfl rfl hd_X9_checkLevel.2 ⟨Nat.le_of_ble_eq_true rfl, Nat.le_of_ble_eq_true rfl⟩) (zp_S hK hP hD hS hA hG) rfl rfl hl.1 rfl (lv_room (Nat.le_of_ble_eq_true rfl)) dX9_crossingsByEdges_1 ⟨Nat.le_of_ble_eq_true rfl, Nat.le_of_ble_eq_true rfl⟩) (fun w1 H locs hq9 hP hD hS => ?_)
  obtain ⟨hv1_0, rfl⟩ := hq9
  have hlvb := hv1_0
  refine lv_iconst (v := zI 0) hx hb dX9_crossingsByEdges_4 rfl ?_
  refine lv_istore_n (lv' := [(2, .int (zI 0)), (0, .ref (α 0)), (1, .int (zI lv9))]) hx hb dX9_crossingsByEdges_5 rfl hl (by decide) rfl (fun ls hl => ?_)
  refine lv_iconst (v := zI 0) hx hb dX9_crossingsByEdges_6 rfl ?_
  refine lv_istore_n (lv' := [(3, .int (zI 0)), (2, .int (zI 0)), (0, .ref (α 0)), (1, .int (zI lv9))]) hx hb dX9_crossingsByEdges_7 rfl hl (by decide) rfl (fun ls hl => ?_)
  suffices HL_8 : ∀ (n_8 : Nat), ∀ (g : Int) (i : Int) (H : Heap) (locs : List Loc) (hP : va_P D vwCl (wH α γ (h, old, ch) rg ln sl pd ct sg od hs) H) (hD : va_D A (wH α γ (h, old, ch) rg ln sl pd ct sg od hs)) (hS : va_S A s.heap H locs) (ls : Array Slot) (hl : lv_has ls 7 [(2, .int (zI g)), (3, .int (zI i)), (0, .ref (α 0)), (1, .int (zI lv9))]) (hi : 0 ≤ i ∧ i ≤ 49) (hg : g = zS (crP (S_hi h lv9)) i) (hgb : 0 ≤ g ∧ g ≤ 2 * i) (hm : (49 - i).toNat < n_8), W pg l e rm_X9_crossingsByEdges s m args below meth c H locs 0 0 Q (F0 m 8 ls []) from HL_8 _ 0 0 _ _ hP hD hS _ (lv_sub hl [1, 0, 2, 3] rfl) (by first | assumption | rfl | omega) (by exact (zS_0 _).symm) (by first | assumption | rfl | omega) (Nat.lt_succ_self _)
  intro n_8
  induction n_8 with
  | zero => intro g i H locs hP hD hS ls hl hi hg hgb hm; exact absurd hm (Nat.not_lt_zero _)
  | succ n_8 ih_8 =>
    intro g i H locs hP hD hS ls hl hi hg hgb hm
    refine lv_iload_n hx hb dX9_crossingsByEdges_8 rfl (lv_at hl 1 rfl) ?_
    refine lv_bipush (v := zI 49) hx hb dX9_crossingsByEdges_9 (zI_b8 (by decide)) ?_
    refine z_icge (tgt := 117) hx hb ⟨by omega, by omega⟩ ⟨by omega, by omega⟩ dX9_crossingsByEdges_11 (by decide) (fun c_11 => ?_) (fun c_11 => ?_)
    · refine lv_iload_n hx hb dX9_crossingsByEdges_117 rfl (lv_at hl 0 rfl) ?_
      exact z_iret hC hr hlk hQ hP hD hS ⟨g, (by trivial), (by rw [hg, show i = 49 by omega]; exact cr_all _), (by rw [hg, show i = 49 by omega, cr_all]; exact zC_b _ (by omega)), rfl, rfl⟩ dX9_crossingsByEdges_118
    · refine lv_aload_n hx hb dX9_crossingsByEdges_14 rfl (lv_at hl 2 rfl) ?_
      refine va_get (D := D) (ci := 9) (v := .ref (α 1)) (C := RX9) (T := TX9) (N := 9) hx hb hts (fun w h => List.mem_cons_of_mem _ (wx_X9 w h)) hown hK hP 0 rfl rfl 0 (by decide) (hW0 _ wf_X9_12) (fun _ h9 => h9) rfl dX9_crossingsByEdges_15 ?_
      refine lv_iload_n hx hb dX9_crossingsByEdges_18 rfl (lv_at hl 1 rfl) ?_
      refine z_calli hP hD hS hA (va_runV (As := [.int (zI i)]) (rest := []) hC (c_X6_at l D τ α γ h old ch rg ln sl pd ct sg od hs i (by first | assumption | rfl | omega) (by first | assumption | rfl | omega) _) (cwV 1 hts (gV hB wl_X9_87 wn_X6_at ws_X6_at wi_X6 wc_X6_at) rfl rfl rfl hd_X6_at ⟨Nat.le_of_ble_eq_true rfl, Nat.le_of_ble_eq_true rfl⟩) (zp_V hK hP hD hS hA hG (ci := 6) (q0 := 1) rfl rfl rfl) rfl rfl hl.1 rfl (lv_room (Nat.le_of_ble_eq_true rfl)) dX9_crossingsByEdges_19 ⟨Nat.le_of_ble_eq_true rfl, Nat.le_of_ble_eq_true rfl⟩) (fun r w1 H locs hq9 hP hD hS => ?_)
      obtain ⟨v19_1, hv19_0, hv19_1, hv19_2, rfl, rfl⟩ := hq9
      have hP : va_P D vwCl (wH α γ (h, old, ch) rg ln sl pd ct sg od hs) H := hP
      have hD : va_D A (wH α γ (h, old, ch) rg ln sl pd ct sg od hs) := hD
      have e19 := hv19_2 (by omega)
      have hst4 := S_step_4 (p := i) ⟨by omega, by omega⟩
      refine lv_iload_n hx hb dX9_crossingsByEdges_22 rfl (lv_at hl 3 rfl) ?_
      refine z_icle (tgt := 30) hx hb ⟨by omega, by omega⟩ ⟨by omega, by omega⟩ dX9_crossingsByEdges_23 (by decide) (fun c_23 => ?_) (fun c_23 => ?_)
      · refine lv_iconst (v := zI 0) hx hb dX9_crossingsByEdges_30 rfl ?_
        have hAA : S_hi h lv9 i = false := S_hi_f (by omega)
        refine lv_istore (lv' := [(4, .int (zI 0)), (2, .int (zI g)), (3, .int (zI i)), (0, .ref (α 0)), (1, .int (zI lv9))]) hx hb dX9_crossingsByEdges_31 hl (by decide) rfl (fun ls hl => ?_)
        refine lv_iload_n hx hb dX9_crossingsByEdges_33 rfl (lv_at hl 2 rfl) ?_
        refine lv_iconst (v := zI 1) hx hb dX9_crossingsByEdges_34 rfl ?_
        refine z_calli hP hD hS hA (va_runS (As := [.int (zI i), .int (zI 1)]) (rest := []) hC (c_X9_stepFrom l D τ _ _ i 1 (by first | assumption | rfl | omega) (by first | assumption | rfl | omega) _) (va_cwS 2 hts (gS hB wl_X9_175 wt_X9_stepFrom wi_X9 wc_X9_stepFrom) rfl rfl rfl hd_X9_stepFrom.2 ⟨Nat.le_of_ble_eq_true rfl, Nat.le_of_ble_eq_true rfl⟩) (zp_S hK hP hD hS hA hG) rfl rfl hl.1 rfl (lv_room (Nat.le_of_ble_eq_true rfl)) dX9_crossingsByEdges_35 ⟨Nat.le_of_ble_eq_true rfl, Nat.le_of_ble_eq_true rfl⟩) (fun r w1 H locs hq9 hP hD hS => ?_)
        obtain ⟨v35_2, hv35_0, hv35_1, rfl, rfl⟩ := hq9
        refine lv_istore (lv' := [(5, .int (zI v35_2)), (4, .int (zI 0)), (2, .int (zI g)), (3, .int (zI i)), (0, .ref (α 0)), (1, .int (zI lv9))]) hx hb dX9_crossingsByEdges_38 hl (by decide) rfl (fun ls hl => ?_)
        refine lv_iload_n hx hb dX9_crossingsByEdges_40 rfl (lv_at hl 3 rfl) ?_
        refine lv_iconst (v := zI 2) hx hb dX9_crossingsByEdges_41 rfl ?_
        refine z_calli hP hD hS hA (va_runS (As := [.int (zI i), .int (zI 2)]) (rest := []) hC (c_X9_stepFrom l D τ _ _ i 2 (by first | assumption | rfl | omega) (by first | assumption | rfl | omega) _) (va_cwS 2 hts (gS hB wl_X9_175 wt_X9_stepFrom wi_X9 wc_X9_stepFrom) rfl rfl rfl hd_X9_stepFrom.2 ⟨Nat.le_of_ble_eq_true rfl, Nat.le_of_ble_eq_true rfl⟩) (zp_S hK hP hD hS hA hG) rfl rfl hl.1 rfl (lv_room (Nat.le_of_ble_eq_true rfl)) dX9_crossingsByEdges_42 ⟨Nat.le_of_ble_eq_true rfl, Nat.le_of_ble_eq_true rfl⟩) (fun r w1 H locs hq9 hP hD hS => ?_)
        obtain ⟨v42_3, hv42_0, hv42_1, rfl, rfl⟩ := hq9
        refine lv_istore (lv' := [(6, .int (zI v42_3)), (5, .int (zI v35_2)), (4, .int (zI 0)), (2, .int (zI g)), (3, .int (zI i)), (0, .ref (α 0)), (1, .int (zI lv9))]) hx hb dX9_crossingsByEdges_45 hl (by decide) rfl (fun ls hl => ?_)
        refine lv_iload hx hb dX9_crossingsByEdges_47 (lv_at hl 1 rfl) ?_
        have h35 := hv35_0
        rw [hst4.2.1] at h35
        have h42 := hv42_0
        rw [hst4.2.2.1] at h42
        refine lv_iconst (v := zI (-1)) hx hb dX9_crossingsByEdges_49 rfl ?_
        refine z_iceq (tgt := 79) hx hb ⟨by omega, by omega⟩ ⟨by omega, by omega⟩ dX9_crossingsByEdges_50 (by decide) (fun c_50 => ?_) (fun c_50 => ?_)
        · obtain ⟨g7, hg7⟩ : ∃ z : Int, z = g := ⟨_, rfl⟩
          have k1 : g7 = g + (if i % 7 = 6 then 0 else z1 (S_hi h lv9 i != S_hi h lv9 (i + 1))) := by rw [hg7]; by_cases hz : i % 7 = 6 <;> first | (exfalso; split at h35 <;> omega) | (rw [if_pos hz]; first | done | omega) | (rw [if_neg hz, hAA, hBB]; first | done | rfl | exact (Int.add_zero _).symm)
          refine lv_iload hx hb dX9_crossingsByEdges_79 (lv_at hl 0 rfl) ?_
          refine lv_iconst (v := zI (-1)) hx hb dX9_crossingsByEdges_81 rfl ?_
          refine z_iceq (tgt := 111) hx hb ⟨by omega, by omega⟩ ⟨by omega, by omega⟩ dX9_crossingsByEdges_82 (by decide) (fun c_82 => ?_) (fun c_82 => ?_)
          · have k2 : g = g7 + (if 42 ≤ i then 0 else z1 (S_hi h lv9 i != S_hi h lv9 (i + 7))) := by rw [hg7]; by_cases hz : 42 ≤ i <;> first | (exfalso; split at h42 <;> omega) | (rw [if_pos hz]; first | done | omega) | (rw [if_neg hz, hAA, hB2]; first | done | rfl | exact (Int.add_zero _).symm)
            refine z_iinc (k := 4) (v := i + 1) (lv' := [(3, .int (zI (i + 1))), (6, .int (zI v42_3)), (5, .int (zI v35_2)), (4, .int (zI 0)), (2, .int (zI g)), (0, .ref (α 0)), (1, .int (zI lv9))]) hx hb dX9_crossingsByEdges_111 hl rfl rfl (by decide) rfl (fun ls hl => ?_)
            refine lv_goto (tgt := 8) hx hb dX9_crossingsByEdges_114 (by decide) ?_
            exact ih_8 g (i + 1) _ _ hP hD hS _ (lv_sub hl [4, 0, 5, 6] rfl) (by first | assumption | rfl | omega) (by rw [zS_up hi.1, ← hg]; show _ = g + ((if i % 7 = 6 then 0 else z1 (S_hi h lv9 i != S_hi h lv9 (i + 1))) + (if 42 ≤ i then 0 else z1 (S_hi h lv9 i != S_hi h lv9 (i + 7)))); omega) (by first | assumption | rfl | omega) (by omega)
          · have hr2 : v42_3 = i + 7 := by split at h42 <;> omega
            refine lv_iload hx hb dX9_crossingsByEdges_85 (lv_at hl 2 rfl) ?_
            refine lv_aload_n hx hb dX9_crossingsByEdges_87 rfl (lv_at hl 5 rfl) ?_
            refine va_get (D := D) (ci := 9) (v := .ref (α 1)) (C := RX9) (T := TX9) (N := 9) hx hb hts (fun w h => List.mem_cons_of_mem _ (wx_X9 w h)) hown hK hP 0 rfl rfl 0 (by decide) (hW0 _ wf_X9_12) (fun _ h9 => h9) rfl dX9_crossingsByEdges_88 ?_
            refine lv_iload hx hb dX9_crossingsByEdges_91 (lv_at hl 0 rfl) ?_
            refine z_calli hP hD hS hA (va_runV (As := [.int (zI v42_3)]) (rest := [.int (zI 0)]) hC (c_X6_at l D τ α γ h old ch rg ln sl pd ct sg od hs v42_3 (by first | assumption | rfl | omega) (by first | assumption | rfl | omega) _) (cwV 1 hts (gV hB wl_X9_87 wn_X6_at ws_X6_at wi_X6 wc_X6_at) rfl rfl rfl hd_X6_at ⟨Nat.le_of_ble_eq_true rfl, Nat.le_of_ble_eq_true rfl⟩) (zp_V hK hP hD hS hA hG (ci := 6) (q0 := 1) rfl rfl rfl) rfl rfl hl.1 rfl (lv_room (Nat.le_of_ble_eq_true rfl)) dX9_crossingsByEdges_93 ⟨Nat.le_of_ble_eq_true rfl, Nat.le_of_ble_eq_true rfl⟩) (fun r w1 H locs hq9 hP hD hS => ?_)
            obtain ⟨v93_4, hv93_0, hv93_1, hv93_2, rfl, rfl⟩ := hq9
            have hP : va_P D vwCl (wH α γ (h, old, ch) rg ln sl pd ct sg od hs) H := hP
            have hD : va_D A (wH α γ (h, old, ch) rg ln sl pd ct sg od hs) := hD
            refine lv_iload_n hx hb dX9_crossingsByEdges_96 rfl (lv_at hl 6 rfl) ?_
            refine z_icle (tgt := 104) hx hb ⟨by omega, by omega⟩ ⟨by omega, by omega⟩ dX9_crossingsByEdges_97 (by decide) (fun c_97 => ?_) (fun c_97 => ?_)
            · refine lv_iconst (v := zI 0) hx hb dX9_crossingsByEdges_104 rfl ?_
              have z93 := hv93_2 (by omega)
              rw [hr2] at z93
              have hB2 : S_hi h lv9 (i + 7) = false := S_hi_f (by omega)
              refine z_iceq (tgt := 111) hx hb ⟨by omega, by omega⟩ ⟨by omega, by omega⟩ dX9_crossingsByEdges_105 (by decide) (fun c_105 => ?_) (fun c_105 => ?_)
              · have k2 : g = g7 + (if 42 ≤ i then 0 else z1 (S_hi h lv9 i != S_hi h lv9 (i + 7))) := by rw [hg7]; by_cases hz : 42 ≤ i <;> first | (exfalso; split at h42 <;> omega) | (rw [if_pos hz]; first | done | omega) | (rw [if_neg hz, hAA, hB2]; first | done | rfl | exact (Int.add_zero _).symm)
                refine z_iinc (k := 4) (v := i + 1) (lv' := [(3, .int (zI (i + 1))), (6, .int (zI v42_3)), (5, .int (zI v35_2)), (4, .int (zI 0)), (2, .int (zI g)), (0, .ref (α 0)), (1, .int (zI lv9))]) hx hb dX9_crossingsByEdges_111 hl rfl rfl (by decide) rfl (fun ls hl => ?_)
                refine lv_goto (tgt := 8) hx hb dX9_crossingsByEdges_114 (by decide) ?_
                exact ih_8 g (i + 1) _ _ hP hD hS _ (lv_sub hl [4, 0, 5, 6] rfl) (by first | assumption | rfl | omega) (by rw [zS_up hi.1, ← hg]; show _ = g + ((if i % 7 = 6 then 0 else z1 (S_hi h lv9 i != S_hi h lv9 (i + 1))) + (if 42 ≤ i then 0 else z1 (S_hi h lv9 i != S_hi h lv9 (i + 7)))); omega) (by first | assumption | rfl | omega) (by omega)
              · exact absurd c_105 (by decide)
            · refine lv_iconst (v := zI 1) hx hb dX9_crossingsByEdges_100 rfl ?_
              refine lv_goto (tgt := 105) hx hb dX9_crossingsByEdges_101 (by decide) ?_
              have z93 := hv93_2 (by omega)
              rw [hr2] at z93
              have hB2 : S_hi h lv9 (i + 7) = true := S_hi_t (by omega)
              refine z_iceq (tgt := 111) hx hb ⟨by omega, by omega⟩ ⟨by omega, by omega⟩ dX9_crossingsByEdges_105 (by decide) (fun c_105 => ?_) (fun c_105 => ?_)
              · exact absurd c_105 (by decide)
              · refine z_iinc (k := 3) (v := g + 1) (lv' := [(2, .int (zI (g + 1))), (6, .int (zI v42_3)), (5, .int (zI v35_2)), (4, .int (zI 0)), (3, .int (zI i)), (0, .ref (α 0)), (1, .int (zI lv9))]) hx hb dX9_crossingsByEdges_108 hl rfl rfl (by decide) rfl (fun ls hl => ?_)
                have k2 : (g + 1) = g7 + (if 42 ≤ i then 0 else z1 (S_hi h lv9 i != S_hi h lv9 (i + 7))) := by rw [hg7]; by_cases hz : 42 ≤ i <;> first | (exfalso; split at h42 <;> omega) | (rw [if_pos hz]; first | done | omega) | (rw [if_neg hz, hAA, hB2]; first | done | rfl | exact (Int.add_zero _).symm)
                refine z_iinc (k := 4) (v := i + 1) (lv' := [(3, .int (zI (i + 1))), (2, .int (zI (g + 1))), (6, .int (zI v42_3)), (5, .int (zI v35_2)), (4, .int (zI 0)), (0, .ref (α 0)), (1, .int (zI lv9))]) hx hb dX9_crossingsByEdges_111 hl rfl rfl (by decide) rfl (fun ls hl => ?_)
                refine lv_goto (tgt := 8) hx hb dX9_crossingsByEdges_114 (by decide) ?_
                exact ih_8 (g + 1) (i + 1) _ _ hP hD hS _ (lv_sub hl [1, 0, 5, 6] rfl) (by first | assumption | rfl | omega) (by rw [zS_up hi.1, ← hg]; show _ = g + ((if i % 7 = 6 then 0 else z1 (S_hi h lv9 i != S_hi h lv9 (i + 1))) + (if 42 ≤ i then 0 else z1 (S_hi h lv9 i != S_hi h lv9 (i + 7)))); omega) (by first | assumption | rfl | omega) (by omega)
        · have hr1 : v35_2 = i + 1 := by split at h35 <;> omega
          refine lv_iload hx hb dX9_crossingsByEdges_53 (lv_at hl 2 rfl) ?_
          refine lv_aload_n hx hb dX9_crossingsByEdges_55 rfl (lv_at hl 5 rfl) ?_
          refine va_get (D := D) (ci := 9) (v := .ref (α 1)) (C := RX9) (T := TX9) (N := 9) hx hb hts (fun w h => List.mem_cons_of_mem _ (wx_X9 w h)) hown hK hP 0 rfl rfl 0 (by decide) (hW0 _ wf_X9_12) (fun _ h9 => h9) rfl dX9_crossingsByEdges_56 ?_
          refine lv_iload hx hb dX9_crossingsByEdges_59 (lv_at hl 1 rfl) ?_
          refine z_calli hP hD hS hA (va_runV (As := [.int (zI v35_2)]) (rest := [.int (zI 0)]) hC (c_X6_at l D τ α γ h old ch rg ln sl pd ct sg od hs v35_2 (by first | assumption | rfl | omega) (by first | assumption | rfl | omega) _) (cwV 1 hts (gV hB wl_X9_87 wn_X6_at ws_X6_at wi_X6 wc_X6_at) rfl rfl rfl hd_X6_at ⟨Nat.le_of_ble_eq_true rfl, Nat.le_of_ble_eq_true rfl⟩) (zp_V hK hP hD hS hA hG (ci := 6) (q0 := 1) rfl rfl rfl) rfl rfl hl.1 rfl (lv_room (Nat.le_of_ble_eq_true rfl)) dX9_crossingsByEdges_61 ⟨Nat.le_of_ble_eq_true rfl, Nat.le_of_ble_eq_true rfl⟩) (fun r w1 H locs hq9 hP hD hS => ?_)
          obtain ⟨v61_5, hv61_0, hv61_1, hv61_2, rfl, rfl⟩ := hq9
          have hP : va_P D vwCl (wH α γ (h, old, ch) rg ln sl pd ct sg od hs) H := hP
          have hD : va_D A (wH α γ (h, old, ch) rg ln sl pd ct sg od hs) := hD
          refine lv_iload_n hx hb dX9_crossingsByEdges_64 rfl (lv_at hl 6 rfl) ?_
          refine z_icle (tgt := 72) hx hb ⟨by omega, by omega⟩ ⟨by omega, by omega⟩ dX9_crossingsByEdges_65 (by decide) (fun c_65 => ?_) (fun c_65 => ?_)
          · refine lv_iconst (v := zI 0) hx hb dX9_crossingsByEdges_72 rfl ?_
            have z61 := hv61_2 (by omega)
            rw [hr1] at z61
            have hBB : S_hi h lv9 (i + 1) = false := S_hi_f (by omega)
            refine z_iceq (tgt := 79) hx hb ⟨by omega, by omega⟩ ⟨by omega, by omega⟩ dX9_crossingsByEdges_73 (by decide) (fun c_73 => ?_) (fun c_73 => ?_)
            · obtain ⟨g7, hg7⟩ : ∃ z : Int, z = g := ⟨_, rfl⟩
              have k1 : g7 = g + (if i % 7 = 6 then 0 else z1 (S_hi h lv9 i != S_hi h lv9 (i + 1))) := by rw [hg7]; by_cases hz : i % 7 = 6 <;> first | (exfalso; split at h35 <;> omega) | (rw [if_pos hz]; first | done | omega) | (rw [if_neg hz, hAA, hBB]; first | done | rfl | exact (Int.add_zero _).symm)
              refine lv_iload hx hb dX9_crossingsByEdges_79 (lv_at hl 0 rfl) ?_
              refine lv_iconst (v := zI (-1)) hx hb dX9_crossingsByEdges_81 rfl ?_
              refine z_iceq (tgt := 111) hx hb ⟨by omega, by omega⟩ ⟨by omega, by omega⟩ dX9_crossingsByEdges_82 (by decide) (fun c_82 => ?_) (fun c_82 => ?_)
              · have k2 : g = g7 + (if 42 ≤ i then 0 else z1 (S_hi h lv9 i != S_hi h lv9 (i + 7))) := by rw [hg7]; by_cases hz : 42 ≤ i <;> first | (exfalso; split at h42 <;> omega) | (rw [if_pos hz]; first | done | omega) | (rw [if_neg hz, hAA, hB2]; first | done | rfl | exact (Int.add_zero _).symm)
                refine z_iinc (k := 4) (v := i + 1) (lv' := [(3, .int (zI (i + 1))), (6, .int (zI v42_3)), (5, .int (zI v35_2)), (4, .int (zI 0)), (2, .int (zI g)), (0, .ref (α 0)), (1, .int (zI lv9))]) hx hb dX9_crossingsByEdges_111 hl rfl rfl (by decide) rfl (fun ls hl => ?_)
                refine lv_goto (tgt := 8) hx hb dX9_crossingsByEdges_114 (by decide) ?_
                exact ih_8 g (i + 1) _ _ hP hD hS _ (lv_sub hl [4, 0, 5, 6] rfl) (by first | assumption | rfl | omega) (by rw [zS_up hi.1, ← hg]; show _ = g + ((if i % 7 = 6 then 0 else z1 (S_hi h lv9 i != S_hi h lv9 (i + 1))) + (if 42 ≤ i then 0 else z1 (S_hi h lv9 i != S_hi h lv9 (i + 7)))); omega) (by first | assumption | rfl | omega) (by omega)
              · have hr2 : v42_3 = i + 7 := by split at h42 <;> omega
                refine lv_iload hx hb dX9_crossingsByEdges_85 (lv_at hl 2 rfl) ?_
                refine lv_aload_n hx hb dX9_crossingsByEdges_87 rfl (lv_at hl 5 rfl) ?_
                refine va_get (D := D) (ci := 9) (v := .ref (α 1)) (C := RX9) (T := TX9) (N := 9) hx hb hts (fun w h => List.mem_cons_of_mem _ (wx_X9 w h)) hown hK hP 0 rfl rfl 0 (by decide) (hW0 _ wf_X9_12) (fun _ h9 => h9) rfl dX9_crossingsByEdges_88 ?_
                refine lv_iload hx hb dX9_crossingsByEdges_91 (lv_at hl 0 rfl) ?_
                refine z_calli hP hD hS hA (va_runV (As := [.int (zI v42_3)]) (rest := [.int (zI 0)]) hC (c_X6_at l D τ α γ h old ch rg ln sl pd ct sg od hs v42_3 (by first | assumption | rfl | omega) (by first | assumption | rfl | omega) _) (cwV 1 hts (gV hB wl_X9_87 wn_X6_at ws_X6_at wi_X6 wc_X6_at) rfl rfl rfl hd_X6_at ⟨Nat.le_of_ble_eq_true rfl, Nat.le_of_ble_eq_true rfl⟩) (zp_V hK hP hD hS hA hG (ci := 6) (q0 := 1) rfl rfl rfl) rfl rfl hl.1 rfl (lv_room (Nat.le_of_ble_eq_true rfl)) dX9_crossingsByEdges_93 ⟨Nat.le_of_ble_eq_true rfl, Nat.le_of_ble_eq_true rfl⟩) (fun r w1 H locs hq9 hP hD hS => ?_)
                obtain ⟨v93_6, hv93_0, hv93_1, hv93_2, rfl, rfl⟩ := hq9
                have hP : va_P D vwCl (wH α γ (h, old, ch) rg ln sl pd ct sg od hs) H := hP
                have hD : va_D A (wH α γ (h, old, ch) rg ln sl pd ct sg od hs) := hD
                refine lv_iload_n hx hb dX9_crossingsByEdges_96 rfl (lv_at hl 6 rfl) ?_
                refine z_icle (tgt := 104) hx hb ⟨by omega, by omega⟩ ⟨by omega, by omega⟩ dX9_crossingsByEdges_97 (by decide) (fun c_97 => ?_) (fun c_97 => ?_)
                · refine lv_iconst (v := zI 0) hx hb dX9_crossingsByEdges_104 rfl ?_
                  have z93 := hv93_2 (by omega)
                  rw [hr2] at z93
                  have hB2 : S_hi h lv9 (i + 7) = false := S_hi_f (by omega)
                  refine z_iceq (tgt := 111) hx hb ⟨by omega, by omega⟩ ⟨by omega, by omega⟩ dX9_crossingsByEdges_105 (by decide) (fun c_105 => ?_) (fun c_105 => ?_)
                  · have k2 : g = g7 + (if 42 ≤ i then 0 else z1 (S_hi h lv9 i != S_hi h lv9 (i + 7))) := by rw [hg7]; by_cases hz : 42 ≤ i <;> first | (exfalso; split at h42 <;> omega) | (rw [if_pos hz]; first | done | omega) | (rw [if_neg hz, hAA, hB2]; first | done | rfl | exact (Int.add_zero _).symm)
                    refine z_iinc (k := 4) (v := i + 1) (lv' := [(3, .int (zI (i + 1))), (6, .int (zI v42_3)), (5, .int (zI v35_2)), (4, .int (zI 0)), (2, .int (zI g)), (0, .ref (α 0)), (1, .int (zI lv9))]) hx hb dX9_crossingsByEdges_111 hl rfl rfl (by decide) rfl (fun ls hl => ?_)
                    refine lv_goto (tgt := 8) hx hb dX9_crossingsByEdges_114 (by decide) ?_
                    exact ih_8 g (i + 1) _ _ hP hD hS _ (lv_sub hl [4, 0, 5, 6] rfl) (by first | assumption | rfl | omega) (by rw [zS_up hi.1, ← hg]; show _ = g + ((if i % 7 = 6 then 0 else z1 (S_hi h lv9 i != S_hi h lv9 (i + 1))) + (if 42 ≤ i then 0 else z1 (S_hi h lv9 i != S_hi h lv9 (i + 7)))); omega) (by first | assumption | rfl | omega) (by omega)
                  · exact absurd c_105 (by decide)
                · refine lv_iconst (v := zI 1) hx hb dX9_crossingsByEdges_100 rfl ?_
                  refine lv_goto (tgt := 105) hx hb dX9_crossingsByEdges_101 (by decide) ?_
                  have z93 := hv93_2 (by omega)
                  rw [hr2] at z93
                  have hB2 : S_hi h lv9 (i + 7) = true := S_hi_t (by omega)
                  refine z_iceq (tgt := 111) hx hb ⟨by omega, by omega⟩ ⟨by omega, by omega⟩ dX9_crossingsByEdges_105 (by decide) (fun c_105 => ?_) (fun c_105 => ?_)
                  · exact absurd c_105 (by decide)
                  · refine z_iinc (k := 3) (v := g + 1) (lv' := [(2, .int (zI (g + 1))), (6, .int (zI v42_3)), (5, .int (zI v35_2)), (4, .int (zI 0)), (3, .int (zI i)), (0, .ref (α 0)), (1, .int (zI lv9))]) hx hb dX9_crossingsByEdges_108 hl rfl rfl (by decide) rfl (fun ls hl => ?_)
                    have k2 : (g + 1) = g7 + (if 42 ≤ i then 0 else z1 (S_hi h lv9 i != S_hi h lv9 (i + 7))) := by rw [hg7]; by_cases hz : 42 ≤ i <;> first | (exfalso; split at h42 <;> omega) | (rw [if_pos hz]; first | done | omega) | (rw [if_neg hz, hAA, hB2]; first | done | rfl | exact (Int.add_zero _).symm)
                    refine z_iinc (k := 4) (v := i + 1) (lv' := [(3, .int (zI (i + 1))), (2, .int (zI (g + 1))), (6, .int (zI v42_3)), (5, .int (zI v35_2)), (4, .int (zI 0)), (0, .ref (α 0)), (1, .int (zI lv9))]) hx hb dX9_crossingsByEdges_111 hl rfl rfl (by decide) rfl (fun ls hl => ?_)
                    refine lv_goto (tgt := 8) hx hb dX9_crossingsByEdges_114 (by decide) ?_
                    exact ih_8 (g + 1) (i + 1) _ _ hP hD hS _ (lv_sub hl [1, 0, 5, 6] rfl) (by first | assumption | rfl | omega) (by rw [zS_up hi.1, ← hg]; show _ = g + ((if i % 7 = 6 then 0 else z1 (S_hi h lv9 i != S_hi h lv9 (i + 1))) + (if 42 ≤ i then 0 else z1 (S_hi h lv9 i != S_hi h lv9 (i + 7)))); omega) (by first | assumption | rfl | omega) (by omega)
            · exact absurd c_73 (by decide)
          · refine lv_iconst (v := zI 1) hx hb dX9_crossingsByEdges_68 rfl ?_
            refine lv_goto (tgt := 73) hx hb dX9_crossingsByEdges_69 (by decide) ?_
            have z61 := hv61_2 (by omega)
            rw [hr1] at z61
            have hBB : S_hi h lv9 (i + 1) = true := S_hi_t (by omega)
            refine z_iceq (tgt := 79) hx hb ⟨by omega, by omega⟩ ⟨by omega, by omega⟩ dX9_crossingsByEdges_73 (by decide) (fun c_73 => ?_) (fun c_73 => ?_)
            · exact absurd c_73 (by decide)
            · refine z_iinc (k := 3) (v := g + 1) (lv' := [(2, .int (zI (g + 1))), (6, .int (zI v42_3)), (5, .int (zI v35_2)), (4, .int (zI 0)), (3, .int (zI i)), (0, .ref (α 0)), (1, .int (zI lv9))]) hx hb dX9_crossingsByEdges_76 hl rfl rfl (by decide) rfl (fun ls hl => ?_)
              obtain ⟨g7, hg7⟩ : ∃ z : Int, z = (g + 1) := ⟨_, rfl⟩
              have k1 : g7 = g + (if i % 7 = 6 then 0 else z1 (S_hi h lv9 i != S_hi h lv9 (i + 1))) := by rw [hg7]; by_cases hz : i % 7 = 6 <;> first | (exfalso; split at h35 <;> omega) | (rw [if_pos hz]; first | done | omega) | (rw [if_neg hz, hAA, hBB]; first | done | rfl | exact (Int.add_zero _).symm)
              refine lv_iload hx hb dX9_crossingsByEdges_79 (lv_at hl 1 rfl) ?_
              refine lv_iconst (v := zI (-1)) hx hb dX9_crossingsByEdges_81 rfl ?_
              refine z_iceq (tgt := 111) hx hb ⟨by omega, by omega⟩ ⟨by omega, by omega⟩ dX9_crossingsByEdges_82 (by decide) (fun c_82 => ?_) (fun c_82 => ?_)
              · have k2 : (g + 1) = g7 + (if 42 ≤ i then 0 else z1 (S_hi h lv9 i != S_hi h lv9 (i + 7))) := by rw [hg7]; by_cases hz : 42 ≤ i <;> first | (exfalso; split at h42 <;> omega) | (rw [if_pos hz]; first | done | omega) | (rw [if_neg hz, hAA, hB2]; first | done | rfl | exact (Int.add_zero _).symm)
                refine z_iinc (k := 4) (v := i + 1) (lv' := [(3, .int (zI (i + 1))), (2, .int (zI (g + 1))), (6, .int (zI v42_3)), (5, .int (zI v35_2)), (4, .int (zI 0)), (0, .ref (α 0)), (1, .int (zI lv9))]) hx hb dX9_crossingsByEdges_111 hl rfl rfl (by decide) rfl (fun ls hl => ?_)
                refine lv_goto (tgt := 8) hx hb dX9_crossingsByEdges_114 (by decide) ?_
                exact ih_8 (g + 1) (i + 1) _ _ hP hD hS _ (lv_sub hl [1, 0, 5, 6] rfl) (by first | assumption | rfl | omega) (by rw [zS_up hi.1, ← hg]; show _ = g + ((if i % 7 = 6 then 0 else z1 (S_hi h lv9 i != S_hi h lv9 (i + 1))) + (if 42 ≤ i then 0 else z1 (S_hi h lv9 i != S_hi h lv9 (i + 7)))); omega) (by first | assumption | rfl | omega) (by omega)
              · have hr2 : v42_3 = i + 7 := by split at h42 <;> omega
                refine lv_iload hx hb dX9_crossingsByEdges_85 (lv_at hl 3 rfl) ?_
                refine lv_aload_n hx hb dX9_crossingsByEdges_87 rfl (lv_at hl 5 rfl) ?_
                refine va_get (D := D) (ci := 9) (v := .ref (α 1)) (C := RX9) (T := TX9) (N := 9) hx hb hts (fun w h => List.mem_cons_of_mem _ (wx_X9 w h)) hown hK hP 0 rfl rfl 0 (by decide) (hW0 _ wf_X9_12) (fun _ h9 => h9) rfl dX9_crossingsByEdges_88 ?_
                refine lv_iload hx hb dX9_crossingsByEdges_91 (lv_at hl 1 rfl) ?_
                refine z_calli hP hD hS hA (va_runV (As := [.int (zI v42_3)]) (rest := [.int (zI 0)]) hC (c_X6_at l D τ α γ h old ch rg ln sl pd ct sg od hs v42_3 (by first | assumption | rfl | omega) (by first | assumption | rfl | omega) _) (cwV 1 hts (gV hB wl_X9_87 wn_X6_at ws_X6_at wi_X6 wc_X6_at) rfl rfl rfl hd_X6_at ⟨Nat.le_of_ble_eq_true rfl, Nat.le_of_ble_eq_true rfl⟩) (zp_V hK hP hD hS hA hG (ci := 6) (q0 := 1) rfl rfl rfl) rfl rfl hl.1 rfl (lv_room (Nat.le_of_ble_eq_true rfl)) dX9_crossingsByEdges_93 ⟨Nat.le_of_ble_eq_true rfl, Nat.le_of_ble_eq_true rfl⟩) (fun r w1 H locs hq9 hP hD hS => ?_)
                obtain ⟨v93_7, hv93_0, hv93_1, hv93_2, rfl, rfl⟩ := hq9
                have hP : va_P D vwCl (wH α γ (h, old, ch) rg ln sl pd ct sg od hs) H := hP
                have hD : va_D A (wH α γ (h, old, ch) rg ln sl pd ct sg od hs) := hD
                refine lv_iload_n hx hb dX9_crossingsByEdges_96 rfl (lv_at hl 6 rfl) ?_
                refine z_icle (tgt := 104) hx hb ⟨by omega, by omega⟩ ⟨by omega, by omega⟩ dX9_crossingsByEdges_97 (by decide) (fun c_97 => ?_) (fun c_97 => ?_)
                · refine lv_iconst (v := zI 0) hx hb dX9_crossingsByEdges_104 rfl ?_
                  have z93 := hv93_2 (by omega)
                  rw [hr2] at z93
                  have hB2 : S_hi h lv9 (i + 7) = false := S_hi_f (by omega)
                  refine z_iceq (tgt := 111) hx hb ⟨by omega, by omega⟩ ⟨by omega, by omega⟩ dX9_crossingsByEdges_105 (by decide) (fun c_105 => ?_) (fun c_105 => ?_)
                  · have k2 : (g + 1) = g7 + (if 42 ≤ i then 0 else z1 (S_hi h lv9 i != S_hi h lv9 (i + 7))) := by rw [hg7]; by_cases hz : 42 ≤ i <;> first | (exfalso; split at h42 <;> omega) | (rw [if_pos hz]; first | done | omega) | (rw [if_neg hz, hAA, hB2]; first | done | rfl | exact (Int.add_zero _).symm)
                    refine z_iinc (k := 4) (v := i + 1) (lv' := [(3, .int (zI (i + 1))), (2, .int (zI (g + 1))), (6, .int (zI v42_3)), (5, .int (zI v35_2)), (4, .int (zI 0)), (0, .ref (α 0)), (1, .int (zI lv9))]) hx hb dX9_crossingsByEdges_111 hl rfl rfl (by decide) rfl (fun ls hl => ?_)
                    refine lv_goto (tgt := 8) hx hb dX9_crossingsByEdges_114 (by decide) ?_
                    exact ih_8 (g + 1) (i + 1) _ _ hP hD hS _ (lv_sub hl [1, 0, 5, 6] rfl) (by first | assumption | rfl | omega) (by rw [zS_up hi.1, ← hg]; show _ = g + ((if i % 7 = 6 then 0 else z1 (S_hi h lv9 i != S_hi h lv9 (i + 1))) + (if 42 ≤ i then 0 else z1 (S_hi h lv9 i != S_hi h lv9 (i + 7)))); omega) (by first | assumption | rfl | omega) (by omega)
                  · exact absurd c_105 (by decide)
                · refine lv_iconst (v := zI 1) hx hb dX9_crossingsByEdges_100 rfl ?_
                  refine lv_goto (tgt := 105) hx hb dX9_crossingsByEdges_101 (by decide) ?_
                  have z93 := hv93_2 (by omega)
                  rw [hr2] at z93
                  have hB2 : S_hi h lv9 (i + 7) = true := S_hi_t (by omega)
                  refine z_iceq (tgt := 111) hx hb ⟨by omega, by omega⟩ ⟨by omega, by omega⟩ dX9_crossingsByEdges_105 (by decide) (fun c_105 => ?_) (fun c_105 => ?_)
                  · exact absurd c_105 (by decide)
                  · refine z_iinc (k := 0) (v := (g + 1) + 1) (lv' := [(2, .int (zI ((g + 1) + 1))), (6, .int (zI v42_3)), (5, .int (zI v35_2)), (4, .int (zI 0)), (3, .int (zI i)), (0, .ref (α 0)), (1, .int (zI lv9))]) hx hb dX9_crossingsByEdges_108 hl rfl rfl (by decide) rfl (fun ls hl => ?_)
                    have k2 : ((g + 1) + 1) = g7 + (if 42 ≤ i then 0 else z1 (S_hi h lv9 i != S_hi h lv9 (i + 7))) := by rw [hg7]; by_cases hz : 42 ≤ i <;> first | (exfalso; split at h42 <;> omega) | (rw [if_pos hz]; first | done | omega) | (rw [if_neg hz, hAA, hB2]; first | done | rfl | exact (Int.add_zero _).symm)
                    refine z_iinc (k := 4) (v := i + 1) (lv' := [(3, .int (zI (i + 1))), (2, .int (zI ((g + 1) + 1))), (6, .int (zI v42_3)), (5, .int (zI v35_2)), (4, .int (zI 0)), (0, .ref (α 0)), (1, .int (zI lv9))]) hx hb dX9_crossingsByEdges_111 hl rfl rfl (by decide) rfl (fun ls hl => ?_)
                    refine lv_goto (tgt := 8) hx hb dX9_crossingsByEdges_114 (by decide) ?_
                    exact ih_8 ((g + 1) + 1) (i + 1) _ _ hP hD hS _ (lv_sub hl [1, 0, 5, 6] rfl) (by first | assumption | rfl | omega) (by rw [zS_up hi.1, ← hg]; show _ = g + ((if i % 7 = 6 then 0 else z1 (S_hi h lv9 i != S_hi h lv9 (i + 1))) + (if 42 ≤ i then 0 else z1 (S_hi h lv9 i != S_hi h lv9 (i + 7)))); omega) (by first | assumption | rfl | omega) (by omega)
      · refine lv_iconst (v := zI 1) hx hb dX9_crossingsByEdges_26 rfl ?_
        refine lv_goto (tgt := 31) hx hb dX9_crossingsByEdges_27 (by decide) ?_
        have hAA : S_hi h lv9 i = true := S_hi_t (by omega)
        refine lv_istore (lv' := [(4, .int (zI 1)), (2, .int (zI g)), (3, .int (zI i)), (0, .ref (α 0)), (1, .int (zI lv9))]) hx hb dX9_crossingsByEdges_31 hl (by decide) rfl (fun ls hl => ?_)
        refine lv_iload_n hx hb dX9_crossingsByEdges_33 rfl (lv_at hl 2 rfl) ?_
        refine lv_iconst (v := zI 1) hx hb dX9_crossingsByEdges_34 rfl ?_
        refine z_calli hP hD hS hA (va_runS (As := [.int (zI i), .int (zI 1)]) (rest := []) hC (c_X9_stepFrom l D τ _ _ i 1 (by first | assumption | rfl | omega) (by first | assumption | rfl | omega) _) (va_cwS 2 hts (gS hB wl_X9_175 wt_X9_stepFrom wi_X9 wc_X9_stepFrom) rfl rfl rfl hd_X9_stepFrom.2 ⟨Nat.le_of_ble_eq_true rfl, Nat.le_of_ble_eq_true rfl⟩) (zp_S hK hP hD hS hA hG) rfl rfl hl.1 rfl (lv_room (Nat.le_of_ble_eq_true rfl)) dX9_crossingsByEdges_35 ⟨Nat.le_of_ble_eq_true rfl, Nat.le_of_ble_eq_true rfl⟩) (fun r w1 H locs hq9 hP hD hS => ?_)
        obtain ⟨v35_8, hv35_0, hv35_1, rfl, rfl⟩ := hq9
        refine lv_istore (lv' := [(5, .int (zI v35_8)), (4, .int (zI 1)), (2, .int (zI g)), (3, .int (zI i)), (0, .ref (α 0)), (1, .int (zI lv9))]) hx hb dX9_crossingsByEdges_38 hl (by decide) rfl (fun ls hl => ?_)
        refine lv_iload_n hx hb dX9_crossingsByEdges_40 rfl (lv_at hl 3 rfl) ?_
        refine lv_iconst (v := zI 2) hx hb dX9_crossingsByEdges_41 rfl ?_
        refine z_calli hP hD hS hA (va_runS (As := [.int (zI i), .int (zI 2)]) (rest := []) hC (c_X9_stepFrom l D τ _ _ i 2 (by first | assumption | rfl | omega) (by first | assumption | rfl | omega) _) (va_cwS 2 hts (gS hB wl_X9_175 wt_X9_stepFrom wi_X9 wc_X9_stepFrom) rfl rfl rfl hd_X9_stepFrom.2 ⟨Nat.le_of_ble_eq_true rfl, Nat.le_of_ble_eq_true rfl⟩) (zp_S hK hP hD hS hA hG) rfl rfl hl.1 rfl (lv_room (Nat.le_of_ble_eq_true rfl)) dX9_crossingsByEdges_42 ⟨Nat.le_of_ble_eq_true rfl, Nat.le_of_ble_eq_true rfl⟩) (fun r w1 H locs hq9 hP hD hS => ?_)
        obtain ⟨v42_9, hv42_0, hv42_1, rfl, rfl⟩ := hq9
        refine lv_istore (lv' := [(6, .int (zI v42_9)), (5, .int (zI v35_8)), (4, .int (zI 1)), (2, .int (zI g)), (3, .int (zI i)), (0, .ref (α 0)), (1, .int (zI lv9))]) hx hb dX9_crossingsByEdges_45 hl (by decide) rfl (fun ls hl => ?_)
        refine lv_iload hx hb dX9_crossingsByEdges_47 (lv_at hl 1 rfl) ?_
        have h35 := hv35_0
        rw [hst4.2.1] at h35
        have h42 := hv42_0
        rw [hst4.2.2.1] at h42
        refine lv_iconst (v := zI (-1)) hx hb dX9_crossingsByEdges_49 rfl ?_
        refine z_iceq (tgt := 79) hx hb ⟨by omega, by omega⟩ ⟨by omega, by omega⟩ dX9_crossingsByEdges_50 (by decide) (fun c_50 => ?_) (fun c_50 => ?_)
        · obtain ⟨g7, hg7⟩ : ∃ z : Int, z = g := ⟨_, rfl⟩
          have k1 : g7 = g + (if i % 7 = 6 then 0 else z1 (S_hi h lv9 i != S_hi h lv9 (i + 1))) := by rw [hg7]; by_cases hz : i % 7 = 6 <;> first | (exfalso; split at h35 <;> omega) | (rw [if_pos hz]; first | done | omega) | (rw [if_neg hz, hAA, hBB]; first | done | rfl | exact (Int.add_zero _).symm)
          refine lv_iload hx hb dX9_crossingsByEdges_79 (lv_at hl 0 rfl) ?_
          refine lv_iconst (v := zI (-1)) hx hb dX9_crossingsByEdges_81 rfl ?_
          refine z_iceq (tgt := 111) hx hb ⟨by omega, by omega⟩ ⟨by omega, by omega⟩ dX9_crossingsByEdges_82 (by decide) (fun c_82 => ?_) (fun c_82 => ?_)
          · have k2 : g = g7 + (if 42 ≤ i then 0 else z1 (S_hi h lv9 i != S_hi h lv9 (i + 7))) := by rw [hg7]; by_cases hz : 42 ≤ i <;> first | (exfalso; split at h42 <;> omega) | (rw [if_pos hz]; first | done | omega) | (rw [if_neg hz, hAA, hB2]; first | done | rfl | exact (Int.add_zero _).symm)
            refine z_iinc (k := 4) (v := i + 1) (lv' := [(3, .int (zI (i + 1))), (6, .int (zI v42_9)), (5, .int (zI v35_8)), (4, .int (zI 1)), (2, .int (zI g)), (0, .ref (α 0)), (1, .int (zI lv9))]) hx hb dX9_crossingsByEdges_111 hl rfl rfl (by decide) rfl (fun ls hl => ?_)
            refine lv_goto (tgt := 8) hx hb dX9_crossingsByEdges_114 (by decide) ?_
            exact ih_8 g (i + 1) _ _ hP hD hS _ (lv_sub hl [4, 0, 5, 6] rfl) (by first | assumption | rfl | omega) (by rw [zS_up hi.1, ← hg]; show _ = g + ((if i % 7 = 6 then 0 else z1 (S_hi h lv9 i != S_hi h lv9 (i + 1))) + (if 42 ≤ i then 0 else z1 (S_hi h lv9 i != S_hi h lv9 (i + 7)))); omega) (by first | assumption | rfl | omega) (by omega)
          · have hr2 : v42_9 = i + 7 := by split at h42 <;> omega
            refine lv_iload hx hb dX9_crossingsByEdges_85 (lv_at hl 2 rfl) ?_
            refine lv_aload_n hx hb dX9_crossingsByEdges_87 rfl (lv_at hl 5 rfl) ?_
            refine va_get (D := D) (ci := 9) (v := .ref (α 1)) (C := RX9) (T := TX9) (N := 9) hx hb hts (fun w h => List.mem_cons_of_mem _ (wx_X9 w h)) hown hK hP 0 rfl rfl 0 (by decide) (hW0 _ wf_X9_12) (fun _ h9 => h9) rfl dX9_crossingsByEdges_88 ?_
            refine lv_iload hx hb dX9_crossingsByEdges_91 (lv_at hl 0 rfl) ?_
            refine z_calli hP hD hS hA (va_runV (As := [.int (zI v42_9)]) (rest := [.int (zI 1)]) hC (c_X6_at l D τ α γ h old ch rg ln sl pd ct sg od hs v42_9 (by first | assumption | rfl | omega) (by first | assumption | rfl | omega) _) (cwV 1 hts (gV hB wl_X9_87 wn_X6_at ws_X6_at wi_X6 wc_X6_at) rfl rfl rfl hd_X6_at ⟨Nat.le_of_ble_eq_true rfl, Nat.le_of_ble_eq_true rfl⟩) (zp_V hK hP hD hS hA hG (ci := 6) (q0 := 1) rfl rfl rfl) rfl rfl hl.1 rfl (lv_room (Nat.le_of_ble_eq_true rfl)) dX9_crossingsByEdges_93 ⟨Nat.le_of_ble_eq_true rfl, Nat.le_of_ble_eq_true rfl⟩) (fun r w1 H locs hq9 hP hD hS => ?_)
            obtain ⟨v93_10, hv93_0, hv93_1, hv93_2, rfl, rfl⟩ := hq9
            have hP : va_P D vwCl (wH α γ (h, old, ch) rg ln sl pd ct sg od hs) H := hP
            have hD : va_D A (wH α γ (h, old, ch) rg ln sl pd ct sg od hs) := hD
            refine lv_iload_n hx hb dX9_crossingsByEdges_96 rfl (lv_at hl 6 rfl) ?_
            refine z_icle (tgt := 104) hx hb ⟨by omega, by omega⟩ ⟨by omega, by omega⟩ dX9_crossingsByEdges_97 (by decide) (fun c_97 => ?_) (fun c_97 => ?_)
            · refine lv_iconst (v := zI 0) hx hb dX9_crossingsByEdges_104 rfl ?_
              have z93 := hv93_2 (by omega)
              rw [hr2] at z93
              have hB2 : S_hi h lv9 (i + 7) = false := S_hi_f (by omega)
              refine z_iceq (tgt := 111) hx hb ⟨by omega, by omega⟩ ⟨by omega, by omega⟩ dX9_crossingsByEdges_105 (by decide) (fun c_105 => ?_) (fun c_105 => ?_)
              · exact absurd c_105 (by decide)
              · refine z_iinc (k := 3) (v := g + 1) (lv' := [(2, .int (zI (g + 1))), (6, .int (zI v42_9)), (5, .int (zI v35_8)), (4, .int (zI 1)), (3, .int (zI i)), (0, .ref (α 0)), (1, .int (zI lv9))]) hx hb dX9_crossingsByEdges_108 hl rfl rfl (by decide) rfl (fun ls hl => ?_)
                have k2 : (g + 1) = g7 + (if 42 ≤ i then 0 else z1 (S_hi h lv9 i != S_hi h lv9 (i + 7))) := by rw [hg7]; by_cases hz : 42 ≤ i <;> first | (exfalso; split at h42 <;> omega) | (rw [if_pos hz]; first | done | omega) | (rw [if_neg hz, hAA, hB2]; first | done | rfl | exact (Int.add_zero _).symm)
                refine z_iinc (k := 4) (v := i + 1) (lv' := [(3, .int (zI (i + 1))), (2, .int (zI (g + 1))), (6, .int (zI v42_9)), (5, .int (zI v35_8)), (4, .int (zI 1)), (0, .ref (α 0)), (1, .int (zI lv9))]) hx hb dX9_crossingsByEdges_111 hl rfl rfl (by decide) rfl (fun ls hl => ?_)
                refine lv_goto (tgt := 8) hx hb dX9_crossingsByEdges_114 (by decide) ?_
                exact ih_8 (g + 1) (i + 1) _ _ hP hD hS _ (lv_sub hl [1, 0, 5, 6] rfl) (by first | assumption | rfl | omega) (by rw [zS_up hi.1, ← hg]; show _ = g + ((if i % 7 = 6 then 0 else z1 (S_hi h lv9 i != S_hi h lv9 (i + 1))) + (if 42 ≤ i then 0 else z1 (S_hi h lv9 i != S_hi h lv9 (i + 7)))); omega) (by first | assumption | rfl | omega) (by omega)
            · refine lv_iconst (v := zI 1) hx hb dX9_crossingsByEdges_100 rfl ?_
              refine lv_goto (tgt := 105) hx hb dX9_crossingsByEdges_101 (by decide) ?_
              have z93 := hv93_2 (by omega)
              rw [hr2] at z93
              have hB2 : S_hi h lv9 (i + 7) = true := S_hi_t (by omega)
              refine z_iceq (tgt := 111) hx hb ⟨by omega, by omega⟩ ⟨by omega, by omega⟩ dX9_crossingsByEdges_105 (by decide) (fun c_105 => ?_) (fun c_105 => ?_)
              · have k2 : g = g7 + (if 42 ≤ i then 0 else z1 (S_hi h lv9 i != S_hi h lv9 (i + 7))) := by rw [hg7]; by_cases hz : 42 ≤ i <;> first | (exfalso; split at h42 <;> omega) | (rw [if_pos hz]; first | done | omega) | (rw [if_neg hz, hAA, hB2]; first | done | rfl | exact (Int.add_zero _).symm)
                refine z_iinc (k := 4) (v := i + 1) (lv' := [(3, .int (zI (i + 1))), (6, .int (zI v42_9)), (5, .int (zI v35_8)), (4, .int (zI 1)), (2, .int (zI g)), (0, .ref (α 0)), (1, .int (zI lv9))]) hx hb dX9_crossingsByEdges_111 hl rfl rfl (by decide) rfl (fun ls hl => ?_)
                refine lv_goto (tgt := 8) hx hb dX9_crossingsByEdges_114 (by decide) ?_
                exact ih_8 g (i + 1) _ _ hP hD hS _ (lv_sub hl [4, 0, 5, 6] rfl) (by first | assumption | rfl | omega) (by rw [zS_up hi.1, ← hg]; show _ = g + ((if i % 7 = 6 then 0 else z1 (S_hi h lv9 i != S_hi h lv9 (i + 1))) + (if 42 ≤ i then 0 else z1 (S_hi h lv9 i != S_hi h lv9 (i + 7)))); omega) (by first | assumption | rfl | omega) (by omega)
              · exact absurd c_105 (by decide)
        · have hr1 : v35_8 = i + 1 := by split at h35 <;> omega
          refine lv_iload hx hb dX9_crossingsByEdges_53 (lv_at hl 2 rfl) ?_
          refine lv_aload_n hx hb dX9_crossingsByEdges_55 rfl (lv_at hl 5 rfl) ?_
          refine va_get (D := D) (ci := 9) (v := .ref (α 1)) (C := RX9) (T := TX9) (N := 9) hx hb hts (fun w h => List.mem_cons_of_mem _ (wx_X9 w h)) hown hK hP 0 rfl rfl 0 (by decide) (hW0 _ wf_X9_12) (fun _ h9 => h9) rfl dX9_crossingsByEdges_56 ?_
          refine lv_iload hx hb dX9_crossingsByEdges_59 (lv_at hl 1 rfl) ?_
          refine z_calli hP hD hS hA (va_runV (As := [.int (zI v35_8)]) (rest := [.int (zI 1)]) hC (c_X6_at l D τ α γ h old ch rg ln sl pd ct sg od hs v35_8 (by first | assumption | rfl | omega) (by first | assumption | rfl | omega) _) (cwV 1 hts (gV hB wl_X9_87 wn_X6_at ws_X6_at wi_X6 wc_X6_at) rfl rfl rfl hd_X6_at ⟨Nat.le_of_ble_eq_true rfl, Nat.le_of_ble_eq_true rfl⟩) (zp_V hK hP hD hS hA hG (ci := 6) (q0 := 1) rfl rfl rfl) rfl rfl hl.1 rfl (lv_room (Nat.le_of_ble_eq_true rfl)) dX9_crossingsByEdges_61 ⟨Nat.le_of_ble_eq_true rfl, Nat.le_of_ble_eq_true rfl⟩) (fun r w1 H locs hq9 hP hD hS => ?_)
          obtain ⟨v61_11, hv61_0, hv61_1, hv61_2, rfl, rfl⟩ := hq9
          have hP : va_P D vwCl (wH α γ (h, old, ch) rg ln sl pd ct sg od hs) H := hP
          have hD : va_D A (wH α γ (h, old, ch) rg ln sl pd ct sg od hs) := hD
          refine lv_iload_n hx hb dX9_crossingsByEdges_64 rfl (lv_at hl 6 rfl) ?_
          refine z_icle (tgt := 72) hx hb ⟨by omega, by omega⟩ ⟨by omega, by omega⟩ dX9_crossingsByEdges_65 (by decide) (fun c_65 => ?_) (fun c_65 => ?_)
          · refine lv_iconst (v := zI 0) hx hb dX9_crossingsByEdges_72 rfl ?_
            have z61 := hv61_2 (by omega)
            rw [hr1] at z61
            have hBB : S_hi h lv9 (i + 1) = false := S_hi_f (by omega)
            refine z_iceq (tgt := 79) hx hb ⟨by omega, by omega⟩ ⟨by omega, by omega⟩ dX9_crossingsByEdges_73 (by decide) (fun c_73 => ?_) (fun c_73 => ?_)
            · exact absurd c_73 (by decide)
            · refine z_iinc (k := 3) (v := g + 1) (lv' := [(2, .int (zI (g + 1))), (6, .int (zI v42_9)), (5, .int (zI v35_8)), (4, .int (zI 1)), (3, .int (zI i)), (0, .ref (α 0)), (1, .int (zI lv9))]) hx hb dX9_crossingsByEdges_76 hl rfl rfl (by decide) rfl (fun ls hl => ?_)
              obtain ⟨g7, hg7⟩ : ∃ z : Int, z = (g + 1) := ⟨_, rfl⟩
              have k1 : g7 = g + (if i % 7 = 6 then 0 else z1 (S_hi h lv9 i != S_hi h lv9 (i + 1))) := by rw [hg7]; by_cases hz : i % 7 = 6 <;> first | (exfalso; split at h35 <;> omega) | (rw [if_pos hz]; first | done | omega) | (rw [if_neg hz, hAA, hBB]; first | done | rfl | exact (Int.add_zero _).symm)
              refine lv_iload hx hb dX9_crossingsByEdges_79 (lv_at hl 1 rfl) ?_
              refine lv_iconst (v := zI (-1)) hx hb dX9_crossingsByEdges_81 rfl ?_
              refine z_iceq (tgt := 111) hx hb ⟨by omega, by omega⟩ ⟨by omega, by omega⟩ dX9_crossingsByEdges_82 (by decide) (fun c_82 => ?_) (fun c_82 => ?_)
              · have k2 : (g + 1) = g7 + (if 42 ≤ i then 0 else z1 (S_hi h lv9 i != S_hi h lv9 (i + 7))) := by rw [hg7]; by_cases hz : 42 ≤ i <;> first | (exfalso; split at h42 <;> omega) | (rw [if_pos hz]; first | done | omega) | (rw [if_neg hz, hAA, hB2]; first | done | rfl | exact (Int.add_zero _).symm)
                refine z_iinc (k := 4) (v := i + 1) (lv' := [(3, .int (zI (i + 1))), (2, .int (zI (g + 1))), (6, .int (zI v42_9)), (5, .int (zI v35_8)), (4, .int (zI 1)), (0, .ref (α 0)), (1, .int (zI lv9))]) hx hb dX9_crossingsByEdges_111 hl rfl rfl (by decide) rfl (fun ls hl => ?_)
                refine lv_goto (tgt := 8) hx hb dX9_crossingsByEdges_114 (by decide) ?_
                exact ih_8 (g + 1) (i + 1) _ _ hP hD hS _ (lv_sub hl [1, 0, 5, 6] rfl) (by first | assumption | rfl | omega) (by rw [zS_up hi.1, ← hg]; show _ = g + ((if i % 7 = 6 then 0 else z1 (S_hi h lv9 i != S_hi h lv9 (i + 1))) + (if 42 ≤ i then 0 else z1 (S_hi h lv9 i != S_hi h lv9 (i + 7)))); omega) (by first | assumption | rfl | omega) (by omega)
              · have hr2 : v42_9 = i + 7 := by split at h42 <;> omega
                refine lv_iload hx hb dX9_crossingsByEdges_85 (lv_at hl 3 rfl) ?_
                refine lv_aload_n hx hb dX9_crossingsByEdges_87 rfl (lv_at hl 5 rfl) ?_
                refine va_get (D := D) (ci := 9) (v := .ref (α 1)) (C := RX9) (T := TX9) (N := 9) hx hb hts (fun w h => List.mem_cons_of_mem _ (wx_X9 w h)) hown hK hP 0 rfl rfl 0 (by decide) (hW0 _ wf_X9_12) (fun _ h9 => h9) rfl dX9_crossingsByEdges_88 ?_
                refine lv_iload hx hb dX9_crossingsByEdges_91 (lv_at hl 1 rfl) ?_
                refine z_calli hP hD hS hA (va_runV (As := [.int (zI v42_9)]) (rest := [.int (zI 1)]) hC (c_X6_at l D τ α γ h old ch rg ln sl pd ct sg od hs v42_9 (by first | assumption | rfl | omega) (by first | assumption | rfl | omega) _) (cwV 1 hts (gV hB wl_X9_87 wn_X6_at ws_X6_at wi_X6 wc_X6_at) rfl rfl rfl hd_X6_at ⟨Nat.le_of_ble_eq_true rfl, Nat.le_of_ble_eq_true rfl⟩) (zp_V hK hP hD hS hA hG (ci := 6) (q0 := 1) rfl rfl rfl) rfl rfl hl.1 rfl (lv_room (Nat.le_of_ble_eq_true rfl)) dX9_crossingsByEdges_93 ⟨Nat.le_of_ble_eq_true rfl, Nat.le_of_ble_eq_true rfl⟩) (fun r w1 H locs hq9 hP hD hS => ?_)
                obtain ⟨v93_12, hv93_0, hv93_1, hv93_2, rfl, rfl⟩ := hq9
                have hP : va_P D vwCl (wH α γ (h, old, ch) rg ln sl pd ct sg od hs) H := hP
                have hD : va_D A (wH α γ (h, old, ch) rg ln sl pd ct sg od hs) := hD
                refine lv_iload_n hx hb dX9_crossingsByEdges_96 rfl (lv_at hl 6 rfl) ?_
                refine z_icle (tgt := 104) hx hb ⟨by omega, by omega⟩ ⟨by omega, by omega⟩ dX9_crossingsByEdges_97 (by decide) (fun c_97 => ?_) (fun c_97 => ?_)
                · refine lv_iconst (v := zI 0) hx hb dX9_crossingsByEdges_104 rfl ?_
                  have z93 := hv93_2 (by omega)
                  rw [hr2] at z93
                  have hB2 : S_hi h lv9 (i + 7) = false := S_hi_f (by omega)
                  refine z_iceq (tgt := 111) hx hb ⟨by omega, by omega⟩ ⟨by omega, by omega⟩ dX9_crossingsByEdges_105 (by decide) (fun c_105 => ?_) (fun c_105 => ?_)
                  · exact absurd c_105 (by decide)
                  · refine z_iinc (k := 0) (v := (g + 1) + 1) (lv' := [(2, .int (zI ((g + 1) + 1))), (6, .int (zI v42_9)), (5, .int (zI v35_8)), (4, .int (zI 1)), (3, .int (zI i)), (0, .ref (α 0)), (1, .int (zI lv9))]) hx hb dX9_crossingsByEdges_108 hl rfl rfl (by decide) rfl (fun ls hl => ?_)
                    have k2 : ((g + 1) + 1) = g7 + (if 42 ≤ i then 0 else z1 (S_hi h lv9 i != S_hi h lv9 (i + 7))) := by rw [hg7]; by_cases hz : 42 ≤ i <;> first | (exfalso; split at h42 <;> omega) | (rw [if_pos hz]; first | done | omega) | (rw [if_neg hz, hAA, hB2]; first | done | rfl | exact (Int.add_zero _).symm)
                    refine z_iinc (k := 4) (v := i + 1) (lv' := [(3, .int (zI (i + 1))), (2, .int (zI ((g + 1) + 1))), (6, .int (zI v42_9)), (5, .int (zI v35_8)), (4, .int (zI 1)), (0, .ref (α 0)), (1, .int (zI lv9))]) hx hb dX9_crossingsByEdges_111 hl rfl rfl (by decide) rfl (fun ls hl => ?_)
                    refine lv_goto (tgt := 8) hx hb dX9_crossingsByEdges_114 (by decide) ?_
                    exact ih_8 ((g + 1) + 1) (i + 1) _ _ hP hD hS _ (lv_sub hl [1, 0, 5, 6] rfl) (by first | assumption | rfl | omega) (by rw [zS_up hi.1, ← hg]; show _ = g + ((if i % 7 = 6 then 0 else z1 (S_hi h lv9 i != S_hi h lv9 (i + 1))) + (if 42 ≤ i then 0 else z1 (S_hi h lv9 i != S_hi h lv9 (i + 7)))); omega) (by first | assumption | rfl | omega) (by omega)
                · refine lv_iconst (v := zI 1) hx hb dX9_crossingsByEdges_100 rfl ?_
                  refine lv_goto (tgt := 105) hx hb dX9_crossingsByEdges_101 (by decide) ?_
                  have z93 := hv93_2 (by omega)
                  rw [hr2] at z93
                  have hB2 : S_hi h lv9 (i + 7) = true := S_hi_t (by omega)
                  refine z_iceq (tgt := 111) hx hb ⟨by omega, by omega⟩ ⟨by omega, by omega⟩ dX9_crossingsByEdges_105 (by decide) (fun c_105 => ?_) (fun c_105 => ?_)
                  · have k2 : (g + 1) = g7 + (if 42 ≤ i then 0 else z1 (S_hi h lv9 i != S_hi h lv9 (i + 7))) := by rw [hg7]; by_cases hz : 42 ≤ i <;> first | (exfalso; split at h42 <;> omega) | (rw [if_pos hz]; first | done | omega) | (rw [if_neg hz, hAA, hB2]; first | done | rfl | exact (Int.add_zero _).symm)
                    refine z_iinc (k := 4) (v := i + 1) (lv' := [(3, .int (zI (i + 1))), (2, .int (zI (g + 1))), (6, .int (zI v42_9)), (5, .int (zI v35_8)), (4, .int (zI 1)), (0, .ref (α 0)), (1, .int (zI lv9))]) hx hb dX9_crossingsByEdges_111 hl rfl rfl (by decide) rfl (fun ls hl => ?_)
                    refine lv_goto (tgt := 8) hx hb dX9_crossingsByEdges_114 (by decide) ?_
                    exact ih_8 (g + 1) (i + 1) _ _ hP hD hS _ (lv_sub hl [1, 0, 5, 6] rfl) (by first | assumption | rfl | omega) (by rw [zS_up hi.1, ← hg]; show _ = g + ((if i % 7 = 6 then 0 else z1 (S_hi h lv9 i != S_hi h lv9 (i + 1))) + (if 42 ≤ i then 0 else z1 (S_hi h lv9 i != S_hi h lv9 (i + 7)))); omega) (by first | assumption | rfl | omega) (by omega)
                  · exact absurd c_105 (by decide)
          · refine lv_iconst (v := zI 1) hx hb dX9_crossingsByEdges_68 rfl ?_
            refine lv_goto (tgt := 73) hx hb dX9_crossingsByEdges_69 (by decide) ?_
            have z61 := hv61_2 (by omega)
            rw [hr1] at z61
            have hBB : S_hi h lv9 (i + 1) = true := S_hi_t (by omega)
            refine z_iceq (tgt := 79) hx hb ⟨by omega, by omega⟩ ⟨by omega, by omega⟩ dX9_crossingsByEdges_73 (by decide) (fun c_73 => ?_) (fun c_73 => ?_)
            · obtain ⟨g7, hg7⟩ : ∃ z : Int, z = g := ⟨_, rfl⟩
              have k1 : g7 = g + (if i % 7 = 6 then 0 else z1 (S_hi h lv9 i != S_hi h lv9 (i + 1))) := by rw [hg7]; by_cases hz : i % 7 = 6 <;> first | (exfalso; split at h35 <;> omega) | (rw [if_pos hz]; first | done | omega) | (rw [if_neg hz, hAA, hBB]; first | done | rfl | exact (Int.add_zero _).symm)
              refine lv_iload hx hb dX9_crossingsByEdges_79 (lv_at hl 0 rfl) ?_
              refine lv_iconst (v := zI (-1)) hx hb dX9_crossingsByEdges_81 rfl ?_
              refine z_iceq (tgt := 111) hx hb ⟨by omega, by omega⟩ ⟨by omega, by omega⟩ dX9_crossingsByEdges_82 (by decide) (fun c_82 => ?_) (fun c_82 => ?_)
              · have k2 : g = g7 + (if 42 ≤ i then 0 else z1 (S_hi h lv9 i != S_hi h lv9 (i + 7))) := by rw [hg7]; by_cases hz : 42 ≤ i <;> first | (exfalso; split at h42 <;> omega) | (rw [if_pos hz]; first | done | omega) | (rw [if_neg hz, hAA, hB2]; first | done | rfl | exact (Int.add_zero _).symm)
                refine z_iinc (k := 4) (v := i + 1) (lv' := [(3, .int (zI (i + 1))), (6, .int (zI v42_9)), (5, .int (zI v35_8)), (4, .int (zI 1)), (2, .int (zI g)), (0, .ref (α 0)), (1, .int (zI lv9))]) hx hb dX9_crossingsByEdges_111 hl rfl rfl (by decide) rfl (fun ls hl => ?_)
                refine lv_goto (tgt := 8) hx hb dX9_crossingsByEdges_114 (by decide) ?_
                exact ih_8 g (i + 1) _ _ hP hD hS _ (lv_sub hl [4, 0, 5, 6] rfl) (by first | assumption | rfl | omega) (by rw [zS_up hi.1, ← hg]; show _ = g + ((if i % 7 = 6 then 0 else z1 (S_hi h lv9 i != S_hi h lv9 (i + 1))) + (if 42 ≤ i then 0 else z1 (S_hi h lv9 i != S_hi h lv9 (i + 7)))); omega) (by first | assumption | rfl | omega) (by omega)
              · have hr2 : v42_9 = i + 7 := by split at h42 <;> omega
                refine lv_iload hx hb dX9_crossingsByEdges_85 (lv_at hl 2 rfl) ?_
                refine lv_aload_n hx hb dX9_crossingsByEdges_87 rfl (lv_at hl 5 rfl) ?_
                refine va_get (D := D) (ci := 9) (v := .ref (α 1)) (C := RX9) (T := TX9) (N := 9) hx hb hts (fun w h => List.mem_cons_of_mem _ (wx_X9 w h)) hown hK hP 0 rfl rfl 0 (by decide) (hW0 _ wf_X9_12) (fun _ h9 => h9) rfl dX9_crossingsByEdges_88 ?_
                refine lv_iload hx hb dX9_crossingsByEdges_91 (lv_at hl 0 rfl) ?_
                refine z_calli hP hD hS hA (va_runV (As := [.int (zI v42_9)]) (rest := [.int (zI 1)]) hC (c_X6_at l D τ α γ h old ch rg ln sl pd ct sg od hs v42_9 (by first | assumption | rfl | omega) (by first | assumption | rfl | omega) _) (cwV 1 hts (gV hB wl_X9_87 wn_X6_at ws_X6_at wi_X6 wc_X6_at) rfl rfl rfl hd_X6_at ⟨Nat.le_of_ble_eq_true rfl, Nat.le_of_ble_eq_true rfl⟩) (zp_V hK hP hD hS hA hG (ci := 6) (q0 := 1) rfl rfl rfl) rfl rfl hl.1 rfl (lv_room (Nat.le_of_ble_eq_true rfl)) dX9_crossingsByEdges_93 ⟨Nat.le_of_ble_eq_true rfl, Nat.le_of_ble_eq_true rfl⟩) (fun r w1 H locs hq9 hP hD hS => ?_)
                obtain ⟨v93_13, hv93_0, hv93_1, hv93_2, rfl, rfl⟩ := hq9
                have hP : va_P D vwCl (wH α γ (h, old, ch) rg ln sl pd ct sg od hs) H := hP
                have hD : va_D A (wH α γ (h, old, ch) rg ln sl pd ct sg od hs) := hD
                refine lv_iload_n hx hb dX9_crossingsByEdges_96 rfl (lv_at hl 6 rfl) ?_
                refine z_icle (tgt := 104) hx hb ⟨by omega, by omega⟩ ⟨by omega, by omega⟩ dX9_crossingsByEdges_97 (by decide) (fun c_97 => ?_) (fun c_97 => ?_)
                · refine lv_iconst (v := zI 0) hx hb dX9_crossingsByEdges_104 rfl ?_
                  have z93 := hv93_2 (by omega)
                  rw [hr2] at z93
                  have hB2 : S_hi h lv9 (i + 7) = false := S_hi_f (by omega)
                  refine z_iceq (tgt := 111) hx hb ⟨by omega, by omega⟩ ⟨by omega, by omega⟩ dX9_crossingsByEdges_105 (by decide) (fun c_105 => ?_) (fun c_105 => ?_)
                  · exact absurd c_105 (by decide)
                  · refine z_iinc (k := 3) (v := g + 1) (lv' := [(2, .int (zI (g + 1))), (6, .int (zI v42_9)), (5, .int (zI v35_8)), (4, .int (zI 1)), (3, .int (zI i)), (0, .ref (α 0)), (1, .int (zI lv9))]) hx hb dX9_crossingsByEdges_108 hl rfl rfl (by decide) rfl (fun ls hl => ?_)
                    have k2 : (g + 1) = g7 + (if 42 ≤ i then 0 else z1 (S_hi h lv9 i != S_hi h lv9 (i + 7))) := by rw [hg7]; by_cases hz : 42 ≤ i <;> first | (exfalso; split at h42 <;> omega) | (rw [if_pos hz]; first | done | omega) | (rw [if_neg hz, hAA, hB2]; first | done | rfl | exact (Int.add_zero _).symm)
                    refine z_iinc (k := 4) (v := i + 1) (lv' := [(3, .int (zI (i + 1))), (2, .int (zI (g + 1))), (6, .int (zI v42_9)), (5, .int (zI v35_8)), (4, .int (zI 1)), (0, .ref (α 0)), (1, .int (zI lv9))]) hx hb dX9_crossingsByEdges_111 hl rfl rfl (by decide) rfl (fun ls hl => ?_)
                    refine lv_goto (tgt := 8) hx hb dX9_crossingsByEdges_114 (by decide) ?_
                    exact ih_8 (g + 1) (i + 1) _ _ hP hD hS _ (lv_sub hl [1, 0, 5, 6] rfl) (by first | assumption | rfl | omega) (by rw [zS_up hi.1, ← hg]; show _ = g + ((if i % 7 = 6 then 0 else z1 (S_hi h lv9 i != S_hi h lv9 (i + 1))) + (if 42 ≤ i then 0 else z1 (S_hi h lv9 i != S_hi h lv9 (i + 7)))); omega) (by first | assumption | rfl | omega) (by omega)
                · refine lv_iconst (v := zI 1) hx hb dX9_crossingsByEdges_100 rfl ?_
                  refine lv_goto (tgt := 105) hx hb dX9_crossingsByEdges_101 (by decide) ?_
                  have z93 := hv93_2 (by omega)
                  rw [hr2] at z93
                  have hB2 : S_hi h lv9 (i + 7) = true := S_hi_t (by omega)
                  refine z_iceq (tgt := 111) hx hb ⟨by omega, by omega⟩ ⟨by omega, by omega⟩ dX9_crossingsByEdges_105 (by decide) (fun c_105 => ?_) (fun c_105 => ?_)
                  · have k2 : g = g7 + (if 42 ≤ i then 0 else z1 (S_hi h lv9 i != S_hi h lv9 (i + 7))) := by rw [hg7]; by_cases hz : 42 ≤ i <;> first | (exfalso; split at h42 <;> omega) | (rw [if_pos hz]; first | done | omega) | (rw [if_neg hz, hAA, hB2]; first | done | rfl | exact (Int.add_zero _).symm)
                    refine z_iinc (k := 4) (v := i + 1) (lv' := [(3, .int (zI (i + 1))), (6, .int (zI v42_9)), (5, .int (zI v35_8)), (4, .int (zI 1)), (2, .int (zI g)), (0, .ref (α 0)), (1, .int (zI lv9))]) hx hb dX9_crossingsByEdges_111 hl rfl rfl (by decide) rfl (fun ls hl => ?_)
                    refine lv_goto (tgt := 8) hx hb dX9_crossingsByEdges_114 (by decide) ?_
                    exact ih_8 g (i + 1) _ _ hP hD hS _ (lv_sub hl [4, 0, 5, 6] rfl) (by first | assumption | rfl | omega) (by rw [zS_up hi.1, ← hg]; show _ = g + ((if i % 7 = 6 then 0 else z1 (S_hi h lv9 i != S_hi h lv9 (i + 1))) + (if 42 ≤ i then 0 else z1 (S_hi h lv9 i != S_hi h lv9 (i + 7)))); omega) (by first | assumption | rfl | omega) (by omega)
                  · exact absurd c_105 (by decide)
            · exact absurd c_73 (by decide)

abbrev wz_X9_crossingsByPieces : List Cond := .code yX9_crossingsByPieces cX9_crossingsByPieces 2 (some .int) :: W0
abbrev rm_X9_crossingsByPieces : Room := { frames := 6, cells := 0, slots := 0, locals := 141 }
theorem hd_X9_crossingsByPieces : yX9_crossingsByPieces.cls = RX9 ∧ yX9_crossingsByPieces.cls ≠ "java/lang/invoke/MethodHandle" ∧ yX9_crossingsByPieces.cls ≠ "java/lang/invoke/VarHandle" ∧ (parseMethodDescriptor yX9_crossingsByPieces.desc).map (fun d => d.parameters.length) = some 1 := by decide +kernel
set_option maxHeartbeats 4000000 in
set_option maxRecDepth 100000 in
theorem c_X9_crossingsByPieces (l : Launch) (D : va_G) (τ : Nat → Nat) (α : Nat → Nat) (γ : Nat → ClassId) (h : IA) (old : IA) (ch : IA) (rg : TRg) (hi8 : BA) (fe : IA) (se : IA) (gn : BA) (fp : IA) (sp : IA) (np : Int) (tot : Int) (clo : Int) (lon : Int) (sl : TSl) (pd : TPd) (ct : TCt) (sg : TSg) (od : TOd) (hs : THs) (lv9 : Int) (hlv : 0 ≤ lv9 ∧ lv9 ≤ 98) (hh : ∀ k, 0 ≤ k → k < 49 → 0 ≤ h k ∧ h k ≤ 99) : cM l yX9_crossingsByPieces wz_X9_crossingsByPieces rm_X9_crossingsByPieces D τ (tyH γ) [.ref (α 0), .int (zI lv9)] (wH α γ (h, old, ch) rg (hi8, fe, se, gn, fp, sp, np, tot, clo, lon) sl pd ct sg od hs) (zQi (fun r w => ∃ (m2 : BA), ∃ (f2 : IA), ∃ (s2 : IA), ∃ (p2 : IA), ∃ (q2 : IA), ∃ (n2 : Int), ∃ (v : Int), (True) ∧ (v = S_ncross (S_hi h lv9)) ∧ r = zI v ∧ wH α γ (h, old, ch) rg (m2, f2, s2, gn, p2, q2, n2, tot, clo, lon) sl pd ct sg od hs = w)) := by
  refine z_ofM (cc := cX9_crossingsByPieces) (maxL := 2) (ret := (some .int)) (by decide +kernel) rfl (Nat.le_of_ble_eq_true rfl) ?_
  intro pg e s m args below meth c hC hr hlk hnm hK hP A hD hG hA hS ls hl Q hQ
  have hx := hC.1
  have hb := hC.2.1
  have hml := hC.2.2.1
  have hown := hC.2.2.2.1
  have hts := hC.2.2.2.2
  have hB : ∀ w ∈ W0, w ∈ wz_X9_crossingsByPieces := fun _ h => List.mem_cons_of_mem _ h
  have hW0 : ∀ w ∈ W0, w.before args s = true := fun w h => hts w (hB w h)
  have hl : lv_has ls 2 [(0, .ref (α 0)), (1, .int (zI lv9))] := hl
  refine lv_iload_n hx hb dX9_crossingsByPieces_0 rfl (lv_at hl 1 rfl) ?_
  refine z_callv hP hD hS hA (va_runS (As := [.int (zI lv9)]) (rest := []) hC (c_X9_checkLevel l D τ _ _ lv9 (by first | assumption | rfl | omega) _) (va_cwS 1 hts (gS hB wl_X9_167 wt_X9_checkLevel wi_X9 wc_X9_checkLevel) rfl rfl rfl hd_X9_checkLevel.2 ⟨Nat.le_of_ble_eq_true rfl, Nat.le_of_ble_eq_true rfl⟩) (zp_S hK hP hD hS hA hG) rfl rfl hl.1 rfl (lv_room (Nat.le_of_ble_eq_true rfl)) dX9_crossingsByPieces_1 ⟨Nat.le_of_ble_eq_true rfl, Nat.le_of_ble_eq_true rfl⟩) (fun w1 H locs hq9 hP hD hS => ?_)
  obtain ⟨hv1_0, rfl⟩ := hq9
  refine lv_aload_n hx hb dX9_crossingsByPieces_4 rfl (lv_at hl 0 rfl) ?_
  refine va_get (D := D) (ci := 9) (v := .ref (α 3)) (C := RX9) (T := TX9) (N := 9) hx hb hts (fun w h => List.mem_cons_of_mem _ (wx_X9 w h)) hown hK hP 0 rfl rfl 2 (by decide) (hW0 _ wf_X9_26) (fun _ h9 => h9) rfl dX9_crossingsByPieces_5 ?_
  refine lv_aload_n hx hb dX9_crossingsByPieces_8 rfl (lv_at hl 0 rfl) ?_
  refine va_get (D := D) (ci := 9) (v := .ref (α 1)) (C := RX9) (T := TX9) (N := 9) hx hb hts (fun w h => List.mem_cons_of_mem _ (wx_X9 w h)) hown hK hP 0 rfl rfl 0 (by decide) (hW0 _ wf_X9_12) (fun _ h9 => h9) rfl dX9_crossingsByPieces_9 ?_
  refine lv_iload_n hx hb dX9_crossingsByPieces_12 rfl (lv_at hl 1 rfl) ?_
  refine z_callv hP hD hS hA (va_runV (As := [.ref (α 1), .int (zI lv9)]) (rest := []) hC (c_X2_read l D τ α γ h old ch rg hi8 fe se gn fp sp np tot clo lon sl pd ct sg od hs lv9 (by first | assumption | rfl | omega) (by first | assumption | rfl | omega) _) (cwV 2 hts (gV hB wl_X9_178 wn_X2_read ws_X2_read wi_X2 wc_X2_read) rfl rfl rfl hd_X2_read ⟨Nat.le_of_ble_eq_true rfl, Nat.le_of_ble_eq_true rfl⟩) (zp_V hK hP hD hS hA hG (ci := 2) (q0 := 3) rfl rfl rfl) rfl rfl hl.1 rfl (lv_room (Nat.le_of_ble_eq_true rfl)) dX9_crossingsByPieces_13 ⟨Nat.le_of_ble_eq_true rfl, Nat.le_of_ble_eq_true rfl⟩) (fun w1 H locs hq9 hP hD hS => ?_)
  obtain ⟨m13_1, f13_2, s13_3, p13_4, q13_5, n13_6, hv13_0, hv13_1, rfl⟩ := hq9
  have hP : va_P D vwCl (wH α γ (h, old, ch) rg (m13_1, f13_2, s13_3, gn, p13_4, q13_5, n13_6, tot, clo, lon) sl pd ct sg od hs) H := hP
  have hD : va_D A (wH α γ (h, old, ch) rg (m13_1, f13_2, s13_3, gn, p13_4, q13_5, n13_6, tot, clo, lon) sl pd ct sg od hs) := hD
  have hcg := S_hi_cg hv13_0
  refine lv_aload_n hx hb dX9_crossingsByPieces_16 rfl (lv_at hl 0 rfl) ?_
  refine va_get (D := D) (ci := 9) (v := .ref (α 3)) (C := RX9) (T := TX9) (N := 9) hx hb hts (fun w h => List.mem_cons_of_mem _ (wx_X9 w h)) hown hK hP 0 rfl rfl 2 (by decide) (hW0 _ wf_X9_26) (fun _ h9 => h9) rfl dX9_crossingsByPieces_17 ?_
  refine z_calli hP hD hS hA (va_runV (As := []) (rest := []) hC (c_X2_crossedEdges l D τ α γ (h, old, ch) rg m13_1 f13_2 s13_3 gn p13_4 q13_5 n13_6 tot clo lon sl pd ct sg od hs (by exact hv13_1) _) (cwV 0 hts (gV hB wl_X9_181 wn_X2_crossedEdges ws_X2_crossedEdges wi_X2 wc_X2_crossedEdges) rfl rfl rfl hd_X2_crossedEdges ⟨Nat.le_of_ble_eq_true rfl, Nat.le_of_ble_eq_true rfl⟩) (zp_V hK hP hD hS hA hG (ci := 2) (q0 := 3) rfl rfl rfl) rfl rfl hl.1 rfl (lv_room (Nat.le_of_ble_eq_true rfl)) dX9_crossingsByPieces_20 ⟨Nat.le_of_ble_eq_true rfl, Nat.le_of_ble_eq_true rfl⟩) (fun r w1 H locs hq9 hP hD hS => ?_)
  obtain ⟨v20_7, hv20_0, hv20_1, rfl, rfl⟩ := hq9
  have hP : va_P D vwCl (wH α γ (h, old, ch) rg (m13_1, f13_2, s13_3, gn, p13_4, q13_5, n13_6, tot, clo, lon) sl pd ct sg od hs) H := hP
  have hD : va_D A (wH α γ (h, old, ch) rg (m13_1, f13_2, s13_3, gn, p13_4, q13_5, n13_6, tot, clo, lon) sl pd ct sg od hs) := hD
  exact z_iret hC hr hlk hQ hP hD hS ⟨m13_1, f13_2, s13_3, p13_4, q13_5, n13_6, v20_7, (by trivial), (by rw [hv20_0]; exact S_ncross_cg hcg), rfl, rfl⟩ dX9_crossingsByPieces_23

abbrev wz_X9_piecesIn : List Cond := .code yX9_piecesIn cX9_piecesIn 4 (some .int) :: W0
abbrev rm_X9_piecesIn : Room := { frames := 6, cells := 0, slots := 0, locals := 141 }
theorem hd_X9_piecesIn : yX9_piecesIn.cls = RX9 ∧ yX9_piecesIn.cls ≠ "java/lang/invoke/MethodHandle" ∧ yX9_piecesIn.cls ≠ "java/lang/invoke/VarHandle" ∧ (parseMethodDescriptor yX9_piecesIn.desc).map (fun d => d.parameters.length) = some 3 := by decide +kernel
set_option maxHeartbeats 4000000 in
set_option maxRecDepth 100000 in
theorem c_X9_piecesIn (l : Launch) (D : va_G) (τ : Nat → Nat) (α : Nat → Nat) (γ : Nat → ClassId) (h : IA) (old : IA) (ch : IA) (rg : TRg) (hi8 : BA) (fe : IA) (se : IA) (gn : BA) (fp : IA) (sp : IA) (np : Int) (tot : Int) (clo : Int) (lon : Int) (sl : TSl) (pd : TPd) (ct : TCt) (sg : TSg) (od : TOd) (hs : THs) (r9 : Int) (c9 : Int) (lv9 : Int) (hr9 : 0 ≤ r9 ∧ r9 ≤ 5) (hc9 : 0 ≤ c9 ∧ c9 ≤ 5) (hlv : 0 ≤ lv9 ∧ lv9 ≤ 98) (hh : ∀ k, 0 ≤ k → k < 49 → 0 ≤ h k ∧ h k ≤ 99) : cM l yX9_piecesIn wz_X9_piecesIn rm_X9_piecesIn D τ (tyH γ) [.ref (α 0), .int (zI r9), .int (zI c9), .int (zI lv9)] (wH α γ (h, old, ch) rg (hi8, fe, se, gn, fp, sp, np, tot, clo, lon) sl pd ct sg od hs) (zQi (fun r w => ∃ (m2 : BA), ∃ (f2 : IA), ∃ (s2 : IA), ∃ (p2 : IA), ∃ (q2 : IA), ∃ (n2 : Int), ∃ (v : Int), (True) ∧ (v = S_pie h r9 c9 lv9) ∧ r = zI v ∧ wH α γ (h, old, ch) rg (m2, f2, s2, gn, p2, q2, n2, tot, clo, lon) sl pd ct sg od hs = w)) := by
  refine z_ofM (cc := cX9_piecesIn) (maxL := 4) (ret := (some .int)) (by decide +kernel) rfl (Nat.le_of_ble_eq_true rfl) ?_
  intro pg e s m args below meth c hC hr hlk hnm hK hP A hD hG hA hS ls hl Q hQ
  have hx := hC.1
  have hb := hC.2.1
  have hml := hC.2.2.1
  have hown := hC.2.2.2.1
  have hts := hC.2.2.2.2
  have hB : ∀ w ∈ W0, w ∈ wz_X9_piecesIn := fun _ h => List.mem_cons_of_mem _ h
  have hW0 : ∀ w ∈ W0, w.before args s = true := fun w h => hts w (hB w h)
  have hl : lv_has ls 4 [(0, .ref (α 0)), (1, .int (zI r9)), (2, .int (zI c9)), (3, .int (zI lv9))] := hl
  refine lv_iload_n hx hb dX9_piecesIn_0 rfl (lv_at hl 1 rfl) ?_
  refine z_iflt (tgt := 20) hx hb ⟨by omega, by omega⟩ dX9_piecesIn_1 (by decide) (fun c_1 => ?_) (fun c_1 => ?_)
  · exfalso; omega
  · refine lv_iload_n hx hb dX9_piecesIn_4 rfl (lv_at hl 1 rfl) ?_
    refine lv_bipush (v := zI 6) hx hb dX9_piecesIn_5 (zI_b8 (by decide)) ?_
    refine z_icge (tgt := 20) hx hb ⟨by omega, by omega⟩ ⟨by omega, by omega⟩ dX9_piecesIn_7 (by decide) (fun c_7 => ?_) (fun c_7 => ?_)
    · exfalso; omega
    · refine lv_iload_n hx hb dX9_piecesIn_10 rfl (lv_at hl 2 rfl) ?_
      refine z_iflt (tgt := 20) hx hb ⟨by omega, by omega⟩ dX9_piecesIn_11 (by decide) (fun c_11 => ?_) (fun c_11 => ?_)
      · exfalso; omega
      · refine lv_iload_n hx hb dX9_piecesIn_14 rfl (lv_at hl 2 rfl) ?_
        refine lv_bipush (v := zI 6) hx hb dX9_piecesIn_15 (zI_b8 (by decide)) ?_
        refine z_iclt (tgt := 30) hx hb ⟨by omega, by omega⟩ ⟨by omega, by omega⟩ dX9_piecesIn_17 (by decide) (fun c_17 => ?_) (fun c_17 => ?_)
        · refine lv_iload_n hx hb dX9_piecesIn_30 rfl (lv_at hl 3 rfl) ?_
          refine z_callv hP hD hS hA (va_runS (As := [.int (zI lv9)]) (rest := []) hC (c_X9_checkLevel l D τ _ _ lv9 (by first | assumption | rfl | omega) _) (va_cwS 1 hts (gS hB wl_X9_167 wt_X9_checkLevel wi_X9 wc_X9_checkLevel) rfl rfl rfl hd_X9_checkLevel.2 ⟨Nat.le_of_ble_eq_true rfl, Nat.le_of_ble_eq_true rfl⟩) (zp_S hK hP hD hS hA hG) rfl rfl hl.1 rfl (lv_room (Nat.le_of_ble_eq_true rfl)) dX9_piecesIn_31 ⟨Nat.le_of_ble_eq_true rfl, Nat.le_of_ble_eq_true rfl⟩) (fun w1 H locs hq9 hP hD hS => ?_)
          obtain ⟨hv31_0, rfl⟩ := hq9
          refine lv_aload_n hx hb dX9_piecesIn_34 rfl (lv_at hl 0 rfl) ?_
          refine va_get (D := D) (ci := 9) (v := .ref (α 3)) (C := RX9) (T := TX9) (N := 9) hx hb hts (fun w h => List.mem_cons_of_mem _ (wx_X9 w h)) hown hK hP 0 rfl rfl 2 (by decide) (hW0 _ wf_X9_26) (fun _ h9 => h9) rfl dX9_piecesIn_35 ?_
          refine lv_aload_n hx hb dX9_piecesIn_38 rfl (lv_at hl 0 rfl) ?_
          refine va_get (D := D) (ci := 9) (v := .ref (α 1)) (C := RX9) (T := TX9) (N := 9) hx hb hts (fun w h => List.mem_cons_of_mem _ (wx_X9 w h)) hown hK hP 0 rfl rfl 0 (by decide) (hW0 _ wf_X9_12) (fun _ h9 => h9) rfl dX9_piecesIn_39 ?_
          refine lv_iload_n hx hb dX9_piecesIn_42 rfl (lv_at hl 3 rfl) ?_
          refine z_callv hP hD hS hA (va_runV (As := [.ref (α 1), .int (zI lv9)]) (rest := []) hC (c_X2_read l D τ α γ h old ch rg hi8 fe se gn fp sp np tot clo lon sl pd ct sg od hs lv9 (by first | assumption | rfl | omega) (by first | assumption | rfl | omega) _) (cwV 2 hts (gV hB wl_X9_178 wn_X2_read ws_X2_read wi_X2 wc_X2_read) rfl rfl rfl hd_X2_read ⟨Nat.le_of_ble_eq_true rfl, Nat.le_of_ble_eq_true rfl⟩) (zp_V hK hP hD hS hA hG (ci := 2) (q0 := 3) rfl rfl rfl) rfl rfl hl.1 rfl (lv_room (Nat.le_of_ble_eq_true rfl)) dX9_piecesIn_43 ⟨Nat.le_of_ble_eq_true rfl, Nat.le_of_ble_eq_true rfl⟩) (fun w1 H locs hq9 hP hD hS => ?_)
          obtain ⟨m43_1, f43_2, s43_3, p43_4, q43_5, n43_6, hv43_0, hv43_1, rfl⟩ := hq9
          have hP : va_P D vwCl (wH α γ (h, old, ch) rg (m43_1, f43_2, s43_3, gn, p43_4, q43_5, n43_6, tot, clo, lon) sl pd ct sg od hs) H := hP
          have hD : va_D A (wH α γ (h, old, ch) rg (m43_1, f43_2, s43_3, gn, p43_4, q43_5, n43_6, tot, clo, lon) sl pd ct sg od hs) := hD
          have hcg := S_hi_cg hv43_0
          refine lv_aload_n hx hb dX9_piecesIn_46 rfl (lv_at hl 0 rfl) ?_
          refine va_get (D := D) (ci := 9) (v := .ref (α 3)) (C := RX9) (T := TX9) (N := 9) hx hb hts (fun w h => List.mem_cons_of_mem _ (wx_X9 w h)) hown hK hP 0 rfl rfl 2 (by decide) (hW0 _ wf_X9_26) (fun _ h9 => h9) rfl dX9_piecesIn_47 ?_
          refine lv_iload_n hx hb dX9_piecesIn_50 rfl (lv_at hl 1 rfl) ?_
          refine lv_iload_n hx hb dX9_piecesIn_51 rfl (lv_at hl 2 rfl) ?_
          refine z_calli hP hD hS hA (va_runV (As := [.int (zI r9), .int (zI c9)]) (rest := []) hC (c_X2_crossedSides l D τ α γ (h, old, ch) rg m43_1 f43_2 s43_3 gn p43_4 q43_5 n43_6 tot clo lon sl pd ct sg od hs r9 c9 (by first | assumption | rfl | omega) (by first | assumption | rfl | omega) _) (cwV 2 hts (gV hB wl_X9_189 wn_X2_crossedSides ws_X2_crossedSides wi_X2 wc_X2_crossedSides) rfl rfl rfl hd_X2_crossedSides ⟨Nat.le_of_ble_eq_true rfl, Nat.le_of_ble_eq_true rfl⟩) (zp_V hK hP hD hS hA hG (ci := 2) (q0 := 3) rfl rfl rfl) rfl rfl hl.1 rfl (lv_room (Nat.le_of_ble_eq_true rfl)) dX9_piecesIn_52 ⟨Nat.le_of_ble_eq_true rfl, Nat.le_of_ble_eq_true rfl⟩) (fun r w1 H locs hq9 hP hD hS => ?_)
          obtain ⟨v52_7, hv52_0, hv52_1, rfl, rfl⟩ := hq9
          have hP : va_P D vwCl (wH α γ (h, old, ch) rg (m43_1, f43_2, s43_3, gn, p43_4, q43_5, n43_6, tot, clo, lon) sl pd ct sg od hs) H := hP
          have hD : va_D A (wH α γ (h, old, ch) rg (m43_1, f43_2, s43_3, gn, p43_4, q43_5, n43_6, tot, clo, lon) sl pd ct sg od hs) := hD
          refine lv_iconst (v := zI 2) hx hb dX9_piecesIn_55 rfl ?_
          refine z_idiv hx hb ⟨⟨by omega, by omega⟩, by omega, by omega⟩ dX9_piecesIn_56 ?_
          exact z_iret hC hr hlk hQ hP hD hS ⟨m43_1, f43_2, s43_3, p43_4, q43_5, n43_6, v52_7 / 2, (by trivial), (by rw [hv52_0]; exact pie_cg hcg (by omega) (by omega)), rfl, rfl⟩ dX9_piecesIn_57
        · exfalso; omega

abbrev wz_X9_linesByTracing : List Cond := .code yX9_linesByTracing cX9_linesByTracing 2 (some .int) :: W0
abbrev rm_X9_linesByTracing : Room := { frames := 6, cells := 0, slots := 0, locals := 141 }
theorem hd_X9_linesByTracing : yX9_linesByTracing.cls = RX9 ∧ yX9_linesByTracing.cls ≠ "java/lang/invoke/MethodHandle" ∧ yX9_linesByTracing.cls ≠ "java/lang/invoke/VarHandle" ∧ (parseMethodDescriptor yX9_linesByTracing.desc).map (fun d => d.parameters.length) = some 1 := by decide +kernel
set_option maxHeartbeats 4000000 in
set_option maxRecDepth 100000 in
theorem c_X9_linesByTracing (l : Launch) (D : va_G) (τ : Nat → Nat) (α : Nat → Nat) (γ : Nat → ClassId) (h : IA) (old : IA) (ch : IA) (rg : TRg) (hi8 : BA) (fe : IA) (se : IA) (gn : BA) (fp : IA) (sp : IA) (np : Int) (tot : Int) (clo : Int) (lon : Int) (sl : TSl) (pd : TPd) (ct : TCt) (sg : TSg) (od : TOd) (hs : THs) (lv9 : Int) (hlv : 0 ≤ lv9 ∧ lv9 ≤ 98) (hh : ∀ k, 0 ≤ k → k < 49 → 0 ≤ h k ∧ h k ≤ 99) : cM l yX9_linesByTracing wz_X9_linesByTracing rm_X9_linesByTracing D τ (tyH γ) [.ref (α 0), .int (zI lv9)] (wH α γ (h, old, ch) rg (hi8, fe, se, gn, fp, sp, np, tot, clo, lon) sl pd ct sg od hs) (zQi (fun r w => ∃ (m2 : BA), ∃ (f2 : IA), ∃ (s2 : IA), ∃ (p2 : IA), ∃ (q2 : IA), ∃ (n2 : Int), ∃ (gn2 : BA), ∃ (t2 : Int), ∃ (c2 : Int), ∃ (l2 : Int), ∃ (v : Int), (True) ∧ (v = S_nlines (S_hi h lv9)) ∧ r = zI v ∧ wH α γ (h, old, ch) rg (m2, f2, s2, gn2, p2, q2, n2, t2, c2, l2) sl pd ct sg od hs = w)) := by
  refine z_ofM (cc := cX9_linesByTracing) (maxL := 2) (ret := (some .int)) (by decide +kernel) rfl (Nat.le_of_ble_eq_true rfl) ?_
  intro pg e s m args below meth c hC hr hlk hnm hK hP A hD hG hA hS ls hl Q hQ
  have hx := hC.1
  have hb := hC.2.1
  have hml := hC.2.2.1
  have hown := hC.2.2.2.1
  have hts := hC.2.2.2.2
  have hB : ∀ w ∈ W0, w ∈ wz_X9_linesByTracing := fun _ h => List.mem_cons_of_mem _ h
  have hW0 : ∀ w ∈ W0, w.before args s = true := fun w h => hts w (hB w h)
  have hl : lv_has ls 2 [(0, .ref (α 0)), (1, .int (zI lv9))] := hl
  refine lv_iload_n hx hb dX9_linesByTracing_0 rfl (lv_at hl 1 rfl) ?_
  refine z_callv hP hD hS hA (va_runS (As := [.int (zI lv9)]) (rest := []) hC (c_X9_checkLevel l D τ _ _ lv9 (by first | assumption | rfl | omega) _) (va_cwS 1 hts (gS hB wl_X9_167 wt_X9_checkLevel wi_X9 wc_X9_checkLevel) rfl rfl rfl hd_X9_checkLevel.2 ⟨Nat.le_of_ble_eq_true rfl, Nat.le_of_ble_eq_true rfl⟩) (zp_S hK hP hD hS hA hG) rfl rfl hl.1 rfl (lv_room (Nat.le_of_ble_eq_true rfl)) dX9_linesByTracing_1 ⟨Nat.le_of_ble_eq_true rfl, Nat.le_of_ble_eq_true rfl⟩) (fun w1 H locs hq9 hP hD hS => ?_)
  obtain ⟨hv1_0, rfl⟩ := hq9
  refine lv_aload_n hx hb dX9_linesByTracing_4 rfl (lv_at hl 0 rfl) ?_
  refine va_get (D := D) (ci := 9) (v := .ref (α 3)) (C := RX9) (T := TX9) (N := 9) hx hb hts (fun w h => List.mem_cons_of_mem _ (wx_X9 w h)) hown hK hP 0 rfl rfl 2 (by decide) (hW0 _ wf_X9_26) (fun _ h9 => h9) rfl dX9_linesByTracing_5 ?_
  refine lv_aload_n hx hb dX9_linesByTracing_8 rfl (lv_at hl 0 rfl) ?_
  refine va_get (D := D) (ci := 9) (v := .ref (α 1)) (C := RX9) (T := TX9) (N := 9) hx hb hts (fun w h => List.mem_cons_of_mem _ (wx_X9 w h)) hown hK hP 0 rfl rfl 0 (by decide) (hW0 _ wf_X9_12) (fun _ h9 => h9) rfl dX9_linesByTracing_9 ?_
  refine lv_iload_n hx hb dX9_linesByTracing_12 rfl (lv_at hl 1 rfl) ?_
  refine z_callv hP hD hS hA (va_runV (As := [.ref (α 1), .int (zI lv9)]) (rest := []) hC (c_X2_read l D τ α γ h old ch rg hi8 fe se gn fp sp np tot clo lon sl pd ct sg od hs lv9 (by first | assumption | rfl | omega) (by first | assumption | rfl | omega) _) (cwV 2 hts (gV hB wl_X9_178 wn_X2_read ws_X2_read wi_X2 wc_X2_read) rfl rfl rfl hd_X2_read ⟨Nat.le_of_ble_eq_true rfl, Nat.le_of_ble_eq_true rfl⟩) (zp_V hK hP hD hS hA hG (ci := 2) (q0 := 3) rfl rfl rfl) rfl rfl hl.1 rfl (lv_room (Nat.le_of_ble_eq_true rfl)) dX9_linesByTracing_13 ⟨Nat.le_of_ble_eq_true rfl, Nat.le_of_ble_eq_true rfl⟩) (fun w1 H locs hq9 hP hD hS => ?_)
  obtain ⟨m13_1, f13_2, s13_3, p13_4, q13_5, n13_6, hv13_0, hv13_1, rfl⟩ := hq9
  have hP : va_P D vwCl (wH α γ (h, old, ch) rg (m13_1, f13_2, s13_3, gn, p13_4, q13_5, n13_6, tot, clo, lon) sl pd ct sg od hs) H := hP
  have hD : va_D A (wH α γ (h, old, ch) rg (m13_1, f13_2, s13_3, gn, p13_4, q13_5, n13_6, tot, clo, lon) sl pd ct sg od hs) := hD
  have hcg := S_hi_cg hv13_0
  refine lv_aload_n hx hb dX9_linesByTracing_16 rfl (lv_at hl 0 rfl) ?_
  refine va_get (D := D) (ci := 9) (v := .ref (α 3)) (C := RX9) (T := TX9) (N := 9) hx hb hts (fun w h => List.mem_cons_of_mem _ (wx_X9 w h)) hown hK hP 0 rfl rfl 2 (by decide) (hW0 _ wf_X9_26) (fun _ h9 => h9) rfl dX9_linesByTracing_17 ?_
  refine z_callv hP hD hS hA (va_runV (As := []) (rest := []) hC (c_X2_trace l D τ α γ (h, old, ch) rg m13_1 f13_2 s13_3 gn p13_4 q13_5 n13_6 tot clo lon sl pd ct sg od hs (by exact hv13_1) _) (cwV 0 hts (gV hB wl_X9_192 wn_X2_trace ws_X2_trace wi_X2 wc_X2_trace) rfl rfl rfl hd_X2_trace ⟨Nat.le_of_ble_eq_true rfl, Nat.le_of_ble_eq_true rfl⟩) (zp_V hK hP hD hS hA hG (ci := 2) (q0 := 3) rfl rfl rfl) rfl rfl hl.1 rfl (lv_room (Nat.le_of_ble_eq_true rfl)) dX9_linesByTracing_20 ⟨Nat.le_of_ble_eq_true rfl, Nat.le_of_ble_eq_true rfl⟩) (fun w1 H locs hq9 hP hD hS => ?_)
  obtain ⟨gn20_7, t20_8, c20_9, l20_10, hv20_0, hv20_1, hv20_2, hv20_3, hv20_4, hv20_5, rfl⟩ := hq9
  have hP : va_P D vwCl (wH α γ (h, old, ch) rg (m13_1, f13_2, s13_3, gn20_7, p13_4, q13_5, n13_6, t20_8, c20_9, l20_10) sl pd ct sg od hs) H := hP
  have hD : va_D A (wH α γ (h, old, ch) rg (m13_1, f13_2, s13_3, gn20_7, p13_4, q13_5, n13_6, t20_8, c20_9, l20_10) sl pd ct sg od hs) := hD
  refine lv_aload_n hx hb dX9_linesByTracing_23 rfl (lv_at hl 0 rfl) ?_
  refine va_get (D := D) (ci := 9) (v := .ref (α 3)) (C := RX9) (T := TX9) (N := 9) hx hb hts (fun w h => List.mem_cons_of_mem _ (wx_X9 w h)) hown hK hP 0 rfl rfl 2 (by decide) (hW0 _ wf_X9_26) (fun _ h9 => h9) rfl dX9_linesByTracing_24 ?_
  refine z_calli hP hD hS hA (va_runV (As := []) (rest := []) hC (c_X2_total l D τ α γ (h, old, ch) rg m13_1 f13_2 s13_3 gn20_7 p13_4 q13_5 n13_6 t20_8 c20_9 l20_10 sl pd ct sg od hs _) (cwV 0 hts (gV hB wl_X9_195 wn_X2_total ws_X2_total wi_X2 wc_X2_total) rfl rfl rfl hd_X2_total ⟨Nat.le_of_ble_eq_true rfl, Nat.le_of_ble_eq_true rfl⟩) (zp_V hK hP hD hS hA hG (ci := 2) (q0 := 3) rfl rfl rfl) rfl rfl hl.1 rfl (lv_room (Nat.le_of_ble_eq_true rfl)) dX9_linesByTracing_27 ⟨Nat.le_of_ble_eq_true rfl, Nat.le_of_ble_eq_true rfl⟩) (fun r w1 H locs hq9 hP hD hS => ?_)
  obtain ⟨v27_11, hv27_0, rfl, rfl⟩ := hq9
  have hP : va_P D vwCl (wH α γ (h, old, ch) rg (m13_1, f13_2, s13_3, gn20_7, p13_4, q13_5, n13_6, t20_8, c20_9, l20_10) sl pd ct sg od hs) H := hP
  have hD : va_D A (wH α γ (h, old, ch) rg (m13_1, f13_2, s13_3, gn20_7, p13_4, q13_5, n13_6, t20_8, c20_9, l20_10) sl pd ct sg od hs) := hD
  exact z_iret hC hr hlk hQ hP hD hS ⟨m13_1, f13_2, s13_3, p13_4, q13_5, n13_6, gn20_7, t20_8, c20_9, l20_10, v27_11, (by trivial), (by rw [hv27_0, hv20_0]; exact S_nlines_cg hcg), rfl, rfl⟩ dX9_linesByTracing_30

abbrev wz_X9_closedLines : List Cond := .code yX9_closedLines cX9_closedLines 2 (some .int) :: W0
abbrev rm_X9_closedLines : Room := { frames := 6, cells := 0, slots := 0, locals := 141 }
theorem hd_X9_closedLines : yX9_closedLines.cls = RX9 ∧ yX9_closedLines.cls ≠ "java/lang/invoke/MethodHandle" ∧ yX9_closedLines.cls ≠ "java/lang/invoke/VarHandle" ∧ (parseMethodDescriptor yX9_closedLines.desc).map (fun d => d.parameters.length) = some 1 := by decide +kernel
set_option maxHeartbeats 4000000 in
set_option maxRecDepth 100000 in
theorem c_X9_closedLines (l : Launch) (D : va_G) (τ : Nat → Nat) (α : Nat → Nat) (γ : Nat → ClassId) (h : IA) (old : IA) (ch : IA) (rg : TRg) (hi8 : BA) (fe : IA) (se : IA) (gn : BA) (fp : IA) (sp : IA) (np : Int) (tot : Int) (clo : Int) (lon : Int) (sl : TSl) (pd : TPd) (ct : TCt) (sg : TSg) (od : TOd) (hs : THs) (lv9 : Int) (hlv : 0 ≤ lv9 ∧ lv9 ≤ 98) (hh : ∀ k, 0 ≤ k → k < 49 → 0 ≤ h k ∧ h k ≤ 99) : cM l yX9_closedLines wz_X9_closedLines rm_X9_closedLines D τ (tyH γ) [.ref (α 0), .int (zI lv9)] (wH α γ (h, old, ch) rg (hi8, fe, se, gn, fp, sp, np, tot, clo, lon) sl pd ct sg od hs) (zQi (fun r w => ∃ (m2 : BA), ∃ (f2 : IA), ∃ (s2 : IA), ∃ (p2 : IA), ∃ (q2 : IA), ∃ (n2 : Int), ∃ (gn2 : BA), ∃ (t2 : Int), ∃ (c2 : Int), ∃ (l2 : Int), ∃ (v : Int), (True) ∧ (v = S_nclosed (S_hi h lv9)) ∧ r = zI v ∧ wH α γ (h, old, ch) rg (m2, f2, s2, gn2, p2, q2, n2, t2, c2, l2) sl pd ct sg od hs = w)) := by
  refine z_ofM (cc := cX9_closedLines) (maxL := 2) (ret := (some .int)) (by decide +kernel) rfl (Nat.le_of_ble_eq_true rfl) ?_
  intro pg e s m args below meth c hC hr hlk hnm hK hP A hD hG hA hS ls hl Q hQ
  have hx := hC.1
  have hb := hC.2.1
  have hml := hC.2.2.1
  have hown := hC.2.2.2.1
  have hts := hC.2.2.2.2
  have hB : ∀ w ∈ W0, w ∈ wz_X9_closedLines := fun _ h => List.mem_cons_of_mem _ h
  have hW0 : ∀ w ∈ W0, w.before args s = true := fun w h => hts w (hB w h)
  have hl : lv_has ls 2 [(0, .ref (α 0)), (1, .int (zI lv9))] := hl
  refine lv_iload_n hx hb dX9_closedLines_0 rfl (lv_at hl 1 rfl) ?_
  refine z_callv hP hD hS hA (va_runS (As := [.int (zI lv9)]) (rest := []) hC (c_X9_checkLevel l D τ _ _ lv9 (by first | assumption | rfl | omega) _) (va_cwS 1 hts (gS hB wl_X9_167 wt_X9_checkLevel wi_X9 wc_X9_checkLevel) rfl rfl rfl hd_X9_checkLevel.2 ⟨Nat.le_of_ble_eq_true rfl, Nat.le_of_ble_eq_true rfl⟩) (zp_S hK hP hD hS hA hG) rfl rfl hl.1 rfl (lv_room (Nat.le_of_ble_eq_true rfl)) dX9_closedLines_1 ⟨Nat.le_of_ble_eq_true rfl, Nat.le_of_ble_eq_true rfl⟩) (fun w1 H locs hq9 hP hD hS => ?_)
  obtain ⟨hv1_0, rfl⟩ := hq9
  refine lv_aload_n hx hb dX9_closedLines_4 rfl (lv_at hl 0 rfl) ?_
  refine va_get (D := D) (ci := 9) (v := .ref (α 3)) (C := RX9) (T := TX9) (N := 9) hx hb hts (fun w h => List.mem_cons_of_mem _ (wx_X9 w h)) hown hK hP 0 rfl rfl 2 (by decide) (hW0 _ wf_X9_26) (fun _ h9 => h9) rfl dX9_closedLines_5 ?_
  refine lv_aload_n hx hb dX9_closedLines_8 rfl (lv_at hl 0 rfl) ?_
  refine va_get (D := D) (ci := 9) (v := .ref (α 1)) (C := RX9) (T := TX9) (N := 9) hx hb hts (fun w h => List.mem_cons_of_mem _ (wx_X9 w h)) hown hK hP 0 rfl rfl 0 (by decide) (hW0 _ wf_X9_12) (fun _ h9 => h9) rfl dX9_closedLines_9 ?_
  refine lv_iload_n hx hb dX9_closedLines_12 rfl (lv_at hl 1 rfl) ?_
  refine z_callv hP hD hS hA (va_runV (As := [.ref (α 1), .int (zI lv9)]) (rest := []) hC (c_X2_read l D τ α γ h old ch rg hi8 fe se gn fp sp np tot clo lon sl pd ct sg od hs lv9 (by first | assumption | rfl | omega) (by first | assumption | rfl | omega) _) (cwV 2 hts (gV hB wl_X9_178 wn_X2_read ws_X2_read wi_X2 wc_X2_read) rfl rfl rfl hd_X2_read ⟨Nat.le_of_ble_eq_true rfl, Nat.le_of_ble_eq_true rfl⟩) (zp_V hK hP hD hS hA hG (ci := 2) (q0 := 3) rfl rfl rfl) rfl rfl hl.1 rfl (lv_room (Nat.le_of_ble_eq_true rfl)) dX9_closedLines_13 ⟨Nat.le_of_ble_eq_true rfl, Nat.le_of_ble_eq_true rfl⟩) (fun w1 H locs hq9 hP hD hS => ?_)
  obtain ⟨m13_1, f13_2, s13_3, p13_4, q13_5, n13_6, hv13_0, hv13_1, rfl⟩ := hq9
  have hP : va_P D vwCl (wH α γ (h, old, ch) rg (m13_1, f13_2, s13_3, gn, p13_4, q13_5, n13_6, tot, clo, lon) sl pd ct sg od hs) H := hP
  have hD : va_D A (wH α γ (h, old, ch) rg (m13_1, f13_2, s13_3, gn, p13_4, q13_5, n13_6, tot, clo, lon) sl pd ct sg od hs) := hD
  have hcg := S_hi_cg hv13_0
  refine lv_aload_n hx hb dX9_closedLines_16 rfl (lv_at hl 0 rfl) ?_
  refine va_get (D := D) (ci := 9) (v := .ref (α 3)) (C := RX9) (T := TX9) (N := 9) hx hb hts (fun w h => List.mem_cons_of_mem _ (wx_X9 w h)) hown hK hP 0 rfl rfl 2 (by decide) (hW0 _ wf_X9_26) (fun _ h9 => h9) rfl dX9_closedLines_17 ?_
  refine z_callv hP hD hS hA (va_runV (As := []) (rest := []) hC (c_X2_trace l D τ α γ (h, old, ch) rg m13_1 f13_2 s13_3 gn p13_4 q13_5 n13_6 tot clo lon sl pd ct sg od hs (by exact hv13_1) _) (cwV 0 hts (gV hB wl_X9_192 wn_X2_trace ws_X2_trace wi_X2 wc_X2_trace) rfl rfl rfl hd_X2_trace ⟨Nat.le_of_ble_eq_true rfl, Nat.le_of_ble_eq_true rfl⟩) (zp_V hK hP hD hS hA hG (ci := 2) (q0 := 3) rfl rfl rfl) rfl rfl hl.1 rfl (lv_room (Nat.le_of_ble_eq_true rfl)) dX9_closedLines_20 ⟨Nat.le_of_ble_eq_true rfl, Nat.le_of_ble_eq_true rfl⟩) (fun w1 H locs hq9 hP hD hS => ?_)
  obtain ⟨gn20_7, t20_8, c20_9, l20_10, hv20_0, hv20_1, hv20_2, hv20_3, hv20_4, hv20_5, rfl⟩ := hq9
  have hP : va_P D vwCl (wH α γ (h, old, ch) rg (m13_1, f13_2, s13_3, gn20_7, p13_4, q13_5, n13_6, t20_8, c20_9, l20_10) sl pd ct sg od hs) H := hP
  have hD : va_D A (wH α γ (h, old, ch) rg (m13_1, f13_2, s13_3, gn20_7, p13_4, q13_5, n13_6, t20_8, c20_9, l20_10) sl pd ct sg od hs) := hD
  refine lv_aload_n hx hb dX9_closedLines_23 rfl (lv_at hl 0 rfl) ?_
  refine va_get (D := D) (ci := 9) (v := .ref (α 3)) (C := RX9) (T := TX9) (N := 9) hx hb hts (fun w h => List.mem_cons_of_mem _ (wx_X9 w h)) hown hK hP 0 rfl rfl 2 (by decide) (hW0 _ wf_X9_26) (fun _ h9 => h9) rfl dX9_closedLines_24 ?_
  refine z_calli hP hD hS hA (va_runV (As := []) (rest := []) hC (c_X2_closed l D τ α γ (h, old, ch) rg m13_1 f13_2 s13_3 gn20_7 p13_4 q13_5 n13_6 t20_8 c20_9 l20_10 sl pd ct sg od hs _) (cwV 0 hts (gV hB wl_X9_204 wn_X2_closed ws_X2_closed wi_X2 wc_X2_closed) rfl rfl rfl hd_X2_closed ⟨Nat.le_of_ble_eq_true rfl, Nat.le_of_ble_eq_true rfl⟩) (zp_V hK hP hD hS hA hG (ci := 2) (q0 := 3) rfl rfl rfl) rfl rfl hl.1 rfl (lv_room (Nat.le_of_ble_eq_true rfl)) dX9_closedLines_27 ⟨Nat.le_of_ble_eq_true rfl, Nat.le_of_ble_eq_true rfl⟩) (fun r w1 H locs hq9 hP hD hS => ?_)
  obtain ⟨v27_11, hv27_0, rfl, rfl⟩ := hq9
  have hP : va_P D vwCl (wH α γ (h, old, ch) rg (m13_1, f13_2, s13_3, gn20_7, p13_4, q13_5, n13_6, t20_8, c20_9, l20_10) sl pd ct sg od hs) H := hP
  have hD : va_D A (wH α γ (h, old, ch) rg (m13_1, f13_2, s13_3, gn20_7, p13_4, q13_5, n13_6, t20_8, c20_9, l20_10) sl pd ct sg od hs) := hD
  exact z_iret hC hr hlk hQ hP hD hS ⟨m13_1, f13_2, s13_3, p13_4, q13_5, n13_6, gn20_7, t20_8, c20_9, l20_10, v27_11, (by trivial), (by rw [hv27_0, hv20_1]; exact S_nclosed_cg hcg), rfl, rfl⟩ dX9_closedLines_30

abbrev wz_X9_longestLine : List Cond := .code yX9_longestLine cX9_longestLine 2 (some .int) :: W0
abbrev rm_X9_longestLine : Room := { frames := 6, cells := 0, slots := 0, locals := 141 }
theorem hd_X9_longestLine : yX9_longestLine.cls = RX9 ∧ yX9_longestLine.cls ≠ "java/lang/invoke/MethodHandle" ∧ yX9_longestLine.cls ≠ "java/lang/invoke/VarHandle" ∧ (parseMethodDescriptor yX9_longestLine.desc).map (fun d => d.parameters.length) = some 1 := by decide +kernel
set_option maxHeartbeats 4000000 in
set_option maxRecDepth 100000 in
theorem c_X9_longestLine (l : Launch) (D : va_G) (τ : Nat → Nat) (α : Nat → Nat) (γ : Nat → ClassId) (h : IA) (old : IA) (ch : IA) (rg : TRg) (hi8 : BA) (fe : IA) (se : IA) (gn : BA) (fp : IA) (sp : IA) (np : Int) (tot : Int) (clo : Int) (lon : Int) (sl : TSl) (pd : TPd) (ct : TCt) (sg : TSg) (od : TOd) (hs : THs) (lv9 : Int) (hlv : 0 ≤ lv9 ∧ lv9 ≤ 98) (hh : ∀ k, 0 ≤ k → k < 49 → 0 ≤ h k ∧ h k ≤ 99) : cM l yX9_longestLine wz_X9_longestLine rm_X9_longestLine D τ (tyH γ) [.ref (α 0), .int (zI lv9)] (wH α γ (h, old, ch) rg (hi8, fe, se, gn, fp, sp, np, tot, clo, lon) sl pd ct sg od hs) (zQi (fun r w => ∃ (m2 : BA), ∃ (f2 : IA), ∃ (s2 : IA), ∃ (p2 : IA), ∃ (q2 : IA), ∃ (n2 : Int), ∃ (gn2 : BA), ∃ (t2 : Int), ∃ (c2 : Int), ∃ (l2 : Int), ∃ (v : Int), (True) ∧ (v = S_long (S_hi h lv9)) ∧ r = zI v ∧ wH α γ (h, old, ch) rg (m2, f2, s2, gn2, p2, q2, n2, t2, c2, l2) sl pd ct sg od hs = w)) := by
  refine z_ofM (cc := cX9_longestLine) (maxL := 2) (ret := (some .int)) (by decide +kernel) rfl (Nat.le_of_ble_eq_true rfl) ?_
  intro pg e s m args below meth c hC hr hlk hnm hK hP A hD hG hA hS ls hl Q hQ
  have hx := hC.1
  have hb := hC.2.1
  have hml := hC.2.2.1
  have hown := hC.2.2.2.1
  have hts := hC.2.2.2.2
  have hB : ∀ w ∈ W0, w ∈ wz_X9_longestLine := fun _ h => List.mem_cons_of_mem _ h
  have hW0 : ∀ w ∈ W0, w.before args s = true := fun w h => hts w (hB w h)
  have hl : lv_has ls 2 [(0, .ref (α 0)), (1, .int (zI lv9))] := hl
  refine lv_iload_n hx hb dX9_longestLine_0 rfl (lv_at hl 1 rfl) ?_
  refine z_callv hP hD hS hA (va_runS (As := [.int (zI lv9)]) (rest := []) hC (c_X9_checkLevel l D τ _ _ lv9 (by first | assumption | rfl | omega) _) (va_cwS 1 hts (gS hB wl_X9_167 wt_X9_checkLevel wi_X9 wc_X9_checkLevel) rfl rfl rfl hd_X9_checkLevel.2 ⟨Nat.le_of_ble_eq_true rfl, Nat.le_of_ble_eq_true rfl⟩) (zp_S hK hP hD hS hA hG) rfl rfl hl.1 rfl (lv_room (Nat.le_of_ble_eq_true rfl)) dX9_longestLine_1 ⟨Nat.le_of_ble_eq_true rfl, Nat.le_of_ble_eq_true rfl⟩) (fun w1 H locs hq9 hP hD hS => ?_)
  obtain ⟨hv1_0, rfl⟩ := hq9
  refine lv_aload_n hx hb dX9_longestLine_4 rfl (lv_at hl 0 rfl) ?_
  refine va_get (D := D) (ci := 9) (v := .ref (α 3)) (C := RX9) (T := TX9) (N := 9) hx hb hts (fun w h => List.mem_cons_of_mem _ (wx_X9 w h)) hown hK hP 0 rfl rfl 2 (by decide) (hW0 _ wf_X9_26) (fun _ h9 => h9) rfl dX9_longestLine_5 ?_
  refine lv_aload_n hx hb dX9_longestLine_8 rfl (lv_at hl 0 rfl) ?_
  refine va_get (D := D) (ci := 9) (v := .ref (α 1)) (C := RX9) (T := TX9) (N := 9) hx hb hts (fun w h => List.mem_cons_of_mem _ (wx_X9 w h)) hown hK hP 0 rfl rfl 0 (by decide) (hW0 _ wf_X9_12) (fun _ h9 => h9) rfl dX9_longestLine_9 ?_
  refine lv_iload_n hx hb dX9_longestLine_12 rfl (lv_at hl 1 rfl) ?_
  refine z_callv hP hD hS hA (va_runV (As := [.ref (α 1), .int (zI lv9)]) (rest := []) hC (c_X2_read l D τ α γ h old ch rg hi8 fe se gn fp sp np tot clo lon sl pd ct sg od hs lv9 (by first | assumption | rfl | omega) (by first | assumption | rfl | omega) _) (cwV 2 hts (gV hB wl_X9_178 wn_X2_read ws_X2_read wi_X2 wc_X2_read) rfl rfl rfl hd_X2_read ⟨Nat.le_of_ble_eq_true rfl, Nat.le_of_ble_eq_true rfl⟩) (zp_V hK hP hD hS hA hG (ci := 2) (q0 := 3) rfl rfl rfl) rfl rfl hl.1 rfl (lv_room (Nat.le_of_ble_eq_true rfl)) dX9_longestLine_13 ⟨Nat.le_of_ble_eq_true rfl, Nat.le_of_ble_eq_true rfl⟩) (fun w1 H locs hq9 hP hD hS => ?_)
  obtain ⟨m13_1, f13_2, s13_3, p13_4, q13_5, n13_6, hv13_0, hv13_1, rfl⟩ := hq9
  have hP : va_P D vwCl (wH α γ (h, old, ch) rg (m13_1, f13_2, s13_3, gn, p13_4, q13_5, n13_6, tot, clo, lon) sl pd ct sg od hs) H := hP
  have hD : va_D A (wH α γ (h, old, ch) rg (m13_1, f13_2, s13_3, gn, p13_4, q13_5, n13_6, tot, clo, lon) sl pd ct sg od hs) := hD
  have hcg := S_hi_cg hv13_0
  refine lv_aload_n hx hb dX9_longestLine_16 rfl (lv_at hl 0 rfl) ?_
  refine va_get (D := D) (ci := 9) (v := .ref (α 3)) (C := RX9) (T := TX9) (N := 9) hx hb hts (fun w h => List.mem_cons_of_mem _ (wx_X9 w h)) hown hK hP 0 rfl rfl 2 (by decide) (hW0 _ wf_X9_26) (fun _ h9 => h9) rfl dX9_longestLine_17 ?_
  refine z_callv hP hD hS hA (va_runV (As := []) (rest := []) hC (c_X2_trace l D τ α γ (h, old, ch) rg m13_1 f13_2 s13_3 gn p13_4 q13_5 n13_6 tot clo lon sl pd ct sg od hs (by exact hv13_1) _) (cwV 0 hts (gV hB wl_X9_192 wn_X2_trace ws_X2_trace wi_X2 wc_X2_trace) rfl rfl rfl hd_X2_trace ⟨Nat.le_of_ble_eq_true rfl, Nat.le_of_ble_eq_true rfl⟩) (zp_V hK hP hD hS hA hG (ci := 2) (q0 := 3) rfl rfl rfl) rfl rfl hl.1 rfl (lv_room (Nat.le_of_ble_eq_true rfl)) dX9_longestLine_20 ⟨Nat.le_of_ble_eq_true rfl, Nat.le_of_ble_eq_true rfl⟩) (fun w1 H locs hq9 hP hD hS => ?_)
  obtain ⟨gn20_7, t20_8, c20_9, l20_10, hv20_0, hv20_1, hv20_2, hv20_3, hv20_4, hv20_5, rfl⟩ := hq9
  have hP : va_P D vwCl (wH α γ (h, old, ch) rg (m13_1, f13_2, s13_3, gn20_7, p13_4, q13_5, n13_6, t20_8, c20_9, l20_10) sl pd ct sg od hs) H := hP
  have hD : va_D A (wH α γ (h, old, ch) rg (m13_1, f13_2, s13_3, gn20_7, p13_4, q13_5, n13_6, t20_8, c20_9, l20_10) sl pd ct sg od hs) := hD
  refine lv_aload_n hx hb dX9_longestLine_23 rfl (lv_at hl 0 rfl) ?_
  refine va_get (D := D) (ci := 9) (v := .ref (α 3)) (C := RX9) (T := TX9) (N := 9) hx hb hts (fun w h => List.mem_cons_of_mem _ (wx_X9 w h)) hown hK hP 0 rfl rfl 2 (by decide) (hW0 _ wf_X9_26) (fun _ h9 => h9) rfl dX9_longestLine_24 ?_
  refine z_calli hP hD hS hA (va_runV (As := []) (rest := []) hC (c_X2_longest l D τ α γ (h, old, ch) rg m13_1 f13_2 s13_3 gn20_7 p13_4 q13_5 n13_6 t20_8 c20_9 l20_10 sl pd ct sg od hs _) (cwV 0 hts (gV hB wl_X9_207 wn_X2_longest ws_X2_longest wi_X2 wc_X2_longest) rfl rfl rfl hd_X2_longest ⟨Nat.le_of_ble_eq_true rfl, Nat.le_of_ble_eq_true rfl⟩) (zp_V hK hP hD hS hA hG (ci := 2) (q0 := 3) rfl rfl rfl) rfl rfl hl.1 rfl (lv_room (Nat.le_of_ble_eq_true rfl)) dX9_longestLine_27 ⟨Nat.le_of_ble_eq_true rfl, Nat.le_of_ble_eq_true rfl⟩) (fun r w1 H locs hq9 hP hD hS => ?_)
  obtain ⟨v27_11, hv27_0, rfl, rfl⟩ := hq9
  have hP : va_P D vwCl (wH α γ (h, old, ch) rg (m13_1, f13_2, s13_3, gn20_7, p13_4, q13_5, n13_6, t20_8, c20_9, l20_10) sl pd ct sg od hs) H := hP
  have hD : va_D A (wH α γ (h, old, ch) rg (m13_1, f13_2, s13_3, gn20_7, p13_4, q13_5, n13_6, t20_8, c20_9, l20_10) sl pd ct sg od hs) := hD
  exact z_iret hC hr hlk hQ hP hD hS ⟨m13_1, f13_2, s13_3, p13_4, q13_5, n13_6, gn20_7, t20_8, c20_9, l20_10, v27_11, (by trivial), (by rw [hv27_0, hv20_2]; exact S_long_cg hcg), rfl, rfl⟩ dX9_longestLine_30

abbrev wz_X9_linesByRegions : List Cond := .code yX9_linesByRegions cX9_linesByRegions 2 (some .int) :: W0
abbrev rm_X9_linesByRegions : Room := { frames := 5, cells := 0, slots := 0, locals := 113 }
theorem hd_X9_linesByRegions : yX9_linesByRegions.cls = RX9 ∧ yX9_linesByRegions.cls ≠ "java/lang/invoke/MethodHandle" ∧ yX9_linesByRegions.cls ≠ "java/lang/invoke/VarHandle" ∧ (parseMethodDescriptor yX9_linesByRegions.desc).map (fun d => d.parameters.length) = some 1 := by decide +kernel
set_option maxHeartbeats 4000000 in
set_option maxRecDepth 100000 in
theorem c_X9_linesByRegions (l : Launch) (D : va_G) (τ : Nat → Nat) (α : Nat → Nat) (γ : Nat → ClassId) (h : IA) (old : IA) (ch : IA) (wt : BA) (qu5 : IA) (ln : TLn) (sl : TSl) (pd : TPd) (ct : TCt) (sg : TSg) (od : TOd) (hs : THs) (lv9 : Int) (hlv : 0 ≤ lv9 ∧ lv9 ≤ 98) (hh : ∀ k, 0 ≤ k → k < 49 → 0 ≤ h k ∧ h k ≤ 99) : cM l yX9_linesByRegions wz_X9_linesByRegions rm_X9_linesByRegions D τ (tyH γ) [.ref (α 0), .int (zI lv9)] (wH α γ (h, old, ch) (wt, qu5) ln sl pd ct sg od hs) (zQi (fun r w => ∃ (w2 : BA), ∃ (q2 : IA), ∃ (v : Int), (True) ∧ (v = S_nlines (S_hi h lv9)) ∧ r = zI v ∧ wH α γ (h, old, ch) (w2, q2) ln sl pd ct sg od hs = w)) := by
  refine z_ofM (cc := cX9_linesByRegions) (maxL := 2) (ret := (some .int)) (by decide +kernel) rfl (Nat.le_of_ble_eq_true rfl) ?_
  intro pg e s m args below meth c hC hr hlk hnm hK hP A hD hG hA hS ls hl Q hQ
  have hx := hC.1
  have hb := hC.2.1
  have hml := hC.2.2.1
  have hown := hC.2.2.2.1
  have hts := hC.2.2.2.2
  have hB : ∀ w ∈ W0, w ∈ wz_X9_linesByRegions := fun _ h => List.mem_cons_of_mem _ h
  have hW0 : ∀ w ∈ W0, w.before args s = true := fun w h => hts w (hB w h)
  have hl : lv_has ls 2 [(0, .ref (α 0)), (1, .int (zI lv9))] := hl
  refine lv_iload_n hx hb dX9_linesByRegions_0 rfl (lv_at hl 1 rfl) ?_
  refine z_callv hP hD hS hA (va_runS (As := [.int (zI lv9)]) (rest := []) hC (c_X9_checkLevel l D τ _ _ lv9 (by first | assumption | rfl | omega) _) (va_cwS 1 hts (gS hB wl_X9_167 wt_X9_checkLevel wi_X9 wc_X9_checkLevel) rfl rfl rfl hd_X9_checkLevel.2 ⟨Nat.le_of_ble_eq_true rfl, Nat.le_of_ble_eq_true rfl⟩) (zp_S hK hP hD hS hA hG) rfl rfl hl.1 rfl (lv_room (Nat.le_of_ble_eq_true rfl)) dX9_linesByRegions_1 ⟨Nat.le_of_ble_eq_true rfl, Nat.le_of_ble_eq_true rfl⟩) (fun w1 H locs hq9 hP hD hS => ?_)
  obtain ⟨hv1_0, rfl⟩ := hq9
  refine lv_aload_n hx hb dX9_linesByRegions_4 rfl (lv_at hl 0 rfl) ?_
  refine lv_iload_n hx hb dX9_linesByRegions_5 rfl (lv_at hl 1 rfl) ?_
  refine z_calli hP hD hS hA (va_runV (As := [.int (zI lv9)]) (rest := []) hC (c_X9_regionsAbove l D τ α γ h old ch wt qu5 ln sl pd ct sg od hs lv9 (by first | assumption | rfl | omega) (by first | assumption | rfl | omega) _) (cwV 1 hts (gV hB wl_X9_198 wn_X9_regionsAbove ws_X9_regionsAbove wi_X9 wc_X9_regionsAbove) rfl rfl rfl hd_X9_regionsAbove ⟨Nat.le_of_ble_eq_true rfl, Nat.le_of_ble_eq_true rfl⟩) (zp_V hK hP hD hS hA hG (ci := 9) (q0 := 0) rfl rfl rfl) rfl rfl hl.1 rfl (lv_room (Nat.le_of_ble_eq_true rfl)) dX9_linesByRegions_6 ⟨Nat.le_of_ble_eq_true rfl, Nat.le_of_ble_eq_true rfl⟩) (fun r w1 H locs hq9 hP hD hS => ?_)
  obtain ⟨w6_1, q6_2, v6_3, hv6_0, hv6_1, rfl, rfl⟩ := hq9
  have hP : va_P D vwCl (wH α γ (h, old, ch) (w6_1, q6_2) ln sl pd ct sg od hs) H := hP
  have hD : va_D A (wH α γ (h, old, ch) (w6_1, q6_2) ln sl pd ct sg od hs) := hD
  refine lv_aload_n hx hb dX9_linesByRegions_9 rfl (lv_at hl 0 rfl) ?_
  refine lv_iload_n hx hb dX9_linesByRegions_10 rfl (lv_at hl 1 rfl) ?_
  refine z_calli hP hD hS hA (va_runV (As := [.int (zI lv9)]) (rest := [.int (zI v6_3)]) hC (c_X9_regionsNotAbove l D τ α γ h old ch w6_1 q6_2 ln sl pd ct sg od hs lv9 (by first | assumption | rfl | omega) (by first | assumption | rfl | omega) _) (cwV 1 hts (gV hB wl_X9_201 wn_X9_regionsNotAbove ws_X9_regionsNotAbove wi_X9 wc_X9_regionsNotAbove) rfl rfl rfl hd_X9_regionsNotAbove ⟨Nat.le_of_ble_eq_true rfl, Nat.le_of_ble_eq_true rfl⟩) (zp_V hK hP hD hS hA hG (ci := 9) (q0 := 0) rfl rfl rfl) rfl rfl hl.1 rfl (lv_room (Nat.le_of_ble_eq_true rfl)) dX9_linesByRegions_11 ⟨Nat.le_of_ble_eq_true rfl, Nat.le_of_ble_eq_true rfl⟩) (fun r w1 H locs hq9 hP hD hS => ?_)
  obtain ⟨w11_4, q11_5, v11_6, hv11_0, hv11_1, rfl, rfl⟩ := hq9
  have hP : va_P D vwCl (wH α γ (h, old, ch) (w11_4, q11_5) ln sl pd ct sg od hs) H := hP
  have hD : va_D A (wH α γ (h, old, ch) (w11_4, q11_5) ln sl pd ct sg od hs) := hD
  refine z_iadd hx hb dX9_linesByRegions_14 ?_
  refine lv_iconst (v := zI 1) hx hb dX9_linesByRegions_15 rfl ?_
  refine z_isub hx hb dX9_linesByRegions_16 ?_
  exact z_iret hC hr hlk hQ hP hD hS ⟨w11_4, q11_5, (v6_3 + v11_6) - 1, (by trivial), (by rw [hv6_0, hv11_0, Euler]), rfl, rfl⟩ dX9_linesByRegions_17

abbrev wz_X9_hills : List Cond := .code yX9_hills cX9_hills 2 (some .int) :: W0
abbrev rm_X9_hills : Room := { frames := 5, cells := 0, slots := 0, locals := 113 }
theorem hd_X9_hills : yX9_hills.cls = RX9 ∧ yX9_hills.cls ≠ "java/lang/invoke/MethodHandle" ∧ yX9_hills.cls ≠ "java/lang/invoke/VarHandle" ∧ (parseMethodDescriptor yX9_hills.desc).map (fun d => d.parameters.length) = some 1 := by decide +kernel
set_option maxHeartbeats 4000000 in
set_option maxRecDepth 100000 in
theorem c_X9_hills (l : Launch) (D : va_G) (τ : Nat → Nat) (α : Nat → Nat) (γ : Nat → ClassId) (h : IA) (old : IA) (ch : IA) (wt : BA) (qu5 : IA) (ln : TLn) (sl : TSl) (pd : TPd) (ct : TCt) (sg : TSg) (od : TOd) (hs : THs) (lv9 : Int) (hlv : 0 ≤ lv9 ∧ lv9 ≤ 98) (hh : ∀ k, 0 ≤ k → k < 49 → 0 ≤ h k ∧ h k ≤ 99) : cM l yX9_hills wz_X9_hills rm_X9_hills D τ (tyH γ) [.ref (α 0), .int (zI lv9)] (wH α γ (h, old, ch) (wt, qu5) ln sl pd ct sg od hs) (zQi (fun r w => ∃ (w2 : BA), ∃ (q2 : IA), ∃ (v : Int), (True) ∧ (v = S_comps 4 (S_hi h lv9)) ∧ r = zI v ∧ wH α γ (h, old, ch) (w2, q2) ln sl pd ct sg od hs = w)) := by
  refine z_ofM (cc := cX9_hills) (maxL := 2) (ret := (some .int)) (by decide +kernel) rfl (Nat.le_of_ble_eq_true rfl) ?_
  intro pg e s m args below meth c hC hr hlk hnm hK hP A hD hG hA hS ls hl Q hQ
  have hx := hC.1
  have hb := hC.2.1
  have hml := hC.2.2.1
  have hown := hC.2.2.2.1
  have hts := hC.2.2.2.2
  have hB : ∀ w ∈ W0, w ∈ wz_X9_hills := fun _ h => List.mem_cons_of_mem _ h
  have hW0 : ∀ w ∈ W0, w.before args s = true := fun w h => hts w (hB w h)
  have hl : lv_has ls 2 [(0, .ref (α 0)), (1, .int (zI lv9))] := hl
  refine lv_iload_n hx hb dX9_hills_0 rfl (lv_at hl 1 rfl) ?_
  refine z_callv hP hD hS hA (va_runS (As := [.int (zI lv9)]) (rest := []) hC (c_X9_checkLevel l D τ _ _ lv9 (by first | assumption | rfl | omega) _) (va_cwS 1 hts (gS hB wl_X9_167 wt_X9_checkLevel wi_X9 wc_X9_checkLevel) rfl rfl rfl hd_X9_checkLevel.2 ⟨Nat.le_of_ble_eq_true rfl, Nat.le_of_ble_eq_true rfl⟩) (zp_S hK hP hD hS hA hG) rfl rfl hl.1 rfl (lv_room (Nat.le_of_ble_eq_true rfl)) dX9_hills_1 ⟨Nat.le_of_ble_eq_true rfl, Nat.le_of_ble_eq_true rfl⟩) (fun w1 H locs hq9 hP hD hS => ?_)
  obtain ⟨hv1_0, rfl⟩ := hq9
  refine lv_aload_n hx hb dX9_hills_4 rfl (lv_at hl 0 rfl) ?_
  refine lv_iload_n hx hb dX9_hills_5 rfl (lv_at hl 1 rfl) ?_
  refine z_calli hP hD hS hA (va_runV (As := [.int (zI lv9)]) (rest := []) hC (c_X9_regionsAbove l D τ α γ h old ch wt qu5 ln sl pd ct sg od hs lv9 (by first | assumption | rfl | omega) (by first | assumption | rfl | omega) _) (cwV 1 hts (gV hB wl_X9_198 wn_X9_regionsAbove ws_X9_regionsAbove wi_X9 wc_X9_regionsAbove) rfl rfl rfl hd_X9_regionsAbove ⟨Nat.le_of_ble_eq_true rfl, Nat.le_of_ble_eq_true rfl⟩) (zp_V hK hP hD hS hA hG (ci := 9) (q0 := 0) rfl rfl rfl) rfl rfl hl.1 rfl (lv_room (Nat.le_of_ble_eq_true rfl)) dX9_hills_6 ⟨Nat.le_of_ble_eq_true rfl, Nat.le_of_ble_eq_true rfl⟩) (fun r w1 H locs hq9 hP hD hS => ?_)
  obtain ⟨w6_1, q6_2, v6_3, hv6_0, hv6_1, rfl, rfl⟩ := hq9
  have hP : va_P D vwCl (wH α γ (h, old, ch) (w6_1, q6_2) ln sl pd ct sg od hs) H := hP
  have hD : va_D A (wH α γ (h, old, ch) (w6_1, q6_2) ln sl pd ct sg od hs) := hD
  exact z_iret hC hr hlk hQ hP hD hS ⟨w6_1, q6_2, v6_3, (by trivial), (by exact hv6_0), rfl, rfl⟩ dX9_hills_9

abbrev wz_X9_hollows : List Cond := .code yX9_hollows cX9_hollows 2 (some .int) :: W0
abbrev rm_X9_hollows : Room := { frames := 5, cells := 0, slots := 0, locals := 113 }
theorem hd_X9_hollows : yX9_hollows.cls = RX9 ∧ yX9_hollows.cls ≠ "java/lang/invoke/MethodHandle" ∧ yX9_hollows.cls ≠ "java/lang/invoke/VarHandle" ∧ (parseMethodDescriptor yX9_hollows.desc).map (fun d => d.parameters.length) = some 1 := by decide +kernel
set_option maxHeartbeats 4000000 in
set_option maxRecDepth 100000 in
theorem c_X9_hollows (l : Launch) (D : va_G) (τ : Nat → Nat) (α : Nat → Nat) (γ : Nat → ClassId) (h : IA) (old : IA) (ch : IA) (wt : BA) (qu5 : IA) (ln : TLn) (sl : TSl) (pd : TPd) (ct : TCt) (sg : TSg) (od : TOd) (hs : THs) (lv9 : Int) (hlv : 0 ≤ lv9 ∧ lv9 ≤ 98) (hh : ∀ k, 0 ≤ k → k < 49 → 0 ≤ h k ∧ h k ≤ 99) : cM l yX9_hollows wz_X9_hollows rm_X9_hollows D τ (tyH γ) [.ref (α 0), .int (zI lv9)] (wH α γ (h, old, ch) (wt, qu5) ln sl pd ct sg od hs) (zQi (fun r w => ∃ (w2 : BA), ∃ (q2 : IA), ∃ (v : Int), (True) ∧ (v = S_comps 8 (fun k => !S_hi h lv9 k)) ∧ r = zI v ∧ wH α γ (h, old, ch) (w2, q2) ln sl pd ct sg od hs = w)) := by
  refine z_ofM (cc := cX9_hollows) (maxL := 2) (ret := (some .int)) (by decide +kernel) rfl (Nat.le_of_ble_eq_true rfl) ?_
  intro pg e s m args below meth c hC hr hlk hnm hK hP A hD hG hA hS ls hl Q hQ
  have hx := hC.1
  have hb := hC.2.1
  have hml := hC.2.2.1
  have hown := hC.2.2.2.1
  have hts := hC.2.2.2.2
  have hB : ∀ w ∈ W0, w ∈ wz_X9_hollows := fun _ h => List.mem_cons_of_mem _ h
  have hW0 : ∀ w ∈ W0, w.before args s = true := fun w h => hts w (hB w h)
  have hl : lv_has ls 2 [(0, .ref (α 0)), (1, .int (zI lv9))] := hl
  refine lv_iload_n hx hb dX9_hollows_0 rfl (lv_at hl 1 rfl) ?_
  refine z_callv hP hD hS hA (va_runS (As := [.int (zI lv9)]) (rest := []) hC (c_X9_checkLevel l D τ _ _ lv9 (by first | assumption | rfl | omega) _) (va_cwS 1 hts (gS hB wl_X9_167 wt_X9_checkLevel wi_X9 wc_X9_checkLevel) rfl rfl rfl hd_X9_checkLevel.2 ⟨Nat.le_of_ble_eq_true rfl, Nat.le_of_ble_eq_true rfl⟩) (zp_S hK hP hD hS hA hG) rfl rfl hl.1 rfl (lv_room (Nat.le_of_ble_eq_true rfl)) dX9_hollows_1 ⟨Nat.le_of_ble_eq_true rfl, Nat.le_of_ble_eq_true rfl⟩) (fun w1 H locs hq9 hP hD hS => ?_)
  obtain ⟨hv1_0, rfl⟩ := hq9
  refine lv_aload_n hx hb dX9_hollows_4 rfl (lv_at hl 0 rfl) ?_
  refine lv_iload_n hx hb dX9_hollows_5 rfl (lv_at hl 1 rfl) ?_
  refine z_calli hP hD hS hA (va_runV (As := [.int (zI lv9)]) (rest := []) hC (c_X9_regionsNotAbove l D τ α γ h old ch wt qu5 ln sl pd ct sg od hs lv9 (by first | assumption | rfl | omega) (by first | assumption | rfl | omega) _) (cwV 1 hts (gV hB wl_X9_201 wn_X9_regionsNotAbove ws_X9_regionsNotAbove wi_X9 wc_X9_regionsNotAbove) rfl rfl rfl hd_X9_regionsNotAbove ⟨Nat.le_of_ble_eq_true rfl, Nat.le_of_ble_eq_true rfl⟩) (zp_V hK hP hD hS hA hG (ci := 9) (q0 := 0) rfl rfl rfl) rfl rfl hl.1 rfl (lv_room (Nat.le_of_ble_eq_true rfl)) dX9_hollows_6 ⟨Nat.le_of_ble_eq_true rfl, Nat.le_of_ble_eq_true rfl⟩) (fun r w1 H locs hq9 hP hD hS => ?_)
  obtain ⟨w6_1, q6_2, v6_3, hv6_0, hv6_1, rfl, rfl⟩ := hq9
  have hP : va_P D vwCl (wH α γ (h, old, ch) (w6_1, q6_2) ln sl pd ct sg od hs) H := hP
  have hD : va_D A (wH α γ (h, old, ch) (w6_1, q6_2) ln sl pd ct sg od hs) := hD
  exact z_iret hC hr hlk hQ hP hD hS ⟨w6_1, q6_2, v6_3, (by trivial), (by exact hv6_0), rfl, rfl⟩ dX9_hollows_9

abbrev wz_X9_isSink : List Cond := .code yX9_isSink cX9_isSink 4 (some .boolean) :: W0
abbrev rm_X9_isSink : Room := { frames := 3, cells := 0, slots := 0, locals := 67 }
theorem hd_X9_isSink : yX9_isSink.cls = RX9 ∧ yX9_isSink.cls ≠ "java/lang/invoke/MethodHandle" ∧ yX9_isSink.cls ≠ "java/lang/invoke/VarHandle" ∧ (parseMethodDescriptor yX9_isSink.desc).map (fun d => d.parameters.length) = some 2 := by decide +kernel
set_option maxHeartbeats 4000000 in
set_option maxRecDepth 100000 in
theorem c_X9_isSink (l : Launch) (D : va_G) (τ : Nat → Nat) (α : Nat → Nat) (γ : Nat → ClassId) (h : IA) (old : IA) (ch : IA) (rg : TRg) (ln : TLn) (nx : IA) (dr : IA) (qu : IA) (pd : TPd) (ct : TCt) (sg : TSg) (od : TOd) (hs : THs) (r9 : Int) (c9 : Int) (hr9 : 0 ≤ r9 ∧ r9 ≤ 6) (hc9 : 0 ≤ c9 ∧ c9 ≤ 6) (hh : ∀ k, 0 ≤ k → k < 49 → 0 ≤ h k ∧ h k ≤ 99) : cM l yX9_isSink wz_X9_isSink rm_X9_isSink D τ (tyH γ) [.ref (α 0), .int (zI r9), .int (zI c9)] (wH α γ (h, old, ch) rg ln (nx, dr, qu) pd ct sg od hs) (zQi (fun r w => ∃ (n2 : IA), ∃ (d2 : IA), ∃ (v : Bool), (True) ∧ (v = true ↔ S_next h (7 * r9 + c9) = -1) ∧ r = bI v ∧ wH α γ (h, old, ch) rg ln (n2, d2, qu) pd ct sg od hs = w)) := by
  refine z_ofM (cc := cX9_isSink) (maxL := 4) (ret := (some .boolean)) (by decide +kernel) rfl (Nat.le_of_ble_eq_true rfl) ?_
  intro pg e s m args below meth c hC hr hlk hnm hK hP A hD hG hA hS ls hl Q hQ
  have hx := hC.1
  have hb := hC.2.1
  have hml := hC.2.2.1
  have hown := hC.2.2.2.1
  have hts := hC.2.2.2.2
  have hB : ∀ w ∈ W0, w ∈ wz_X9_isSink := fun _ h => List.mem_cons_of_mem _ h
  have hW0 : ∀ w ∈ W0, w.before args s = true := fun w h => hts w (hB w h)
  have hl : lv_has ls 4 [(0, .ref (α 0)), (1, .int (zI r9)), (2, .int (zI c9))] := hl
  refine lv_iload_n hx hb dX9_isSink_0 rfl (lv_at hl 1 rfl) ?_
  refine lv_iload_n hx hb dX9_isSink_1 rfl (lv_at hl 2 rfl) ?_
  refine z_calli hP hD hS hA (va_runS (As := [.int (zI r9), .int (zI c9)]) (rest := []) hC (c_X9_knownPoint l D τ _ _ r9 c9 (by first | assumption | rfl | omega) _) (va_cwS 2 hts (gS hB wl_X9_72 wt_X9_knownPoint wi_X9 wc_X9_knownPoint) rfl rfl rfl hd_X9_knownPoint.2 ⟨Nat.le_of_ble_eq_true rfl, Nat.le_of_ble_eq_true rfl⟩) (zp_S hK hP hD hS hA hG) rfl rfl hl.1 rfl (lv_room (Nat.le_of_ble_eq_true rfl)) dX9_isSink_2 ⟨Nat.le_of_ble_eq_true rfl, Nat.le_of_ble_eq_true rfl⟩) (fun r w1 H locs hq9 hP hD hS => ?_)
  obtain ⟨v2_1, hv2_0, hv2_1, hv2_2, rfl, rfl⟩ := hq9
  refine lv_istore_n (lv' := [(3, .int (zI v2_1)), (0, .ref (α 0)), (1, .int (zI r9)), (2, .int (zI c9))]) hx hb dX9_isSink_5 rfl hl (by decide) rfl (fun ls hl => ?_)
  refine lv_aload_n hx hb dX9_isSink_6 rfl (lv_at hl 1 rfl) ?_
  refine va_get (D := D) (ci := 9) (v := .ref (α 4)) (C := RX9) (T := TX9) (N := 9) hx hb hts (fun w h => List.mem_cons_of_mem _ (wx_X9 w h)) hown hK hP 0 rfl rfl 3 (by decide) (hW0 _ wf_X9_33) (fun _ h9 => h9) rfl dX9_isSink_7 ?_
  refine lv_aload_n hx hb dX9_isSink_10 rfl (lv_at hl 1 rfl) ?_
  refine va_get (D := D) (ci := 9) (v := .ref (α 1)) (C := RX9) (T := TX9) (N := 9) hx hb hts (fun w h => List.mem_cons_of_mem _ (wx_X9 w h)) hown hK hP 0 rfl rfl 0 (by decide) (hW0 _ wf_X9_12) (fun _ h9 => h9) rfl dX9_isSink_11 ?_
  refine z_callv hP hD hS hA (va_runV (As := [.ref (α 1)]) (rest := []) hC (c_X8_read l D τ α γ h old ch rg ln nx dr qu pd ct sg od hs (by first | assumption | rfl | omega) _) (cwV 1 hts (gV hB wl_X9_106 wn_X8_read ws_X8_read wi_X8 wc_X8_read) rfl rfl rfl hd_X8_read ⟨Nat.le_of_ble_eq_true rfl, Nat.le_of_ble_eq_true rfl⟩) (zp_V hK hP hD hS hA hG (ci := 8) (q0 := 4) rfl rfl rfl) rfl rfl hl.1 rfl (lv_room (Nat.le_of_ble_eq_true rfl)) dX9_isSink_14 ⟨Nat.le_of_ble_eq_true rfl, Nat.le_of_ble_eq_true rfl⟩) (fun w1 H locs hq9 hP hD hS => ?_)
  obtain ⟨n14_2, d14_3, hv14_0, hv14_1, rfl⟩ := hq9
  have hP : va_P D vwCl (wH α γ (h, old, ch) rg ln (n14_2, d14_3, qu) pd ct sg od hs) H := hP
  have hD : va_D A (wH α γ (h, old, ch) rg ln (n14_2, d14_3, qu) pd ct sg od hs) := hD
  refine lv_aload_n hx hb dX9_isSink_17 rfl (lv_at hl 1 rfl) ?_
  refine va_get (D := D) (ci := 9) (v := .ref (α 4)) (C := RX9) (T := TX9) (N := 9) hx hb hts (fun w h => List.mem_cons_of_mem _ (wx_X9 w h)) hown hK hP 0 rfl rfl 3 (by decide) (hW0 _ wf_X9_33) (fun _ h9 => h9) rfl dX9_isSink_18 ?_
  refine lv_iload_n hx hb dX9_isSink_21 rfl (lv_at hl 0 rfl) ?_
  refine z_calli hP hD hS hA (va_runV (As := [.int (zI v2_1)]) (rest := []) hC (c_X8_isLowest l D τ α γ (h, old, ch) rg ln n14_2 d14_3 qu pd ct sg od hs h v2_1 (by omega) (by intro k z1 z2; rw [hv14_0, zmix_at ⟨z1, z2⟩]) _) (cwV 1 hts (gV hB wl_X9_210 wn_X8_isLowest ws_X8_isLowest wi_X8 wc_X8_isLowest) rfl rfl rfl hd_X8_isLowest ⟨Nat.le_of_ble_eq_true rfl, Nat.le_of_ble_eq_true rfl⟩) (zp_V hK hP hD hS hA hG (ci := 8) (q0 := 4) rfl rfl rfl) rfl rfl hl.1 rfl (lv_room (Nat.le_of_ble_eq_true rfl)) dX9_isSink_22 ⟨Nat.le_of_ble_eq_true rfl, Nat.le_of_ble_eq_true rfl⟩) (fun r w1 H locs hq9 hP hD hS => ?_)
  obtain ⟨v22_4, hv22_0, rfl, rfl⟩ := hq9
  have hP : va_P D vwCl (wH α γ (h, old, ch) rg ln (n14_2, d14_3, qu) pd ct sg od hs) H := hP
  have hD : va_D A (wH α γ (h, old, ch) rg ln (n14_2, d14_3, qu) pd ct sg od hs) := hD
  exact z_zret hC hr hlk hQ hP hD hS ⟨n14_2, d14_3, v22_4, (by trivial), (by rw [← hv2_1]; exact hv22_0), rfl, rfl⟩ dX9_isSink_25

abbrev wz_X9_dropOf : List Cond := .code yX9_dropOf cX9_dropOf 4 (some .int) :: W0
abbrev rm_X9_dropOf : Room := { frames := 3, cells := 0, slots := 0, locals := 67 }
theorem hd_X9_dropOf : yX9_dropOf.cls = RX9 ∧ yX9_dropOf.cls ≠ "java/lang/invoke/MethodHandle" ∧ yX9_dropOf.cls ≠ "java/lang/invoke/VarHandle" ∧ (parseMethodDescriptor yX9_dropOf.desc).map (fun d => d.parameters.length) = some 2 := by decide +kernel
set_option maxHeartbeats 4000000 in
set_option maxRecDepth 100000 in
theorem c_X9_dropOf (l : Launch) (D : va_G) (τ : Nat → Nat) (α : Nat → Nat) (γ : Nat → ClassId) (h : IA) (old : IA) (ch : IA) (rg : TRg) (ln : TLn) (nx : IA) (dr : IA) (qu : IA) (pd : TPd) (ct : TCt) (sg : TSg) (od : TOd) (hs : THs) (r9 : Int) (c9 : Int) (hr9 : 0 ≤ r9 ∧ r9 ≤ 6) (hc9 : 0 ≤ c9 ∧ c9 ≤ 6) (hh : ∀ k, 0 ≤ k → k < 49 → 0 ≤ h k ∧ h k ≤ 99) : cM l yX9_dropOf wz_X9_dropOf rm_X9_dropOf D τ (tyH γ) [.ref (α 0), .int (zI r9), .int (zI c9)] (wH α γ (h, old, ch) rg ln (nx, dr, qu) pd ct sg od hs) (zQi (fun r w => ∃ (n2 : IA), ∃ (d2 : IA), ∃ (v : Int), (True) ∧ (v = S_drop h (7 * r9 + c9)) ∧ r = zI v ∧ wH α γ (h, old, ch) rg ln (n2, d2, qu) pd ct sg od hs = w)) := by
  refine z_ofM (cc := cX9_dropOf) (maxL := 4) (ret := (some .int)) (by decide +kernel) rfl (Nat.le_of_ble_eq_true rfl) ?_
  intro pg e s m args below meth c hC hr hlk hnm hK hP A hD hG hA hS ls hl Q hQ
  have hx := hC.1
  have hb := hC.2.1
  have hml := hC.2.2.1
  have hown := hC.2.2.2.1
  have hts := hC.2.2.2.2
  have hB : ∀ w ∈ W0, w ∈ wz_X9_dropOf := fun _ h => List.mem_cons_of_mem _ h
  have hW0 : ∀ w ∈ W0, w.before args s = true := fun w h => hts w (hB w h)
  have hl : lv_has ls 4 [(0, .ref (α 0)), (1, .int (zI r9)), (2, .int (zI c9))] := hl
  refine lv_iload_n hx hb dX9_dropOf_0 rfl (lv_at hl 1 rfl) ?_
  refine lv_iload_n hx hb dX9_dropOf_1 rfl (lv_at hl 2 rfl) ?_
  refine z_calli hP hD hS hA (va_runS (As := [.int (zI r9), .int (zI c9)]) (rest := []) hC (c_X9_knownPoint l D τ _ _ r9 c9 (by first | assumption | rfl | omega) _) (va_cwS 2 hts (gS hB wl_X9_72 wt_X9_knownPoint wi_X9 wc_X9_knownPoint) rfl rfl rfl hd_X9_knownPoint.2 ⟨Nat.le_of_ble_eq_true rfl, Nat.le_of_ble_eq_true rfl⟩) (zp_S hK hP hD hS hA hG) rfl rfl hl.1 rfl (lv_room (Nat.le_of_ble_eq_true rfl)) dX9_dropOf_2 ⟨Nat.le_of_ble_eq_true rfl, Nat.le_of_ble_eq_true rfl⟩) (fun r w1 H locs hq9 hP hD hS => ?_)
  obtain ⟨v2_1, hv2_0, hv2_1, hv2_2, rfl, rfl⟩ := hq9
  refine lv_istore_n (lv' := [(3, .int (zI v2_1)), (0, .ref (α 0)), (1, .int (zI r9)), (2, .int (zI c9))]) hx hb dX9_dropOf_5 rfl hl (by decide) rfl (fun ls hl => ?_)
  refine lv_aload_n hx hb dX9_dropOf_6 rfl (lv_at hl 1 rfl) ?_
  refine va_get (D := D) (ci := 9) (v := .ref (α 4)) (C := RX9) (T := TX9) (N := 9) hx hb hts (fun w h => List.mem_cons_of_mem _ (wx_X9 w h)) hown hK hP 0 rfl rfl 3 (by decide) (hW0 _ wf_X9_33) (fun _ h9 => h9) rfl dX9_dropOf_7 ?_
  refine lv_aload_n hx hb dX9_dropOf_10 rfl (lv_at hl 1 rfl) ?_
  refine va_get (D := D) (ci := 9) (v := .ref (α 1)) (C := RX9) (T := TX9) (N := 9) hx hb hts (fun w h => List.mem_cons_of_mem _ (wx_X9 w h)) hown hK hP 0 rfl rfl 0 (by decide) (hW0 _ wf_X9_12) (fun _ h9 => h9) rfl dX9_dropOf_11 ?_
  refine z_callv hP hD hS hA (va_runV (As := [.ref (α 1)]) (rest := []) hC (c_X8_read l D τ α γ h old ch rg ln nx dr qu pd ct sg od hs (by first | assumption | rfl | omega) _) (cwV 1 hts (gV hB wl_X9_106 wn_X8_read ws_X8_read wi_X8 wc_X8_read) rfl rfl rfl hd_X8_read ⟨Nat.le_of_ble_eq_true rfl, Nat.le_of_ble_eq_true rfl⟩) (zp_V hK hP hD hS hA hG (ci := 8) (q0 := 4) rfl rfl rfl) rfl rfl hl.1 rfl (lv_room (Nat.le_of_ble_eq_true rfl)) dX9_dropOf_14 ⟨Nat.le_of_ble_eq_true rfl, Nat.le_of_ble_eq_true rfl⟩) (fun w1 H locs hq9 hP hD hS => ?_)
  obtain ⟨n14_2, d14_3, hv14_0, hv14_1, rfl⟩ := hq9
  have hP : va_P D vwCl (wH α γ (h, old, ch) rg ln (n14_2, d14_3, qu) pd ct sg od hs) H := hP
  have hD : va_D A (wH α γ (h, old, ch) rg ln (n14_2, d14_3, qu) pd ct sg od hs) := hD
  refine lv_aload_n hx hb dX9_dropOf_17 rfl (lv_at hl 1 rfl) ?_
  refine va_get (D := D) (ci := 9) (v := .ref (α 4)) (C := RX9) (T := TX9) (N := 9) hx hb hts (fun w h => List.mem_cons_of_mem _ (wx_X9 w h)) hown hK hP 0 rfl rfl 3 (by decide) (hW0 _ wf_X9_33) (fun _ h9 => h9) rfl dX9_dropOf_18 ?_
  refine lv_iload_n hx hb dX9_dropOf_21 rfl (lv_at hl 0 rfl) ?_
  refine z_calli hP hD hS hA (va_runV (As := [.int (zI v2_1)]) (rest := []) hC (c_X8_drop l D τ α γ (h, old, ch) rg ln n14_2 d14_3 qu pd ct sg od hs h v2_1 (by omega) (by first | assumption | rfl | omega) (by intro k z1 z2; rw [hv14_1, zmix_at ⟨z1, z2⟩]) _) (cwV 1 hts (gV hB wl_X9_218 wn_X8_drop ws_X8_drop wi_X8 wc_X8_drop) rfl rfl rfl hd_X8_drop ⟨Nat.le_of_ble_eq_true rfl, Nat.le_of_ble_eq_true rfl⟩) (zp_V hK hP hD hS hA hG (ci := 8) (q0 := 4) rfl rfl rfl) rfl rfl hl.1 rfl (lv_room (Nat.le_of_ble_eq_true rfl)) dX9_dropOf_22 ⟨Nat.le_of_ble_eq_true rfl, Nat.le_of_ble_eq_true rfl⟩) (fun r w1 H locs hq9 hP hD hS => ?_)
  obtain ⟨v22_4, hv22_0, hv22_1, rfl, rfl⟩ := hq9
  have hP : va_P D vwCl (wH α γ (h, old, ch) rg ln (n14_2, d14_3, qu) pd ct sg od hs) H := hP
  have hD : va_D A (wH α γ (h, old, ch) rg ln (n14_2, d14_3, qu) pd ct sg od hs) := hD
  exact z_iret hC hr hlk hQ hP hD hS ⟨n14_2, d14_3, v22_4, (by trivial), (by rw [hv22_0, hv2_1]), rfl, rfl⟩ dX9_dropOf_25

abbrev wz_X9_sinkOf : List Cond := .code yX9_sinkOf cX9_sinkOf 4 (some .int) :: W0
abbrev rm_X9_sinkOf : Room := { frames := 4, cells := 0, slots := 0, locals := 85 }
theorem hd_X9_sinkOf : yX9_sinkOf.cls = RX9 ∧ yX9_sinkOf.cls ≠ "java/lang/invoke/MethodHandle" ∧ yX9_sinkOf.cls ≠ "java/lang/invoke/VarHandle" ∧ (parseMethodDescriptor yX9_sinkOf.desc).map (fun d => d.parameters.length) = some 2 := by decide +kernel
set_option maxHeartbeats 4000000 in
set_option maxRecDepth 100000 in
theorem c_X9_sinkOf (l : Launch) (D : va_G) (τ : Nat → Nat) (α : Nat → Nat) (γ : Nat → ClassId) (h : IA) (old : IA) (ch : IA) (rg : TRg) (ln : TLn) (nx : IA) (dr : IA) (qu : IA) (pd : TPd) (ct : TCt) (sg : TSg) (od : TOd) (hs : THs) (r9 : Int) (c9 : Int) (hr9 : 0 ≤ r9 ∧ r9 ≤ 6) (hc9 : 0 ≤ c9 ∧ c9 ≤ 6) (hh : ∀ k, 0 ≤ k → k < 49 → 0 ≤ h k ∧ h k ≤ 99) : cM l yX9_sinkOf wz_X9_sinkOf rm_X9_sinkOf D τ (tyH γ) [.ref (α 0), .int (zI r9), .int (zI c9)] (wH α γ (h, old, ch) rg ln (nx, dr, qu) pd ct sg od hs) (zQi (fun r w => ∃ (n2 : IA), ∃ (d2 : IA), ∃ (v : Int), (True) ∧ (v = S_sink h (7 * r9 + c9)) ∧ r = zI v ∧ wH α γ (h, old, ch) rg ln (n2, d2, qu) pd ct sg od hs = w)) := by
  refine z_ofM (cc := cX9_sinkOf) (maxL := 4) (ret := (some .int)) (by decide +kernel) rfl (Nat.le_of_ble_eq_true rfl) ?_
  intro pg e s m args below meth c hC hr hlk hnm hK hP A hD hG hA hS ls hl Q hQ
  have hx := hC.1
  have hb := hC.2.1
  have hml := hC.2.2.1
  have hown := hC.2.2.2.1
  have hts := hC.2.2.2.2
  have hB : ∀ w ∈ W0, w ∈ wz_X9_sinkOf := fun _ h => List.mem_cons_of_mem _ h
  have hW0 : ∀ w ∈ W0, w.before args s = true := fun w h => hts w (hB w h)
  have hl : lv_has ls 4 [(0, .ref (α 0)), (1, .int (zI r9)), (2, .int (zI c9))] := hl
  refine lv_iload_n hx hb dX9_sinkOf_0 rfl (lv_at hl 1 rfl) ?_
  refine lv_iload_n hx hb dX9_sinkOf_1 rfl (lv_at hl 2 rfl) ?_
  refine z_calli hP hD hS hA (va_runS (As := [.int (zI r9), .int (zI c9)]) (rest := []) hC (c_X9_knownPoint l D τ _ _ r9 c9 (by first | assumption | rfl | omega) _) (va_cwS 2 hts (gS hB wl_X9_72 wt_X9_knownPoint wi_X9 wc_X9_knownPoint) rfl rfl rfl hd_X9_knownPoint.2 ⟨Nat.le_of_ble_eq_true rfl, Nat.le_of_ble_eq_true rfl⟩) (zp_S hK hP hD hS hA hG) rfl rfl hl.1 rfl (lv_room (Nat.le_of_ble_eq_true rfl)) dX9_sinkOf_2 ⟨Nat.le_of_ble_eq_true rfl, Nat.le_of_ble_eq_true rfl⟩) (fun r w1 H locs hq9 hP hD hS => ?_)
  obtain ⟨v2_1, hv2_0, hv2_1, hv2_2, rfl, rfl⟩ := hq9
  refine lv_istore_n (lv' := [(3, .int (zI v2_1)), (0, .ref (α 0)), (1, .int (zI r9)), (2, .int (zI c9))]) hx hb dX9_sinkOf_5 rfl hl (by decide) rfl (fun ls hl => ?_)
  refine lv_aload_n hx hb dX9_sinkOf_6 rfl (lv_at hl 1 rfl) ?_
  refine va_get (D := D) (ci := 9) (v := .ref (α 4)) (C := RX9) (T := TX9) (N := 9) hx hb hts (fun w h => List.mem_cons_of_mem _ (wx_X9 w h)) hown hK hP 0 rfl rfl 3 (by decide) (hW0 _ wf_X9_33) (fun _ h9 => h9) rfl dX9_sinkOf_7 ?_
  refine lv_aload_n hx hb dX9_sinkOf_10 rfl (lv_at hl 1 rfl) ?_
  refine va_get (D := D) (ci := 9) (v := .ref (α 1)) (C := RX9) (T := TX9) (N := 9) hx hb hts (fun w h => List.mem_cons_of_mem _ (wx_X9 w h)) hown hK hP 0 rfl rfl 0 (by decide) (hW0 _ wf_X9_12) (fun _ h9 => h9) rfl dX9_sinkOf_11 ?_
  refine z_callv hP hD hS hA (va_runV (As := [.ref (α 1)]) (rest := []) hC (c_X8_read l D τ α γ h old ch rg ln nx dr qu pd ct sg od hs (by first | assumption | rfl | omega) _) (cwV 1 hts (gV hB wl_X9_106 wn_X8_read ws_X8_read wi_X8 wc_X8_read) rfl rfl rfl hd_X8_read ⟨Nat.le_of_ble_eq_true rfl, Nat.le_of_ble_eq_true rfl⟩) (zp_V hK hP hD hS hA hG (ci := 8) (q0 := 4) rfl rfl rfl) rfl rfl hl.1 rfl (lv_room (Nat.le_of_ble_eq_true rfl)) dX9_sinkOf_14 ⟨Nat.le_of_ble_eq_true rfl, Nat.le_of_ble_eq_true rfl⟩) (fun w1 H locs hq9 hP hD hS => ?_)
  obtain ⟨n14_2, d14_3, hv14_0, hv14_1, rfl⟩ := hq9
  have hP : va_P D vwCl (wH α γ (h, old, ch) rg ln (n14_2, d14_3, qu) pd ct sg od hs) H := hP
  have hD : va_D A (wH α γ (h, old, ch) rg ln (n14_2, d14_3, qu) pd ct sg od hs) := hD
  refine lv_aload_n hx hb dX9_sinkOf_17 rfl (lv_at hl 1 rfl) ?_
  refine va_get (D := D) (ci := 9) (v := .ref (α 4)) (C := RX9) (T := TX9) (N := 9) hx hb hts (fun w h => List.mem_cons_of_mem _ (wx_X9 w h)) hown hK hP 0 rfl rfl 3 (by decide) (hW0 _ wf_X9_33) (fun _ h9 => h9) rfl dX9_sinkOf_18 ?_
  refine lv_iload_n hx hb dX9_sinkOf_21 rfl (lv_at hl 0 rfl) ?_
  refine z_calli hP hD hS hA (va_runV (As := [.int (zI v2_1)]) (rest := []) hC (c_X8_end l D τ α γ (h, old, ch) rg ln n14_2 d14_3 qu pd ct sg od hs h v2_1 (by omega) (by intro k z1 z2; rw [hv14_0, zmix_at ⟨z1, z2⟩]) _) (cwV 1 hts (gV hB wl_X9_220 wn_X8_end ws_X8_end wi_X8 wc_X8_end) rfl rfl rfl hd_X8_end ⟨Nat.le_of_ble_eq_true rfl, Nat.le_of_ble_eq_true rfl⟩) (zp_V hK hP hD hS hA hG (ci := 8) (q0 := 4) rfl rfl rfl) rfl rfl hl.1 rfl (lv_room (Nat.le_of_ble_eq_true rfl)) dX9_sinkOf_22 ⟨Nat.le_of_ble_eq_true rfl, Nat.le_of_ble_eq_true rfl⟩) (fun r w1 H locs hq9 hP hD hS => ?_)
  obtain ⟨v22_4, hv22_0, hv22_1, rfl, rfl⟩ := hq9
  have hP : va_P D vwCl (wH α γ (h, old, ch) rg ln (n14_2, d14_3, qu) pd ct sg od hs) H := hP
  have hD : va_D A (wH α γ (h, old, ch) rg ln (n14_2, d14_3, qu) pd ct sg od hs) := hD
  exact z_iret hC hr hlk hQ hP hD hS ⟨n14_2, d14_3, v22_4, (by trivial), (by rw [hv22_0, hv2_1]), rfl, rfl⟩ dX9_sinkOf_25

abbrev wz_X9_basinByFollowing : List Cond := .code yX9_basinByFollowing cX9_basinByFollowing 4 (some .int) :: W0
abbrev rm_X9_basinByFollowing : Room := { frames := 5, cells := 0, slots := 0, locals := 108 }
theorem hd_X9_basinByFollowing : yX9_basinByFollowing.cls = RX9 ∧ yX9_basinByFollowing.cls ≠ "java/lang/invoke/MethodHandle" ∧ yX9_basinByFollowing.cls ≠ "java/lang/invoke/VarHandle" ∧ (parseMethodDescriptor yX9_basinByFollowing.desc).map (fun d => d.parameters.length) = some 2 := by decide +kernel
set_option maxHeartbeats 4000000 in
set_option maxRecDepth 100000 in
theorem c_X9_basinByFollowing (l : Launch) (D : va_G) (τ : Nat → Nat) (α : Nat → Nat) (γ : Nat → ClassId) (h : IA) (old : IA) (ch : IA) (rg : TRg) (ln : TLn) (nx : IA) (dr : IA) (qu : IA) (pd : TPd) (ct : TCt) (sg : TSg) (od : TOd) (hs : THs) (r9 : Int) (c9 : Int) (hr9 : 0 ≤ r9 ∧ r9 ≤ 6) (hc9 : 0 ≤ c9 ∧ c9 ≤ 6) (hh : ∀ k, 0 ≤ k → k < 49 → 0 ≤ h k ∧ h k ≤ 99) : cM l yX9_basinByFollowing wz_X9_basinByFollowing rm_X9_basinByFollowing D τ (tyH γ) [.ref (α 0), .int (zI r9), .int (zI c9)] (wH α γ (h, old, ch) rg ln (nx, dr, qu) pd ct sg od hs) (zQi (fun r w => ∃ (n2 : IA), ∃ (d2 : IA), ∃ (v : Int), (True) ∧ (v = S_basin h (7 * r9 + c9)) ∧ r = zI v ∧ wH α γ (h, old, ch) rg ln (n2, d2, qu) pd ct sg od hs = w)) := by
  refine z_ofM (cc := cX9_basinByFollowing) (maxL := 4) (ret := (some .int)) (by decide +kernel) rfl (Nat.le_of_ble_eq_true rfl) ?_
  intro pg e s m args below meth c hC hr hlk hnm hK hP A hD hG hA hS ls hl Q hQ
  have hx := hC.1
  have hb := hC.2.1
  have hml := hC.2.2.1
  have hown := hC.2.2.2.1
  have hts := hC.2.2.2.2
  have hB : ∀ w ∈ W0, w ∈ wz_X9_basinByFollowing := fun _ h => List.mem_cons_of_mem _ h
  have hW0 : ∀ w ∈ W0, w.before args s = true := fun w h => hts w (hB w h)
  have hl : lv_has ls 4 [(0, .ref (α 0)), (1, .int (zI r9)), (2, .int (zI c9))] := hl
  refine lv_iload_n hx hb dX9_basinByFollowing_0 rfl (lv_at hl 1 rfl) ?_
  refine lv_iload_n hx hb dX9_basinByFollowing_1 rfl (lv_at hl 2 rfl) ?_
  refine z_calli hP hD hS hA (va_runS (As := [.int (zI r9), .int (zI c9)]) (rest := []) hC (c_X9_knownPoint l D τ _ _ r9 c9 (by first | assumption | rfl | omega) _) (va_cwS 2 hts (gS hB wl_X9_72 wt_X9_knownPoint wi_X9 wc_X9_knownPoint) rfl rfl rfl hd_X9_knownPoint.2 ⟨Nat.le_of_ble_eq_true rfl, Nat.le_of_ble_eq_true rfl⟩) (zp_S hK hP hD hS hA hG) rfl rfl hl.1 rfl (lv_room (Nat.le_of_ble_eq_true rfl)) dX9_basinByFollowing_2 ⟨Nat.le_of_ble_eq_true rfl, Nat.le_of_ble_eq_true rfl⟩) (fun r w1 H locs hq9 hP hD hS => ?_)
  obtain ⟨v2_1, hv2_0, hv2_1, hv2_2, rfl, rfl⟩ := hq9
  refine lv_istore_n (lv' := [(3, .int (zI v2_1)), (0, .ref (α 0)), (1, .int (zI r9)), (2, .int (zI c9))]) hx hb dX9_basinByFollowing_5 rfl hl (by decide) rfl (fun ls hl => ?_)
  refine lv_aload_n hx hb dX9_basinByFollowing_6 rfl (lv_at hl 1 rfl) ?_
  refine va_get (D := D) (ci := 9) (v := .ref (α 4)) (C := RX9) (T := TX9) (N := 9) hx hb hts (fun w h => List.mem_cons_of_mem _ (wx_X9 w h)) hown hK hP 0 rfl rfl 3 (by decide) (hW0 _ wf_X9_33) (fun _ h9 => h9) rfl dX9_basinByFollowing_7 ?_
  refine lv_aload_n hx hb dX9_basinByFollowing_10 rfl (lv_at hl 1 rfl) ?_
  refine va_get (D := D) (ci := 9) (v := .ref (α 1)) (C := RX9) (T := TX9) (N := 9) hx hb hts (fun w h => List.mem_cons_of_mem _ (wx_X9 w h)) hown hK hP 0 rfl rfl 0 (by decide) (hW0 _ wf_X9_12) (fun _ h9 => h9) rfl dX9_basinByFollowing_11 ?_
  refine z_callv hP hD hS hA (va_runV (As := [.ref (α 1)]) (rest := []) hC (c_X8_read l D τ α γ h old ch rg ln nx dr qu pd ct sg od hs (by first | assumption | rfl | omega) _) (cwV 1 hts (gV hB wl_X9_106 wn_X8_read ws_X8_read wi_X8 wc_X8_read) rfl rfl rfl hd_X8_read ⟨Nat.le_of_ble_eq_true rfl, Nat.le_of_ble_eq_true rfl⟩) (zp_V hK hP hD hS hA hG (ci := 8) (q0 := 4) rfl rfl rfl) rfl rfl hl.1 rfl (lv_room (Nat.le_of_ble_eq_true rfl)) dX9_basinByFollowing_14 ⟨Nat.le_of_ble_eq_true rfl, Nat.le_of_ble_eq_true rfl⟩) (fun w1 H locs hq9 hP hD hS => ?_)
  obtain ⟨n14_2, d14_3, hv14_0, hv14_1, rfl⟩ := hq9
  have hP : va_P D vwCl (wH α γ (h, old, ch) rg ln (n14_2, d14_3, qu) pd ct sg od hs) H := hP
  have hD : va_D A (wH α γ (h, old, ch) rg ln (n14_2, d14_3, qu) pd ct sg od hs) := hD
  refine lv_aload_n hx hb dX9_basinByFollowing_17 rfl (lv_at hl 1 rfl) ?_
  refine va_get (D := D) (ci := 9) (v := .ref (α 4)) (C := RX9) (T := TX9) (N := 9) hx hb hts (fun w h => List.mem_cons_of_mem _ (wx_X9 w h)) hown hK hP 0 rfl rfl 3 (by decide) (hW0 _ wf_X9_33) (fun _ h9 => h9) rfl dX9_basinByFollowing_18 ?_
  refine lv_iload_n hx hb dX9_basinByFollowing_21 rfl (lv_at hl 0 rfl) ?_
  refine z_calli hP hD hS hA (va_runV (As := [.int (zI v2_1)]) (rest := []) hC (c_X8_countFollowing l D τ α γ (h, old, ch) rg ln n14_2 d14_3 qu pd ct sg od hs h v2_1 (by omega) (by intro k z1 z2; rw [hv14_0, zmix_at ⟨z1, z2⟩]) _) (cwV 1 hts (gV hB wl_X9_223 wn_X8_countFollowing ws_X8_countFollowing wi_X8 wc_X8_countFollowing) rfl rfl rfl hd_X8_countFollowing ⟨Nat.le_of_ble_eq_true rfl, Nat.le_of_ble_eq_true rfl⟩) (zp_V hK hP hD hS hA hG (ci := 8) (q0 := 4) rfl rfl rfl) rfl rfl hl.1 rfl (lv_room (Nat.le_of_ble_eq_true rfl)) dX9_basinByFollowing_22 ⟨Nat.le_of_ble_eq_true rfl, Nat.le_of_ble_eq_true rfl⟩) (fun r w1 H locs hq9 hP hD hS => ?_)
  obtain ⟨v22_4, hv22_0, hv22_1, rfl, rfl⟩ := hq9
  have hP : va_P D vwCl (wH α γ (h, old, ch) rg ln (n14_2, d14_3, qu) pd ct sg od hs) H := hP
  have hD : va_D A (wH α γ (h, old, ch) rg ln (n14_2, d14_3, qu) pd ct sg od hs) := hD
  exact z_iret hC hr hlk hQ hP hD hS ⟨n14_2, d14_3, v22_4, (by trivial), (by rw [hv22_0, S_basin_eq, hv2_1]), rfl, rfl⟩ dX9_basinByFollowing_25

abbrev wz_X9_flowAt : List Cond := .code yX9_flowAt cX9_flowAt 4 (some .int) :: W0
abbrev rm_X9_flowAt : Room := { frames := 3, cells := 0, slots := 0, locals := 67 }
theorem hd_X9_flowAt : yX9_flowAt.cls = RX9 ∧ yX9_flowAt.cls ≠ "java/lang/invoke/MethodHandle" ∧ yX9_flowAt.cls ≠ "java/lang/invoke/VarHandle" ∧ (parseMethodDescriptor yX9_flowAt.desc).map (fun d => d.parameters.length) = some 2 := by decide +kernel
set_option maxHeartbeats 4000000 in
set_option maxRecDepth 100000 in
theorem c_X9_flowAt (l : Launch) (D : va_G) (τ : Nat → Nat) (α : Nat → Nat) (γ : Nat → ClassId) (h : IA) (old : IA) (ch : IA) (rg : TRg) (ln : TLn) (nx : IA) (dr : IA) (qu : IA) (pd : TPd) (ct : TCt) (sg : TSg) (od : TOd) (hs : THs) (r9 : Int) (c9 : Int) (hr9 : 0 ≤ r9 ∧ r9 ≤ 6) (hc9 : 0 ≤ c9 ∧ c9 ≤ 6) (hh : ∀ k, 0 ≤ k → k < 49 → 0 ≤ h k ∧ h k ≤ 99) : cM l yX9_flowAt wz_X9_flowAt rm_X9_flowAt D τ (tyH γ) [.ref (α 0), .int (zI r9), .int (zI c9)] (wH α γ (h, old, ch) rg ln (nx, dr, qu) pd ct sg od hs) (zQi (fun r w => ∃ (n2 : IA), ∃ (d2 : IA), ∃ (q2 : IA), ∃ (v : Int), (True) ∧ (v = S_flow h (7 * r9 + c9)) ∧ r = zI v ∧ wH α γ (h, old, ch) rg ln (n2, d2, q2) pd ct sg od hs = w)) := by
  refine z_ofM (cc := cX9_flowAt) (maxL := 4) (ret := (some .int)) (by decide +kernel) rfl (Nat.le_of_ble_eq_true rfl) ?_
  intro pg e s m args below meth c hC hr hlk hnm hK hP A hD hG hA hS ls hl Q hQ
  have hx := hC.1
  have hb := hC.2.1
  have hml := hC.2.2.1
  have hown := hC.2.2.2.1
  have hts := hC.2.2.2.2
  have hB : ∀ w ∈ W0, w ∈ wz_X9_flowAt := fun _ h => List.mem_cons_of_mem _ h
  have hW0 : ∀ w ∈ W0, w.before args s = true := fun w h => hts w (hB w h)
  have hl : lv_has ls 4 [(0, .ref (α 0)), (1, .int (zI r9)), (2, .int (zI c9))] := hl
  refine lv_iload_n hx hb dX9_flowAt_0 rfl (lv_at hl 1 rfl) ?_
  refine lv_iload_n hx hb dX9_flowAt_1 rfl (lv_at hl 2 rfl) ?_
  refine z_calli hP hD hS hA (va_runS (As := [.int (zI r9), .int (zI c9)]) (rest := []) hC (c_X9_knownPoint l D τ _ _ r9 c9 (by first | assumption | rfl | omega) _) (va_cwS 2 hts (gS hB wl_X9_72 wt_X9_knownPoint wi_X9 wc_X9_knownPoint) rfl rfl rfl hd_X9_knownPoint.2 ⟨Nat.le_of_ble_eq_true rfl, Nat.le_of_ble_eq_true rfl⟩) (zp_S hK hP hD hS hA hG) rfl rfl hl.1 rfl (lv_room (Nat.le_of_ble_eq_true rfl)) dX9_flowAt_2 ⟨Nat.le_of_ble_eq_true rfl, Nat.le_of_ble_eq_true rfl⟩) (fun r w1 H locs hq9 hP hD hS => ?_)
  obtain ⟨v2_1, hv2_0, hv2_1, hv2_2, rfl, rfl⟩ := hq9
  refine lv_istore_n (lv' := [(3, .int (zI v2_1)), (0, .ref (α 0)), (1, .int (zI r9)), (2, .int (zI c9))]) hx hb dX9_flowAt_5 rfl hl (by decide) rfl (fun ls hl => ?_)
  refine lv_aload_n hx hb dX9_flowAt_6 rfl (lv_at hl 1 rfl) ?_
  refine va_get (D := D) (ci := 9) (v := .ref (α 4)) (C := RX9) (T := TX9) (N := 9) hx hb hts (fun w h => List.mem_cons_of_mem _ (wx_X9 w h)) hown hK hP 0 rfl rfl 3 (by decide) (hW0 _ wf_X9_33) (fun _ h9 => h9) rfl dX9_flowAt_7 ?_
  refine lv_aload_n hx hb dX9_flowAt_10 rfl (lv_at hl 1 rfl) ?_
  refine va_get (D := D) (ci := 9) (v := .ref (α 1)) (C := RX9) (T := TX9) (N := 9) hx hb hts (fun w h => List.mem_cons_of_mem _ (wx_X9 w h)) hown hK hP 0 rfl rfl 0 (by decide) (hW0 _ wf_X9_12) (fun _ h9 => h9) rfl dX9_flowAt_11 ?_
  refine z_callv hP hD hS hA (va_runV (As := [.ref (α 1)]) (rest := []) hC (c_X8_read l D τ α γ h old ch rg ln nx dr qu pd ct sg od hs (by first | assumption | rfl | omega) _) (cwV 1 hts (gV hB wl_X9_106 wn_X8_read ws_X8_read wi_X8 wc_X8_read) rfl rfl rfl hd_X8_read ⟨Nat.le_of_ble_eq_true rfl, Nat.le_of_ble_eq_true rfl⟩) (zp_V hK hP hD hS hA hG (ci := 8) (q0 := 4) rfl rfl rfl) rfl rfl hl.1 rfl (lv_room (Nat.le_of_ble_eq_true rfl)) dX9_flowAt_14 ⟨Nat.le_of_ble_eq_true rfl, Nat.le_of_ble_eq_true rfl⟩) (fun w1 H locs hq9 hP hD hS => ?_)
  obtain ⟨n14_2, d14_3, hv14_0, hv14_1, rfl⟩ := hq9
  have hP : va_P D vwCl (wH α γ (h, old, ch) rg ln (n14_2, d14_3, qu) pd ct sg od hs) H := hP
  have hD : va_D A (wH α γ (h, old, ch) rg ln (n14_2, d14_3, qu) pd ct sg od hs) := hD
  refine lv_aload_n hx hb dX9_flowAt_17 rfl (lv_at hl 1 rfl) ?_
  refine va_get (D := D) (ci := 9) (v := .ref (α 4)) (C := RX9) (T := TX9) (N := 9) hx hb hts (fun w h => List.mem_cons_of_mem _ (wx_X9 w h)) hown hK hP 0 rfl rfl 3 (by decide) (hW0 _ wf_X9_33) (fun _ h9 => h9) rfl dX9_flowAt_18 ?_
  refine lv_iload_n hx hb dX9_flowAt_21 rfl (lv_at hl 0 rfl) ?_
  refine z_calli hP hD hS hA (va_runV (As := [.int (zI v2_1)]) (rest := []) hC (c_X8_countGoingUp l D τ α γ (h, old, ch) rg ln n14_2 d14_3 qu pd ct sg od hs h v2_1 (by omega) (by intro k z1 z2; rw [hv14_0, zmix_at ⟨z1, z2⟩]) _) (cwV 1 hts (gV hB wl_X9_226 wn_X8_countGoingUp ws_X8_countGoingUp wi_X8 wc_X8_countGoingUp) rfl rfl rfl hd_X8_countGoingUp ⟨Nat.le_of_ble_eq_true rfl, Nat.le_of_ble_eq_true rfl⟩) (zp_V hK hP hD hS hA hG (ci := 8) (q0 := 4) rfl rfl rfl) rfl rfl hl.1 rfl (lv_room (Nat.le_of_ble_eq_true rfl)) dX9_flowAt_22 ⟨Nat.le_of_ble_eq_true rfl, Nat.le_of_ble_eq_true rfl⟩) (fun r w1 H locs hq9 hP hD hS => ?_)
  obtain ⟨q22_4, v22_5, hv22_0, hv22_1, rfl, rfl⟩ := hq9
  have hP : va_P D vwCl (wH α γ (h, old, ch) rg ln (n14_2, d14_3, q22_4) pd ct sg od hs) H := hP
  have hD : va_D A (wH α γ (h, old, ch) rg ln (n14_2, d14_3, q22_4) pd ct sg od hs) := hD
  exact z_iret hC hr hlk hQ hP hD hS ⟨n14_2, d14_3, q22_4, v22_5, (by trivial), (by rw [hv22_0, hv2_1]), rfl, rfl⟩ dX9_flowAt_25

abbrev wz_X9_stepsToSink : List Cond := .code yX9_stepsToSink cX9_stepsToSink 4 (some .int) :: W0
abbrev rm_X9_stepsToSink : Room := { frames := 4, cells := 0, slots := 0, locals := 86 }
theorem hd_X9_stepsToSink : yX9_stepsToSink.cls = RX9 ∧ yX9_stepsToSink.cls ≠ "java/lang/invoke/MethodHandle" ∧ yX9_stepsToSink.cls ≠ "java/lang/invoke/VarHandle" ∧ (parseMethodDescriptor yX9_stepsToSink.desc).map (fun d => d.parameters.length) = some 2 := by decide +kernel
set_option maxHeartbeats 4000000 in
set_option maxRecDepth 100000 in
theorem c_X9_stepsToSink (l : Launch) (D : va_G) (τ : Nat → Nat) (α : Nat → Nat) (γ : Nat → ClassId) (h : IA) (old : IA) (ch : IA) (rg : TRg) (ln : TLn) (nx : IA) (dr : IA) (qu : IA) (pd : TPd) (ct : TCt) (sg : TSg) (od : TOd) (hs : THs) (r9 : Int) (c9 : Int) (hr9 : 0 ≤ r9 ∧ r9 ≤ 6) (hc9 : 0 ≤ c9 ∧ c9 ≤ 6) (hh : ∀ k, 0 ≤ k → k < 49 → 0 ≤ h k ∧ h k ≤ 99) : cM l yX9_stepsToSink wz_X9_stepsToSink rm_X9_stepsToSink D τ (tyH γ) [.ref (α 0), .int (zI r9), .int (zI c9)] (wH α γ (h, old, ch) rg ln (nx, dr, qu) pd ct sg od hs) (zQi (fun r w => ∃ (n2 : IA), ∃ (d2 : IA), ∃ (v : Int), (True) ∧ (v = S_steps h (7 * r9 + c9)) ∧ r = zI v ∧ wH α γ (h, old, ch) rg ln (n2, d2, qu) pd ct sg od hs = w)) := by
  refine z_ofM (cc := cX9_stepsToSink) (maxL := 4) (ret := (some .int)) (by decide +kernel) rfl (Nat.le_of_ble_eq_true rfl) ?_
  intro pg e s m args below meth c hC hr hlk hnm hK hP A hD hG hA hS ls hl Q hQ
  have hx := hC.1
  have hb := hC.2.1
  have hml := hC.2.2.1
  have hown := hC.2.2.2.1
  have hts := hC.2.2.2.2
  have hB : ∀ w ∈ W0, w ∈ wz_X9_stepsToSink := fun _ h => List.mem_cons_of_mem _ h
  have hW0 : ∀ w ∈ W0, w.before args s = true := fun w h => hts w (hB w h)
  have hl : lv_has ls 4 [(0, .ref (α 0)), (1, .int (zI r9)), (2, .int (zI c9))] := hl
  refine lv_iload_n hx hb dX9_stepsToSink_0 rfl (lv_at hl 1 rfl) ?_
  refine lv_iload_n hx hb dX9_stepsToSink_1 rfl (lv_at hl 2 rfl) ?_
  refine z_calli hP hD hS hA (va_runS (As := [.int (zI r9), .int (zI c9)]) (rest := []) hC (c_X9_knownPoint l D τ _ _ r9 c9 (by first | assumption | rfl | omega) _) (va_cwS 2 hts (gS hB wl_X9_72 wt_X9_knownPoint wi_X9 wc_X9_knownPoint) rfl rfl rfl hd_X9_knownPoint.2 ⟨Nat.le_of_ble_eq_true rfl, Nat.le_of_ble_eq_true rfl⟩) (zp_S hK hP hD hS hA hG) rfl rfl hl.1 rfl (lv_room (Nat.le_of_ble_eq_true rfl)) dX9_stepsToSink_2 ⟨Nat.le_of_ble_eq_true rfl, Nat.le_of_ble_eq_true rfl⟩) (fun r w1 H locs hq9 hP hD hS => ?_)
  obtain ⟨v2_1, hv2_0, hv2_1, hv2_2, rfl, rfl⟩ := hq9
  refine lv_istore_n (lv' := [(3, .int (zI v2_1)), (0, .ref (α 0)), (1, .int (zI r9)), (2, .int (zI c9))]) hx hb dX9_stepsToSink_5 rfl hl (by decide) rfl (fun ls hl => ?_)
  refine lv_aload_n hx hb dX9_stepsToSink_6 rfl (lv_at hl 1 rfl) ?_
  refine va_get (D := D) (ci := 9) (v := .ref (α 4)) (C := RX9) (T := TX9) (N := 9) hx hb hts (fun w h => List.mem_cons_of_mem _ (wx_X9 w h)) hown hK hP 0 rfl rfl 3 (by decide) (hW0 _ wf_X9_33) (fun _ h9 => h9) rfl dX9_stepsToSink_7 ?_
  refine lv_aload_n hx hb dX9_stepsToSink_10 rfl (lv_at hl 1 rfl) ?_
  refine va_get (D := D) (ci := 9) (v := .ref (α 1)) (C := RX9) (T := TX9) (N := 9) hx hb hts (fun w h => List.mem_cons_of_mem _ (wx_X9 w h)) hown hK hP 0 rfl rfl 0 (by decide) (hW0 _ wf_X9_12) (fun _ h9 => h9) rfl dX9_stepsToSink_11 ?_
  refine z_callv hP hD hS hA (va_runV (As := [.ref (α 1)]) (rest := []) hC (c_X8_read l D τ α γ h old ch rg ln nx dr qu pd ct sg od hs (by first | assumption | rfl | omega) _) (cwV 1 hts (gV hB wl_X9_106 wn_X8_read ws_X8_read wi_X8 wc_X8_read) rfl rfl rfl hd_X8_read ⟨Nat.le_of_ble_eq_true rfl, Nat.le_of_ble_eq_true rfl⟩) (zp_V hK hP hD hS hA hG (ci := 8) (q0 := 4) rfl rfl rfl) rfl rfl hl.1 rfl (lv_room (Nat.le_of_ble_eq_true rfl)) dX9_stepsToSink_14 ⟨Nat.le_of_ble_eq_true rfl, Nat.le_of_ble_eq_true rfl⟩) (fun w1 H locs hq9 hP hD hS => ?_)
  obtain ⟨n14_2, d14_3, hv14_0, hv14_1, rfl⟩ := hq9
  have hP : va_P D vwCl (wH α γ (h, old, ch) rg ln (n14_2, d14_3, qu) pd ct sg od hs) H := hP
  have hD : va_D A (wH α γ (h, old, ch) rg ln (n14_2, d14_3, qu) pd ct sg od hs) := hD
  refine lv_aload_n hx hb dX9_stepsToSink_17 rfl (lv_at hl 1 rfl) ?_
  refine va_get (D := D) (ci := 9) (v := .ref (α 4)) (C := RX9) (T := TX9) (N := 9) hx hb hts (fun w h => List.mem_cons_of_mem _ (wx_X9 w h)) hown hK hP 0 rfl rfl 3 (by decide) (hW0 _ wf_X9_33) (fun _ h9 => h9) rfl dX9_stepsToSink_18 ?_
  refine lv_iload_n hx hb dX9_stepsToSink_21 rfl (lv_at hl 0 rfl) ?_
  refine z_calli hP hD hS hA (va_runV (As := [.int (zI v2_1)]) (rest := []) hC (c_X8_steps l D τ α γ (h, old, ch) rg ln n14_2 d14_3 qu pd ct sg od hs h v2_1 (by omega) (by intro k z1 z2; rw [hv14_0, zmix_at ⟨z1, z2⟩]) _) (cwV 1 hts (gV hB wl_X9_229 wn_X8_steps ws_X8_steps wi_X8 wc_X8_steps) rfl rfl rfl hd_X8_steps ⟨Nat.le_of_ble_eq_true rfl, Nat.le_of_ble_eq_true rfl⟩) (zp_V hK hP hD hS hA hG (ci := 8) (q0 := 4) rfl rfl rfl) rfl rfl hl.1 rfl (lv_room (Nat.le_of_ble_eq_true rfl)) dX9_stepsToSink_22 ⟨Nat.le_of_ble_eq_true rfl, Nat.le_of_ble_eq_true rfl⟩) (fun r w1 H locs hq9 hP hD hS => ?_)
  obtain ⟨v22_4, hv22_0, hv22_1, rfl, rfl⟩ := hq9
  have hP : va_P D vwCl (wH α γ (h, old, ch) rg ln (n14_2, d14_3, qu) pd ct sg od hs) H := hP
  have hD : va_D A (wH α γ (h, old, ch) rg ln (n14_2, d14_3, qu) pd ct sg od hs) := hD
  exact z_iret hC hr hlk hQ hP hD hS ⟨n14_2, d14_3, v22_4, (by trivial), (by rw [hv22_0, hv2_1]), rfl, rfl⟩ dX9_stepsToSink_25

abbrev wz_X9_basinByGoingUp : List Cond := .code yX9_basinByGoingUp cX9_basinByGoingUp 4 (some .int) :: W0
abbrev rm_X9_basinByGoingUp : Room := { frames := 3, cells := 0, slots := 0, locals := 67 }
theorem hd_X9_basinByGoingUp : yX9_basinByGoingUp.cls = RX9 ∧ yX9_basinByGoingUp.cls ≠ "java/lang/invoke/MethodHandle" ∧ yX9_basinByGoingUp.cls ≠ "java/lang/invoke/VarHandle" ∧ (parseMethodDescriptor yX9_basinByGoingUp.desc).map (fun d => d.parameters.length) = some 2 := by decide +kernel
set_option maxHeartbeats 4000000 in
set_option maxRecDepth 100000 in
theorem c_X9_basinByGoingUp (l : Launch) (D : va_G) (τ : Nat → Nat) (α : Nat → Nat) (γ : Nat → ClassId) (h : IA) (old : IA) (ch : IA) (rg : TRg) (ln : TLn) (nx : IA) (dr : IA) (qu : IA) (pd : TPd) (ct : TCt) (sg : TSg) (od : TOd) (hs : THs) (r9 : Int) (c9 : Int) (hr9 : 0 ≤ r9 ∧ r9 ≤ 6) (hc9 : 0 ≤ c9 ∧ c9 ≤ 6) (hh : ∀ k, 0 ≤ k → k < 49 → 0 ≤ h k ∧ h k ≤ 99) : cM l yX9_basinByGoingUp wz_X9_basinByGoingUp rm_X9_basinByGoingUp D τ (tyH γ) [.ref (α 0), .int (zI r9), .int (zI c9)] (wH α γ (h, old, ch) rg ln (nx, dr, qu) pd ct sg od hs) (zQi (fun r w => ∃ (n2 : IA), ∃ (d2 : IA), ∃ (q2 : IA), ∃ (v : Int), (True) ∧ (v = S_basin h (7 * r9 + c9)) ∧ r = zI v ∧ wH α γ (h, old, ch) rg ln (n2, d2, q2) pd ct sg od hs = w)) := by
  refine z_ofM (cc := cX9_basinByGoingUp) (maxL := 4) (ret := (some .int)) (by decide +kernel) rfl (Nat.le_of_ble_eq_true rfl) ?_
  intro pg e s m args below meth c hC hr hlk hnm hK hP A hD hG hA hS ls hl Q hQ
  have hx := hC.1
  have hb := hC.2.1
  have hml := hC.2.2.1
  have hown := hC.2.2.2.1
  have hts := hC.2.2.2.2
  have hB : ∀ w ∈ W0, w ∈ wz_X9_basinByGoingUp := fun _ h => List.mem_cons_of_mem _ h
  have hW0 : ∀ w ∈ W0, w.before args s = true := fun w h => hts w (hB w h)
  have hl : lv_has ls 4 [(0, .ref (α 0)), (1, .int (zI r9)), (2, .int (zI c9))] := hl
  refine lv_iload_n hx hb dX9_basinByGoingUp_0 rfl (lv_at hl 1 rfl) ?_
  refine lv_iload_n hx hb dX9_basinByGoingUp_1 rfl (lv_at hl 2 rfl) ?_
  refine z_calli hP hD hS hA (va_runS (As := [.int (zI r9), .int (zI c9)]) (rest := []) hC (c_X9_knownPoint l D τ _ _ r9 c9 (by first | assumption | rfl | omega) _) (va_cwS 2 hts (gS hB wl_X9_72 wt_X9_knownPoint wi_X9 wc_X9_knownPoint) rfl rfl rfl hd_X9_knownPoint.2 ⟨Nat.le_of_ble_eq_true rfl, Nat.le_of_ble_eq_true rfl⟩) (zp_S hK hP hD hS hA hG) rfl rfl hl.1 rfl (lv_room (Nat.le_of_ble_eq_true rfl)) dX9_basinByGoingUp_2 ⟨Nat.le_of_ble_eq_true rfl, Nat.le_of_ble_eq_true rfl⟩) (fun r w1 H locs hq9 hP hD hS => ?_)
  obtain ⟨v2_1, hv2_0, hv2_1, hv2_2, rfl, rfl⟩ := hq9
  refine lv_istore_n (lv' := [(3, .int (zI v2_1)), (0, .ref (α 0)), (1, .int (zI r9)), (2, .int (zI c9))]) hx hb dX9_basinByGoingUp_5 rfl hl (by decide) rfl (fun ls hl => ?_)
  refine lv_aload_n hx hb dX9_basinByGoingUp_6 rfl (lv_at hl 1 rfl) ?_
  refine va_get (D := D) (ci := 9) (v := .ref (α 4)) (C := RX9) (T := TX9) (N := 9) hx hb hts (fun w h => List.mem_cons_of_mem _ (wx_X9 w h)) hown hK hP 0 rfl rfl 3 (by decide) (hW0 _ wf_X9_33) (fun _ h9 => h9) rfl dX9_basinByGoingUp_7 ?_
  refine lv_aload_n hx hb dX9_basinByGoingUp_10 rfl (lv_at hl 1 rfl) ?_
  refine va_get (D := D) (ci := 9) (v := .ref (α 1)) (C := RX9) (T := TX9) (N := 9) hx hb hts (fun w h => List.mem_cons_of_mem _ (wx_X9 w h)) hown hK hP 0 rfl rfl 0 (by decide) (hW0 _ wf_X9_12) (fun _ h9 => h9) rfl dX9_basinByGoingUp_11 ?_
  refine z_callv hP hD hS hA (va_runV (As := [.ref (α 1)]) (rest := []) hC (c_X8_read l D τ α γ h old ch rg ln nx dr qu pd ct sg od hs (by first | assumption | rfl | omega) _) (cwV 1 hts (gV hB wl_X9_106 wn_X8_read ws_X8_read wi_X8 wc_X8_read) rfl rfl rfl hd_X8_read ⟨Nat.le_of_ble_eq_true rfl, Nat.le_of_ble_eq_true rfl⟩) (zp_V hK hP hD hS hA hG (ci := 8) (q0 := 4) rfl rfl rfl) rfl rfl hl.1 rfl (lv_room (Nat.le_of_ble_eq_true rfl)) dX9_basinByGoingUp_14 ⟨Nat.le_of_ble_eq_true rfl, Nat.le_of_ble_eq_true rfl⟩) (fun w1 H locs hq9 hP hD hS => ?_)
  obtain ⟨n14_2, d14_3, hv14_0, hv14_1, rfl⟩ := hq9
  have hP : va_P D vwCl (wH α γ (h, old, ch) rg ln (n14_2, d14_3, qu) pd ct sg od hs) H := hP
  have hD : va_D A (wH α γ (h, old, ch) rg ln (n14_2, d14_3, qu) pd ct sg od hs) := hD
  refine lv_aload_n hx hb dX9_basinByGoingUp_17 rfl (lv_at hl 1 rfl) ?_
  refine va_get (D := D) (ci := 9) (v := .ref (α 4)) (C := RX9) (T := TX9) (N := 9) hx hb hts (fun w h => List.mem_cons_of_mem _ (wx_X9 w h)) hown hK hP 0 rfl rfl 3 (by decide) (hW0 _ wf_X9_33) (fun _ h9 => h9) rfl dX9_basinByGoingUp_18 ?_
  refine lv_iload_n hx hb dX9_basinByGoingUp_21 rfl (lv_at hl 0 rfl) ?_
  refine z_calli hP hD hS hA (va_runV (As := [.int (zI v2_1)]) (rest := []) hC (c_X8_isLowest l D τ α γ (h, old, ch) rg ln n14_2 d14_3 qu pd ct sg od hs h v2_1 (by first | assumption | rfl | omega) (by intro k z1 z2; rw [hv14_0, zmix_at ⟨z1, z2⟩]) _) (cwV 1 hts (gV hB wl_X9_210 wn_X8_isLowest ws_X8_isLowest wi_X8 wc_X8_isLowest) rfl rfl rfl hd_X8_isLowest ⟨Nat.le_of_ble_eq_true rfl, Nat.le_of_ble_eq_true rfl⟩) (zp_V hK hP hD hS hA hG (ci := 8) (q0 := 4) rfl rfl rfl) rfl rfl hl.1 rfl (lv_room (Nat.le_of_ble_eq_true rfl)) dX9_basinByGoingUp_22 ⟨Nat.le_of_ble_eq_true rfl, Nat.le_of_ble_eq_true rfl⟩) (fun r w1 H locs hq9 hP hD hS => ?_)
  obtain ⟨v22_4, hv22_0, rfl, rfl⟩ := hq9
  have hP : va_P D vwCl (wH α γ (h, old, ch) rg ln (n14_2, d14_3, qu) pd ct sg od hs) H := hP
  have hD : va_D A (wH α γ (h, old, ch) rg ln (n14_2, d14_3, qu) pd ct sg od hs) := hD
  refine z_ifeqB (tgt := 39) hx hb dX9_basinByGoingUp_25 (by decide) (fun c_25 => ?_) (fun c_25 => ?_)
  · have hb_25 := zb_neg hv22_0 c_25
    refine lv_iconst (v := zI 0) hx hb dX9_basinByGoingUp_39 rfl ?_
    exact z_iret hC hr hlk hQ hP hD hS ⟨n14_2, d14_3, qu, 0, (by trivial), (by rw [← hv2_1]; unfold S_basin; first | (rw [if_pos hb_25]; exact hv33_0) | (rw [if_neg hb_25]; done)), rfl, rfl⟩ dX9_basinByGoingUp_40
  · have hb_25 := hv22_0.mp c_25
    refine lv_aload_n hx hb dX9_basinByGoingUp_28 rfl (lv_at hl 1 rfl) ?_
    refine va_get (D := D) (ci := 9) (v := .ref (α 4)) (C := RX9) (T := TX9) (N := 9) hx hb hts (fun w h => List.mem_cons_of_mem _ (wx_X9 w h)) hown hK hP 0 rfl rfl 3 (by decide) (hW0 _ wf_X9_33) (fun _ h9 => h9) rfl dX9_basinByGoingUp_29 ?_
    refine lv_iload_n hx hb dX9_basinByGoingUp_32 rfl (lv_at hl 0 rfl) ?_
    refine z_calli hP hD hS hA (va_runV (As := [.int (zI v2_1)]) (rest := []) hC (c_X8_countGoingUp l D τ α γ (h, old, ch) rg ln n14_2 d14_3 qu pd ct sg od hs h v2_1 (by omega) (by intro k z1 z2; rw [hv14_0, zmix_at ⟨z1, z2⟩]) _) (cwV 1 hts (gV hB wl_X9_226 wn_X8_countGoingUp ws_X8_countGoingUp wi_X8 wc_X8_countGoingUp) rfl rfl rfl hd_X8_countGoingUp ⟨Nat.le_of_ble_eq_true rfl, Nat.le_of_ble_eq_true rfl⟩) (zp_V hK hP hD hS hA hG (ci := 8) (q0 := 4) rfl rfl rfl) rfl rfl hl.1 rfl (lv_room (Nat.le_of_ble_eq_true rfl)) dX9_basinByGoingUp_33 ⟨Nat.le_of_ble_eq_true rfl, Nat.le_of_ble_eq_true rfl⟩) (fun r w1 H locs hq9 hP hD hS => ?_)
    obtain ⟨q33_5, v33_6, hv33_0, hv33_1, rfl, rfl⟩ := hq9
    have hP : va_P D vwCl (wH α γ (h, old, ch) rg ln (n14_2, d14_3, q33_5) pd ct sg od hs) H := hP
    have hD : va_D A (wH α γ (h, old, ch) rg ln (n14_2, d14_3, q33_5) pd ct sg od hs) := hD
    refine lv_goto (tgt := 40) hx hb dX9_basinByGoingUp_36 (by decide) ?_
    exact z_iret hC hr hlk hQ hP hD hS ⟨n14_2, d14_3, q33_5, v33_6, (by trivial), (by rw [← hv2_1]; unfold S_basin; first | (rw [if_pos hb_25]; exact hv33_0) | (rw [if_neg hb_25]; done)), rfl, rfl⟩ dX9_basinByGoingUp_40

abbrev wz_X9_drainOf : List Cond := .code yX9_drainOf cX9_drainOf 4 (some .int) :: W0
abbrev rm_X9_drainOf : Room := { frames := 3, cells := 0, slots := 0, locals := 67 }
theorem hd_X9_drainOf : yX9_drainOf.cls = RX9 ∧ yX9_drainOf.cls ≠ "java/lang/invoke/MethodHandle" ∧ yX9_drainOf.cls ≠ "java/lang/invoke/VarHandle" ∧ (parseMethodDescriptor yX9_drainOf.desc).map (fun d => d.parameters.length) = some 2 := by decide +kernel
set_option maxHeartbeats 4000000 in
set_option maxRecDepth 100000 in
theorem c_X9_drainOf (l : Launch) (D : va_G) (τ : Nat → Nat) (α : Nat → Nat) (γ : Nat → ClassId) (h : IA) (old : IA) (ch : IA) (rg : TRg) (ln : TLn) (nx : IA) (dr : IA) (qu : IA) (pd : TPd) (ct : TCt) (sg : TSg) (od : TOd) (hs : THs) (r9 : Int) (c9 : Int) (hr9 : 0 ≤ r9 ∧ r9 ≤ 6) (hc9 : 0 ≤ c9 ∧ c9 ≤ 6) (hh : ∀ k, 0 ≤ k → k < 49 → 0 ≤ h k ∧ h k ≤ 99) (hsk : S_next h (7 * r9 + c9) ≠ -1) : cM l yX9_drainOf wz_X9_drainOf rm_X9_drainOf D τ (tyH γ) [.ref (α 0), .int (zI r9), .int (zI c9)] (wH α γ (h, old, ch) rg ln (nx, dr, qu) pd ct sg od hs) (zQi (fun r w => ∃ (n2 : IA), ∃ (d2 : IA), ∃ (v : Int), (True) ∧ (v = S_next h (7 * r9 + c9)) ∧ r = zI v ∧ wH α γ (h, old, ch) rg ln (n2, d2, qu) pd ct sg od hs = w)) := by
  refine z_ofM (cc := cX9_drainOf) (maxL := 4) (ret := (some .int)) (by decide +kernel) rfl (Nat.le_of_ble_eq_true rfl) ?_
  intro pg e s m args below meth c hC hr hlk hnm hK hP A hD hG hA hS ls hl Q hQ
  have hx := hC.1
  have hb := hC.2.1
  have hml := hC.2.2.1
  have hown := hC.2.2.2.1
  have hts := hC.2.2.2.2
  have hB : ∀ w ∈ W0, w ∈ wz_X9_drainOf := fun _ h => List.mem_cons_of_mem _ h
  have hW0 : ∀ w ∈ W0, w.before args s = true := fun w h => hts w (hB w h)
  have hl : lv_has ls 4 [(0, .ref (α 0)), (1, .int (zI r9)), (2, .int (zI c9))] := hl
  refine lv_iload_n hx hb dX9_drainOf_0 rfl (lv_at hl 1 rfl) ?_
  refine lv_iload_n hx hb dX9_drainOf_1 rfl (lv_at hl 2 rfl) ?_
  refine z_calli hP hD hS hA (va_runS (As := [.int (zI r9), .int (zI c9)]) (rest := []) hC (c_X9_knownPoint l D τ _ _ r9 c9 (by first | assumption | rfl | omega) _) (va_cwS 2 hts (gS hB wl_X9_72 wt_X9_knownPoint wi_X9 wc_X9_knownPoint) rfl rfl rfl hd_X9_knownPoint.2 ⟨Nat.le_of_ble_eq_true rfl, Nat.le_of_ble_eq_true rfl⟩) (zp_S hK hP hD hS hA hG) rfl rfl hl.1 rfl (lv_room (Nat.le_of_ble_eq_true rfl)) dX9_drainOf_2 ⟨Nat.le_of_ble_eq_true rfl, Nat.le_of_ble_eq_true rfl⟩) (fun r w1 H locs hq9 hP hD hS => ?_)
  obtain ⟨v2_1, hv2_0, hv2_1, hv2_2, rfl, rfl⟩ := hq9
  refine lv_istore_n (lv' := [(3, .int (zI v2_1)), (0, .ref (α 0)), (1, .int (zI r9)), (2, .int (zI c9))]) hx hb dX9_drainOf_5 rfl hl (by decide) rfl (fun ls hl => ?_)
  refine lv_aload_n hx hb dX9_drainOf_6 rfl (lv_at hl 1 rfl) ?_
  refine va_get (D := D) (ci := 9) (v := .ref (α 4)) (C := RX9) (T := TX9) (N := 9) hx hb hts (fun w h => List.mem_cons_of_mem _ (wx_X9 w h)) hown hK hP 0 rfl rfl 3 (by decide) (hW0 _ wf_X9_33) (fun _ h9 => h9) rfl dX9_drainOf_7 ?_
  refine lv_aload_n hx hb dX9_drainOf_10 rfl (lv_at hl 1 rfl) ?_
  refine va_get (D := D) (ci := 9) (v := .ref (α 1)) (C := RX9) (T := TX9) (N := 9) hx hb hts (fun w h => List.mem_cons_of_mem _ (wx_X9 w h)) hown hK hP 0 rfl rfl 0 (by decide) (hW0 _ wf_X9_12) (fun _ h9 => h9) rfl dX9_drainOf_11 ?_
  refine z_callv hP hD hS hA (va_runV (As := [.ref (α 1)]) (rest := []) hC (c_X8_read l D τ α γ h old ch rg ln nx dr qu pd ct sg od hs (by first | assumption | rfl | omega) _) (cwV 1 hts (gV hB wl_X9_106 wn_X8_read ws_X8_read wi_X8 wc_X8_read) rfl rfl rfl hd_X8_read ⟨Nat.le_of_ble_eq_true rfl, Nat.le_of_ble_eq_true rfl⟩) (zp_V hK hP hD hS hA hG (ci := 8) (q0 := 4) rfl rfl rfl) rfl rfl hl.1 rfl (lv_room (Nat.le_of_ble_eq_true rfl)) dX9_drainOf_14 ⟨Nat.le_of_ble_eq_true rfl, Nat.le_of_ble_eq_true rfl⟩) (fun w1 H locs hq9 hP hD hS => ?_)
  obtain ⟨n14_2, d14_3, hv14_0, hv14_1, rfl⟩ := hq9
  have hP : va_P D vwCl (wH α γ (h, old, ch) rg ln (n14_2, d14_3, qu) pd ct sg od hs) H := hP
  have hD : va_D A (wH α γ (h, old, ch) rg ln (n14_2, d14_3, qu) pd ct sg od hs) := hD
  refine lv_aload_n hx hb dX9_drainOf_17 rfl (lv_at hl 1 rfl) ?_
  refine va_get (D := D) (ci := 9) (v := .ref (α 4)) (C := RX9) (T := TX9) (N := 9) hx hb hts (fun w h => List.mem_cons_of_mem _ (wx_X9 w h)) hown hK hP 0 rfl rfl 3 (by decide) (hW0 _ wf_X9_33) (fun _ h9 => h9) rfl dX9_drainOf_18 ?_
  refine lv_iload_n hx hb dX9_drainOf_21 rfl (lv_at hl 0 rfl) ?_
  refine z_calli hP hD hS hA (va_runV (As := [.int (zI v2_1)]) (rest := []) hC (c_X8_isLowest l D τ α γ (h, old, ch) rg ln n14_2 d14_3 qu pd ct sg od hs h v2_1 (by omega) (by intro k z1 z2; rw [hv14_0, zmix_at ⟨z1, z2⟩]) _) (cwV 1 hts (gV hB wl_X9_210 wn_X8_isLowest ws_X8_isLowest wi_X8 wc_X8_isLowest) rfl rfl rfl hd_X8_isLowest ⟨Nat.le_of_ble_eq_true rfl, Nat.le_of_ble_eq_true rfl⟩) (zp_V hK hP hD hS hA hG (ci := 8) (q0 := 4) rfl rfl rfl) rfl rfl hl.1 rfl (lv_room (Nat.le_of_ble_eq_true rfl)) dX9_drainOf_22 ⟨Nat.le_of_ble_eq_true rfl, Nat.le_of_ble_eq_true rfl⟩) (fun r w1 H locs hq9 hP hD hS => ?_)
  obtain ⟨v22_4, hv22_0, rfl, rfl⟩ := hq9
  have hP : va_P D vwCl (wH α γ (h, old, ch) rg ln (n14_2, d14_3, qu) pd ct sg od hs) H := hP
  have hD : va_D A (wH α γ (h, old, ch) rg ln (n14_2, d14_3, qu) pd ct sg od hs) := hD
  refine z_ifeqB (tgt := 38) hx hb dX9_drainOf_25 (by decide) (fun c_25 => ?_) (fun c_25 => ?_)
  · have hb_25 := zb_neg hv22_0 c_25
    refine lv_aload_n hx hb dX9_drainOf_38 rfl (lv_at hl 1 rfl) ?_
    refine va_get (D := D) (ci := 9) (v := .ref (α 4)) (C := RX9) (T := TX9) (N := 9) hx hb hts (fun w h => List.mem_cons_of_mem _ (wx_X9 w h)) hown hK hP 0 rfl rfl 3 (by decide) (hW0 _ wf_X9_33) (fun _ h9 => h9) rfl dX9_drainOf_39 ?_
    refine lv_iload_n hx hb dX9_drainOf_42 rfl (lv_at hl 0 rfl) ?_
    refine z_calli hP hD hS hA (va_runV (As := [.int (zI v2_1)]) (rest := []) hC (c_X8_next l D τ α γ (h, old, ch) rg ln n14_2 d14_3 qu pd ct sg od hs h v2_1 (by first | assumption | rfl | omega) (by intro k z1 z2; rw [hv14_0, zmix_at ⟨z1, z2⟩]) _) (cwV 1 hts (gV hB wl_X9_215 wn_X8_next ws_X8_next wi_X8 wc_X8_next) rfl rfl rfl hd_X8_next ⟨Nat.le_of_ble_eq_true rfl, Nat.le_of_ble_eq_true rfl⟩) (zp_V hK hP hD hS hA hG (ci := 8) (q0 := 4) rfl rfl rfl) rfl rfl hl.1 rfl (lv_room (Nat.le_of_ble_eq_true rfl)) dX9_drainOf_43 ⟨Nat.le_of_ble_eq_true rfl, Nat.le_of_ble_eq_true rfl⟩) (fun r w1 H locs hq9 hP hD hS => ?_)
    obtain ⟨v43_5, hv43_0, hv43_1, hv43_2, rfl, rfl⟩ := hq9
    have hP : va_P D vwCl (wH α γ (h, old, ch) rg ln (n14_2, d14_3, qu) pd ct sg od hs) H := hP
    have hD : va_D A (wH α γ (h, old, ch) rg ln (n14_2, d14_3, qu) pd ct sg od hs) := hD
    exact z_iret hC hr hlk hQ hP hD hS ⟨n14_2, d14_3, v43_5, (by trivial), (by rw [hv43_0 (by omega), hv2_1]), rfl, rfl⟩ dX9_drainOf_46
  · have hb_25 := hv22_0.mp c_25
    exact absurd hb_25 (by rw [hv2_1]; exact hsk)

abbrev wz_X9_sinks : List Cond := .code yX9_sinks cX9_sinks 3 (some .int) :: W0
abbrev rm_X9_sinks : Room := { frames := 3, cells := 0, slots := 0, locals := 67 }
theorem hd_X9_sinks : yX9_sinks.cls = RX9 ∧ yX9_sinks.cls ≠ "java/lang/invoke/MethodHandle" ∧ yX9_sinks.cls ≠ "java/lang/invoke/VarHandle" ∧ (parseMethodDescriptor yX9_sinks.desc).map (fun d => d.parameters.length) = some 0 := by decide +kernel
set_option maxHeartbeats 4000000 in
set_option maxRecDepth 100000 in
theorem c_X9_sinks (l : Launch) (D : va_G) (τ : Nat → Nat) (α : Nat → Nat) (γ : Nat → ClassId) (h : IA) (old : IA) (ch : IA) (rg : TRg) (ln : TLn) (nx : IA) (dr : IA) (qu : IA) (pd : TPd) (ct : TCt) (sg : TSg) (od : TOd) (hs : THs) (hh : ∀ k, 0 ≤ k → k < 49 → 0 ≤ h k ∧ h k ≤ 99) : cM l yX9_sinks wz_X9_sinks rm_X9_sinks D τ (tyH γ) [.ref (α 0)] (wH α γ (h, old, ch) rg ln (nx, dr, qu) pd ct sg od hs) (zQi (fun r w => ∃ (n2 : IA), ∃ (d2 : IA), ∃ (v : Int), (v = zC (fun k => decide (S_next h k = -1)) 49) ∧ (0 ≤ v ∧ v ≤ 49) ∧ r = zI v ∧ wH α γ (h, old, ch) rg ln (n2, d2, qu) pd ct sg od hs = w)) := by
  refine z_ofM (cc := cX9_sinks) (maxL := 3) (ret := (some .int)) (by decide +kernel) rfl (Nat.le_of_ble_eq_true rfl) ?_
  intro pg e s m args below meth c hC hr hlk hnm hK hP A hD hG hA hS ls hl Q hQ
  have hx := hC.1
  have hb := hC.2.1
  have hml := hC.2.2.1
  have hown := hC.2.2.2.1
  have hts := hC.2.2.2.2
  have hB : ∀ w ∈ W0, w ∈ wz_X9_sinks := fun _ h => List.mem_cons_of_mem _ h
  have hW0 : ∀ w ∈ W0, w.before args s = true := fun w h => hts w (hB w h)
  have hl : lv_has ls 3 [(0, .ref (α 0))] := hl
  refine lv_aload_n hx hb dX9_sinks_0 rfl (lv_at hl 0 rfl) ?_
  refine va_get (D := D) (ci := 9) (v := .ref (α 4)) (C := RX9) (T := TX9) (N := 9) hx hb hts (fun w h => List.mem_cons_of_mem _ (wx_X9 w h)) hown hK hP 0 rfl rfl 3 (by decide) (hW0 _ wf_X9_33) (fun _ h9 => h9) rfl dX9_sinks_1 ?_
  refine lv_aload_n hx hb dX9_sinks_4 rfl (lv_at hl 0 rfl) ?_
  refine va_get (D := D) (ci := 9) (v := .ref (α 1)) (C := RX9) (T := TX9) (N := 9) hx hb hts (fun w h => List.mem_cons_of_mem _ (wx_X9 w h)) hown hK hP 0 rfl rfl 0 (by decide) (hW0 _ wf_X9_12) (fun _ h9 => h9) rfl dX9_sinks_5 ?_
  refine z_callv hP hD hS hA (va_runV (As := [.ref (α 1)]) (rest := []) hC (c_X8_read l D τ α γ h old ch rg ln nx dr qu pd ct sg od hs (by first | assumption | rfl | omega) _) (cwV 1 hts (gV hB wl_X9_106 wn_X8_read ws_X8_read wi_X8 wc_X8_read) rfl rfl rfl hd_X8_read ⟨Nat.le_of_ble_eq_true rfl, Nat.le_of_ble_eq_true rfl⟩) (zp_V hK hP hD hS hA hG (ci := 8) (q0 := 4) rfl rfl rfl) rfl rfl hl.1 rfl (lv_room (Nat.le_of_ble_eq_true rfl)) dX9_sinks_8 ⟨Nat.le_of_ble_eq_true rfl, Nat.le_of_ble_eq_true rfl⟩) (fun w1 H locs hq9 hP hD hS => ?_)
  obtain ⟨n8_1, d8_2, hv8_0, hv8_1, rfl⟩ := hq9
  have hP : va_P D vwCl (wH α γ (h, old, ch) rg ln (n8_1, d8_2, qu) pd ct sg od hs) H := hP
  have hD : va_D A (wH α γ (h, old, ch) rg ln (n8_1, d8_2, qu) pd ct sg od hs) := hD
  refine lv_iconst (v := zI 0) hx hb dX9_sinks_11 rfl ?_
  refine lv_istore_n (lv' := [(1, .int (zI 0)), (0, .ref (α 0))]) hx hb dX9_sinks_12 rfl hl (by decide) rfl (fun ls hl => ?_)
  refine lv_iconst (v := zI 0) hx hb dX9_sinks_13 rfl ?_
  refine lv_istore_n (lv' := [(2, .int (zI 0)), (1, .int (zI 0)), (0, .ref (α 0))]) hx hb dX9_sinks_14 rfl hl (by decide) rfl (fun ls hl => ?_)
  suffices HL_15 : ∀ (n_15 : Nat), ∀ (g : Int) (i : Int) (H : Heap) (locs : List Loc) (hP : va_P D vwCl (wH α γ (h, old, ch) rg ln (n8_1, d8_2, qu) pd ct sg od hs) H) (hD : va_D A (wH α γ (h, old, ch) rg ln (n8_1, d8_2, qu) pd ct sg od hs)) (hS : va_S A s.heap H locs) (ls : Array Slot) (hl : lv_has ls 3 [(1, .int (zI g)), (2, .int (zI i)), (0, .ref (α 0))]) (hi : 0 ≤ i ∧ i ≤ 49) (hg : g = zC (fun k => decide (S_next h k = -1)) i) (hgb : 0 ≤ g ∧ g ≤ i) (hm : (49 - i).toNat < n_15), W pg l e rm_X9_sinks s m args below meth c H locs 0 0 Q (F0 m 15 ls []) from HL_15 _ 0 0 _ _ hP hD hS _ (lv_sub hl [1, 0, 2] rfl) (by first | assumption | rfl | omega) (by exact (zC_0 _).symm) (by first | assumption | rfl | omega) (Nat.lt_succ_self _)
  intro n_15
  induction n_15 with
  | zero => intro g i H locs hP hD hS ls hl hi hg hgb hm; exact absurd hm (Nat.not_lt_zero _)
  | succ n_15 ih_15 =>
    intro g i H locs hP hD hS ls hl hi hg hgb hm
    refine lv_iload_n hx hb dX9_sinks_15 rfl (lv_at hl 1 rfl) ?_
    refine lv_bipush (v := zI 49) hx hb dX9_sinks_16 (zI_b8 (by decide)) ?_
    refine z_icge (tgt := 41) hx hb ⟨by omega, by omega⟩ ⟨by omega, by omega⟩ dX9_sinks_18 (by decide) (fun c_18 => ?_) (fun c_18 => ?_)
    · refine lv_iload_n hx hb dX9_sinks_41 rfl (lv_at hl 0 rfl) ?_
      exact z_iret hC hr hlk hQ hP hD hS ⟨n8_1, d8_2, g, (by rw [hg, show i = 49 by omega]), (by omega), rfl, rfl⟩ dX9_sinks_42
    · refine lv_aload_n hx hb dX9_sinks_21 rfl (lv_at hl 2 rfl) ?_
      refine va_get (D := D) (ci := 9) (v := .ref (α 4)) (C := RX9) (T := TX9) (N := 9) hx hb hts (fun w h => List.mem_cons_of_mem _ (wx_X9 w h)) hown hK hP 0 rfl rfl 3 (by decide) (hW0 _ wf_X9_33) (fun _ h9 => h9) rfl dX9_sinks_22 ?_
      refine lv_iload_n hx hb dX9_sinks_25 rfl (lv_at hl 1 rfl) ?_
      refine z_calli hP hD hS hA (va_runV (As := [.int (zI i)]) (rest := []) hC (c_X8_isLowest l D τ α γ (h, old, ch) rg ln n8_1 d8_2 qu pd ct sg od hs h i (by first | assumption | rfl | omega) (by intro k z1 z2; rw [hv8_0, zmix_at ⟨z1, z2⟩]) _) (cwV 1 hts (gV hB wl_X9_210 wn_X8_isLowest ws_X8_isLowest wi_X8 wc_X8_isLowest) rfl rfl rfl hd_X8_isLowest ⟨Nat.le_of_ble_eq_true rfl, Nat.le_of_ble_eq_true rfl⟩) (zp_V hK hP hD hS hA hG (ci := 8) (q0 := 4) rfl rfl rfl) rfl rfl hl.1 rfl (lv_room (Nat.le_of_ble_eq_true rfl)) dX9_sinks_26 ⟨Nat.le_of_ble_eq_true rfl, Nat.le_of_ble_eq_true rfl⟩) (fun r w1 H locs hq9 hP hD hS => ?_)
      obtain ⟨v26_3, hv26_0, rfl, rfl⟩ := hq9
      have hP : va_P D vwCl (wH α γ (h, old, ch) rg ln (n8_1, d8_2, qu) pd ct sg od hs) H := hP
      have hD : va_D A (wH α γ (h, old, ch) rg ln (n8_1, d8_2, qu) pd ct sg od hs) := hD
      refine z_ifeqB (tgt := 35) hx hb dX9_sinks_29 (by decide) (fun c_29 => ?_) (fun c_29 => ?_)
      · have hb_29 := zb_neg hv26_0 c_29
        refine z_iinc (k := 1) (v := i + 1) (lv' := [(2, .int (zI (i + 1))), (1, .int (zI g)), (0, .ref (α 0))]) hx hb dX9_sinks_35 hl rfl rfl (by decide) rfl (fun ls hl => ?_)
        refine lv_goto (tgt := 15) hx hb dX9_sinks_38 (by decide) ?_
        exact ih_15 g (i + 1) _ _ hP hD hS _ (lv_sub hl [1, 0, 2] rfl) (by first | assumption | rfl | omega) (by rw [zC_up hi.1, ← hg]; first | (rw [z1_t (decide_eq_true hb_29)]; done) | (rw [z1_f (decide_eq_false hb_29)]; omega)) (by first | assumption | rfl | omega) (by omega)
      · have hb_29 := hv26_0.mp c_29
        refine z_iinc (k := 0) (v := g + 1) (lv' := [(1, .int (zI (g + 1))), (2, .int (zI i)), (0, .ref (α 0))]) hx hb dX9_sinks_32 hl rfl rfl (by decide) rfl (fun ls hl => ?_)
        refine z_iinc (k := 1) (v := i + 1) (lv' := [(2, .int (zI (i + 1))), (1, .int (zI (g + 1))), (0, .ref (α 0))]) hx hb dX9_sinks_35 hl rfl rfl (by decide) rfl (fun ls hl => ?_)
        refine lv_goto (tgt := 15) hx hb dX9_sinks_38 (by decide) ?_
        exact ih_15 (g + 1) (i + 1) _ _ hP hD hS _ (lv_sub hl [1, 0, 2] rfl) (by first | assumption | rfl | omega) (by rw [zC_up hi.1, ← hg]; first | (rw [z1_t (decide_eq_true hb_29)]; done) | (rw [z1_f (decide_eq_false hb_29)]; omega)) (by first | assumption | rfl | omega) (by omega)

abbrev wz_X9_greatestBasin : List Cond := .code yX9_greatestBasin cX9_greatestBasin 5 (some .int) :: W0
abbrev rm_X9_greatestBasin : Room := { frames := 3, cells := 0, slots := 0, locals := 67 }
theorem hd_X9_greatestBasin : yX9_greatestBasin.cls = RX9 ∧ yX9_greatestBasin.cls ≠ "java/lang/invoke/MethodHandle" ∧ yX9_greatestBasin.cls ≠ "java/lang/invoke/VarHandle" ∧ (parseMethodDescriptor yX9_greatestBasin.desc).map (fun d => d.parameters.length) = some 0 := by decide +kernel
set_option maxHeartbeats 4000000 in
set_option maxRecDepth 100000 in
theorem c_X9_greatestBasin (l : Launch) (D : va_G) (τ : Nat → Nat) (α : Nat → Nat) (γ : Nat → ClassId) (h : IA) (old : IA) (ch : IA) (rg : TRg) (ln : TLn) (nx : IA) (dr : IA) (qu : IA) (pd : TPd) (ct : TCt) (sg : TSg) (od : TOd) (hs : THs) (hh : ∀ k, 0 ≤ k → k < 49 → 0 ≤ h k ∧ h k ≤ 99) : cM l yX9_greatestBasin wz_X9_greatestBasin rm_X9_greatestBasin D τ (tyH γ) [.ref (α 0)] (wH α γ (h, old, ch) rg ln (nx, dr, qu) pd ct sg od hs) (zQi (fun r w => ∃ (n2 : IA), ∃ (d2 : IA), ∃ (q2 : IA), ∃ (v : Int), (v = S_arg (S_basin h) 49) ∧ (0 ≤ v ∧ v < 49) ∧ r = zI v ∧ wH α γ (h, old, ch) rg ln (n2, d2, q2) pd ct sg od hs = w)) := by
  refine z_ofM (cc := cX9_greatestBasin) (maxL := 5) (ret := (some .int)) (by decide +kernel) rfl (Nat.le_of_ble_eq_true rfl) ?_
  intro pg e s m args below meth c hC hr hlk hnm hK hP A hD hG hA hS ls hl Q hQ
  have hx := hC.1
  have hb := hC.2.1
  have hml := hC.2.2.1
  have hown := hC.2.2.2.1
  have hts := hC.2.2.2.2
  have hB : ∀ w ∈ W0, w ∈ wz_X9_greatestBasin := fun _ h => List.mem_cons_of_mem _ h
  have hW0 : ∀ w ∈ W0, w.before args s = true := fun w h => hts w (hB w h)
  have hl : lv_has ls 5 [(0, .ref (α 0))] := hl
  refine lv_aload_n hx hb dX9_greatestBasin_0 rfl (lv_at hl 0 rfl) ?_
  refine va_get (D := D) (ci := 9) (v := .ref (α 4)) (C := RX9) (T := TX9) (N := 9) hx hb hts (fun w h => List.mem_cons_of_mem _ (wx_X9 w h)) hown hK hP 0 rfl rfl 3 (by decide) (hW0 _ wf_X9_33) (fun _ h9 => h9) rfl dX9_greatestBasin_1 ?_
  refine lv_aload_n hx hb dX9_greatestBasin_4 rfl (lv_at hl 0 rfl) ?_
  refine va_get (D := D) (ci := 9) (v := .ref (α 1)) (C := RX9) (T := TX9) (N := 9) hx hb hts (fun w h => List.mem_cons_of_mem _ (wx_X9 w h)) hown hK hP 0 rfl rfl 0 (by decide) (hW0 _ wf_X9_12) (fun _ h9 => h9) rfl dX9_greatestBasin_5 ?_
  refine z_callv hP hD hS hA (va_runV (As := [.ref (α 1)]) (rest := []) hC (c_X8_read l D τ α γ h old ch rg ln nx dr qu pd ct sg od hs (by first | assumption | rfl | omega) _) (cwV 1 hts (gV hB wl_X9_106 wn_X8_read ws_X8_read wi_X8 wc_X8_read) rfl rfl rfl hd_X8_read ⟨Nat.le_of_ble_eq_true rfl, Nat.le_of_ble_eq_true rfl⟩) (zp_V hK hP hD hS hA hG (ci := 8) (q0 := 4) rfl rfl rfl) rfl rfl hl.1 rfl (lv_room (Nat.le_of_ble_eq_true rfl)) dX9_greatestBasin_8 ⟨Nat.le_of_ble_eq_true rfl, Nat.le_of_ble_eq_true rfl⟩) (fun w1 H locs hq9 hP hD hS => ?_)
  obtain ⟨n8_1, d8_2, hv8_0, hv8_1, rfl⟩ := hq9
  have hP : va_P D vwCl (wH α γ (h, old, ch) rg ln (n8_1, d8_2, qu) pd ct sg od hs) H := hP
  have hD : va_D A (wH α γ (h, old, ch) rg ln (n8_1, d8_2, qu) pd ct sg od hs) := hD
  refine lv_iconst (v := zI 0) hx hb dX9_greatestBasin_11 rfl ?_
  refine lv_istore_n (lv' := [(1, .int (zI 0)), (0, .ref (α 0))]) hx hb dX9_greatestBasin_12 rfl hl (by decide) rfl (fun ls hl => ?_)
  refine lv_iconst (v := zI 0) hx hb dX9_greatestBasin_13 rfl ?_
  refine lv_istore_n (lv' := [(2, .int (zI 0)), (1, .int (zI 0)), (0, .ref (α 0))]) hx hb dX9_greatestBasin_14 rfl hl (by decide) rfl (fun ls hl => ?_)
  refine lv_iconst (v := zI 0) hx hb dX9_greatestBasin_15 rfl ?_
  refine lv_istore_n (lv' := [(3, .int (zI 0)), (2, .int (zI 0)), (1, .int (zI 0)), (0, .ref (α 0))]) hx hb dX9_greatestBasin_16 rfl hl (by decide) rfl (fun ls hl => ?_)
  suffices HL_17 : ∀ (n_17 : Nat), ∀ (qq : IA) (q : Int) (mz : Int) (i : Int) (H : Heap) (locs : List Loc) (hP : va_P D vwCl (wH α γ (h, old, ch) rg ln (n8_1, d8_2, qq) pd ct sg od hs) H) (hD : va_D A (wH α γ (h, old, ch) rg ln (n8_1, d8_2, qq) pd ct sg od hs)) (hS : va_S A s.heap H locs) (ls : Array Slot) (hl : lv_has ls 5 [(1, .int (zI q)), (2, .int (zI mz)), (3, .int (zI i)), (0, .ref (α 0))]) (hi : 0 ≤ i ∧ i ≤ 49) (hq : q = S_arg (S_basin h) i) (hqb : 0 ≤ q ∧ q < 49) (hmz : (i = 0 ∧ mz ≤ S_basin h 0 ∧ (S_basin h 0 ≤ mz → mz = S_basin h 0)) ∨ (1 ≤ i ∧ mz = S_basin h q)) (hmb : 0 ≤ mz ∧ mz ≤ 49) (hm : (49 - i).toNat < n_17), W pg l e rm_X9_greatestBasin s m args below meth c H locs 0 0 Q (F0 m 17 ls []) from HL_17 _ qu 0 0 0 _ _ hP hD hS _ (lv_sub hl [2, 1, 0, 3] rfl) (by first | assumption | rfl | omega) (by exact (S_arg_0 _).symm) (by first | assumption | rfl | omega) (by have z9 := S_basin_b h 0; exact Or.inl ⟨rfl, by omega, fun _ => by omega⟩) (by first | assumption | rfl | omega) (Nat.lt_succ_self _)
  intro n_17
  induction n_17 with
  | zero => intro qq q mz i H locs hP hD hS ls hl hi hq hqb hmz hmb hm; exact absurd hm (Nat.not_lt_zero _)
  | succ n_17 ih_17 =>
    intro qq q mz i H locs hP hD hS ls hl hi hq hqb hmz hmb hm
    refine lv_iload_n hx hb dX9_greatestBasin_17 rfl (lv_at hl 2 rfl) ?_
    refine lv_bipush (v := zI 49) hx hb dX9_greatestBasin_18 (zI_b8 (by decide)) ?_
    refine z_icge (tgt := 65) hx hb ⟨by omega, by omega⟩ ⟨by omega, by omega⟩ dX9_greatestBasin_20 (by decide) (fun c_20 => ?_) (fun c_20 => ?_)
    · refine lv_iload_n hx hb dX9_greatestBasin_65 rfl (lv_at hl 0 rfl) ?_
      exact z_iret hC hr hlk hQ hP hD hS ⟨n8_1, d8_2, qq, q, (by rw [hq, show i = 49 by omega]), (by omega), rfl, rfl⟩ dX9_greatestBasin_66
    · refine lv_aload_n hx hb dX9_greatestBasin_23 rfl (lv_at hl 3 rfl) ?_
      refine va_get (D := D) (ci := 9) (v := .ref (α 4)) (C := RX9) (T := TX9) (N := 9) hx hb hts (fun w h => List.mem_cons_of_mem _ (wx_X9 w h)) hown hK hP 0 rfl rfl 3 (by decide) (hW0 _ wf_X9_33) (fun _ h9 => h9) rfl dX9_greatestBasin_24 ?_
      refine lv_iload_n hx hb dX9_greatestBasin_27 rfl (lv_at hl 2 rfl) ?_
      refine z_calli hP hD hS hA (va_runV (As := [.int (zI i)]) (rest := []) hC (c_X8_isLowest l D τ α γ (h, old, ch) rg ln n8_1 d8_2 qq pd ct sg od hs h i (by first | assumption | rfl | omega) (by intro k z1 z2; rw [hv8_0, zmix_at ⟨z1, z2⟩]) _) (cwV 1 hts (gV hB wl_X9_210 wn_X8_isLowest ws_X8_isLowest wi_X8 wc_X8_isLowest) rfl rfl rfl hd_X8_isLowest ⟨Nat.le_of_ble_eq_true rfl, Nat.le_of_ble_eq_true rfl⟩) (zp_V hK hP hD hS hA hG (ci := 8) (q0 := 4) rfl rfl rfl) rfl rfl hl.1 rfl (lv_room (Nat.le_of_ble_eq_true rfl)) dX9_greatestBasin_28 ⟨Nat.le_of_ble_eq_true rfl, Nat.le_of_ble_eq_true rfl⟩) (fun r w1 H locs hq9 hP hD hS => ?_)
      obtain ⟨v28_3, hv28_0, rfl, rfl⟩ := hq9
      have hP : va_P D vwCl (wH α γ (h, old, ch) rg ln (n8_1, d8_2, qq) pd ct sg od hs) H := hP
      have hD : va_D A (wH α γ (h, old, ch) rg ln (n8_1, d8_2, qq) pd ct sg od hs) := hD
      refine z_ifeqB (tgt := 45) hx hb dX9_greatestBasin_31 (by decide) (fun c_31 => ?_) (fun c_31 => ?_)
      · have hb_31 := zb_neg hv28_0 c_31
        refine lv_iconst (v := zI 0) hx hb dX9_greatestBasin_45 rfl ?_
        refine lv_istore (lv' := [(4, .int (zI 0)), (1, .int (zI q)), (2, .int (zI mz)), (3, .int (zI i)), (0, .ref (α 0))]) hx hb dX9_greatestBasin_46 hl (by decide) rfl (fun ls hl => ?_)
        have hup := arg_up (f := S_basin h) hi.1 hq hmz
        have hsz : 0 = S_basin h i := by unfold S_basin; first | (rw [if_pos hb_31]; exact hv39_0) | (rw [if_neg hb_31]; done)
        refine lv_iload hx hb dX9_greatestBasin_48 (lv_at hl 0 rfl) ?_
        refine lv_iload_n hx hb dX9_greatestBasin_50 rfl (lv_at hl 2 rfl) ?_
        refine z_icle (tgt := 59) hx hb ⟨by omega, by omega⟩ ⟨by omega, by omega⟩ dX9_greatestBasin_51 (by decide) (fun c_51 => ?_) (fun c_51 => ?_)
        · refine z_iinc (k := 3) (v := i + 1) (lv' := [(3, .int (zI (i + 1))), (4, .int (zI 0)), (1, .int (zI q)), (2, .int (zI mz)), (0, .ref (α 0))]) hx hb dX9_greatestBasin_59 hl rfl rfl (by decide) rfl (fun ls hl => ?_)
          refine lv_goto (tgt := 17) hx hb dX9_greatestBasin_62 (by decide) ?_
          exact ih_17 qq q mz (i + 1) _ _ hP hD hS _ (lv_sub hl [2, 3, 0, 4] rfl) (by first | assumption | rfl | omega) (by first | exact (hup.1 (by rw [← hsz]; omega)).1 | exact (hup.2 (by rw [← hsz]; omega)).1) (by first | assumption | rfl | omega) (by refine Or.inr ⟨by omega, ?_⟩; first | exact hsz | exact (hup.2 (by rw [← hsz]; omega)).2) (by first | assumption | rfl | omega) (by omega)
        · refine lv_iload hx hb dX9_greatestBasin_54 (lv_at hl 0 rfl) ?_
          refine lv_istore_n (lv' := [(2, .int (zI 0)), (4, .int (zI 0)), (1, .int (zI q)), (3, .int (zI i)), (0, .ref (α 0))]) hx hb dX9_greatestBasin_56 rfl hl (by decide) rfl (fun ls hl => ?_)
          refine lv_iload_n hx hb dX9_greatestBasin_57 rfl (lv_at hl 3 rfl) ?_
          refine lv_istore_n (lv' := [(1, .int (zI i)), (2, .int (zI 0)), (4, .int (zI 0)), (3, .int (zI i)), (0, .ref (α 0))]) hx hb dX9_greatestBasin_58 rfl hl (by decide) rfl (fun ls hl => ?_)
          refine z_iinc (k := 3) (v := i + 1) (lv' := [(3, .int (zI (i + 1))), (1, .int (zI i)), (2, .int (zI 0)), (4, .int (zI 0)), (0, .ref (α 0))]) hx hb dX9_greatestBasin_59 hl rfl rfl (by decide) rfl (fun ls hl => ?_)
          refine lv_goto (tgt := 17) hx hb dX9_greatestBasin_62 (by decide) ?_
          exact ih_17 qq i 0 (i + 1) _ _ hP hD hS _ (lv_sub hl [1, 2, 0, 4] rfl) (by first | assumption | rfl | omega) (by first | exact (hup.1 (by rw [← hsz]; omega)).1 | exact (hup.2 (by rw [← hsz]; omega)).1) (by first | assumption | rfl | omega) (by refine Or.inr ⟨by omega, ?_⟩; first | exact hsz | exact (hup.2 (by rw [← hsz]; omega)).2) (by first | assumption | rfl | omega) (by omega)
      · have hb_31 := hv28_0.mp c_31
        refine lv_aload_n hx hb dX9_greatestBasin_34 rfl (lv_at hl 3 rfl) ?_
        refine va_get (D := D) (ci := 9) (v := .ref (α 4)) (C := RX9) (T := TX9) (N := 9) hx hb hts (fun w h => List.mem_cons_of_mem _ (wx_X9 w h)) hown hK hP 0 rfl rfl 3 (by decide) (hW0 _ wf_X9_33) (fun _ h9 => h9) rfl dX9_greatestBasin_35 ?_
        refine lv_iload_n hx hb dX9_greatestBasin_38 rfl (lv_at hl 2 rfl) ?_
        refine z_calli hP hD hS hA (va_runV (As := [.int (zI i)]) (rest := []) hC (c_X8_countGoingUp l D τ α γ (h, old, ch) rg ln n8_1 d8_2 qq pd ct sg od hs h i (by first | assumption | rfl | omega) (by intro k z1 z2; rw [hv8_0, zmix_at ⟨z1, z2⟩]) _) (cwV 1 hts (gV hB wl_X9_226 wn_X8_countGoingUp ws_X8_countGoingUp wi_X8 wc_X8_countGoingUp) rfl rfl rfl hd_X8_countGoingUp ⟨Nat.le_of_ble_eq_true rfl, Nat.le_of_ble_eq_true rfl⟩) (zp_V hK hP hD hS hA hG (ci := 8) (q0 := 4) rfl rfl rfl) rfl rfl hl.1 rfl (lv_room (Nat.le_of_ble_eq_true rfl)) dX9_greatestBasin_39 ⟨Nat.le_of_ble_eq_true rfl, Nat.le_of_ble_eq_true rfl⟩) (fun r w1 H locs hq9 hP hD hS => ?_)
        obtain ⟨q39_4, v39_5, hv39_0, hv39_1, rfl, rfl⟩ := hq9
        have hP : va_P D vwCl (wH α γ (h, old, ch) rg ln (n8_1, d8_2, q39_4) pd ct sg od hs) H := hP
        have hD : va_D A (wH α γ (h, old, ch) rg ln (n8_1, d8_2, q39_4) pd ct sg od hs) := hD
        refine lv_goto (tgt := 46) hx hb dX9_greatestBasin_42 (by decide) ?_
        refine lv_istore (lv' := [(4, .int (zI v39_5)), (1, .int (zI q)), (2, .int (zI mz)), (3, .int (zI i)), (0, .ref (α 0))]) hx hb dX9_greatestBasin_46 hl (by decide) rfl (fun ls hl => ?_)
        have hup := arg_up (f := S_basin h) hi.1 hq hmz
        have hsz : v39_5 = S_basin h i := by unfold S_basin; first | (rw [if_pos hb_31]; exact hv39_0) | (rw [if_neg hb_31]; done)
        refine lv_iload hx hb dX9_greatestBasin_48 (lv_at hl 0 rfl) ?_
        refine lv_iload_n hx hb dX9_greatestBasin_50 rfl (lv_at hl 2 rfl) ?_
        refine z_icle (tgt := 59) hx hb ⟨by omega, by omega⟩ ⟨by omega, by omega⟩ dX9_greatestBasin_51 (by decide) (fun c_51 => ?_) (fun c_51 => ?_)
        · refine z_iinc (k := 3) (v := i + 1) (lv' := [(3, .int (zI (i + 1))), (4, .int (zI v39_5)), (1, .int (zI q)), (2, .int (zI mz)), (0, .ref (α 0))]) hx hb dX9_greatestBasin_59 hl rfl rfl (by decide) rfl (fun ls hl => ?_)
          refine lv_goto (tgt := 17) hx hb dX9_greatestBasin_62 (by decide) ?_
          exact ih_17 q39_4 q mz (i + 1) _ _ hP hD hS _ (lv_sub hl [2, 3, 0, 4] rfl) (by first | assumption | rfl | omega) (by first | exact (hup.1 (by rw [← hsz]; omega)).1 | exact (hup.2 (by rw [← hsz]; omega)).1) (by first | assumption | rfl | omega) (by refine Or.inr ⟨by omega, ?_⟩; first | exact hsz | exact (hup.2 (by rw [← hsz]; omega)).2) (by first | assumption | rfl | omega) (by omega)
        · refine lv_iload hx hb dX9_greatestBasin_54 (lv_at hl 0 rfl) ?_
          refine lv_istore_n (lv' := [(2, .int (zI v39_5)), (4, .int (zI v39_5)), (1, .int (zI q)), (3, .int (zI i)), (0, .ref (α 0))]) hx hb dX9_greatestBasin_56 rfl hl (by decide) rfl (fun ls hl => ?_)
          refine lv_iload_n hx hb dX9_greatestBasin_57 rfl (lv_at hl 3 rfl) ?_
          refine lv_istore_n (lv' := [(1, .int (zI i)), (2, .int (zI v39_5)), (4, .int (zI v39_5)), (3, .int (zI i)), (0, .ref (α 0))]) hx hb dX9_greatestBasin_58 rfl hl (by decide) rfl (fun ls hl => ?_)
          refine z_iinc (k := 3) (v := i + 1) (lv' := [(3, .int (zI (i + 1))), (1, .int (zI i)), (2, .int (zI v39_5)), (4, .int (zI v39_5)), (0, .ref (α 0))]) hx hb dX9_greatestBasin_59 hl rfl rfl (by decide) rfl (fun ls hl => ?_)
          refine lv_goto (tgt := 17) hx hb dX9_greatestBasin_62 (by decide) ?_
          exact ih_17 q39_4 i v39_5 (i + 1) _ _ hP hD hS _ (lv_sub hl [1, 2, 0, 4] rfl) (by first | assumption | rfl | omega) (by first | exact (hup.1 (by rw [← hsz]; omega)).1 | exact (hup.2 (by rw [← hsz]; omega)).1) (by first | assumption | rfl | omega) (by refine Or.inr ⟨by omega, ?_⟩; first | exact hsz | exact (hup.2 (by rw [← hsz]; omega)).2) (by first | assumption | rfl | omega) (by omega)

abbrev wz_X9_spillByWays : List Cond := .code yX9_spillByWays cX9_spillByWays 4 (some .int) :: W0
abbrev rm_X9_spillByWays : Room := { frames := 4, cells := 0, slots := 0, locals := 91 }
theorem hd_X9_spillByWays : yX9_spillByWays.cls = RX9 ∧ yX9_spillByWays.cls ≠ "java/lang/invoke/MethodHandle" ∧ yX9_spillByWays.cls ≠ "java/lang/invoke/VarHandle" ∧ (parseMethodDescriptor yX9_spillByWays.desc).map (fun d => d.parameters.length) = some 2 := by decide +kernel
set_option maxHeartbeats 4000000 in
set_option maxRecDepth 100000 in
theorem c_X9_spillByWays (l : Launch) (D : va_G) (τ : Nat → Nat) (α : Nat → Nat) (γ : Nat → ClassId) (h : IA) (old : IA) (ch : IA) (rg : TRg) (ln : TLn) (sl : TSl) (wy : IA) (lv : IA) (ct : TCt) (sg : TSg) (od : TOd) (hs : THs) (r9 : Int) (c9 : Int) (hr9 : 0 ≤ r9 ∧ r9 ≤ 6) (hc9 : 0 ≤ c9 ∧ c9 ≤ 6) (hh : ∀ k, 0 ≤ k → k < 49 → 0 ≤ h k ∧ h k ≤ 99) : cM l yX9_spillByWays wz_X9_spillByWays rm_X9_spillByWays D τ (tyH γ) [.ref (α 0), .int (zI r9), .int (zI c9)] (wH α γ (h, old, ch) rg ln sl (wy, lv) ct sg od hs) (zQi (fun r w => ∃ (w2 : IA), ∃ (v : Int), (True) ∧ (v = S_spill h (7 * r9 + c9)) ∧ r = zI v ∧ wH α γ (h, old, ch) rg ln sl (w2, lv) ct sg od hs = w)) := by
  refine z_ofM (cc := cX9_spillByWays) (maxL := 4) (ret := (some .int)) (by decide +kernel) rfl (Nat.le_of_ble_eq_true rfl) ?_
  intro pg e s m args below meth c hC hr hlk hnm hK hP A hD hG hA hS ls hl Q hQ
  have hx := hC.1
  have hb := hC.2.1
  have hml := hC.2.2.1
  have hown := hC.2.2.2.1
  have hts := hC.2.2.2.2
  have hB : ∀ w ∈ W0, w ∈ wz_X9_spillByWays := fun _ h => List.mem_cons_of_mem _ h
  have hW0 : ∀ w ∈ W0, w.before args s = true := fun w h => hts w (hB w h)
  have hl : lv_has ls 4 [(0, .ref (α 0)), (1, .int (zI r9)), (2, .int (zI c9))] := hl
  refine lv_iload_n hx hb dX9_spillByWays_0 rfl (lv_at hl 1 rfl) ?_
  refine lv_iload_n hx hb dX9_spillByWays_1 rfl (lv_at hl 2 rfl) ?_
  refine z_calli hP hD hS hA (va_runS (As := [.int (zI r9), .int (zI c9)]) (rest := []) hC (c_X9_knownPoint l D τ _ _ r9 c9 (by first | assumption | rfl | omega) _) (va_cwS 2 hts (gS hB wl_X9_72 wt_X9_knownPoint wi_X9 wc_X9_knownPoint) rfl rfl rfl hd_X9_knownPoint.2 ⟨Nat.le_of_ble_eq_true rfl, Nat.le_of_ble_eq_true rfl⟩) (zp_S hK hP hD hS hA hG) rfl rfl hl.1 rfl (lv_room (Nat.le_of_ble_eq_true rfl)) dX9_spillByWays_2 ⟨Nat.le_of_ble_eq_true rfl, Nat.le_of_ble_eq_true rfl⟩) (fun r w1 H locs hq9 hP hD hS => ?_)
  obtain ⟨v2_1, hv2_0, hv2_1, hv2_2, rfl, rfl⟩ := hq9
  refine lv_istore_n (lv' := [(3, .int (zI v2_1)), (0, .ref (α 0)), (1, .int (zI r9)), (2, .int (zI c9))]) hx hb dX9_spillByWays_5 rfl hl (by decide) rfl (fun ls hl => ?_)
  refine lv_aload_n hx hb dX9_spillByWays_6 rfl (lv_at hl 1 rfl) ?_
  refine va_get (D := D) (ci := 9) (v := .ref (α 5)) (C := RX9) (T := TX9) (N := 9) hx hb hts (fun w h => List.mem_cons_of_mem _ (wx_X9 w h)) hown hK hP 0 rfl rfl 4 (by decide) (hW0 _ wf_X9_40) (fun _ h9 => h9) rfl dX9_spillByWays_7 ?_
  refine lv_aload_n hx hb dX9_spillByWays_10 rfl (lv_at hl 1 rfl) ?_
  refine va_get (D := D) (ci := 9) (v := .ref (α 1)) (C := RX9) (T := TX9) (N := 9) hx hb hts (fun w h => List.mem_cons_of_mem _ (wx_X9 w h)) hown hK hP 0 rfl rfl 0 (by decide) (hW0 _ wf_X9_12) (fun _ h9 => h9) rfl dX9_spillByWays_11 ?_
  refine z_callv hP hD hS hA (va_runV (As := [.ref (α 1)]) (rest := []) hC (c_X4_readByWays l D τ α γ h old ch rg ln sl wy lv ct sg od hs (by first | assumption | rfl | omega) _) (cwV 1 hts (gV hB wl_X9_232 wn_X4_readByWays ws_X4_readByWays wi_X4 wc_X4_readByWays) rfl rfl rfl hd_X4_readByWays ⟨Nat.le_of_ble_eq_true rfl, Nat.le_of_ble_eq_true rfl⟩) (zp_V hK hP hD hS hA hG (ci := 4) (q0 := 5) rfl rfl rfl) rfl rfl hl.1 rfl (lv_room (Nat.le_of_ble_eq_true rfl)) dX9_spillByWays_14 ⟨Nat.le_of_ble_eq_true rfl, Nat.le_of_ble_eq_true rfl⟩) (fun w1 H locs hq9 hP hD hS => ?_)
  obtain ⟨w14_2, hv14_0, rfl⟩ := hq9
  have hP : va_P D vwCl (wH α γ (h, old, ch) rg ln sl (w14_2, lv) ct sg od hs) H := hP
  have hD : va_D A (wH α γ (h, old, ch) rg ln sl (w14_2, lv) ct sg od hs) := hD
  refine lv_aload_n hx hb dX9_spillByWays_17 rfl (lv_at hl 1 rfl) ?_
  refine va_get (D := D) (ci := 9) (v := .ref (α 5)) (C := RX9) (T := TX9) (N := 9) hx hb hts (fun w h => List.mem_cons_of_mem _ (wx_X9 w h)) hown hK hP 0 rfl rfl 4 (by decide) (hW0 _ wf_X9_40) (fun _ h9 => h9) rfl dX9_spillByWays_18 ?_
  refine lv_iload_n hx hb dX9_spillByWays_21 rfl (lv_at hl 0 rfl) ?_
  refine z_calli hP hD hS hA (va_runV (As := [.int (zI v2_1)]) (rest := []) hC (c_X4_wayHeight l D τ α γ (h, old, ch) rg ln sl w14_2 lv ct sg od hs h v2_1 (by omega) (by exact hv14_0) _) (cwV 1 hts (gV hB wl_X9_235 wn_X4_wayHeight ws_X4_wayHeight wi_X4 wc_X4_wayHeight) rfl rfl rfl hd_X4_wayHeight ⟨Nat.le_of_ble_eq_true rfl, Nat.le_of_ble_eq_true rfl⟩) (zp_V hK hP hD hS hA hG (ci := 4) (q0 := 5) rfl rfl rfl) rfl rfl hl.1 rfl (lv_room (Nat.le_of_ble_eq_true rfl)) dX9_spillByWays_22 ⟨Nat.le_of_ble_eq_true rfl, Nat.le_of_ble_eq_true rfl⟩) (fun r w1 H locs hq9 hP hD hS => ?_)
  obtain ⟨v22_3, hv22_0, hv22_1, rfl, rfl⟩ := hq9
  have hP : va_P D vwCl (wH α γ (h, old, ch) rg ln sl (w14_2, lv) ct sg od hs) H := hP
  have hD : va_D A (wH α γ (h, old, ch) rg ln sl (w14_2, lv) ct sg od hs) := hD
  exact z_iret hC hr hlk hQ hP hD hS ⟨w14_2, v22_3, (by trivial), (by rw [hv22_0, hv2_1]), rfl, rfl⟩ dX9_spillByWays_25

abbrev wz_X9_spillByLevels : List Cond := .code yX9_spillByLevels cX9_spillByLevels 4 (some .int) :: W0
abbrev rm_X9_spillByLevels : Room := { frames := 5, cells := 0, slots := 0, locals := 115 }
theorem hd_X9_spillByLevels : yX9_spillByLevels.cls = RX9 ∧ yX9_spillByLevels.cls ≠ "java/lang/invoke/MethodHandle" ∧ yX9_spillByLevels.cls ≠ "java/lang/invoke/VarHandle" ∧ (parseMethodDescriptor yX9_spillByLevels.desc).map (fun d => d.parameters.length) = some 2 := by decide +kernel
set_option maxHeartbeats 4000000 in
set_option maxRecDepth 100000 in
theorem c_X9_spillByLevels (l : Launch) (D : va_G) (τ : Nat → Nat) (α : Nat → Nat) (γ : Nat → ClassId) (h : IA) (old : IA) (ch : IA) (wt : BA) (qu5 : IA) (ln : TLn) (sl : TSl) (wy : IA) (lv : IA) (ct : TCt) (sg : TSg) (od : TOd) (hs : THs) (r9 : Int) (c9 : Int) (hr9 : 0 ≤ r9 ∧ r9 ≤ 6) (hc9 : 0 ≤ c9 ∧ c9 ≤ 6) (hh : ∀ k, 0 ≤ k → k < 49 → 0 ≤ h k ∧ h k ≤ 99) : cM l yX9_spillByLevels wz_X9_spillByLevels rm_X9_spillByLevels D τ (tyH γ) [.ref (α 0), .int (zI r9), .int (zI c9)] (wH α γ (h, old, ch) (wt, qu5) ln sl (wy, lv) ct sg od hs) (zQi (fun r w => ∃ (l2 : IA), ∃ (w2 : BA), ∃ (q2 : IA), ∃ (v : Int), (True) ∧ (v = S_spill h (7 * r9 + c9)) ∧ r = zI v ∧ wH α γ (h, old, ch) (w2, q2) ln sl (wy, l2) ct sg od hs = w)) := by
  refine z_ofM (cc := cX9_spillByLevels) (maxL := 4) (ret := (some .int)) (by decide +kernel) rfl (Nat.le_of_ble_eq_true rfl) ?_
  intro pg e s m args below meth c hC hr hlk hnm hK hP A hD hG hA hS ls hl Q hQ
  have hx := hC.1
  have hb := hC.2.1
  have hml := hC.2.2.1
  have hown := hC.2.2.2.1
  have hts := hC.2.2.2.2
  have hB : ∀ w ∈ W0, w ∈ wz_X9_spillByLevels := fun _ h => List.mem_cons_of_mem _ h
  have hW0 : ∀ w ∈ W0, w.before args s = true := fun w h => hts w (hB w h)
  have hl : lv_has ls 4 [(0, .ref (α 0)), (1, .int (zI r9)), (2, .int (zI c9))] := hl
  refine lv_iload_n hx hb dX9_spillByLevels_0 rfl (lv_at hl 1 rfl) ?_
  refine lv_iload_n hx hb dX9_spillByLevels_1 rfl (lv_at hl 2 rfl) ?_
  refine z_calli hP hD hS hA (va_runS (As := [.int (zI r9), .int (zI c9)]) (rest := []) hC (c_X9_knownPoint l D τ _ _ r9 c9 (by first | assumption | rfl | omega) _) (va_cwS 2 hts (gS hB wl_X9_72 wt_X9_knownPoint wi_X9 wc_X9_knownPoint) rfl rfl rfl hd_X9_knownPoint.2 ⟨Nat.le_of_ble_eq_true rfl, Nat.le_of_ble_eq_true rfl⟩) (zp_S hK hP hD hS hA hG) rfl rfl hl.1 rfl (lv_room (Nat.le_of_ble_eq_true rfl)) dX9_spillByLevels_2 ⟨Nat.le_of_ble_eq_true rfl, Nat.le_of_ble_eq_true rfl⟩) (fun r w1 H locs hq9 hP hD hS => ?_)
  obtain ⟨v2_1, hv2_0, hv2_1, hv2_2, rfl, rfl⟩ := hq9
  refine lv_istore_n (lv' := [(3, .int (zI v2_1)), (0, .ref (α 0)), (1, .int (zI r9)), (2, .int (zI c9))]) hx hb dX9_spillByLevels_5 rfl hl (by decide) rfl (fun ls hl => ?_)
  refine lv_aload_n hx hb dX9_spillByLevels_6 rfl (lv_at hl 1 rfl) ?_
  refine va_get (D := D) (ci := 9) (v := .ref (α 5)) (C := RX9) (T := TX9) (N := 9) hx hb hts (fun w h => List.mem_cons_of_mem _ (wx_X9 w h)) hown hK hP 0 rfl rfl 4 (by decide) (hW0 _ wf_X9_40) (fun _ h9 => h9) rfl dX9_spillByLevels_7 ?_
  refine lv_aload_n hx hb dX9_spillByLevels_10 rfl (lv_at hl 1 rfl) ?_
  refine va_get (D := D) (ci := 9) (v := .ref (α 1)) (C := RX9) (T := TX9) (N := 9) hx hb hts (fun w h => List.mem_cons_of_mem _ (wx_X9 w h)) hown hK hP 0 rfl rfl 0 (by decide) (hW0 _ wf_X9_12) (fun _ h9 => h9) rfl dX9_spillByLevels_11 ?_
  refine lv_aload_n hx hb dX9_spillByLevels_14 rfl (lv_at hl 1 rfl) ?_
  refine va_get (D := D) (ci := 9) (v := .ref (α 2)) (C := RX9) (T := TX9) (N := 9) hx hb hts (fun w h => List.mem_cons_of_mem _ (wx_X9 w h)) hown hK hP 0 rfl rfl 1 (by decide) (hW0 _ wf_X9_19) (fun _ h9 => h9) rfl dX9_spillByLevels_15 ?_
  refine z_callv hP hD hS hA (va_runV (As := [.ref (α 1), .ref (α 2)]) (rest := []) hC (c_X4_readByLevels l D τ α γ h old ch wt qu5 ln sl wy lv ct sg od hs (by first | assumption | rfl | omega) _) (cwV 2 hts (gV hB wl_X9_238 wn_X4_readByLevels ws_X4_readByLevels wi_X4 wc_X4_readByLevels) rfl rfl rfl hd_X4_readByLevels ⟨Nat.le_of_ble_eq_true rfl, Nat.le_of_ble_eq_true rfl⟩) (zp_V hK hP hD hS hA hG (ci := 4) (q0 := 5) rfl rfl rfl) rfl rfl hl.1 rfl (lv_room (Nat.le_of_ble_eq_true rfl)) dX9_spillByLevels_18 ⟨Nat.le_of_ble_eq_true rfl, Nat.le_of_ble_eq_true rfl⟩) (fun w1 H locs hq9 hP hD hS => ?_)
  obtain ⟨l18_2, w18_3, q18_4, hv18_0, rfl⟩ := hq9
  have hP : va_P D vwCl (wH α γ (h, old, ch) (w18_3, q18_4) ln sl (wy, l18_2) ct sg od hs) H := hP
  have hD : va_D A (wH α γ (h, old, ch) (w18_3, q18_4) ln sl (wy, l18_2) ct sg od hs) := hD
  refine lv_aload_n hx hb dX9_spillByLevels_21 rfl (lv_at hl 1 rfl) ?_
  refine va_get (D := D) (ci := 9) (v := .ref (α 5)) (C := RX9) (T := TX9) (N := 9) hx hb hts (fun w h => List.mem_cons_of_mem _ (wx_X9 w h)) hown hK hP 0 rfl rfl 4 (by decide) (hW0 _ wf_X9_40) (fun _ h9 => h9) rfl dX9_spillByLevels_22 ?_
  refine lv_iload_n hx hb dX9_spillByLevels_25 rfl (lv_at hl 0 rfl) ?_
  refine z_calli hP hD hS hA (va_runV (As := [.int (zI v2_1)]) (rest := []) hC (c_X4_levelHeight l D τ α γ (h, old, ch) (w18_3, q18_4) ln sl wy l18_2 ct sg od hs h v2_1 (by omega) (by exact hv18_0) _) (cwV 1 hts (gV hB wl_X9_242 wn_X4_levelHeight ws_X4_levelHeight wi_X4 wc_X4_levelHeight) rfl rfl rfl hd_X4_levelHeight ⟨Nat.le_of_ble_eq_true rfl, Nat.le_of_ble_eq_true rfl⟩) (zp_V hK hP hD hS hA hG (ci := 4) (q0 := 5) rfl rfl rfl) rfl rfl hl.1 rfl (lv_room (Nat.le_of_ble_eq_true rfl)) dX9_spillByLevels_26 ⟨Nat.le_of_ble_eq_true rfl, Nat.le_of_ble_eq_true rfl⟩) (fun r w1 H locs hq9 hP hD hS => ?_)
  obtain ⟨v26_5, hv26_0, hv26_1, rfl, rfl⟩ := hq9
  have hP : va_P D vwCl (wH α γ (h, old, ch) (w18_3, q18_4) ln sl (wy, l18_2) ct sg od hs) H := hP
  have hD : va_D A (wH α γ (h, old, ch) (w18_3, q18_4) ln sl (wy, l18_2) ct sg od hs) := hD
  exact z_iret hC hr hlk hQ hP hD hS ⟨l18_2, w18_3, q18_4, v26_5, (by trivial), (by rw [hv26_0, hv2_1]), rfl, rfl⟩ dX9_spillByLevels_29

abbrev wz_X9_depthOf : List Cond := .code yX9_depthOf cX9_depthOf 4 (some .int) :: W0
abbrev rm_X9_depthOf : Room := { frames := 4, cells := 0, slots := 0, locals := 91 }
theorem hd_X9_depthOf : yX9_depthOf.cls = RX9 ∧ yX9_depthOf.cls ≠ "java/lang/invoke/MethodHandle" ∧ yX9_depthOf.cls ≠ "java/lang/invoke/VarHandle" ∧ (parseMethodDescriptor yX9_depthOf.desc).map (fun d => d.parameters.length) = some 2 := by decide +kernel
set_option maxHeartbeats 4000000 in
set_option maxRecDepth 100000 in
theorem c_X9_depthOf (l : Launch) (D : va_G) (τ : Nat → Nat) (α : Nat → Nat) (γ : Nat → ClassId) (h : IA) (old : IA) (ch : IA) (rg : TRg) (ln : TLn) (sl : TSl) (wy : IA) (lv : IA) (ct : TCt) (sg : TSg) (od : TOd) (hs : THs) (r9 : Int) (c9 : Int) (hr9 : 0 ≤ r9 ∧ r9 ≤ 6) (hc9 : 0 ≤ c9 ∧ c9 ≤ 6) (hh : ∀ k, 0 ≤ k → k < 49 → 0 ≤ h k ∧ h k ≤ 99) : cM l yX9_depthOf wz_X9_depthOf rm_X9_depthOf D τ (tyH γ) [.ref (α 0), .int (zI r9), .int (zI c9)] (wH α γ (h, old, ch) rg ln sl (wy, lv) ct sg od hs) (zQi (fun r w => ∃ (w2 : IA), ∃ (v : Int), (True) ∧ (v = S_spill h (7 * r9 + c9) - h (7 * r9 + c9)) ∧ r = zI v ∧ wH α γ (h, old, ch) rg ln sl (w2, lv) ct sg od hs = w)) := by
  refine z_ofM (cc := cX9_depthOf) (maxL := 4) (ret := (some .int)) (by decide +kernel) rfl (Nat.le_of_ble_eq_true rfl) ?_
  intro pg e s m args below meth c hC hr hlk hnm hK hP A hD hG hA hS ls hl Q hQ
  have hx := hC.1
  have hb := hC.2.1
  have hml := hC.2.2.1
  have hown := hC.2.2.2.1
  have hts := hC.2.2.2.2
  have hB : ∀ w ∈ W0, w ∈ wz_X9_depthOf := fun _ h => List.mem_cons_of_mem _ h
  have hW0 : ∀ w ∈ W0, w.before args s = true := fun w h => hts w (hB w h)
  have hl : lv_has ls 4 [(0, .ref (α 0)), (1, .int (zI r9)), (2, .int (zI c9))] := hl
  refine lv_iload_n hx hb dX9_depthOf_0 rfl (lv_at hl 1 rfl) ?_
  refine lv_iload_n hx hb dX9_depthOf_1 rfl (lv_at hl 2 rfl) ?_
  refine z_calli hP hD hS hA (va_runS (As := [.int (zI r9), .int (zI c9)]) (rest := []) hC (c_X9_knownPoint l D τ _ _ r9 c9 (by first | assumption | rfl | omega) _) (va_cwS 2 hts (gS hB wl_X9_72 wt_X9_knownPoint wi_X9 wc_X9_knownPoint) rfl rfl rfl hd_X9_knownPoint.2 ⟨Nat.le_of_ble_eq_true rfl, Nat.le_of_ble_eq_true rfl⟩) (zp_S hK hP hD hS hA hG) rfl rfl hl.1 rfl (lv_room (Nat.le_of_ble_eq_true rfl)) dX9_depthOf_2 ⟨Nat.le_of_ble_eq_true rfl, Nat.le_of_ble_eq_true rfl⟩) (fun r w1 H locs hq9 hP hD hS => ?_)
  obtain ⟨v2_1, hv2_0, hv2_1, hv2_2, rfl, rfl⟩ := hq9
  refine lv_istore_n (lv' := [(3, .int (zI v2_1)), (0, .ref (α 0)), (1, .int (zI r9)), (2, .int (zI c9))]) hx hb dX9_depthOf_5 rfl hl (by decide) rfl (fun ls hl => ?_)
  refine lv_aload_n hx hb dX9_depthOf_6 rfl (lv_at hl 1 rfl) ?_
  refine va_get (D := D) (ci := 9) (v := .ref (α 5)) (C := RX9) (T := TX9) (N := 9) hx hb hts (fun w h => List.mem_cons_of_mem _ (wx_X9 w h)) hown hK hP 0 rfl rfl 4 (by decide) (hW0 _ wf_X9_40) (fun _ h9 => h9) rfl dX9_depthOf_7 ?_
  refine lv_aload_n hx hb dX9_depthOf_10 rfl (lv_at hl 1 rfl) ?_
  refine va_get (D := D) (ci := 9) (v := .ref (α 1)) (C := RX9) (T := TX9) (N := 9) hx hb hts (fun w h => List.mem_cons_of_mem _ (wx_X9 w h)) hown hK hP 0 rfl rfl 0 (by decide) (hW0 _ wf_X9_12) (fun _ h9 => h9) rfl dX9_depthOf_11 ?_
  refine z_callv hP hD hS hA (va_runV (As := [.ref (α 1)]) (rest := []) hC (c_X4_readByWays l D τ α γ h old ch rg ln sl wy lv ct sg od hs (by first | assumption | rfl | omega) _) (cwV 1 hts (gV hB wl_X9_232 wn_X4_readByWays ws_X4_readByWays wi_X4 wc_X4_readByWays) rfl rfl rfl hd_X4_readByWays ⟨Nat.le_of_ble_eq_true rfl, Nat.le_of_ble_eq_true rfl⟩) (zp_V hK hP hD hS hA hG (ci := 4) (q0 := 5) rfl rfl rfl) rfl rfl hl.1 rfl (lv_room (Nat.le_of_ble_eq_true rfl)) dX9_depthOf_14 ⟨Nat.le_of_ble_eq_true rfl, Nat.le_of_ble_eq_true rfl⟩) (fun w1 H locs hq9 hP hD hS => ?_)
  obtain ⟨w14_2, hv14_0, rfl⟩ := hq9
  have hP : va_P D vwCl (wH α γ (h, old, ch) rg ln sl (w14_2, lv) ct sg od hs) H := hP
  have hD : va_D A (wH α γ (h, old, ch) rg ln sl (w14_2, lv) ct sg od hs) := hD
  refine lv_aload_n hx hb dX9_depthOf_17 rfl (lv_at hl 1 rfl) ?_
  refine va_get (D := D) (ci := 9) (v := .ref (α 5)) (C := RX9) (T := TX9) (N := 9) hx hb hts (fun w h => List.mem_cons_of_mem _ (wx_X9 w h)) hown hK hP 0 rfl rfl 4 (by decide) (hW0 _ wf_X9_40) (fun _ h9 => h9) rfl dX9_depthOf_18 ?_
  refine lv_iload_n hx hb dX9_depthOf_21 rfl (lv_at hl 0 rfl) ?_
  refine z_calli hP hD hS hA (va_runV (As := [.int (zI v2_1)]) (rest := []) hC (c_X4_wayHeight l D τ α γ (h, old, ch) rg ln sl w14_2 lv ct sg od hs h v2_1 (by omega) (by exact hv14_0) _) (cwV 1 hts (gV hB wl_X9_235 wn_X4_wayHeight ws_X4_wayHeight wi_X4 wc_X4_wayHeight) rfl rfl rfl hd_X4_wayHeight ⟨Nat.le_of_ble_eq_true rfl, Nat.le_of_ble_eq_true rfl⟩) (zp_V hK hP hD hS hA hG (ci := 4) (q0 := 5) rfl rfl rfl) rfl rfl hl.1 rfl (lv_room (Nat.le_of_ble_eq_true rfl)) dX9_depthOf_22 ⟨Nat.le_of_ble_eq_true rfl, Nat.le_of_ble_eq_true rfl⟩) (fun r w1 H locs hq9 hP hD hS => ?_)
  obtain ⟨v22_3, hv22_0, hv22_1, rfl, rfl⟩ := hq9
  have hP : va_P D vwCl (wH α γ (h, old, ch) rg ln sl (w14_2, lv) ct sg od hs) H := hP
  have hD : va_D A (wH α γ (h, old, ch) rg ln sl (w14_2, lv) ct sg od hs) := hD
  refine lv_aload_n hx hb dX9_depthOf_25 rfl (lv_at hl 1 rfl) ?_
  refine va_get (D := D) (ci := 9) (v := .ref (α 1)) (C := RX9) (T := TX9) (N := 9) hx hb hts (fun w h => List.mem_cons_of_mem _ (wx_X9 w h)) hown hK hP 0 rfl rfl 0 (by decide) (hW0 _ wf_X9_12) (fun _ h9 => h9) rfl dX9_depthOf_26 ?_
  refine lv_iload_n hx hb dX9_depthOf_29 rfl (lv_at hl 0 rfl) ?_
  refine z_calli hP hD hS hA (va_runV (As := [.int (zI v2_1)]) (rest := [.int (zI v22_3)]) hC (c_X6_at l D τ α γ h old ch rg ln sl (w14_2, lv) ct sg od hs v2_1 (by first | assumption | rfl | omega) (by first | assumption | rfl | omega) _) (cwV 1 hts (gV hB wl_X9_87 wn_X6_at ws_X6_at wi_X6 wc_X6_at) rfl rfl rfl hd_X6_at ⟨Nat.le_of_ble_eq_true rfl, Nat.le_of_ble_eq_true rfl⟩) (zp_V hK hP hD hS hA hG (ci := 6) (q0 := 1) rfl rfl rfl) rfl rfl hl.1 rfl (lv_room (Nat.le_of_ble_eq_true rfl)) dX9_depthOf_30 ⟨Nat.le_of_ble_eq_true rfl, Nat.le_of_ble_eq_true rfl⟩) (fun r w1 H locs hq9 hP hD hS => ?_)
  obtain ⟨v30_4, hv30_0, hv30_1, hv30_2, rfl, rfl⟩ := hq9
  have hP : va_P D vwCl (wH α γ (h, old, ch) rg ln sl (w14_2, lv) ct sg od hs) H := hP
  have hD : va_D A (wH α γ (h, old, ch) rg ln sl (w14_2, lv) ct sg od hs) := hD
  refine z_isub hx hb dX9_depthOf_33 ?_
  exact z_iret hC hr hlk hQ hP hD hS ⟨w14_2, v22_3 - v30_4, (by trivial), (by rw [hv22_0, hv30_2 (by omega), hv2_1]), rfl, rfl⟩ dX9_depthOf_34

abbrev wz_X9_water : List Cond := .code yX9_water cX9_water 3 (some .int) :: W0
abbrev rm_X9_water : Room := { frames := 4, cells := 0, slots := 0, locals := 91 }
theorem hd_X9_water : yX9_water.cls = RX9 ∧ yX9_water.cls ≠ "java/lang/invoke/MethodHandle" ∧ yX9_water.cls ≠ "java/lang/invoke/VarHandle" ∧ (parseMethodDescriptor yX9_water.desc).map (fun d => d.parameters.length) = some 0 := by decide +kernel
set_option maxHeartbeats 4000000 in
set_option maxRecDepth 100000 in
theorem c_X9_water (l : Launch) (D : va_G) (τ : Nat → Nat) (α : Nat → Nat) (γ : Nat → ClassId) (h : IA) (old : IA) (ch : IA) (rg : TRg) (ln : TLn) (sl : TSl) (wy : IA) (lv : IA) (ct : TCt) (sg : TSg) (od : TOd) (hs : THs) (hh : ∀ k, 0 ≤ k → k < 49 → 0 ≤ h k ∧ h k ≤ 99) : cM l yX9_water wz_X9_water rm_X9_water D τ (tyH γ) [.ref (α 0)] (wH α γ (h, old, ch) rg ln sl (wy, lv) ct sg od hs) (zQi (fun r w => ∃ (w2 : IA), ∃ (v : Int), (v = zS (fun k => S_spill h k - h k) 49) ∧ (-4851 ≤ v ∧ v ≤ 4900) ∧ r = zI v ∧ wH α γ (h, old, ch) rg ln sl (w2, lv) ct sg od hs = w)) := by
  refine z_ofM (cc := cX9_water) (maxL := 3) (ret := (some .int)) (by decide +kernel) rfl (Nat.le_of_ble_eq_true rfl) ?_
  intro pg e s m args below meth c hC hr hlk hnm hK hP A hD hG hA hS ls hl Q hQ
  have hx := hC.1
  have hb := hC.2.1
  have hml := hC.2.2.1
  have hown := hC.2.2.2.1
  have hts := hC.2.2.2.2
  have hB : ∀ w ∈ W0, w ∈ wz_X9_water := fun _ h => List.mem_cons_of_mem _ h
  have hW0 : ∀ w ∈ W0, w.before args s = true := fun w h => hts w (hB w h)
  have hl : lv_has ls 3 [(0, .ref (α 0))] := hl
  refine lv_aload_n hx hb dX9_water_0 rfl (lv_at hl 0 rfl) ?_
  refine va_get (D := D) (ci := 9) (v := .ref (α 5)) (C := RX9) (T := TX9) (N := 9) hx hb hts (fun w h => List.mem_cons_of_mem _ (wx_X9 w h)) hown hK hP 0 rfl rfl 4 (by decide) (hW0 _ wf_X9_40) (fun _ h9 => h9) rfl dX9_water_1 ?_
  refine lv_aload_n hx hb dX9_water_4 rfl (lv_at hl 0 rfl) ?_
  refine va_get (D := D) (ci := 9) (v := .ref (α 1)) (C := RX9) (T := TX9) (N := 9) hx hb hts (fun w h => List.mem_cons_of_mem _ (wx_X9 w h)) hown hK hP 0 rfl rfl 0 (by decide) (hW0 _ wf_X9_12) (fun _ h9 => h9) rfl dX9_water_5 ?_
  refine z_callv hP hD hS hA (va_runV (As := [.ref (α 1)]) (rest := []) hC (c_X4_readByWays l D τ α γ h old ch rg ln sl wy lv ct sg od hs (by first | assumption | rfl | omega) _) (cwV 1 hts (gV hB wl_X9_232 wn_X4_readByWays ws_X4_readByWays wi_X4 wc_X4_readByWays) rfl rfl rfl hd_X4_readByWays ⟨Nat.le_of_ble_eq_true rfl, Nat.le_of_ble_eq_true rfl⟩) (zp_V hK hP hD hS hA hG (ci := 4) (q0 := 5) rfl rfl rfl) rfl rfl hl.1 rfl (lv_room (Nat.le_of_ble_eq_true rfl)) dX9_water_8 ⟨Nat.le_of_ble_eq_true rfl, Nat.le_of_ble_eq_true rfl⟩) (fun w1 H locs hq9 hP hD hS => ?_)
  obtain ⟨w8_1, hv8_0, rfl⟩ := hq9
  have hP : va_P D vwCl (wH α γ (h, old, ch) rg ln sl (w8_1, lv) ct sg od hs) H := hP
  have hD : va_D A (wH α γ (h, old, ch) rg ln sl (w8_1, lv) ct sg od hs) := hD
  refine lv_iconst (v := zI 0) hx hb dX9_water_11 rfl ?_
  refine lv_istore_n (lv' := [(1, .int (zI 0)), (0, .ref (α 0))]) hx hb dX9_water_12 rfl hl (by decide) rfl (fun ls hl => ?_)
  refine lv_iconst (v := zI 0) hx hb dX9_water_13 rfl ?_
  refine lv_istore_n (lv' := [(2, .int (zI 0)), (1, .int (zI 0)), (0, .ref (α 0))]) hx hb dX9_water_14 rfl hl (by decide) rfl (fun ls hl => ?_)
  suffices HL_15 : ∀ (n_15 : Nat), ∀ (g : Int) (i : Int) (H : Heap) (locs : List Loc) (hP : va_P D vwCl (wH α γ (h, old, ch) rg ln sl (w8_1, lv) ct sg od hs) H) (hD : va_D A (wH α γ (h, old, ch) rg ln sl (w8_1, lv) ct sg od hs)) (hS : va_S A s.heap H locs) (ls : Array Slot) (hl : lv_has ls 3 [(1, .int (zI g)), (2, .int (zI i)), (0, .ref (α 0))]) (hi : 0 ≤ i ∧ i ≤ 49) (hg : g = zS (fun k => S_spill h k - h k) i) (hgb : -(99 * i) ≤ g ∧ g ≤ 100 * i) (hm : (49 - i).toNat < n_15), W pg l e rm_X9_water s m args below meth c H locs 0 0 Q (F0 m 15 ls []) from HL_15 _ 0 0 _ _ hP hD hS _ (lv_sub hl [1, 0, 2] rfl) (by first | assumption | rfl | omega) (by exact (zS_0 _).symm) (by first | assumption | rfl | omega) (Nat.lt_succ_self _)
  intro n_15
  induction n_15 with
  | zero => intro g i H locs hP hD hS ls hl hi hg hgb hm; exact absurd hm (Nat.not_lt_zero _)
  | succ n_15 ih_15 =>
    intro g i H locs hP hD hS ls hl hi hg hgb hm
    refine lv_iload_n hx hb dX9_water_15 rfl (lv_at hl 1 rfl) ?_
    refine lv_bipush (v := zI 49) hx hb dX9_water_16 (zI_b8 (by decide)) ?_
    refine z_icge (tgt := 47) hx hb ⟨by omega, by omega⟩ ⟨by omega, by omega⟩ dX9_water_18 (by decide) (fun c_18 => ?_) (fun c_18 => ?_)
    · refine lv_iload_n hx hb dX9_water_47 rfl (lv_at hl 0 rfl) ?_
      exact z_iret hC hr hlk hQ hP hD hS ⟨w8_1, g, (by rw [hg, show i = 49 by omega]), (by omega), rfl, rfl⟩ dX9_water_48
    · refine lv_iload_n hx hb dX9_water_21 rfl (lv_at hl 0 rfl) ?_
      refine lv_aload_n hx hb dX9_water_22 rfl (lv_at hl 2 rfl) ?_
      refine va_get (D := D) (ci := 9) (v := .ref (α 5)) (C := RX9) (T := TX9) (N := 9) hx hb hts (fun w h => List.mem_cons_of_mem _ (wx_X9 w h)) hown hK hP 0 rfl rfl 4 (by decide) (hW0 _ wf_X9_40) (fun _ h9 => h9) rfl dX9_water_23 ?_
      refine lv_iload_n hx hb dX9_water_26 rfl (lv_at hl 1 rfl) ?_
      refine z_calli hP hD hS hA (va_runV (As := [.int (zI i)]) (rest := [.int (zI g)]) hC (c_X4_wayHeight l D τ α γ (h, old, ch) rg ln sl w8_1 lv ct sg od hs h i (by first | assumption | rfl | omega) (by exact hv8_0) _) (cwV 1 hts (gV hB wl_X9_235 wn_X4_wayHeight ws_X4_wayHeight wi_X4 wc_X4_wayHeight) rfl rfl rfl hd_X4_wayHeight ⟨Nat.le_of_ble_eq_true rfl, Nat.le_of_ble_eq_true rfl⟩) (zp_V hK hP hD hS hA hG (ci := 4) (q0 := 5) rfl rfl rfl) rfl rfl hl.1 rfl (lv_room (Nat.le_of_ble_eq_true rfl)) dX9_water_27 ⟨Nat.le_of_ble_eq_true rfl, Nat.le_of_ble_eq_true rfl⟩) (fun r w1 H locs hq9 hP hD hS => ?_)
      obtain ⟨v27_2, hv27_0, hv27_1, rfl, rfl⟩ := hq9
      have hP : va_P D vwCl (wH α γ (h, old, ch) rg ln sl (w8_1, lv) ct sg od hs) H := hP
      have hD : va_D A (wH α γ (h, old, ch) rg ln sl (w8_1, lv) ct sg od hs) := hD
      refine lv_aload_n hx hb dX9_water_30 rfl (lv_at hl 2 rfl) ?_
      refine va_get (D := D) (ci := 9) (v := .ref (α 1)) (C := RX9) (T := TX9) (N := 9) hx hb hts (fun w h => List.mem_cons_of_mem _ (wx_X9 w h)) hown hK hP 0 rfl rfl 0 (by decide) (hW0 _ wf_X9_12) (fun _ h9 => h9) rfl dX9_water_31 ?_
      refine lv_iload_n hx hb dX9_water_34 rfl (lv_at hl 1 rfl) ?_
      refine z_calli hP hD hS hA (va_runV (As := [.int (zI i)]) (rest := [.int (zI v27_2), .int (zI g)]) hC (c_X6_at l D τ α γ h old ch rg ln sl (w8_1, lv) ct sg od hs i (by first | assumption | rfl | omega) (by first | assumption | rfl | omega) _) (cwV 1 hts (gV hB wl_X9_87 wn_X6_at ws_X6_at wi_X6 wc_X6_at) rfl rfl rfl hd_X6_at ⟨Nat.le_of_ble_eq_true rfl, Nat.le_of_ble_eq_true rfl⟩) (zp_V hK hP hD hS hA hG (ci := 6) (q0 := 1) rfl rfl rfl) rfl rfl hl.1 rfl (lv_room (Nat.le_of_ble_eq_true rfl)) dX9_water_35 ⟨Nat.le_of_ble_eq_true rfl, Nat.le_of_ble_eq_true rfl⟩) (fun r w1 H locs hq9 hP hD hS => ?_)
      obtain ⟨v35_3, hv35_0, hv35_1, hv35_2, rfl, rfl⟩ := hq9
      have hP : va_P D vwCl (wH α γ (h, old, ch) rg ln sl (w8_1, lv) ct sg od hs) H := hP
      have hD : va_D A (wH α γ (h, old, ch) rg ln sl (w8_1, lv) ct sg od hs) := hD
      refine z_isub hx hb dX9_water_38 ?_
      refine z_iadd hx hb dX9_water_39 ?_
      refine lv_istore_n (lv' := [(1, .int (zI (g + (v27_2 - v35_3)))), (2, .int (zI i)), (0, .ref (α 0))]) hx hb dX9_water_40 rfl hl (by decide) rfl (fun ls hl => ?_)
      refine z_iinc (k := 1) (v := i + 1) (lv' := [(2, .int (zI (i + 1))), (1, .int (zI (g + (v27_2 - v35_3)))), (0, .ref (α 0))]) hx hb dX9_water_41 hl rfl rfl (by decide) rfl (fun ls hl => ?_)
      refine lv_goto (tgt := 15) hx hb dX9_water_44 (by decide) ?_
      exact ih_15 (g + (v27_2 - v35_3)) (i + 1) _ _ hP hD hS _ (lv_sub hl [1, 0, 2] rfl) (by first | assumption | rfl | omega) (by rw [zS_up hi.1, ← hg, hv27_0, hv35_2 (by omega)]) (by first | assumption | rfl | omega) (by omega)

abbrev wz_X9_ponds : List Cond := .code yX9_ponds cX9_ponds 2 (some .int) :: W0
abbrev rm_X9_ponds : Room := { frames := 4, cells := 0, slots := 0, locals := 91 }
theorem hd_X9_ponds : yX9_ponds.cls = RX9 ∧ yX9_ponds.cls ≠ "java/lang/invoke/MethodHandle" ∧ yX9_ponds.cls ≠ "java/lang/invoke/VarHandle" ∧ (parseMethodDescriptor yX9_ponds.desc).map (fun d => d.parameters.length) = some 0 := by decide +kernel
set_option maxHeartbeats 4000000 in
set_option maxRecDepth 100000 in
theorem c_X9_ponds (l : Launch) (D : va_G) (τ : Nat → Nat) (α : Nat → Nat) (γ : Nat → ClassId) (h : IA) (old : IA) (ch : IA) (wt : BA) (qu5 : IA) (ln : TLn) (sl : TSl) (wy : IA) (lv : IA) (ct : TCt) (sg : TSg) (od : TOd) (hs : THs) (hh : ∀ k, 0 ≤ k → k < 49 → 0 ≤ h k ∧ h k ≤ 99) : cM l yX9_ponds wz_X9_ponds rm_X9_ponds D τ (tyH γ) [.ref (α 0)] (wH α γ (h, old, ch) (wt, qu5) ln sl (wy, lv) ct sg od hs) (zQi (fun r w => ∃ (w2 : IA), ∃ (b2 : BA), ∃ (q2 : IA), ∃ (v : Int), (v = S_comps 4 (S_pond h)) ∧ (0 ≤ v ∧ v ≤ 49) ∧ r = zI v ∧ wH α γ (h, old, ch) (b2, q2) ln sl (w2, lv) ct sg od hs = w)) := by
  refine z_ofM (cc := cX9_ponds) (maxL := 2) (ret := (some .int)) (by decide +kernel) rfl (Nat.le_of_ble_eq_true rfl) ?_
  intro pg e s m args below meth c hC hr hlk hnm hK hP A hD hG hA hS ls hl Q hQ
  have hx := hC.1
  have hb := hC.2.1
  have hml := hC.2.2.1
  have hown := hC.2.2.2.1
  have hts := hC.2.2.2.2
  have hB : ∀ w ∈ W0, w ∈ wz_X9_ponds := fun _ h => List.mem_cons_of_mem _ h
  have hW0 : ∀ w ∈ W0, w.before args s = true := fun w h => hts w (hB w h)
  have hl : lv_has ls 2 [(0, .ref (α 0))] := hl
  refine lv_aload_n hx hb dX9_ponds_0 rfl (lv_at hl 0 rfl) ?_
  refine va_get (D := D) (ci := 9) (v := .ref (α 5)) (C := RX9) (T := TX9) (N := 9) hx hb hts (fun w h => List.mem_cons_of_mem _ (wx_X9 w h)) hown hK hP 0 rfl rfl 4 (by decide) (hW0 _ wf_X9_40) (fun _ h9 => h9) rfl dX9_ponds_1 ?_
  refine lv_aload_n hx hb dX9_ponds_4 rfl (lv_at hl 0 rfl) ?_
  refine va_get (D := D) (ci := 9) (v := .ref (α 1)) (C := RX9) (T := TX9) (N := 9) hx hb hts (fun w h => List.mem_cons_of_mem _ (wx_X9 w h)) hown hK hP 0 rfl rfl 0 (by decide) (hW0 _ wf_X9_12) (fun _ h9 => h9) rfl dX9_ponds_5 ?_
  refine z_callv hP hD hS hA (va_runV (As := [.ref (α 1)]) (rest := []) hC (c_X4_readByWays l D τ α γ h old ch (wt, qu5) ln sl wy lv ct sg od hs (by first | assumption | rfl | omega) _) (cwV 1 hts (gV hB wl_X9_232 wn_X4_readByWays ws_X4_readByWays wi_X4 wc_X4_readByWays) rfl rfl rfl hd_X4_readByWays ⟨Nat.le_of_ble_eq_true rfl, Nat.le_of_ble_eq_true rfl⟩) (zp_V hK hP hD hS hA hG (ci := 4) (q0 := 5) rfl rfl rfl) rfl rfl hl.1 rfl (lv_room (Nat.le_of_ble_eq_true rfl)) dX9_ponds_8 ⟨Nat.le_of_ble_eq_true rfl, Nat.le_of_ble_eq_true rfl⟩) (fun w1 H locs hq9 hP hD hS => ?_)
  obtain ⟨w8_1, hv8_0, rfl⟩ := hq9
  have hP : va_P D vwCl (wH α γ (h, old, ch) (wt, qu5) ln sl (w8_1, lv) ct sg od hs) H := hP
  have hD : va_D A (wH α γ (h, old, ch) (wt, qu5) ln sl (w8_1, lv) ct sg od hs) := hD
  refine lv_aload_n hx hb dX9_ponds_11 rfl (lv_at hl 0 rfl) ?_
  refine va_get (D := D) (ci := 9) (v := .ref (α 2)) (C := RX9) (T := TX9) (N := 9) hx hb hts (fun w h => List.mem_cons_of_mem _ (wx_X9 w h)) hown hK hP 0 rfl rfl 1 (by decide) (hW0 _ wf_X9_19) (fun _ h9 => h9) rfl dX9_ponds_12 ?_
  refine z_callv hP hD hS hA (va_runV (As := []) (rest := []) hC (c_X5_clear l D τ α γ (h, old, ch) wt qu5 ln sl (w8_1, lv) ct sg od hs _) (cwV 0 hts (gV hB wl_X9_245 wn_X5_clear ws_X5_clear wi_X5 wc_X5_clear) rfl rfl rfl hd_X5_clear ⟨Nat.le_of_ble_eq_true rfl, Nat.le_of_ble_eq_true rfl⟩) (zp_V hK hP hD hS hA hG (ci := 5) (q0 := 2) rfl rfl rfl) rfl rfl hl.1 rfl (lv_room (Nat.le_of_ble_eq_true rfl)) dX9_ponds_15 ⟨Nat.le_of_ble_eq_true rfl, Nat.le_of_ble_eq_true rfl⟩) (fun w1 H locs hq9 hP hD hS => ?_)
  obtain ⟨w15_2, hv15_0, rfl⟩ := hq9
  have hP : va_P D vwCl (wH α γ (h, old, ch) (w15_2, qu5) ln sl (w8_1, lv) ct sg od hs) H := hP
  have hD : va_D A (wH α γ (h, old, ch) (w15_2, qu5) ln sl (w8_1, lv) ct sg od hs) := hD
  refine lv_iconst (v := zI 0) hx hb dX9_ponds_18 rfl ?_
  refine lv_istore_n (lv' := [(1, .int (zI 0)), (0, .ref (α 0))]) hx hb dX9_ponds_19 rfl hl (by decide) rfl (fun ls hl => ?_)
  suffices HL_20 : ∀ (n_20 : Nat), ∀ (w1 : BA) (i : Int) (H : Heap) (locs : List Loc) (hP : va_P D vwCl (wH α γ (h, old, ch) (w1, qu5) ln sl (w8_1, lv) ct sg od hs) H) (hD : va_D A (wH α γ (h, old, ch) (w1, qu5) ln sl (w8_1, lv) ct sg od hs)) (hS : va_S A s.heap H locs) (ls : Array Slot) (hl : lv_has ls 2 [(1, .int (zI i)), (0, .ref (α 0))]) (hi : 0 ≤ i ∧ i ≤ 49) (hw1 : w1 = bmix i (S_pond h) (bmix 49 (fun _ => false) wt)) (hm : (49 - i).toNat < n_20), W pg l e rm_X9_ponds s m args below meth c H locs 0 0 Q (F0 m 20 ls []) from HL_20 _ w15_2 0 _ _ hP hD hS _ (lv_sub hl [0, 1] rfl) (by first | assumption | rfl | omega) (by rw [bmix_0]; exact hv15_0) (Nat.lt_succ_self _)
  intro n_20
  induction n_20 with
  | zero => intro w1 i H locs hP hD hS ls hl hi hw1 hm; exact absurd hm (Nat.not_lt_zero _)
  | succ n_20 ih_20 =>
    intro w1 i H locs hP hD hS ls hl hi hw1 hm
    refine lv_iload_n hx hb dX9_ponds_20 rfl (lv_at hl 0 rfl) ?_
    refine lv_bipush (v := zI 49) hx hb dX9_ponds_21 (zI_b8 (by decide)) ?_
    refine z_icge (tgt := 59) hx hb ⟨by omega, by omega⟩ ⟨by omega, by omega⟩ dX9_ponds_23 (by decide) (fun c_23 => ?_) (fun c_23 => ?_)
    · refine lv_aload_n hx hb dX9_ponds_59 rfl (lv_at hl 1 rfl) ?_
      refine va_get (D := D) (ci := 9) (v := .ref (α 2)) (C := RX9) (T := TX9) (N := 9) hx hb hts (fun w h => List.mem_cons_of_mem _ (wx_X9 w h)) hown hK hP 0 rfl rfl 1 (by decide) (hW0 _ wf_X9_19) (fun _ h9 => h9) rfl dX9_ponds_60 ?_
      refine lv_iconst (v := zI 4) hx hb dX9_ponds_63 rfl ?_
      refine z_calli hP hD hS hA (va_runV (As := [.int (zI 4)]) (rest := []) hC (c_X5_count l D τ α γ (h, old, ch) w1 qu5 ln sl (w8_1, lv) ct sg od hs 4 (by first | assumption | rfl | omega) _) (cwV 1 hts (gV hB wl_X9_249 wn_X5_count ws_X5_count wi_X5 wc_X5_count) rfl rfl rfl hd_X5_count ⟨Nat.le_of_ble_eq_true rfl, Nat.le_of_ble_eq_true rfl⟩) (zp_V hK hP hD hS hA hG (ci := 5) (q0 := 2) rfl rfl rfl) rfl rfl hl.1 rfl (lv_room (Nat.le_of_ble_eq_true rfl)) dX9_ponds_64 ⟨Nat.le_of_ble_eq_true rfl, Nat.le_of_ble_eq_true rfl⟩) (fun r w1 H locs hq9 hP hD hS => ?_)
      obtain ⟨w64_3, q64_4, v64_5, hv64_0, hv64_1, rfl, rfl⟩ := hq9
      have hP : va_P D vwCl (wH α γ (h, old, ch) (w64_3, q64_4) ln sl (w8_1, lv) ct sg od hs) H := hP
      have hD : va_D A (wH α γ (h, old, ch) (w64_3, q64_4) ln sl (w8_1, lv) ct sg od hs) := hD
      exact z_iret hC hr hlk hQ hP hD hS ⟨w8_1, w64_3, q64_4, v64_5, (by rw [hv64_0]; exact S_comps_cg (marks hw1 (by omega))), (by omega), rfl, rfl⟩ dX9_ponds_67
    · refine lv_aload_n hx hb dX9_ponds_26 rfl (lv_at hl 1 rfl) ?_
      refine va_get (D := D) (ci := 9) (v := .ref (α 5)) (C := RX9) (T := TX9) (N := 9) hx hb hts (fun w h => List.mem_cons_of_mem _ (wx_X9 w h)) hown hK hP 0 rfl rfl 4 (by decide) (hW0 _ wf_X9_40) (fun _ h9 => h9) rfl dX9_ponds_27 ?_
      refine lv_iload_n hx hb dX9_ponds_30 rfl (lv_at hl 0 rfl) ?_
      refine z_calli hP hD hS hA (va_runV (As := [.int (zI i)]) (rest := []) hC (c_X4_wayHeight l D τ α γ (h, old, ch) (w1, qu5) ln sl w8_1 lv ct sg od hs h i (by first | assumption | rfl | omega) (by exact hv8_0) _) (cwV 1 hts (gV hB wl_X9_235 wn_X4_wayHeight ws_X4_wayHeight wi_X4 wc_X4_wayHeight) rfl rfl rfl hd_X4_wayHeight ⟨Nat.le_of_ble_eq_true rfl, Nat.le_of_ble_eq_true rfl⟩) (zp_V hK hP hD hS hA hG (ci := 4) (q0 := 5) rfl rfl rfl) rfl rfl hl.1 rfl (lv_room (Nat.le_of_ble_eq_true rfl)) dX9_ponds_31 ⟨Nat.le_of_ble_eq_true rfl, Nat.le_of_ble_eq_true rfl⟩) (fun r w1 H locs hq9 hP hD hS => ?_)
      obtain ⟨v31_6, hv31_0, hv31_1, rfl, rfl⟩ := hq9
      have hP : va_P D vwCl (wH α γ (h, old, ch) (w1, qu5) ln sl (w8_1, lv) ct sg od hs) H := hP
      have hD : va_D A (wH α γ (h, old, ch) (w1, qu5) ln sl (w8_1, lv) ct sg od hs) := hD
      refine lv_aload_n hx hb dX9_ponds_34 rfl (lv_at hl 1 rfl) ?_
      refine va_get (D := D) (ci := 9) (v := .ref (α 1)) (C := RX9) (T := TX9) (N := 9) hx hb hts (fun w h => List.mem_cons_of_mem _ (wx_X9 w h)) hown hK hP 0 rfl rfl 0 (by decide) (hW0 _ wf_X9_12) (fun _ h9 => h9) rfl dX9_ponds_35 ?_
      refine lv_iload_n hx hb dX9_ponds_38 rfl (lv_at hl 0 rfl) ?_
      refine z_calli hP hD hS hA (va_runV (As := [.int (zI i)]) (rest := [.int (zI v31_6)]) hC (c_X6_at l D τ α γ h old ch (w1, qu5) ln sl (w8_1, lv) ct sg od hs i (by first | assumption | rfl | omega) (by first | assumption | rfl | omega) _) (cwV 1 hts (gV hB wl_X9_87 wn_X6_at ws_X6_at wi_X6 wc_X6_at) rfl rfl rfl hd_X6_at ⟨Nat.le_of_ble_eq_true rfl, Nat.le_of_ble_eq_true rfl⟩) (zp_V hK hP hD hS hA hG (ci := 6) (q0 := 1) rfl rfl rfl) rfl rfl hl.1 rfl (lv_room (Nat.le_of_ble_eq_true rfl)) dX9_ponds_39 ⟨Nat.le_of_ble_eq_true rfl, Nat.le_of_ble_eq_true rfl⟩) (fun r w1 H locs hq9 hP hD hS => ?_)
      obtain ⟨v39_7, hv39_0, hv39_1, hv39_2, rfl, rfl⟩ := hq9
      have hP : va_P D vwCl (wH α γ (h, old, ch) (w1, qu5) ln sl (w8_1, lv) ct sg od hs) H := hP
      have hD : va_D A (wH α γ (h, old, ch) (w1, qu5) ln sl (w8_1, lv) ct sg od hs) := hD
      have e39 := hv39_2 (by omega)
      refine z_icle (tgt := 53) hx hb ⟨by omega, by omega⟩ ⟨by omega, by omega⟩ dX9_ponds_42 (by decide) (fun c_42 => ?_) (fun c_42 => ?_)
      · refine z_iinc (k := 0) (v := i + 1) (lv' := [(1, .int (zI (i + 1))), (0, .ref (α 0))]) hx hb dX9_ponds_53 hl rfl rfl (by decide) rfl (fun ls hl => ?_)
        refine lv_goto (tgt := 20) hx hb dX9_ponds_56 (by decide) ?_
        exact ih_20 w1 (i + 1) _ _ hP hD hS _ (lv_sub hl [0, 1] rfl) (by first | assumption | rfl | omega) (by first | (rw [hv50_0, hw1]; exact bmix_up hi.1 (decide_eq_true (by omega)).symm) | (rw [hw1]; exact bmix_skip hi.1 (by rw [bmix_at (by omega)]; exact (decide_eq_false (by omega)).symm))) (by omega)
      · refine lv_aload_n hx hb dX9_ponds_45 rfl (lv_at hl 1 rfl) ?_
        refine va_get (D := D) (ci := 9) (v := .ref (α 2)) (C := RX9) (T := TX9) (N := 9) hx hb hts (fun w h => List.mem_cons_of_mem _ (wx_X9 w h)) hown hK hP 0 rfl rfl 1 (by decide) (hW0 _ wf_X9_19) (fun _ h9 => h9) rfl dX9_ponds_46 ?_
        refine lv_iload_n hx hb dX9_ponds_49 rfl (lv_at hl 0 rfl) ?_
        refine z_callv hP hD hS hA (va_runV (As := [.int (zI i)]) (rest := []) hC (c_X5_add l D τ α γ (h, old, ch) w1 qu5 ln sl (w8_1, lv) ct sg od hs i (by first | assumption | rfl | omega) _) (cwV 1 hts (gV hB wl_X9_248 wn_X5_add ws_X5_add wi_X5 wc_X5_add) rfl rfl rfl hd_X5_add ⟨Nat.le_of_ble_eq_true rfl, Nat.le_of_ble_eq_true rfl⟩) (zp_V hK hP hD hS hA hG (ci := 5) (q0 := 2) rfl rfl rfl) rfl rfl hl.1 rfl (lv_room (Nat.le_of_ble_eq_true rfl)) dX9_ponds_50 ⟨Nat.le_of_ble_eq_true rfl, Nat.le_of_ble_eq_true rfl⟩) (fun w1 H locs hq9 hP hD hS => ?_)
        obtain ⟨w50_8, hv50_0, rfl⟩ := hq9
        have hP : va_P D vwCl (wH α γ (h, old, ch) (w50_8, qu5) ln sl (w8_1, lv) ct sg od hs) H := hP
        have hD : va_D A (wH α γ (h, old, ch) (w50_8, qu5) ln sl (w8_1, lv) ct sg od hs) := hD
        refine z_iinc (k := 0) (v := i + 1) (lv' := [(1, .int (zI (i + 1))), (0, .ref (α 0))]) hx hb dX9_ponds_53 hl rfl rfl (by decide) rfl (fun ls hl => ?_)
        refine lv_goto (tgt := 20) hx hb dX9_ponds_56 (by decide) ?_
        exact ih_20 w50_8 (i + 1) _ _ hP hD hS _ (lv_sub hl [0, 1] rfl) (by first | assumption | rfl | omega) (by first | (rw [hv50_0, hw1]; exact bmix_up hi.1 (decide_eq_true (by omega)).symm) | (rw [hw1]; exact bmix_skip hi.1 (by rw [bmix_at (by omega)]; exact (decide_eq_false (by omega)).symm))) (by omega)

abbrev wz_X9_cutLength : List Cond := .code yX9_cutLength cX9_cutLength 7 (some .int) :: W0
abbrev rm_X9_cutLength : Room := { frames := 3, cells := 0, slots := 0, locals := 73 }
theorem hd_X9_cutLength : yX9_cutLength.cls = RX9 ∧ yX9_cutLength.cls ≠ "java/lang/invoke/MethodHandle" ∧ yX9_cutLength.cls ≠ "java/lang/invoke/VarHandle" ∧ (parseMethodDescriptor yX9_cutLength.desc).map (fun d => d.parameters.length) = some 4 := by decide +kernel
set_option maxHeartbeats 4000000 in
set_option maxRecDepth 100000 in
theorem c_X9_cutLength (l : Launch) (D : va_G) (τ : Nat → Nat) (α : Nat → Nat) (γ : Nat → ClassId) (h : IA) (old : IA) (ch : IA) (rg : TRg) (ln : TLn) (sl : TSl) (pd : TPd) (hg9 : IA) (la9 : Int) (sg : TSg) (od : TOd) (hs : THs) (r9 : Int) (c9 : Int) (r8 : Int) (c8 : Int) (hr9 : 0 ≤ r9 ∧ r9 ≤ 6) (hc9 : 0 ≤ c9 ∧ c9 ≤ 6) (hr8 : 0 ≤ r8 ∧ r8 ≤ 6) (hc8 : 0 ≤ c8 ∧ c8 ≤ 6) (hh : ∀ k, 0 ≤ k → k < 49 → 0 ≤ h k ∧ h k ≤ 99) : cM l yX9_cutLength wz_X9_cutLength rm_X9_cutLength D τ (tyH γ) [.ref (α 0), .int (zI r9), .int (zI c9), .int (zI r8), .int (zI c8)] (wH α γ (h, old, ch) rg ln sl pd (hg9, la9) sg od hs) (zQi (fun r w => ∃ (f2 : IA), ∃ (n2 : Int), ∃ (v : Int), (True) ∧ (v = S_cutn (7 * r9 + c9) (7 * r8 + c8) + 1) ∧ r = zI v ∧ wH α γ (h, old, ch) rg ln sl pd (f2, n2) sg od hs = w)) := by
  refine z_ofM (cc := cX9_cutLength) (maxL := 7) (ret := (some .int)) (by decide +kernel) rfl (Nat.le_of_ble_eq_true rfl) ?_
  intro pg e s m args below meth c hC hr hlk hnm hK hP A hD hG hA hS ls hl Q hQ
  have hx := hC.1
  have hb := hC.2.1
  have hml := hC.2.2.1
  have hown := hC.2.2.2.1
  have hts := hC.2.2.2.2
  have hB : ∀ w ∈ W0, w ∈ wz_X9_cutLength := fun _ h => List.mem_cons_of_mem _ h
  have hW0 : ∀ w ∈ W0, w.before args s = true := fun w h => hts w (hB w h)
  have hl : lv_has ls 7 [(0, .ref (α 0)), (1, .int (zI r9)), (2, .int (zI c9)), (3, .int (zI r8)), (4, .int (zI c8))] := hl
  refine lv_iload_n hx hb dX9_cutLength_0 rfl (lv_at hl 1 rfl) ?_
  refine lv_iload_n hx hb dX9_cutLength_1 rfl (lv_at hl 2 rfl) ?_
  refine z_calli hP hD hS hA (va_runS (As := [.int (zI r9), .int (zI c9)]) (rest := []) hC (c_X9_knownPoint l D τ _ _ r9 c9 (by first | assumption | rfl | omega) _) (va_cwS 2 hts (gS hB wl_X9_72 wt_X9_knownPoint wi_X9 wc_X9_knownPoint) rfl rfl rfl hd_X9_knownPoint.2 ⟨Nat.le_of_ble_eq_true rfl, Nat.le_of_ble_eq_true rfl⟩) (zp_S hK hP hD hS hA hG) rfl rfl hl.1 rfl (lv_room (Nat.le_of_ble_eq_true rfl)) dX9_cutLength_2 ⟨Nat.le_of_ble_eq_true rfl, Nat.le_of_ble_eq_true rfl⟩) (fun r w1 H locs hq9 hP hD hS => ?_)
  obtain ⟨v2_1, hv2_0, hv2_1, hv2_2, rfl, rfl⟩ := hq9
  refine lv_istore (lv' := [(5, .int (zI v2_1)), (0, .ref (α 0)), (1, .int (zI r9)), (2, .int (zI c9)), (3, .int (zI r8)), (4, .int (zI c8))]) hx hb dX9_cutLength_5 hl (by decide) rfl (fun ls hl => ?_)
  refine lv_iload_n hx hb dX9_cutLength_7 rfl (lv_at hl 4 rfl) ?_
  refine lv_iload hx hb dX9_cutLength_8 (lv_at hl 5 rfl) ?_
  refine z_calli hP hD hS hA (va_runS (As := [.int (zI r8), .int (zI c8)]) (rest := []) hC (c_X9_knownPoint l D τ _ _ r8 c8 (by first | assumption | rfl | omega) _) (va_cwS 2 hts (gS hB wl_X9_72 wt_X9_knownPoint wi_X9 wc_X9_knownPoint) rfl rfl rfl hd_X9_knownPoint.2 ⟨Nat.le_of_ble_eq_true rfl, Nat.le_of_ble_eq_true rfl⟩) (zp_S hK hP hD hS hA hG) rfl rfl hl.1 rfl (lv_room (Nat.le_of_ble_eq_true rfl)) dX9_cutLength_10 ⟨Nat.le_of_ble_eq_true rfl, Nat.le_of_ble_eq_true rfl⟩) (fun r w1 H locs hq9 hP hD hS => ?_)
  obtain ⟨v10_2, hv10_0, hv10_1, hv10_2, rfl, rfl⟩ := hq9
  refine lv_istore (lv' := [(6, .int (zI v10_2)), (5, .int (zI v2_1)), (0, .ref (α 0)), (1, .int (zI r9)), (2, .int (zI c9)), (3, .int (zI r8)), (4, .int (zI c8))]) hx hb dX9_cutLength_13 hl (by decide) rfl (fun ls hl => ?_)
  refine lv_aload_n hx hb dX9_cutLength_15 rfl (lv_at hl 2 rfl) ?_
  refine va_get (D := D) (ci := 9) (v := .ref (α 6)) (C := RX9) (T := TX9) (N := 9) hx hb hts (fun w h => List.mem_cons_of_mem _ (wx_X9 w h)) hown hK hP 0 rfl rfl 5 (by decide) (hW0 _ wf_X9_47) (fun _ h9 => h9) rfl dX9_cutLength_16 ?_
  refine lv_aload_n hx hb dX9_cutLength_19 rfl (lv_at hl 2 rfl) ?_
  refine va_get (D := D) (ci := 9) (v := .ref (α 1)) (C := RX9) (T := TX9) (N := 9) hx hb hts (fun w h => List.mem_cons_of_mem _ (wx_X9 w h)) hown hK hP 0 rfl rfl 0 (by decide) (hW0 _ wf_X9_12) (fun _ h9 => h9) rfl dX9_cutLength_20 ?_
  refine lv_iload hx hb dX9_cutLength_23 (lv_at hl 1 rfl) ?_
  refine lv_iload hx hb dX9_cutLength_25 (lv_at hl 0 rfl) ?_
  refine z_callv hP hD hS hA (va_runV (As := [.ref (α 1), .int (zI v2_1), .int (zI v10_2)]) (rest := []) hC (c_X0_lay l D τ α γ h old ch rg ln sl pd hg9 la9 sg od hs v2_1 v10_2 (by first | assumption | rfl | omega) (by first | assumption | rfl | omega) (by first | assumption | rfl | omega) _) (cwV 3 hts (gV hB wl_X9_252 wn_X0_lay ws_X0_lay wi_X0 wc_X0_lay) rfl rfl rfl hd_X0_lay ⟨Nat.le_of_ble_eq_true rfl, Nat.le_of_ble_eq_true rfl⟩) (zp_V hK hP hD hS hA hG (ci := 0) (q0 := 6) rfl rfl rfl) rfl rfl hl.1 rfl (lv_room (Nat.le_of_ble_eq_true rfl)) dX9_cutLength_27 ⟨Nat.le_of_ble_eq_true rfl, Nat.le_of_ble_eq_true rfl⟩) (fun w1 H locs hq9 hP hD hS => ?_)
  obtain ⟨f27_3, n27_4, hv27_0, hv27_1, rfl⟩ := hq9
  have hP : va_P D vwCl (wH α γ (h, old, ch) rg ln sl pd (f27_3, n27_4) sg od hs) H := hP
  have hD : va_D A (wH α γ (h, old, ch) rg ln sl pd (f27_3, n27_4) sg od hs) := hD
  have hcn := S_cutn_b (a := v2_1) (b := v10_2) (by omega) (by omega)
  refine lv_aload_n hx hb dX9_cutLength_30 rfl (lv_at hl 2 rfl) ?_
  refine va_get (D := D) (ci := 9) (v := .ref (α 6)) (C := RX9) (T := TX9) (N := 9) hx hb hts (fun w h => List.mem_cons_of_mem _ (wx_X9 w h)) hown hK hP 0 rfl rfl 5 (by decide) (hW0 _ wf_X9_47) (fun _ h9 => h9) rfl dX9_cutLength_31 ?_
  refine z_calli hP hD hS hA (va_runV (As := []) (rest := []) hC (c_X0_last l D τ α γ (h, old, ch) rg ln sl pd f27_3 n27_4 sg od hs _) (cwV 0 hts (gV hB wl_X9_256 wn_X0_last ws_X0_last wi_X0 wc_X0_last) rfl rfl rfl hd_X0_last ⟨Nat.le_of_ble_eq_true rfl, Nat.le_of_ble_eq_true rfl⟩) (zp_V hK hP hD hS hA hG (ci := 0) (q0 := 6) rfl rfl rfl) rfl rfl hl.1 rfl (lv_room (Nat.le_of_ble_eq_true rfl)) dX9_cutLength_34 ⟨Nat.le_of_ble_eq_true rfl, Nat.le_of_ble_eq_true rfl⟩) (fun r w1 H locs hq9 hP hD hS => ?_)
  obtain ⟨v34_5, hv34_0, rfl, rfl⟩ := hq9
  have hP : va_P D vwCl (wH α γ (h, old, ch) rg ln sl pd (f27_3, n27_4) sg od hs) H := hP
  have hD : va_D A (wH α γ (h, old, ch) rg ln sl pd (f27_3, n27_4) sg od hs) := hD
  refine lv_iconst (v := zI 1) hx hb dX9_cutLength_37 rfl ?_
  refine z_iadd hx hb dX9_cutLength_38 ?_
  exact z_iret hC hr hlk hQ hP hD hS ⟨f27_3, n27_4, v34_5 + 1, (by trivial), (by rw [hv34_0, hv27_0, hv2_1, hv10_1]), rfl, rfl⟩ dX9_cutLength_39

abbrev wz_X9_climb : List Cond := .code yX9_climb cX9_climb 7 (some .int) :: W0
abbrev rm_X9_climb : Room := { frames := 3, cells := 0, slots := 0, locals := 73 }
theorem hd_X9_climb : yX9_climb.cls = RX9 ∧ yX9_climb.cls ≠ "java/lang/invoke/MethodHandle" ∧ yX9_climb.cls ≠ "java/lang/invoke/VarHandle" ∧ (parseMethodDescriptor yX9_climb.desc).map (fun d => d.parameters.length) = some 4 := by decide +kernel
set_option maxHeartbeats 4000000 in
set_option maxRecDepth 100000 in
theorem c_X9_climb (l : Launch) (D : va_G) (τ : Nat → Nat) (α : Nat → Nat) (γ : Nat → ClassId) (h : IA) (old : IA) (ch : IA) (rg : TRg) (ln : TLn) (sl : TSl) (pd : TPd) (hg9 : IA) (la9 : Int) (sg : TSg) (od : TOd) (hs : THs) (r9 : Int) (c9 : Int) (r8 : Int) (c8 : Int) (hr9 : 0 ≤ r9 ∧ r9 ≤ 6) (hc9 : 0 ≤ c9 ∧ c9 ≤ 6) (hr8 : 0 ≤ r8 ∧ r8 ≤ 6) (hc8 : 0 ≤ c8 ∧ c8 ≤ 6) (hh : ∀ k, 0 ≤ k → k < 49 → 0 ≤ h k ∧ h k ≤ 99) : cM l yX9_climb wz_X9_climb rm_X9_climb D τ (tyH γ) [.ref (α 0), .int (zI r9), .int (zI c9), .int (zI r8), .int (zI c8)] (wH α γ (h, old, ch) rg ln sl pd (hg9, la9) sg od hs) (zQi (fun r w => ∃ (f2 : IA), ∃ (n2 : Int), ∃ (v : Int), (True) ∧ (v = S_rise h (7 * r9 + c9) (7 * r8 + c8)) ∧ r = zI v ∧ wH α γ (h, old, ch) rg ln sl pd (f2, n2) sg od hs = w)) := by
  refine z_ofM (cc := cX9_climb) (maxL := 7) (ret := (some .int)) (by decide +kernel) rfl (Nat.le_of_ble_eq_true rfl) ?_
  intro pg e s m args below meth c hC hr hlk hnm hK hP A hD hG hA hS ls hl Q hQ
  have hx := hC.1
  have hb := hC.2.1
  have hml := hC.2.2.1
  have hown := hC.2.2.2.1
  have hts := hC.2.2.2.2
  have hB : ∀ w ∈ W0, w ∈ wz_X9_climb := fun _ h => List.mem_cons_of_mem _ h
  have hW0 : ∀ w ∈ W0, w.before args s = true := fun w h => hts w (hB w h)
  have hl : lv_has ls 7 [(0, .ref (α 0)), (1, .int (zI r9)), (2, .int (zI c9)), (3, .int (zI r8)), (4, .int (zI c8))] := hl
  refine lv_iload_n hx hb dX9_climb_0 rfl (lv_at hl 1 rfl) ?_
  refine lv_iload_n hx hb dX9_climb_1 rfl (lv_at hl 2 rfl) ?_
  refine z_calli hP hD hS hA (va_runS (As := [.int (zI r9), .int (zI c9)]) (rest := []) hC (c_X9_knownPoint l D τ _ _ r9 c9 (by first | assumption | rfl | omega) _) (va_cwS 2 hts (gS hB wl_X9_72 wt_X9_knownPoint wi_X9 wc_X9_knownPoint) rfl rfl rfl hd_X9_knownPoint.2 ⟨Nat.le_of_ble_eq_true rfl, Nat.le_of_ble_eq_true rfl⟩) (zp_S hK hP hD hS hA hG) rfl rfl hl.1 rfl (lv_room (Nat.le_of_ble_eq_true rfl)) dX9_climb_2 ⟨Nat.le_of_ble_eq_true rfl, Nat.le_of_ble_eq_true rfl⟩) (fun r w1 H locs hq9 hP hD hS => ?_)
  obtain ⟨v2_1, hv2_0, hv2_1, hv2_2, rfl, rfl⟩ := hq9
  refine lv_istore (lv' := [(5, .int (zI v2_1)), (0, .ref (α 0)), (1, .int (zI r9)), (2, .int (zI c9)), (3, .int (zI r8)), (4, .int (zI c8))]) hx hb dX9_climb_5 hl (by decide) rfl (fun ls hl => ?_)
  refine lv_iload_n hx hb dX9_climb_7 rfl (lv_at hl 4 rfl) ?_
  refine lv_iload hx hb dX9_climb_8 (lv_at hl 5 rfl) ?_
  refine z_calli hP hD hS hA (va_runS (As := [.int (zI r8), .int (zI c8)]) (rest := []) hC (c_X9_knownPoint l D τ _ _ r8 c8 (by first | assumption | rfl | omega) _) (va_cwS 2 hts (gS hB wl_X9_72 wt_X9_knownPoint wi_X9 wc_X9_knownPoint) rfl rfl rfl hd_X9_knownPoint.2 ⟨Nat.le_of_ble_eq_true rfl, Nat.le_of_ble_eq_true rfl⟩) (zp_S hK hP hD hS hA hG) rfl rfl hl.1 rfl (lv_room (Nat.le_of_ble_eq_true rfl)) dX9_climb_10 ⟨Nat.le_of_ble_eq_true rfl, Nat.le_of_ble_eq_true rfl⟩) (fun r w1 H locs hq9 hP hD hS => ?_)
  obtain ⟨v10_2, hv10_0, hv10_1, hv10_2, rfl, rfl⟩ := hq9
  refine lv_istore (lv' := [(6, .int (zI v10_2)), (5, .int (zI v2_1)), (0, .ref (α 0)), (1, .int (zI r9)), (2, .int (zI c9)), (3, .int (zI r8)), (4, .int (zI c8))]) hx hb dX9_climb_13 hl (by decide) rfl (fun ls hl => ?_)
  refine lv_aload_n hx hb dX9_climb_15 rfl (lv_at hl 2 rfl) ?_
  refine va_get (D := D) (ci := 9) (v := .ref (α 6)) (C := RX9) (T := TX9) (N := 9) hx hb hts (fun w h => List.mem_cons_of_mem _ (wx_X9 w h)) hown hK hP 0 rfl rfl 5 (by decide) (hW0 _ wf_X9_47) (fun _ h9 => h9) rfl dX9_climb_16 ?_
  refine lv_aload_n hx hb dX9_climb_19 rfl (lv_at hl 2 rfl) ?_
  refine va_get (D := D) (ci := 9) (v := .ref (α 1)) (C := RX9) (T := TX9) (N := 9) hx hb hts (fun w h => List.mem_cons_of_mem _ (wx_X9 w h)) hown hK hP 0 rfl rfl 0 (by decide) (hW0 _ wf_X9_12) (fun _ h9 => h9) rfl dX9_climb_20 ?_
  refine lv_iload hx hb dX9_climb_23 (lv_at hl 1 rfl) ?_
  refine lv_iload hx hb dX9_climb_25 (lv_at hl 0 rfl) ?_
  refine z_callv hP hD hS hA (va_runV (As := [.ref (α 1), .int (zI v2_1), .int (zI v10_2)]) (rest := []) hC (c_X0_lay l D τ α γ h old ch rg ln sl pd hg9 la9 sg od hs v2_1 v10_2 (by first | assumption | rfl | omega) (by first | assumption | rfl | omega) (by first | assumption | rfl | omega) _) (cwV 3 hts (gV hB wl_X9_252 wn_X0_lay ws_X0_lay wi_X0 wc_X0_lay) rfl rfl rfl hd_X0_lay ⟨Nat.le_of_ble_eq_true rfl, Nat.le_of_ble_eq_true rfl⟩) (zp_V hK hP hD hS hA hG (ci := 0) (q0 := 6) rfl rfl rfl) rfl rfl hl.1 rfl (lv_room (Nat.le_of_ble_eq_true rfl)) dX9_climb_27 ⟨Nat.le_of_ble_eq_true rfl, Nat.le_of_ble_eq_true rfl⟩) (fun w1 H locs hq9 hP hD hS => ?_)
  obtain ⟨f27_3, n27_4, hv27_0, hv27_1, rfl⟩ := hq9
  have hP : va_P D vwCl (wH α γ (h, old, ch) rg ln sl pd (f27_3, n27_4) sg od hs) H := hP
  have hD : va_D A (wH α γ (h, old, ch) rg ln sl pd (f27_3, n27_4) sg od hs) := hD
  have hcn := S_cutn_b (a := v2_1) (b := v10_2) (by omega) (by omega)
  refine lv_aload_n hx hb dX9_climb_30 rfl (lv_at hl 2 rfl) ?_
  refine va_get (D := D) (ci := 9) (v := .ref (α 6)) (C := RX9) (T := TX9) (N := 9) hx hb hts (fun w h => List.mem_cons_of_mem _ (wx_X9 w h)) hown hK hP 0 rfl rfl 5 (by decide) (hW0 _ wf_X9_47) (fun _ h9 => h9) rfl dX9_climb_31 ?_
  refine z_calli hP hD hS hA (va_runV (As := []) (rest := []) hC (c_X0_rise l D τ α γ (h, old, ch) rg ln sl pd f27_3 n27_4 sg od hs (by rw [hv27_0]; exact hcn) (by intro k z1 z2; rw [hv27_1, zmix_at (by omega)]; exact hh _ (S_on_b (by omega) (by omega) (by omega)).1 (S_on_b (by omega) (by omega) (by omega)).2) _) (cwV 0 hts (gV hB wl_X9_264 wn_X0_rise ws_X0_rise wi_X0 wc_X0_rise) rfl rfl rfl hd_X0_rise ⟨Nat.le_of_ble_eq_true rfl, Nat.le_of_ble_eq_true rfl⟩) (zp_V hK hP hD hS hA hG (ci := 0) (q0 := 6) rfl rfl rfl) rfl rfl hl.1 rfl (lv_room (Nat.le_of_ble_eq_true rfl)) dX9_climb_34 ⟨Nat.le_of_ble_eq_true rfl, Nat.le_of_ble_eq_true rfl⟩) (fun r w1 H locs hq9 hP hD hS => ?_)
  obtain ⟨v34_5, hv34_0, hv34_1, rfl, rfl⟩ := hq9
  have hP : va_P D vwCl (wH α γ (h, old, ch) rg ln sl pd (f27_3, n27_4) sg od hs) H := hP
  have hD : va_D A (wH α γ (h, old, ch) rg ln sl pd (f27_3, n27_4) sg od hs) := hD
  exact z_iret hC hr hlk hQ hP hD hS ⟨f27_3, n27_4, v34_5, (by trivial), (by rw [← hv2_1, ← hv10_1, hv34_0, hv27_0]; unfold S_rise; exact zS_congr _ hcn.1 (fun k z1 z2 => by show zmax 0 (_ - _) = zmax 0 (_ - _); rw [hv27_1, zmix_at (by omega), zmix_at (by omega)])), rfl, rfl⟩ dX9_climb_37

abbrev wz_X9_pass : List Cond := .code yX9_pass cX9_pass 7 (some .int) :: W0
abbrev rm_X9_pass : Room := { frames := 3, cells := 0, slots := 0, locals := 73 }
theorem hd_X9_pass : yX9_pass.cls = RX9 ∧ yX9_pass.cls ≠ "java/lang/invoke/MethodHandle" ∧ yX9_pass.cls ≠ "java/lang/invoke/VarHandle" ∧ (parseMethodDescriptor yX9_pass.desc).map (fun d => d.parameters.length) = some 4 := by decide +kernel
set_option maxHeartbeats 4000000 in
set_option maxRecDepth 100000 in
theorem c_X9_pass (l : Launch) (D : va_G) (τ : Nat → Nat) (α : Nat → Nat) (γ : Nat → ClassId) (h : IA) (old : IA) (ch : IA) (rg : TRg) (ln : TLn) (sl : TSl) (pd : TPd) (hg9 : IA) (la9 : Int) (sg : TSg) (od : TOd) (hs : THs) (r9 : Int) (c9 : Int) (r8 : Int) (c8 : Int) (hr9 : 0 ≤ r9 ∧ r9 ≤ 6) (hc9 : 0 ≤ c9 ∧ c9 ≤ 6) (hr8 : 0 ≤ r8 ∧ r8 ≤ 6) (hc8 : 0 ≤ c8 ∧ c8 ≤ 6) (hh : ∀ k, 0 ≤ k → k < 49 → 0 ≤ h k ∧ h k ≤ 99) : cM l yX9_pass wz_X9_pass rm_X9_pass D τ (tyH γ) [.ref (α 0), .int (zI r9), .int (zI c9), .int (zI r8), .int (zI c8)] (wH α γ (h, old, ch) rg ln sl pd (hg9, la9) sg od hs) (zQi (fun r w => ∃ (f2 : IA), ∃ (n2 : Int), ∃ (v : Int), (True) ∧ (v = S_pass h (7 * r9 + c9) (7 * r8 + c8)) ∧ r = zI v ∧ wH α γ (h, old, ch) rg ln sl pd (f2, n2) sg od hs = w)) := by
  refine z_ofM (cc := cX9_pass) (maxL := 7) (ret := (some .int)) (by decide +kernel) rfl (Nat.le_of_ble_eq_true rfl) ?_
  intro pg e s m args below meth c hC hr hlk hnm hK hP A hD hG hA hS ls hl Q hQ
  have hx := hC.1
  have hb := hC.2.1
  have hml := hC.2.2.1
  have hown := hC.2.2.2.1
  have hts := hC.2.2.2.2
  have hB : ∀ w ∈ W0, w ∈ wz_X9_pass := fun _ h => List.mem_cons_of_mem _ h
  have hW0 : ∀ w ∈ W0, w.before args s = true := fun w h => hts w (hB w h)
  have hl : lv_has ls 7 [(0, .ref (α 0)), (1, .int (zI r9)), (2, .int (zI c9)), (3, .int (zI r8)), (4, .int (zI c8))] := hl
  refine lv_iload_n hx hb dX9_pass_0 rfl (lv_at hl 1 rfl) ?_
  refine lv_iload_n hx hb dX9_pass_1 rfl (lv_at hl 2 rfl) ?_
  refine z_calli hP hD hS hA (va_runS (As := [.int (zI r9), .int (zI c9)]) (rest := []) hC (c_X9_knownPoint l D τ _ _ r9 c9 (by first | assumption | rfl | omega) _) (va_cwS 2 hts (gS hB wl_X9_72 wt_X9_knownPoint wi_X9 wc_X9_knownPoint) rfl rfl rfl hd_X9_knownPoint.2 ⟨Nat.le_of_ble_eq_true rfl, Nat.le_of_ble_eq_true rfl⟩) (zp_S hK hP hD hS hA hG) rfl rfl hl.1 rfl (lv_room (Nat.le_of_ble_eq_true rfl)) dX9_pass_2 ⟨Nat.le_of_ble_eq_true rfl, Nat.le_of_ble_eq_true rfl⟩) (fun r w1 H locs hq9 hP hD hS => ?_)
  obtain ⟨v2_1, hv2_0, hv2_1, hv2_2, rfl, rfl⟩ := hq9
  refine lv_istore (lv' := [(5, .int (zI v2_1)), (0, .ref (α 0)), (1, .int (zI r9)), (2, .int (zI c9)), (3, .int (zI r8)), (4, .int (zI c8))]) hx hb dX9_pass_5 hl (by decide) rfl (fun ls hl => ?_)
  refine lv_iload_n hx hb dX9_pass_7 rfl (lv_at hl 4 rfl) ?_
  refine lv_iload hx hb dX9_pass_8 (lv_at hl 5 rfl) ?_
  refine z_calli hP hD hS hA (va_runS (As := [.int (zI r8), .int (zI c8)]) (rest := []) hC (c_X9_knownPoint l D τ _ _ r8 c8 (by first | assumption | rfl | omega) _) (va_cwS 2 hts (gS hB wl_X9_72 wt_X9_knownPoint wi_X9 wc_X9_knownPoint) rfl rfl rfl hd_X9_knownPoint.2 ⟨Nat.le_of_ble_eq_true rfl, Nat.le_of_ble_eq_true rfl⟩) (zp_S hK hP hD hS hA hG) rfl rfl hl.1 rfl (lv_room (Nat.le_of_ble_eq_true rfl)) dX9_pass_10 ⟨Nat.le_of_ble_eq_true rfl, Nat.le_of_ble_eq_true rfl⟩) (fun r w1 H locs hq9 hP hD hS => ?_)
  obtain ⟨v10_2, hv10_0, hv10_1, hv10_2, rfl, rfl⟩ := hq9
  refine lv_istore (lv' := [(6, .int (zI v10_2)), (5, .int (zI v2_1)), (0, .ref (α 0)), (1, .int (zI r9)), (2, .int (zI c9)), (3, .int (zI r8)), (4, .int (zI c8))]) hx hb dX9_pass_13 hl (by decide) rfl (fun ls hl => ?_)
  refine lv_aload_n hx hb dX9_pass_15 rfl (lv_at hl 2 rfl) ?_
  refine va_get (D := D) (ci := 9) (v := .ref (α 6)) (C := RX9) (T := TX9) (N := 9) hx hb hts (fun w h => List.mem_cons_of_mem _ (wx_X9 w h)) hown hK hP 0 rfl rfl 5 (by decide) (hW0 _ wf_X9_47) (fun _ h9 => h9) rfl dX9_pass_16 ?_
  refine lv_aload_n hx hb dX9_pass_19 rfl (lv_at hl 2 rfl) ?_
  refine va_get (D := D) (ci := 9) (v := .ref (α 1)) (C := RX9) (T := TX9) (N := 9) hx hb hts (fun w h => List.mem_cons_of_mem _ (wx_X9 w h)) hown hK hP 0 rfl rfl 0 (by decide) (hW0 _ wf_X9_12) (fun _ h9 => h9) rfl dX9_pass_20 ?_
  refine lv_iload hx hb dX9_pass_23 (lv_at hl 1 rfl) ?_
  refine lv_iload hx hb dX9_pass_25 (lv_at hl 0 rfl) ?_
  refine z_callv hP hD hS hA (va_runV (As := [.ref (α 1), .int (zI v2_1), .int (zI v10_2)]) (rest := []) hC (c_X0_lay l D τ α γ h old ch rg ln sl pd hg9 la9 sg od hs v2_1 v10_2 (by first | assumption | rfl | omega) (by first | assumption | rfl | omega) (by first | assumption | rfl | omega) _) (cwV 3 hts (gV hB wl_X9_252 wn_X0_lay ws_X0_lay wi_X0 wc_X0_lay) rfl rfl rfl hd_X0_lay ⟨Nat.le_of_ble_eq_true rfl, Nat.le_of_ble_eq_true rfl⟩) (zp_V hK hP hD hS hA hG (ci := 0) (q0 := 6) rfl rfl rfl) rfl rfl hl.1 rfl (lv_room (Nat.le_of_ble_eq_true rfl)) dX9_pass_27 ⟨Nat.le_of_ble_eq_true rfl, Nat.le_of_ble_eq_true rfl⟩) (fun w1 H locs hq9 hP hD hS => ?_)
  obtain ⟨f27_3, n27_4, hv27_0, hv27_1, rfl⟩ := hq9
  have hP : va_P D vwCl (wH α γ (h, old, ch) rg ln sl pd (f27_3, n27_4) sg od hs) H := hP
  have hD : va_D A (wH α γ (h, old, ch) rg ln sl pd (f27_3, n27_4) sg od hs) := hD
  have hcn := S_cutn_b (a := v2_1) (b := v10_2) (by omega) (by omega)
  refine lv_aload_n hx hb dX9_pass_30 rfl (lv_at hl 2 rfl) ?_
  refine va_get (D := D) (ci := 9) (v := .ref (α 6)) (C := RX9) (T := TX9) (N := 9) hx hb hts (fun w h => List.mem_cons_of_mem _ (wx_X9 w h)) hown hK hP 0 rfl rfl 5 (by decide) (hW0 _ wf_X9_47) (fun _ h9 => h9) rfl dX9_pass_31 ?_
  refine z_calli hP hD hS hA (va_runV (As := []) (rest := []) hC (c_X0_top l D τ α γ (h, old, ch) rg ln sl pd f27_3 n27_4 sg od hs (by rw [hv27_0]; exact hcn) (by intro k z1 z2; rw [hv27_1, zmix_at (by omega)]; exact hh _ (S_on_b (by omega) (by omega) (by omega)).1 (S_on_b (by omega) (by omega) (by omega)).2) _) (cwV 0 hts (gV hB wl_X9_267 wn_X0_top ws_X0_top wi_X0 wc_X0_top) rfl rfl rfl hd_X0_top ⟨Nat.le_of_ble_eq_true rfl, Nat.le_of_ble_eq_true rfl⟩) (zp_V hK hP hD hS hA hG (ci := 0) (q0 := 6) rfl rfl rfl) rfl rfl hl.1 rfl (lv_room (Nat.le_of_ble_eq_true rfl)) dX9_pass_34 ⟨Nat.le_of_ble_eq_true rfl, Nat.le_of_ble_eq_true rfl⟩) (fun r w1 H locs hq9 hP hD hS => ?_)
  obtain ⟨v34_5, hv34_0, hv34_1, rfl, rfl⟩ := hq9
  have hP : va_P D vwCl (wH α γ (h, old, ch) rg ln sl pd (f27_3, n27_4) sg od hs) H := hP
  have hD : va_D A (wH α γ (h, old, ch) rg ln sl pd (f27_3, n27_4) sg od hs) := hD
  exact z_iret hC hr hlk hQ hP hD hS ⟨f27_3, n27_4, v34_5, (by trivial), (by rw [← hv2_1, ← hv10_1, hv34_0, hv27_0]; unfold S_pass; exact S_top_congr _ (by omega) (fun k z1 z2 => by rw [hv27_1, zmix_at (by omega)])), rfl, rfl⟩ dX9_pass_37

abbrev wz_X9_sees : List Cond := .code yX9_sees cX9_sees 7 (some .boolean) :: W0
abbrev rm_X9_sees : Room := { frames := 3, cells := 0, slots := 0, locals := 73 }
theorem hd_X9_sees : yX9_sees.cls = RX9 ∧ yX9_sees.cls ≠ "java/lang/invoke/MethodHandle" ∧ yX9_sees.cls ≠ "java/lang/invoke/VarHandle" ∧ (parseMethodDescriptor yX9_sees.desc).map (fun d => d.parameters.length) = some 4 := by decide +kernel
set_option maxHeartbeats 4000000 in
set_option maxRecDepth 100000 in
theorem c_X9_sees (l : Launch) (D : va_G) (τ : Nat → Nat) (α : Nat → Nat) (γ : Nat → ClassId) (h : IA) (old : IA) (ch : IA) (rg : TRg) (ln : TLn) (sl : TSl) (pd : TPd) (hg9 : IA) (la9 : Int) (sg : TSg) (od : TOd) (hs : THs) (r9 : Int) (c9 : Int) (r8 : Int) (c8 : Int) (hr9 : 0 ≤ r9 ∧ r9 ≤ 6) (hc9 : 0 ≤ c9 ∧ c9 ≤ 6) (hr8 : 0 ≤ r8 ∧ r8 ≤ 6) (hc8 : 0 ≤ c8 ∧ c8 ≤ 6) (hh : ∀ k, 0 ≤ k → k < 49 → 0 ≤ h k ∧ h k ≤ 99) : cM l yX9_sees wz_X9_sees rm_X9_sees D τ (tyH γ) [.ref (α 0), .int (zI r9), .int (zI c9), .int (zI r8), .int (zI c8)] (wH α γ (h, old, ch) rg ln sl pd (hg9, la9) sg od hs) (zQi (fun r w => ∃ (f2 : IA), ∃ (n2 : Int), ∃ (v : Bool), (True) ∧ (v = true ↔ S_clear h (7 * r9 + c9) (7 * r8 + c8)) ∧ r = bI v ∧ wH α γ (h, old, ch) rg ln sl pd (f2, n2) sg od hs = w)) := by
  refine z_ofM (cc := cX9_sees) (maxL := 7) (ret := (some .boolean)) (by decide +kernel) rfl (Nat.le_of_ble_eq_true rfl) ?_
  intro pg e s m args below meth c hC hr hlk hnm hK hP A hD hG hA hS ls hl Q hQ
  have hx := hC.1
  have hb := hC.2.1
  have hml := hC.2.2.1
  have hown := hC.2.2.2.1
  have hts := hC.2.2.2.2
  have hB : ∀ w ∈ W0, w ∈ wz_X9_sees := fun _ h => List.mem_cons_of_mem _ h
  have hW0 : ∀ w ∈ W0, w.before args s = true := fun w h => hts w (hB w h)
  have hl : lv_has ls 7 [(0, .ref (α 0)), (1, .int (zI r9)), (2, .int (zI c9)), (3, .int (zI r8)), (4, .int (zI c8))] := hl
  refine lv_iload_n hx hb dX9_sees_0 rfl (lv_at hl 1 rfl) ?_
  refine lv_iload_n hx hb dX9_sees_1 rfl (lv_at hl 2 rfl) ?_
  refine z_calli hP hD hS hA (va_runS (As := [.int (zI r9), .int (zI c9)]) (rest := []) hC (c_X9_knownPoint l D τ _ _ r9 c9 (by first | assumption | rfl | omega) _) (va_cwS 2 hts (gS hB wl_X9_72 wt_X9_knownPoint wi_X9 wc_X9_knownPoint) rfl rfl rfl hd_X9_knownPoint.2 ⟨Nat.le_of_ble_eq_true rfl, Nat.le_of_ble_eq_true rfl⟩) (zp_S hK hP hD hS hA hG) rfl rfl hl.1 rfl (lv_room (Nat.le_of_ble_eq_true rfl)) dX9_sees_2 ⟨Nat.le_of_ble_eq_true rfl, Nat.le_of_ble_eq_true rfl⟩) (fun r w1 H locs hq9 hP hD hS => ?_)
  obtain ⟨v2_1, hv2_0, hv2_1, hv2_2, rfl, rfl⟩ := hq9
  refine lv_istore (lv' := [(5, .int (zI v2_1)), (0, .ref (α 0)), (1, .int (zI r9)), (2, .int (zI c9)), (3, .int (zI r8)), (4, .int (zI c8))]) hx hb dX9_sees_5 hl (by decide) rfl (fun ls hl => ?_)
  refine lv_iload_n hx hb dX9_sees_7 rfl (lv_at hl 4 rfl) ?_
  refine lv_iload hx hb dX9_sees_8 (lv_at hl 5 rfl) ?_
  refine z_calli hP hD hS hA (va_runS (As := [.int (zI r8), .int (zI c8)]) (rest := []) hC (c_X9_knownPoint l D τ _ _ r8 c8 (by first | assumption | rfl | omega) _) (va_cwS 2 hts (gS hB wl_X9_72 wt_X9_knownPoint wi_X9 wc_X9_knownPoint) rfl rfl rfl hd_X9_knownPoint.2 ⟨Nat.le_of_ble_eq_true rfl, Nat.le_of_ble_eq_true rfl⟩) (zp_S hK hP hD hS hA hG) rfl rfl hl.1 rfl (lv_room (Nat.le_of_ble_eq_true rfl)) dX9_sees_10 ⟨Nat.le_of_ble_eq_true rfl, Nat.le_of_ble_eq_true rfl⟩) (fun r w1 H locs hq9 hP hD hS => ?_)
  obtain ⟨v10_2, hv10_0, hv10_1, hv10_2, rfl, rfl⟩ := hq9
  refine lv_istore (lv' := [(6, .int (zI v10_2)), (5, .int (zI v2_1)), (0, .ref (α 0)), (1, .int (zI r9)), (2, .int (zI c9)), (3, .int (zI r8)), (4, .int (zI c8))]) hx hb dX9_sees_13 hl (by decide) rfl (fun ls hl => ?_)
  refine lv_aload_n hx hb dX9_sees_15 rfl (lv_at hl 2 rfl) ?_
  refine va_get (D := D) (ci := 9) (v := .ref (α 6)) (C := RX9) (T := TX9) (N := 9) hx hb hts (fun w h => List.mem_cons_of_mem _ (wx_X9 w h)) hown hK hP 0 rfl rfl 5 (by decide) (hW0 _ wf_X9_47) (fun _ h9 => h9) rfl dX9_sees_16 ?_
  refine lv_aload_n hx hb dX9_sees_19 rfl (lv_at hl 2 rfl) ?_
  refine va_get (D := D) (ci := 9) (v := .ref (α 1)) (C := RX9) (T := TX9) (N := 9) hx hb hts (fun w h => List.mem_cons_of_mem _ (wx_X9 w h)) hown hK hP 0 rfl rfl 0 (by decide) (hW0 _ wf_X9_12) (fun _ h9 => h9) rfl dX9_sees_20 ?_
  refine lv_iload hx hb dX9_sees_23 (lv_at hl 1 rfl) ?_
  refine lv_iload hx hb dX9_sees_25 (lv_at hl 0 rfl) ?_
  refine z_callv hP hD hS hA (va_runV (As := [.ref (α 1), .int (zI v2_1), .int (zI v10_2)]) (rest := []) hC (c_X0_lay l D τ α γ h old ch rg ln sl pd hg9 la9 sg od hs v2_1 v10_2 (by first | assumption | rfl | omega) (by first | assumption | rfl | omega) (by first | assumption | rfl | omega) _) (cwV 3 hts (gV hB wl_X9_252 wn_X0_lay ws_X0_lay wi_X0 wc_X0_lay) rfl rfl rfl hd_X0_lay ⟨Nat.le_of_ble_eq_true rfl, Nat.le_of_ble_eq_true rfl⟩) (zp_V hK hP hD hS hA hG (ci := 0) (q0 := 6) rfl rfl rfl) rfl rfl hl.1 rfl (lv_room (Nat.le_of_ble_eq_true rfl)) dX9_sees_27 ⟨Nat.le_of_ble_eq_true rfl, Nat.le_of_ble_eq_true rfl⟩) (fun w1 H locs hq9 hP hD hS => ?_)
  obtain ⟨f27_3, n27_4, hv27_0, hv27_1, rfl⟩ := hq9
  have hP : va_P D vwCl (wH α γ (h, old, ch) rg ln sl pd (f27_3, n27_4) sg od hs) H := hP
  have hD : va_D A (wH α γ (h, old, ch) rg ln sl pd (f27_3, n27_4) sg od hs) := hD
  have hcn := S_cutn_b (a := v2_1) (b := v10_2) (by omega) (by omega)
  refine lv_aload_n hx hb dX9_sees_30 rfl (lv_at hl 2 rfl) ?_
  refine va_get (D := D) (ci := 9) (v := .ref (α 6)) (C := RX9) (T := TX9) (N := 9) hx hb hts (fun w h => List.mem_cons_of_mem _ (wx_X9 w h)) hown hK hP 0 rfl rfl 5 (by decide) (hW0 _ wf_X9_47) (fun _ h9 => h9) rfl dX9_sees_31 ?_
  refine z_calli hP hD hS hA (va_runV (As := []) (rest := []) hC (c_X0_isClear l D τ α γ (h, old, ch) rg ln sl pd f27_3 n27_4 sg od hs (by rw [hv27_0]; exact hcn) (by intro k z1 z2; rw [hv27_1, zmix_at (by omega)]; exact hh _ (S_on_b (by omega) (by omega) (by omega)).1 (S_on_b (by omega) (by omega) (by omega)).2) _) (cwV 0 hts (gV hB wl_X9_270 wn_X0_isClear ws_X0_isClear wi_X0 wc_X0_isClear) rfl rfl rfl hd_X0_isClear ⟨Nat.le_of_ble_eq_true rfl, Nat.le_of_ble_eq_true rfl⟩) (zp_V hK hP hD hS hA hG (ci := 0) (q0 := 6) rfl rfl rfl) rfl rfl hl.1 rfl (lv_room (Nat.le_of_ble_eq_true rfl)) dX9_sees_34 ⟨Nat.le_of_ble_eq_true rfl, Nat.le_of_ble_eq_true rfl⟩) (fun r w1 H locs hq9 hP hD hS => ?_)
  obtain ⟨v34_5, hv34_0, rfl, rfl⟩ := hq9
  have hP : va_P D vwCl (wH α γ (h, old, ch) rg ln sl pd (f27_3, n27_4) sg od hs) H := hP
  have hD : va_D A (wH α γ (h, old, ch) rg ln sl pd (f27_3, n27_4) sg od hs) := hD
  exact z_zret hC hr hlk hQ hP hD hS ⟨f27_3, n27_4, v34_5, (by trivial), (by rw [← hv2_1, ← hv10_1, hv34_0, hv27_0]; exact S_clear_of (by omega) (by omega) hv27_1), rfl, rfl⟩ dX9_sees_37

abbrev wz_X9_cutHeight : List Cond := .code yX9_cutHeight cX9_cutHeight 8 (some .int) :: W0
abbrev rm_X9_cutHeight : Room := { frames := 3, cells := 0, slots := 0, locals := 73 }
theorem hd_X9_cutHeight : yX9_cutHeight.cls = RX9 ∧ yX9_cutHeight.cls ≠ "java/lang/invoke/MethodHandle" ∧ yX9_cutHeight.cls ≠ "java/lang/invoke/VarHandle" ∧ (parseMethodDescriptor yX9_cutHeight.desc).map (fun d => d.parameters.length) = some 5 := by decide +kernel
set_option maxHeartbeats 4000000 in
set_option maxRecDepth 100000 in
theorem c_X9_cutHeight (l : Launch) (D : va_G) (τ : Nat → Nat) (α : Nat → Nat) (γ : Nat → ClassId) (h : IA) (old : IA) (ch : IA) (rg : TRg) (ln : TLn) (sl : TSl) (pd : TPd) (hg9 : IA) (la9 : Int) (sg : TSg) (od : TOd) (hs : THs) (r9 : Int) (c9 : Int) (r8 : Int) (c8 : Int) (i : Int) (hr9 : 0 ≤ r9 ∧ r9 ≤ 6) (hc9 : 0 ≤ c9 ∧ c9 ≤ 6) (hr8 : 0 ≤ r8 ∧ r8 ≤ 6) (hc8 : 0 ≤ c8 ∧ c8 ≤ 6) (hi9 : 0 ≤ i ∧ i ≤ S_cutn (7 * r9 + c9) (7 * r8 + c8)) (hh : ∀ k, 0 ≤ k → k < 49 → 0 ≤ h k ∧ h k ≤ 99) : cM l yX9_cutHeight wz_X9_cutHeight rm_X9_cutHeight D τ (tyH γ) [.ref (α 0), .int (zI r9), .int (zI c9), .int (zI r8), .int (zI c8), .int (zI i)] (wH α γ (h, old, ch) rg ln sl pd (hg9, la9) sg od hs) (zQi (fun r w => ∃ (f2 : IA), ∃ (n2 : Int), ∃ (v : Int), (True) ∧ (v = h (S_on (7 * r9 + c9) (7 * r8 + c8) i)) ∧ r = zI v ∧ wH α γ (h, old, ch) rg ln sl pd (f2, n2) sg od hs = w)) := by
  refine z_ofM (cc := cX9_cutHeight) (maxL := 8) (ret := (some .int)) (by decide +kernel) rfl (Nat.le_of_ble_eq_true rfl) ?_
  intro pg e s m args below meth c hC hr hlk hnm hK hP A hD hG hA hS ls hl Q hQ
  have hx := hC.1
  have hb := hC.2.1
  have hml := hC.2.2.1
  have hown := hC.2.2.2.1
  have hts := hC.2.2.2.2
  have hB : ∀ w ∈ W0, w ∈ wz_X9_cutHeight := fun _ h => List.mem_cons_of_mem _ h
  have hW0 : ∀ w ∈ W0, w.before args s = true := fun w h => hts w (hB w h)
  have hl : lv_has ls 8 [(0, .ref (α 0)), (1, .int (zI r9)), (2, .int (zI c9)), (3, .int (zI r8)), (4, .int (zI c8)), (5, .int (zI i))] := hl
  refine lv_iload_n hx hb dX9_cutHeight_0 rfl (lv_at hl 1 rfl) ?_
  refine lv_iload_n hx hb dX9_cutHeight_1 rfl (lv_at hl 2 rfl) ?_
  refine z_calli hP hD hS hA (va_runS (As := [.int (zI r9), .int (zI c9)]) (rest := []) hC (c_X9_knownPoint l D τ _ _ r9 c9 (by first | assumption | rfl | omega) _) (va_cwS 2 hts (gS hB wl_X9_72 wt_X9_knownPoint wi_X9 wc_X9_knownPoint) rfl rfl rfl hd_X9_knownPoint.2 ⟨Nat.le_of_ble_eq_true rfl, Nat.le_of_ble_eq_true rfl⟩) (zp_S hK hP hD hS hA hG) rfl rfl hl.1 rfl (lv_room (Nat.le_of_ble_eq_true rfl)) dX9_cutHeight_2 ⟨Nat.le_of_ble_eq_true rfl, Nat.le_of_ble_eq_true rfl⟩) (fun r w1 H locs hq9 hP hD hS => ?_)
  obtain ⟨v2_1, hv2_0, hv2_1, hv2_2, rfl, rfl⟩ := hq9
  refine lv_istore (lv' := [(6, .int (zI v2_1)), (0, .ref (α 0)), (1, .int (zI r9)), (2, .int (zI c9)), (3, .int (zI r8)), (4, .int (zI c8)), (5, .int (zI i))]) hx hb dX9_cutHeight_5 hl (by decide) rfl (fun ls hl => ?_)
  refine lv_iload_n hx hb dX9_cutHeight_7 rfl (lv_at hl 4 rfl) ?_
  refine lv_iload hx hb dX9_cutHeight_8 (lv_at hl 5 rfl) ?_
  refine z_calli hP hD hS hA (va_runS (As := [.int (zI r8), .int (zI c8)]) (rest := []) hC (c_X9_knownPoint l D τ _ _ r8 c8 (by first | assumption | rfl | omega) _) (va_cwS 2 hts (gS hB wl_X9_72 wt_X9_knownPoint wi_X9 wc_X9_knownPoint) rfl rfl rfl hd_X9_knownPoint.2 ⟨Nat.le_of_ble_eq_true rfl, Nat.le_of_ble_eq_true rfl⟩) (zp_S hK hP hD hS hA hG) rfl rfl hl.1 rfl (lv_room (Nat.le_of_ble_eq_true rfl)) dX9_cutHeight_10 ⟨Nat.le_of_ble_eq_true rfl, Nat.le_of_ble_eq_true rfl⟩) (fun r w1 H locs hq9 hP hD hS => ?_)
  obtain ⟨v10_2, hv10_0, hv10_1, hv10_2, rfl, rfl⟩ := hq9
  refine lv_istore (lv' := [(7, .int (zI v10_2)), (6, .int (zI v2_1)), (0, .ref (α 0)), (1, .int (zI r9)), (2, .int (zI c9)), (3, .int (zI r8)), (4, .int (zI c8)), (5, .int (zI i))]) hx hb dX9_cutHeight_13 hl (by decide) rfl (fun ls hl => ?_)
  refine lv_aload_n hx hb dX9_cutHeight_15 rfl (lv_at hl 2 rfl) ?_
  refine va_get (D := D) (ci := 9) (v := .ref (α 6)) (C := RX9) (T := TX9) (N := 9) hx hb hts (fun w h => List.mem_cons_of_mem _ (wx_X9 w h)) hown hK hP 0 rfl rfl 5 (by decide) (hW0 _ wf_X9_47) (fun _ h9 => h9) rfl dX9_cutHeight_16 ?_
  refine lv_aload_n hx hb dX9_cutHeight_19 rfl (lv_at hl 2 rfl) ?_
  refine va_get (D := D) (ci := 9) (v := .ref (α 1)) (C := RX9) (T := TX9) (N := 9) hx hb hts (fun w h => List.mem_cons_of_mem _ (wx_X9 w h)) hown hK hP 0 rfl rfl 0 (by decide) (hW0 _ wf_X9_12) (fun _ h9 => h9) rfl dX9_cutHeight_20 ?_
  refine lv_iload hx hb dX9_cutHeight_23 (lv_at hl 1 rfl) ?_
  refine lv_iload hx hb dX9_cutHeight_25 (lv_at hl 0 rfl) ?_
  refine z_callv hP hD hS hA (va_runV (As := [.ref (α 1), .int (zI v2_1), .int (zI v10_2)]) (rest := []) hC (c_X0_lay l D τ α γ h old ch rg ln sl pd hg9 la9 sg od hs v2_1 v10_2 (by first | assumption | rfl | omega) (by first | assumption | rfl | omega) (by first | assumption | rfl | omega) _) (cwV 3 hts (gV hB wl_X9_252 wn_X0_lay ws_X0_lay wi_X0 wc_X0_lay) rfl rfl rfl hd_X0_lay ⟨Nat.le_of_ble_eq_true rfl, Nat.le_of_ble_eq_true rfl⟩) (zp_V hK hP hD hS hA hG (ci := 0) (q0 := 6) rfl rfl rfl) rfl rfl hl.1 rfl (lv_room (Nat.le_of_ble_eq_true rfl)) dX9_cutHeight_27 ⟨Nat.le_of_ble_eq_true rfl, Nat.le_of_ble_eq_true rfl⟩) (fun w1 H locs hq9 hP hD hS => ?_)
  obtain ⟨f27_3, n27_4, hv27_0, hv27_1, rfl⟩ := hq9
  have hP : va_P D vwCl (wH α γ (h, old, ch) rg ln sl pd (f27_3, n27_4) sg od hs) H := hP
  have hD : va_D A (wH α γ (h, old, ch) rg ln sl pd (f27_3, n27_4) sg od hs) := hD
  have hcn := S_cutn_b (a := v2_1) (b := v10_2) (by omega) (by omega)
  rw [← hv2_1, ← hv10_1] at hi9
  refine lv_iload hx hb dX9_cutHeight_30 (lv_at hl 7 rfl) ?_
  refine z_iflt (tgt := 47) hx hb ⟨by omega, by omega⟩ dX9_cutHeight_32 (by decide) (fun c_32 => ?_) (fun c_32 => ?_)
  · exfalso; omega
  · refine lv_iload hx hb dX9_cutHeight_35 (lv_at hl 7 rfl) ?_
    refine lv_aload_n hx hb dX9_cutHeight_37 rfl (lv_at hl 2 rfl) ?_
    refine va_get (D := D) (ci := 9) (v := .ref (α 6)) (C := RX9) (T := TX9) (N := 9) hx hb hts (fun w h => List.mem_cons_of_mem _ (wx_X9 w h)) hown hK hP 0 rfl rfl 5 (by decide) (hW0 _ wf_X9_47) (fun _ h9 => h9) rfl dX9_cutHeight_38 ?_
    refine z_calli hP hD hS hA (va_runV (As := []) (rest := [.int (zI i)]) hC (c_X0_last l D τ α γ (h, old, ch) rg ln sl pd f27_3 n27_4 sg od hs _) (cwV 0 hts (gV hB wl_X9_256 wn_X0_last ws_X0_last wi_X0 wc_X0_last) rfl rfl rfl hd_X0_last ⟨Nat.le_of_ble_eq_true rfl, Nat.le_of_ble_eq_true rfl⟩) (zp_V hK hP hD hS hA hG (ci := 0) (q0 := 6) rfl rfl rfl) rfl rfl hl.1 rfl (lv_room (Nat.le_of_ble_eq_true rfl)) dX9_cutHeight_41 ⟨Nat.le_of_ble_eq_true rfl, Nat.le_of_ble_eq_true rfl⟩) (fun r w1 H locs hq9 hP hD hS => ?_)
    obtain ⟨v41_5, hv41_0, rfl, rfl⟩ := hq9
    have hP : va_P D vwCl (wH α γ (h, old, ch) rg ln sl pd (f27_3, n27_4) sg od hs) H := hP
    have hD : va_D A (wH α γ (h, old, ch) rg ln sl pd (f27_3, n27_4) sg od hs) := hD
    refine z_icle (tgt := 58) hx hb ⟨by omega, by omega⟩ ⟨by omega, by omega⟩ dX9_cutHeight_44 (by decide) (fun c_44 => ?_) (fun c_44 => ?_)
    · refine lv_aload_n hx hb dX9_cutHeight_58 rfl (lv_at hl 2 rfl) ?_
      refine va_get (D := D) (ci := 9) (v := .ref (α 6)) (C := RX9) (T := TX9) (N := 9) hx hb hts (fun w h => List.mem_cons_of_mem _ (wx_X9 w h)) hown hK hP 0 rfl rfl 5 (by decide) (hW0 _ wf_X9_47) (fun _ h9 => h9) rfl dX9_cutHeight_59 ?_
      refine lv_iload hx hb dX9_cutHeight_62 (lv_at hl 7 rfl) ?_
      refine z_calli hP hD hS hA (va_runV (As := [.int (zI i)]) (rest := []) hC (c_X0_height l D τ α γ (h, old, ch) rg ln sl pd f27_3 n27_4 sg od hs i (by rw [hv27_0]; exact hcn) (by intro k z1 z2; rw [hv27_1, zmix_at (by omega)]; exact hh _ (S_on_b (by omega) (by omega) (by omega)).1 (S_on_b (by omega) (by omega) (by omega)).2) (by omega) _) (cwV 1 hts (gV hB wl_X9_261 wn_X0_height ws_X0_height wi_X0 wc_X0_height) rfl rfl rfl hd_X0_height ⟨Nat.le_of_ble_eq_true rfl, Nat.le_of_ble_eq_true rfl⟩) (zp_V hK hP hD hS hA hG (ci := 0) (q0 := 6) rfl rfl rfl) rfl rfl hl.1 rfl (lv_room (Nat.le_of_ble_eq_true rfl)) dX9_cutHeight_64 ⟨Nat.le_of_ble_eq_true rfl, Nat.le_of_ble_eq_true rfl⟩) (fun r w1 H locs hq9 hP hD hS => ?_)
      obtain ⟨v64_6, hv64_0, hv64_1, rfl, rfl⟩ := hq9
      have hP : va_P D vwCl (wH α γ (h, old, ch) rg ln sl pd (f27_3, n27_4) sg od hs) H := hP
      have hD : va_D A (wH α γ (h, old, ch) rg ln sl pd (f27_3, n27_4) sg od hs) := hD
      exact z_iret hC hr hlk hQ hP hD hS ⟨f27_3, n27_4, v64_6, (by trivial), (by rw [hv64_0, hv27_1, zmix_at (by omega), hv2_1, hv10_1]), rfl, rfl⟩ dX9_cutHeight_67
    · exfalso; omega

abbrev wz_X9_seenFrom : List Cond := .code yX9_seenFrom cX9_seenFrom 4 (some .int) :: W0
abbrev rm_X9_seenFrom : Room := { frames := 4, cells := 0, slots := 0, locals := 98 }
theorem hd_X9_seenFrom : yX9_seenFrom.cls = RX9 ∧ yX9_seenFrom.cls ≠ "java/lang/invoke/MethodHandle" ∧ yX9_seenFrom.cls ≠ "java/lang/invoke/VarHandle" ∧ (parseMethodDescriptor yX9_seenFrom.desc).map (fun d => d.parameters.length) = some 2 := by decide +kernel
set_option maxHeartbeats 4000000 in
set_option maxRecDepth 100000 in
theorem c_X9_seenFrom (l : Launch) (D : va_G) (τ : Nat → Nat) (α : Nat → Nat) (γ : Nat → ClassId) (h : IA) (old : IA) (ch : IA) (rg : TRg) (ln : TLn) (sl : TSl) (pd : TPd) (hg9 : IA) (la9 : Int) (sg : TSg) (od : TOd) (hs : THs) (r9 : Int) (c9 : Int) (hr9 : 0 ≤ r9 ∧ r9 ≤ 6) (hc9 : 0 ≤ c9 ∧ c9 ≤ 6) (hh : ∀ k, 0 ≤ k → k < 49 → 0 ≤ h k ∧ h k ≤ 99) : cM l yX9_seenFrom wz_X9_seenFrom rm_X9_seenFrom D τ (tyH γ) [.ref (α 0), .int (zI r9), .int (zI c9)] (wH α γ (h, old, ch) rg ln sl pd (hg9, la9) sg od hs) (zQi (fun r w => ∃ (f2 : IA), ∃ (n2 : Int), ∃ (v : Int), (True) ∧ (v = S_seen h (7 * r9 + c9)) ∧ r = zI v ∧ wH α γ (h, old, ch) rg ln sl pd (f2, n2) sg od hs = w)) := by
  refine z_ofM (cc := cX9_seenFrom) (maxL := 4) (ret := (some .int)) (by decide +kernel) rfl (Nat.le_of_ble_eq_true rfl) ?_
  intro pg e s m args below meth c hC hr hlk hnm hK hP A hD hG hA hS ls hl Q hQ
  have hx := hC.1
  have hb := hC.2.1
  have hml := hC.2.2.1
  have hown := hC.2.2.2.1
  have hts := hC.2.2.2.2
  have hB : ∀ w ∈ W0, w ∈ wz_X9_seenFrom := fun _ h => List.mem_cons_of_mem _ h
  have hW0 : ∀ w ∈ W0, w.before args s = true := fun w h => hts w (hB w h)
  have hl : lv_has ls 4 [(0, .ref (α 0)), (1, .int (zI r9)), (2, .int (zI c9))] := hl
  refine lv_iload_n hx hb dX9_seenFrom_0 rfl (lv_at hl 1 rfl) ?_
  refine lv_iload_n hx hb dX9_seenFrom_1 rfl (lv_at hl 2 rfl) ?_
  refine z_calli hP hD hS hA (va_runS (As := [.int (zI r9), .int (zI c9)]) (rest := []) hC (c_X9_knownPoint l D τ _ _ r9 c9 (by first | assumption | rfl | omega) _) (va_cwS 2 hts (gS hB wl_X9_72 wt_X9_knownPoint wi_X9 wc_X9_knownPoint) rfl rfl rfl hd_X9_knownPoint.2 ⟨Nat.le_of_ble_eq_true rfl, Nat.le_of_ble_eq_true rfl⟩) (zp_S hK hP hD hS hA hG) rfl rfl hl.1 rfl (lv_room (Nat.le_of_ble_eq_true rfl)) dX9_seenFrom_2 ⟨Nat.le_of_ble_eq_true rfl, Nat.le_of_ble_eq_true rfl⟩) (fun r w1 H locs hq9 hP hD hS => ?_)
  obtain ⟨v2_1, hv2_0, hv2_1, hv2_2, rfl, rfl⟩ := hq9
  refine lv_istore_n (lv' := [(3, .int (zI v2_1)), (0, .ref (α 0)), (1, .int (zI r9)), (2, .int (zI c9))]) hx hb dX9_seenFrom_5 rfl hl (by decide) rfl (fun ls hl => ?_)
  refine lv_aload_n hx hb dX9_seenFrom_6 rfl (lv_at hl 1 rfl) ?_
  refine va_get (D := D) (ci := 9) (v := .ref (α 7)) (C := RX9) (T := TX9) (N := 9) hx hb hts (fun w h => List.mem_cons_of_mem _ (wx_X9 w h)) hown hK hP 0 rfl rfl 6 (by decide) (hW0 _ wf_X9_54) (fun _ h9 => h9) rfl dX9_seenFrom_7 ?_
  refine lv_aload_n hx hb dX9_seenFrom_10 rfl (lv_at hl 1 rfl) ?_
  refine va_get (D := D) (ci := 9) (v := .ref (α 1)) (C := RX9) (T := TX9) (N := 9) hx hb hts (fun w h => List.mem_cons_of_mem _ (wx_X9 w h)) hown hK hP 0 rfl rfl 0 (by decide) (hW0 _ wf_X9_12) (fun _ h9 => h9) rfl dX9_seenFrom_11 ?_
  refine lv_aload_n hx hb dX9_seenFrom_14 rfl (lv_at hl 1 rfl) ?_
  refine va_get (D := D) (ci := 9) (v := .ref (α 6)) (C := RX9) (T := TX9) (N := 9) hx hb hts (fun w h => List.mem_cons_of_mem _ (wx_X9 w h)) hown hK hP 0 rfl rfl 5 (by decide) (hW0 _ wf_X9_47) (fun _ h9 => h9) rfl dX9_seenFrom_15 ?_
  refine lv_iload_n hx hb dX9_seenFrom_18 rfl (lv_at hl 0 rfl) ?_
  refine z_calli hP hD hS hA (va_runV (As := [.ref (α 1), .ref (α 6), .int (zI v2_1)]) (rest := []) hC (c_X7_countFrom l D τ α γ h old ch rg ln sl pd hg9 la9 sg od hs v2_1 (by first | assumption | rfl | omega) (by first | assumption | rfl | omega) _) (cwV 3 hts (gV hB wl_X9_273 wn_X7_countFrom ws_X7_countFrom wi_X7 wc_X7_countFrom) rfl rfl rfl hd_X7_countFrom ⟨Nat.le_of_ble_eq_true rfl, Nat.le_of_ble_eq_true rfl⟩) (zp_V hK hP hD hS hA hG (ci := 7) (q0 := 7) rfl rfl rfl) rfl rfl hl.1 rfl (lv_room (Nat.le_of_ble_eq_true rfl)) dX9_seenFrom_19 ⟨Nat.le_of_ble_eq_true rfl, Nat.le_of_ble_eq_true rfl⟩) (fun r w1 H locs hq9 hP hD hS => ?_)
  obtain ⟨f19_2, n19_3, v19_4, hv19_0, hv19_1, rfl, rfl⟩ := hq9
  have hP : va_P D vwCl (wH α γ (h, old, ch) rg ln sl pd (f19_2, n19_3) sg od hs) H := hP
  have hD : va_D A (wH α γ (h, old, ch) rg ln sl pd (f19_2, n19_3) sg od hs) := hD
  exact z_iret hC hr hlk hQ hP hD hS ⟨f19_2, n19_3, v19_4, (by trivial), (by rw [hv19_0, hv2_1]), rfl, rfl⟩ dX9_seenFrom_22

abbrev wz_X9_meanDrop : List Cond := .code yX9_meanDrop cX9_meanDrop 3 (some .double) :: W0
abbrev rm_X9_meanDrop : Room := { frames := 3, cells := 0, slots := 0, locals := 67 }
theorem hd_X9_meanDrop : yX9_meanDrop.cls = RX9 ∧ yX9_meanDrop.cls ≠ "java/lang/invoke/MethodHandle" ∧ yX9_meanDrop.cls ≠ "java/lang/invoke/VarHandle" ∧ (parseMethodDescriptor yX9_meanDrop.desc).map (fun d => d.parameters.length) = some 0 := by decide +kernel
set_option maxHeartbeats 4000000 in
set_option maxRecDepth 100000 in
theorem c_X9_meanDrop (l : Launch) (D : va_G) (τ : Nat → Nat) (α : Nat → Nat) (γ : Nat → ClassId) (h : IA) (old : IA) (ch : IA) (rg : TRg) (ln : TLn) (nx : IA) (dr : IA) (qu : IA) (pd : TPd) (ct : TCt) (sg : TSg) (od : TOd) (hs : THs) (hh : ∀ k, 0 ≤ k → k < 49 → 0 ≤ h k ∧ h k ≤ 99) : cM l yX9_meanDrop wz_X9_meanDrop rm_X9_meanDrop D τ (tyH γ) [.ref (α 0)] (wH α γ (h, old, ch) rg ln (nx, dr, qu) pd ct sg od hs) (zQd (fun r w => ∃ (n2 : IA), ∃ (d2 : IA), ∃ (v : UInt64), (v = dmean (zS (S_drop h) 49)) ∧ v = r ∧ wH α γ (h, old, ch) rg ln (n2, d2, qu) pd ct sg od hs = w)) := by
  refine z_ofM (cc := cX9_meanDrop) (maxL := 3) (ret := (some .double)) (by decide +kernel) rfl (Nat.le_of_ble_eq_true rfl) ?_
  intro pg e s m args below meth c hC hr hlk hnm hK hP A hD hG hA hS ls hl Q hQ
  have hx := hC.1
  have hb := hC.2.1
  have hml := hC.2.2.1
  have hown := hC.2.2.2.1
  have hts := hC.2.2.2.2
  have hB : ∀ w ∈ W0, w ∈ wz_X9_meanDrop := fun _ h => List.mem_cons_of_mem _ h
  have hW0 : ∀ w ∈ W0, w.before args s = true := fun w h => hts w (hB w h)
  have hl : lv_has ls 3 [(0, .ref (α 0))] := hl
  refine lv_aload_n hx hb dX9_meanDrop_0 rfl (lv_at hl 0 rfl) ?_
  refine va_get (D := D) (ci := 9) (v := .ref (α 4)) (C := RX9) (T := TX9) (N := 9) hx hb hts (fun w h => List.mem_cons_of_mem _ (wx_X9 w h)) hown hK hP 0 rfl rfl 3 (by decide) (hW0 _ wf_X9_33) (fun _ h9 => h9) rfl dX9_meanDrop_1 ?_
  refine lv_aload_n hx hb dX9_meanDrop_4 rfl (lv_at hl 0 rfl) ?_
  refine va_get (D := D) (ci := 9) (v := .ref (α 1)) (C := RX9) (T := TX9) (N := 9) hx hb hts (fun w h => List.mem_cons_of_mem _ (wx_X9 w h)) hown hK hP 0 rfl rfl 0 (by decide) (hW0 _ wf_X9_12) (fun _ h9 => h9) rfl dX9_meanDrop_5 ?_
  refine z_callv hP hD hS hA (va_runV (As := [.ref (α 1)]) (rest := []) hC (c_X8_read l D τ α γ h old ch rg ln nx dr qu pd ct sg od hs (by first | assumption | rfl | omega) _) (cwV 1 hts (gV hB wl_X9_106 wn_X8_read ws_X8_read wi_X8 wc_X8_read) rfl rfl rfl hd_X8_read ⟨Nat.le_of_ble_eq_true rfl, Nat.le_of_ble_eq_true rfl⟩) (zp_V hK hP hD hS hA hG (ci := 8) (q0 := 4) rfl rfl rfl) rfl rfl hl.1 rfl (lv_room (Nat.le_of_ble_eq_true rfl)) dX9_meanDrop_8 ⟨Nat.le_of_ble_eq_true rfl, Nat.le_of_ble_eq_true rfl⟩) (fun w1 H locs hq9 hP hD hS => ?_)
  obtain ⟨n8_1, d8_2, hv8_0, hv8_1, rfl⟩ := hq9
  have hP : va_P D vwCl (wH α γ (h, old, ch) rg ln (n8_1, d8_2, qu) pd ct sg od hs) H := hP
  have hD : va_D A (wH α γ (h, old, ch) rg ln (n8_1, d8_2, qu) pd ct sg od hs) := hD
  refine lv_iconst (v := zI 0) hx hb dX9_meanDrop_11 rfl ?_
  refine lv_istore_n (lv' := [(1, .int (zI 0)), (0, .ref (α 0))]) hx hb dX9_meanDrop_12 rfl hl (by decide) rfl (fun ls hl => ?_)
  refine lv_iconst (v := zI 0) hx hb dX9_meanDrop_13 rfl ?_
  refine lv_istore_n (lv' := [(2, .int (zI 0)), (1, .int (zI 0)), (0, .ref (α 0))]) hx hb dX9_meanDrop_14 rfl hl (by decide) rfl (fun ls hl => ?_)
  suffices HL_15 : ∀ (n_15 : Nat), ∀ (g : Int) (i : Int) (H : Heap) (locs : List Loc) (hP : va_P D vwCl (wH α γ (h, old, ch) rg ln (n8_1, d8_2, qu) pd ct sg od hs) H) (hD : va_D A (wH α γ (h, old, ch) rg ln (n8_1, d8_2, qu) pd ct sg od hs)) (hS : va_S A s.heap H locs) (ls : Array Slot) (hl : lv_has ls 3 [(1, .int (zI g)), (2, .int (zI i)), (0, .ref (α 0))]) (hi : 0 ≤ i ∧ i ≤ 49) (hg : g = zS (S_drop h) i) (hgb : 0 ≤ g ∧ g ≤ 99 * i) (hm : (49 - i).toNat < n_15), W pg l e rm_X9_meanDrop s m args below meth c H locs 0 0 Q (F0 m 15 ls []) from HL_15 _ 0 0 _ _ hP hD hS _ (lv_sub hl [1, 0, 2] rfl) (by first | assumption | rfl | omega) (by exact (zS_0 _).symm) (by first | assumption | rfl | omega) (Nat.lt_succ_self _)
  intro n_15
  induction n_15 with
  | zero => intro g i H locs hP hD hS ls hl hi hg hgb hm; exact absurd hm (Nat.not_lt_zero _)
  | succ n_15 ih_15 =>
    intro g i H locs hP hD hS ls hl hi hg hgb hm
    refine lv_iload_n hx hb dX9_meanDrop_15 rfl (lv_at hl 1 rfl) ?_
    refine lv_bipush (v := zI 49) hx hb dX9_meanDrop_16 (zI_b8 (by decide)) ?_
    refine z_icge (tgt := 38) hx hb ⟨by omega, by omega⟩ ⟨by omega, by omega⟩ dX9_meanDrop_18 (by decide) (fun c_18 => ?_) (fun c_18 => ?_)
    · refine lv_iload_n hx hb dX9_meanDrop_38 rfl (lv_at hl 0 rfl) ?_
      refine lv_i2d hx hb dX9_meanDrop_39 ?_
      refine lv_ldc2d (v := D49) hx hb hown (hW0 _ wd_X9_283) dX9_meanDrop_40 ?_
      refine lv_ddiv hx hb dX9_meanDrop_43 (by exact dmean_n64 (s := g) ⟨by omega, by omega⟩) ?_
      exact z_dret hC hr hlk hQ hP hD hS ⟨n8_1, d8_2, FP.ddiv (FP.i2d (zI g)) D49, (by rw [hg, show i = 49 by omega]; rfl), rfl, rfl⟩ dX9_meanDrop_44
    · refine lv_iload_n hx hb dX9_meanDrop_21 rfl (lv_at hl 0 rfl) ?_
      refine lv_aload_n hx hb dX9_meanDrop_22 rfl (lv_at hl 2 rfl) ?_
      refine va_get (D := D) (ci := 9) (v := .ref (α 4)) (C := RX9) (T := TX9) (N := 9) hx hb hts (fun w h => List.mem_cons_of_mem _ (wx_X9 w h)) hown hK hP 0 rfl rfl 3 (by decide) (hW0 _ wf_X9_33) (fun _ h9 => h9) rfl dX9_meanDrop_23 ?_
      refine lv_iload_n hx hb dX9_meanDrop_26 rfl (lv_at hl 1 rfl) ?_
      refine z_calli hP hD hS hA (va_runV (As := [.int (zI i)]) (rest := [.int (zI g)]) hC (c_X8_drop l D τ α γ (h, old, ch) rg ln n8_1 d8_2 qu pd ct sg od hs h i (by first | assumption | rfl | omega) (by first | assumption | rfl | omega) (by intro k z1 z2; rw [hv8_1, zmix_at ⟨z1, z2⟩]) _) (cwV 1 hts (gV hB wl_X9_218 wn_X8_drop ws_X8_drop wi_X8 wc_X8_drop) rfl rfl rfl hd_X8_drop ⟨Nat.le_of_ble_eq_true rfl, Nat.le_of_ble_eq_true rfl⟩) (zp_V hK hP hD hS hA hG (ci := 8) (q0 := 4) rfl rfl rfl) rfl rfl hl.1 rfl (lv_room (Nat.le_of_ble_eq_true rfl)) dX9_meanDrop_27 ⟨Nat.le_of_ble_eq_true rfl, Nat.le_of_ble_eq_true rfl⟩) (fun r w1 H locs hq9 hP hD hS => ?_)
      obtain ⟨v27_3, hv27_0, hv27_1, rfl, rfl⟩ := hq9
      have hP : va_P D vwCl (wH α γ (h, old, ch) rg ln (n8_1, d8_2, qu) pd ct sg od hs) H := hP
      have hD : va_D A (wH α γ (h, old, ch) rg ln (n8_1, d8_2, qu) pd ct sg od hs) := hD
      refine z_iadd hx hb dX9_meanDrop_30 ?_
      refine lv_istore_n (lv' := [(1, .int (zI (g + v27_3))), (2, .int (zI i)), (0, .ref (α 0))]) hx hb dX9_meanDrop_31 rfl hl (by decide) rfl (fun ls hl => ?_)
      refine z_iinc (k := 1) (v := i + 1) (lv' := [(2, .int (zI (i + 1))), (1, .int (zI (g + v27_3))), (0, .ref (α 0))]) hx hb dX9_meanDrop_32 hl rfl rfl (by decide) rfl (fun ls hl => ?_)
      refine lv_goto (tgt := 15) hx hb dX9_meanDrop_35 (by decide) ?_
      exact ih_15 (g + v27_3) (i + 1) _ _ hP hD hS _ (lv_sub hl [1, 0, 2] rfl) (by first | assumption | rfl | omega) (by rw [zS_up hi.1, ← hg, hv27_0]) (by first | assumption | rfl | omega) (by omega)

