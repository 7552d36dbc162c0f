abbrev wz_X9_knownPoint : List Cond := .code yX9_knownPoint cX9_knownPoint 3 (some .int) :: W0
abbrev rm_X9_knownPoint : Room := { frames := 6, cells := 1, slots := 6, locals := 90 }
theorem hd_X9_knownPoint : yX9_knownPoint.cls = RX9 ∧ yX9_knownPoint.cls ≠ "java/lang/invoke/MethodHandle" ∧ yX9_knownPoint.cls ≠ "java/lang/invoke/VarHandle" ∧ (parseMethodDescriptor yX9_knownPoint.desc).map (fun d => d.parameters.length) = some 2 := by decide +kernel
set_option maxHeartbeats 4000000 in
set_option maxRecDepth 100000 in
theorem c_X9_knownPoint (l : Launch) (D : va_G) (τ : Nat → Nat) (ws : va_W) (tys : List (ClassId × FieldType)) (r9 : Int) (c9 : Int) (hr9 : -2147483648 ≤ r9 ∧ r9 < 2147483648) (hc9 : -2147483648 ≤ c9 ∧ c9 < 2147483648) (hst : l.stackTraces = false) : cX l yX9_knownPoint wz_X9_knownPoint rm_X9_knownPoint D τ tys [.int (zI r9), .int (zI c9)] (ws) (zQi (fun r w => ∃ (v : Int), (((0 ≤ r9 ∧ r9 ≤ 6) ∧ (0 ≤ c9 ∧ c9 ≤ 6))) ∧ (v = 7 * r9 + c9) ∧ (0 ≤ v ∧ v < 49) ∧ r = zI v ∧ ws = w)) (fun E w => (E = "java/lang/IndexOutOfBoundsException" ∧ (¬ ((0 ≤ r9 ∧ r9 ≤ 6) ∧ (0 ≤ c9 ∧ c9 ≤ 6))) ∧ ws = w)) := by
  refine z_ofX (cc := cX9_knownPoint) (maxL := 3) (ret := (some .int)) (by decide +kernel) rfl (Nat.le_of_ble_eq_true rfl) ?_
  intro pg e s m args below meth c hC hr hlk hT hK hP A hD hG hA hS hGX ls hl Q hQ
  have hx := hC.1
  have hb := hC.2.1
  have hml := hC.2.2.1
  have hown := hC.2.2.2.1
  have hts := hC.2.2.2.2
  have hB : ∀ w ∈ W0, w ∈ wz_X9_knownPoint := fun _ h => List.mem_cons_of_mem _ h
  have hW0 : ∀ w ∈ W0, w.before args s = true := fun w h => hts w (hB w h)
  have hl : lv_has ls 3 [(0, .int (zI r9)), (1, .int (zI c9))] := hl
  refine lv_iload_n hx hb dX9_knownPoint_0 rfl (lv_at hl 0 rfl) ?_
  refine lv_iload_n hx hb dX9_knownPoint_1 rfl (lv_at hl 1 rfl) ?_
  refine z_calli hP hD hS hA (va_runS (As := [.int (zI r9), .int (zI c9)]) (rest := []) hC (c_X9_pointAt l D τ _ _ r9 c9 (by first | assumption | rfl | omega) (by first | assumption | rfl | omega) _) (va_cwS 2 hts (gS hB wl_X9_350 wt_X9_pointAt wi_X9 wc_X9_pointAt) rfl rfl rfl hd_X9_pointAt.2 ⟨Nat.le_of_ble_eq_true rfl, Nat.le_of_ble_eq_true rfl⟩) (zp_S hK hP hD hS hA hG) rfl rfl hl.1 rfl (lv_room (Nat.le_of_ble_eq_true rfl)) dX9_knownPoint_2 ⟨Nat.le_of_ble_eq_true rfl, Nat.le_of_ble_eq_true rfl⟩) (fun r w1 H locs hq9 hP hD hS => ?_)
  obtain ⟨v2_1, hv2_0, hv2_1, rfl, rfl⟩ := hq9
  refine lv_istore_n (lv' := [(2, .int (zI v2_1)), (0, .int (zI r9)), (1, .int (zI c9))]) hx hb dX9_knownPoint_5 rfl hl (by decide) rfl (fun ls hl => ?_)
  refine lv_iload_n hx hb dX9_knownPoint_6 rfl (lv_at hl 0 rfl) ?_
  refine lv_iconst (v := zI (-1)) hx hb dX9_knownPoint_7 rfl ?_
  refine z_icne (tgt := 22) hx hb ⟨by omega, by omega⟩ ⟨by omega, by omega⟩ dX9_knownPoint_8 (by decide) (fun c_8 => ?_) (fun c_8 => ?_)
  · have hin : ((0 ≤ r9 ∧ r9 ≤ 6) ∧ (0 ≤ c9 ∧ c9 ≤ 6)) := Classical.byContradiction (fun h9 => c_8 (hv2_0.trans (pt_no.mpr h9)))
    have hpt := pt_in hin
    refine lv_iload_n hx hb dX9_knownPoint_22 rfl (lv_at hl 0 rfl) ?_
    exact zx_iret hC hr hlk hQ (Nat.le_of_ble_eq_true rfl) (Nat.le_of_ble_eq_true rfl) hP hD hS ⟨v2_1, (by exact hin), (by exact hv2_0.trans hpt.1), (by rw [hv2_0, hpt.1]; exact hpt.2), rfl, rfl⟩ dX9_knownPoint_23
  · exact zx_throwSW (text := "there is no such point") (is := 353) hC hst hG hW0 hGX hT hlk hQ hl.1 zX_IOOB (List.mem_of_getElem? (i := 11) rfl) hP hD hS ⟨rfl, (by exact pt_no.mp (hv2_0.symm.trans c_8)), rfl⟩ dX9_knownPoint_11 dX9_knownPoint_14 dX9_knownPoint_15 dX9_knownPoint_18 dX9_knownPoint_21 (Nat.le_of_ble_eq_true rfl) (Nat.le_of_ble_eq_true rfl) (Nat.le_of_ble_eq_true rfl) (Nat.le_of_ble_eq_true rfl) (Nat.le_of_ble_eq_true rfl) (Nat.le_of_ble_eq_true rfl)

abbrev wz_X9_checkLevel : List Cond := .code yX9_checkLevel cX9_checkLevel 1 none :: W0
abbrev rm_X9_checkLevel : Room := { frames := 6, cells := 1, slots := 6, locals := 90 }
theorem hd_X9_checkLevel : yX9_checkLevel.cls = RX9 ∧ yX9_checkLevel.cls ≠ "java/lang/invoke/MethodHandle" ∧ yX9_checkLevel.cls ≠ "java/lang/invoke/VarHandle" ∧ (parseMethodDescriptor yX9_checkLevel.desc).map (fun d => d.parameters.length) = some 1 := by decide +kernel
set_option maxHeartbeats 4000000 in
set_option maxRecDepth 100000 in
theorem c_X9_checkLevel (l : Launch) (D : va_G) (τ : Nat → Nat) (ws : va_W) (tys : List (ClassId × FieldType)) (lv9 : Int) (hlv : -2147483648 ≤ lv9 ∧ lv9 < 2147483648) (hst : l.stackTraces = false) : cX l yX9_checkLevel wz_X9_checkLevel rm_X9_checkLevel D τ tys [.int (zI lv9)] (ws) (zQv (fun w => (0 ≤ lv9 ∧ lv9 ≤ 98) ∧ ws = w)) (fun E w => (E = "java/lang/IllegalArgumentException" ∧ (¬ (0 ≤ lv9 ∧ lv9 ≤ 98)) ∧ ws = w)) := by
  refine z_ofX (cc := cX9_checkLevel) (maxL := 1) (ret := none) (by decide +kernel) rfl (Nat.le_of_ble_eq_true rfl) ?_
  intro pg e s m args below meth c hC hr hlk hT hK hP A hD hG hA hS hGX ls hl Q hQ
  have hx := hC.1
  have hb := hC.2.1
  have hml := hC.2.2.1
  have hown := hC.2.2.2.1
  have hts := hC.2.2.2.2
  have hB : ∀ w ∈ W0, w ∈ wz_X9_checkLevel := fun _ h => List.mem_cons_of_mem _ h
  have hW0 : ∀ w ∈ W0, w.before args s = true := fun w h => hts w (hB w h)
  have hl : lv_has ls 1 [(0, .int (zI lv9))] := hl
  refine lv_iload_n hx hb dX9_checkLevel_0 rfl (lv_at hl 0 rfl) ?_
  refine z_iflt (tgt := 10) hx hb ⟨by omega, by omega⟩ dX9_checkLevel_1 (by decide) (fun c_1 => ?_) (fun c_1 => ?_)
  · exact zx_throwSW (text := "the level is out of range") (is := 355) hC hst hG hW0 hGX hT hlk hQ hl.1 zX_IAE (List.mem_of_getElem? (i := 12) rfl) hP hD hS ⟨rfl, (by first | assumption | rfl | omega), rfl⟩ dX9_checkLevel_10 dX9_checkLevel_13 dX9_checkLevel_14 dX9_checkLevel_17 dX9_checkLevel_20 (Nat.le_of_ble_eq_true rfl) (Nat.le_of_ble_eq_true rfl) (Nat.le_of_ble_eq_true rfl) (Nat.le_of_ble_eq_true rfl) (Nat.le_of_ble_eq_true rfl) (Nat.le_of_ble_eq_true rfl)
  · refine lv_iload_n hx hb dX9_checkLevel_4 rfl (lv_at hl 0 rfl) ?_
    refine lv_bipush (v := zI 98) hx hb dX9_checkLevel_5 (zI_b8 (by decide)) ?_
    refine z_icle (tgt := 21) hx hb ⟨by omega, by omega⟩ ⟨by omega, by omega⟩ dX9_checkLevel_7 (by decide) (fun c_7 => ?_) (fun c_7 => ?_)
    · exact zx_vret hC hr hlk hQ (Nat.le_of_ble_eq_true rfl) (Nat.le_of_ble_eq_true rfl) hP hD hS ⟨(by first | assumption | rfl | omega), rfl⟩ dX9_checkLevel_21
    · exact zx_throwSW (text := "the level is out of range") (is := 355) hC hst hG hW0 hGX hT hlk hQ hl.1 zX_IAE (List.mem_of_getElem? (i := 12) rfl) hP hD hS ⟨rfl, (by first | assumption | rfl | omega), rfl⟩ dX9_checkLevel_10 dX9_checkLevel_13 dX9_checkLevel_14 dX9_checkLevel_17 dX9_checkLevel_20 (Nat.le_of_ble_eq_true rfl) (Nat.le_of_ble_eq_true rfl) (Nat.le_of_ble_eq_true rfl) (Nat.le_of_ble_eq_true rfl) (Nat.le_of_ble_eq_true rfl) (Nat.le_of_ble_eq_true rfl)

abbrev rm_X9_checkLevel__ok : Room := { frames := 6, cells := 0, slots := 0, locals := 90 }
set_option maxHeartbeats 4000000 in
set_option maxRecDepth 100000 in
theorem c_X9_checkLevel__ok (l : Launch) (D : va_G) (τ : Nat → Nat) (ws : va_W) (tys : List (ClassId × FieldType)) (lv9 : Int) (hlv : 0 ≤ lv9 ∧ lv9 ≤ 98) : cM l yX9_checkLevel wz_X9_checkLevel rm_X9_checkLevel__ok D τ tys [.int (zI lv9)] (ws) (zQv (fun w => ws = w)) := by
  refine z_ofM (cc := cX9_checkLevel) (maxL := 1) (ret := none) (by decide +kernel) rfl (Nat.le_of_ble_eq_true rfl) ?_
  intro pg e s m args below meth c hC hr hlk hnm hK hP A hD hG hA hS ls hl Q hQ
  have hx := hC.1
  have hb := hC.2.1
  have hml := hC.2.2.1
  have hown := hC.2.2.2.1
  have hts := hC.2.2.2.2
  have hB : ∀ w ∈ W0, w ∈ wz_X9_checkLevel := fun _ h => List.mem_cons_of_mem _ h
  have hW0 : ∀ w ∈ W0, w.before args s = true := fun w h => hts w (hB w h)
  have hl : lv_has ls 1 [(0, .int (zI lv9))] := hl
  refine lv_iload_n hx hb dX9_checkLevel_0 rfl (lv_at hl 0 rfl) ?_
  refine z_iflt (tgt := 10) hx hb ⟨by omega, by omega⟩ dX9_checkLevel_1 (by decide) (fun c_1 => ?_) (fun c_1 => ?_)
  · exact absurd c_1 (by omega)
  · refine lv_iload_n hx hb dX9_checkLevel_4 rfl (lv_at hl 0 rfl) ?_
    refine lv_bipush (v := zI 98) hx hb dX9_checkLevel_5 (zI_b8 (by decide)) ?_
    refine z_icle (tgt := 21) hx hb ⟨by omega, by omega⟩ ⟨by omega, by omega⟩ dX9_checkLevel_7 (by decide) (fun c_7 => ?_) (fun c_7 => ?_)
    · exact z_vret hC hr hlk hQ hP hD hS rfl dX9_checkLevel_21
    · exact absurd c_7 (by omega)

abbrev wz_X9_checkSlot : List Cond := .code yX9_checkSlot cX9_checkSlot 1 none :: W0
abbrev rm_X9_checkSlot : Room := { frames := 6, cells := 1, slots := 6, locals := 90 }
theorem hd_X9_checkSlot : yX9_checkSlot.cls = RX9 ∧ yX9_checkSlot.cls ≠ "java/lang/invoke/MethodHandle" ∧ yX9_checkSlot.cls ≠ "java/lang/invoke/VarHandle" ∧ (parseMethodDescriptor yX9_checkSlot.desc).map (fun d => d.parameters.length) = some 1 := by decide +kernel
set_option maxHeartbeats 4000000 in
set_option maxRecDepth 100000 in
theorem c_X9_checkSlot (l : Launch) (D : va_G) (τ : Nat → Nat) (ws : va_W) (tys : List (ClassId × FieldType)) (k9 : Int) (hk9 : -2147483648 ≤ k9 ∧ k9 < 2147483648) (hst : l.stackTraces = false) : cX l yX9_checkSlot wz_X9_checkSlot rm_X9_checkSlot D τ tys [.int (zI k9)] (ws) (zQv (fun w => (0 ≤ k9 ∧ k9 < 2) ∧ ws = w)) (fun E w => (E = "java/lang/IllegalArgumentException" ∧ (¬ (0 ≤ k9 ∧ k9 < 2)) ∧ ws = w)) := by
  refine z_ofX (cc := cX9_checkSlot) (maxL := 1) (ret := none) (by decide +kernel) rfl (Nat.le_of_ble_eq_true rfl) ?_
  intro pg e s m args below meth c hC hr hlk hT hK hP A hD hG hA hS hGX ls hl Q hQ
  have hx := hC.1
  have hb := hC.2.1
  have hml := hC.2.2.1
  have hown := hC.2.2.2.1
  have hts := hC.2.2.2.2
  have hB : ∀ w ∈ W0, w ∈ wz_X9_checkSlot := fun _ h => List.mem_cons_of_mem _ h
  have hW0 : ∀ w ∈ W0, w.before args s = true := fun w h => hts w (hB w h)
  have hl : lv_has ls 1 [(0, .int (zI k9))] := hl
  refine lv_iload_n hx hb dX9_checkSlot_0 rfl (lv_at hl 0 rfl) ?_
  refine z_iflt (tgt := 9) hx hb ⟨by omega, by omega⟩ dX9_checkSlot_1 (by decide) (fun c_1 => ?_) (fun c_1 => ?_)
  · exact zx_throwSW (text := "the slot is out of range") (is := 357) hC hst hG hW0 hGX hT hlk hQ hl.1 zX_IAE (List.mem_of_getElem? (i := 13) rfl) hP hD hS ⟨rfl, (by first | assumption | rfl | omega), rfl⟩ dX9_checkSlot_9 dX9_checkSlot_12 dX9_checkSlot_13 dX9_checkSlot_16 dX9_checkSlot_19 (Nat.le_of_ble_eq_true rfl) (Nat.le_of_ble_eq_true rfl) (Nat.le_of_ble_eq_true rfl) (Nat.le_of_ble_eq_true rfl) (Nat.le_of_ble_eq_true rfl) (Nat.le_of_ble_eq_true rfl)
  · refine lv_iload_n hx hb dX9_checkSlot_4 rfl (lv_at hl 0 rfl) ?_
    refine lv_iconst (v := zI 2) hx hb dX9_checkSlot_5 rfl ?_
    refine z_iclt (tgt := 20) hx hb ⟨by omega, by omega⟩ ⟨by omega, by omega⟩ dX9_checkSlot_6 (by decide) (fun c_6 => ?_) (fun c_6 => ?_)
    · exact zx_vret hC hr hlk hQ (Nat.le_of_ble_eq_true rfl) (Nat.le_of_ble_eq_true rfl) hP hD hS ⟨(by first | assumption | rfl | omega), rfl⟩ dX9_checkSlot_20
    · exact zx_throwSW (text := "the slot is out of range") (is := 357) hC hst hG hW0 hGX hT hlk hQ hl.1 zX_IAE (List.mem_of_getElem? (i := 13) rfl) hP hD hS ⟨rfl, (by first | assumption | rfl | omega), rfl⟩ dX9_checkSlot_9 dX9_checkSlot_12 dX9_checkSlot_13 dX9_checkSlot_16 dX9_checkSlot_19 (Nat.le_of_ble_eq_true rfl) (Nat.le_of_ble_eq_true rfl) (Nat.le_of_ble_eq_true rfl) (Nat.le_of_ble_eq_true rfl) (Nat.le_of_ble_eq_true rfl) (Nat.le_of_ble_eq_true rfl)

abbrev wz_X9_set : List Cond := .code yX9_set cX9_set 6 (some .int) :: W0
abbrev rm_X9_set : Room := { frames := 7, cells := 2, slots := 12, locals := 112 }
theorem hd_X9_set : yX9_set.cls = RX9 ∧ yX9_set.cls ≠ "java/lang/invoke/MethodHandle" ∧ yX9_set.cls ≠ "java/lang/invoke/VarHandle" ∧ (parseMethodDescriptor yX9_set.desc).map (fun d => d.parameters.length) = some 3 := by decide +kernel
set_option maxHeartbeats 4000000 in
set_option maxRecDepth 100000 in
theorem c_X9_set (l : Launch) (D : va_G) (τ : Nat → Nat) (α : Nat → Nat) (γ : Nat → ClassId) (h : IA) (old : IA) (ch : IA) (rg : TRg) (ln : TLn) (sl : TSl) (pd : TPd) (ct : TCt) (sg : TSg) (od : TOd) (sv : IA) (sl9 : IA) (tk : BA) (ct9 : Int) (r9 : Int) (c9 : Int) (g9 : Int) (hr9 : -2147483648 ≤ r9 ∧ r9 < 2147483648) (hc9 : -2147483648 ≤ c9 ∧ c9 < 2147483648) (hg9 : -2147483648 ≤ g9 ∧ g9 < 2147483648) (hh : ∀ k, 0 ≤ k → k < 49 → 0 ≤ h k ∧ h k ≤ 99) (hct : 0 ≤ ct9 ∧ ct9 ≤ 6) (hst : l.stackTraces = false) : cX l yX9_set wz_X9_set rm_X9_set D τ (tyH γ) [.ref (α 0), .int (zI r9), .int (zI c9), .int (zI g9)] (wH α γ (h, old, ch) rg ln sl pd ct sg od (sv, sl9, tk, ct9)) (zQi (fun r w => ∃ (h2 : IA), ∃ (s2 : IA), ∃ (c2 : Int), ∃ (v : Int), (S_tset r9 c9 g9 = 0) ∧ (v = h (7 * r9 + c9)) ∧ (h2 = zu h (7 * r9 + c9) g9) ∧ (s2 = S_sv sv h ct9) ∧ (c2 = S_svC ct9) ∧ r = zI v ∧ wH α γ (h2, old, ch) rg ln sl pd ct sg od (s2, sl9, tk, c2) = w)) (fun E w => (E = "java/lang/IndexOutOfBoundsException" ∧ (S_tset r9 c9 g9 = 1) ∧ wH α γ (h, old, ch) rg ln sl pd ct sg od (sv, sl9, tk, ct9) = w) ∨ (E = "java/lang/IllegalArgumentException" ∧ (S_tset r9 c9 g9 = 2) ∧ wH α γ (h, old, ch) rg ln sl pd ct sg od (sv, sl9, tk, ct9) = w)) := by
  refine z_ofX (cc := cX9_set) (maxL := 6) (ret := (some .int)) (by decide +kernel) rfl (Nat.le_of_ble_eq_true rfl) ?_
  intro pg e s m args below meth c hC hr hlk hT hK hP A hD hG hA hS hGX ls hl Q hQ
  have hx := hC.1
  have hb := hC.2.1
  have hml := hC.2.2.1
  have hown := hC.2.2.2.1
  have hts := hC.2.2.2.2
  have hB : ∀ w ∈ W0, w ∈ wz_X9_set := fun _ h => List.mem_cons_of_mem _ h
  have hW0 : ∀ w ∈ W0, w.before args s = true := fun w h => hts w (hB w h)
  have hl : lv_has ls 6 [(0, .ref (α 0)), (1, .int (zI r9)), (2, .int (zI c9)), (3, .int (zI g9))] := hl
  refine lv_iload_n hx hb dX9_set_0 rfl (lv_at hl 1 rfl) ?_
  refine lv_iload_n hx hb dX9_set_1 rfl (lv_at hl 2 rfl) ?_
  refine zx_calli hP hD hS hA (vx_runS (As := [.int (zI r9), .int (zI c9)]) (rest := []) hC (c_X9_knownPoint l D τ _ _ r9 c9 (by first | assumption | rfl | omega) (by first | assumption | rfl | omega) (by first | assumption | rfl | omega) _) (va_cwS 2 hts (gS hB wl_X9_72 wt_X9_knownPoint wi_X9 wc_X9_knownPoint) rfl rfl rfl hd_X9_knownPoint.2 ⟨Nat.le_of_ble_eq_true rfl, Nat.le_of_ble_eq_true rfl⟩) (zpX_S hK hP hD hS hA hG hGX) rfl rfl hl.1 rfl (lv_room (Nat.le_of_ble_eq_true rfl)) dX9_set_2 ⟨Nat.le_of_ble_eq_true rfl, Nat.le_of_ble_eq_true rfl⟩) (fun E w1 H locs ce q9 hq9 hP hD hS hce hcv hcl => ?_) (fun r w1 H locs hq9 hP hD hS => ?_)
  · obtain ⟨rfl, hx9, rfl⟩ := hq9
    exact zx_out hT hlk hQ (Nat.le_of_ble_eq_true rfl) (Nat.le_of_ble_eq_true rfl) hP hD hS (Or.inl ⟨rfl, (by unfold S_tset; exact if_neg hx9), rfl⟩) hce hcv hcl
  · obtain ⟨v2_1, hv2_0, hv2_1, hv2_2, rfl, rfl⟩ := hq9
    refine lv_istore (lv' := [(4, .int (zI v2_1)), (0, .ref (α 0)), (1, .int (zI r9)), (2, .int (zI c9)), (3, .int (zI g9))]) hx hb dX9_set_5 hl (by decide) rfl (fun ls hl => ?_)
    refine lv_iload_n hx hb dX9_set_7 rfl (lv_at hl 4 rfl) ?_
    refine z_iflt (tgt := 17) hx hb ⟨by omega, by omega⟩ dX9_set_8 (by decide) (fun c_8 => ?_) (fun c_8 => ?_)
    · exact zx_throwS (text := "the height is out of range") (is := 78) hC hst hG hW0 hGX hT hlk hQ hl.1 zX_IAE (List.mem_of_getElem? (i := 0) rfl) hP hD hS (Or.inr ⟨rfl, (by unfold S_tset; rw [if_pos hv2_0, if_neg (by omega)]), rfl⟩) dX9_set_17 dX9_set_20 dX9_set_21 dX9_set_23 dX9_set_26 (Nat.le_of_ble_eq_true rfl) (Nat.le_of_ble_eq_true rfl) (Nat.le_of_ble_eq_true rfl) (Nat.le_of_ble_eq_true rfl) (Nat.le_of_ble_eq_true rfl) (Nat.le_of_ble_eq_true rfl)
    · refine lv_iload_n hx hb dX9_set_11 rfl (lv_at hl 4 rfl) ?_
      refine lv_bipush (v := zI 99) hx hb dX9_set_12 (zI_b8 (by decide)) ?_
      refine z_icle (tgt := 27) hx hb ⟨by omega, by omega⟩ ⟨by omega, by omega⟩ dX9_set_14 (by decide) (fun c_14 => ?_) (fun c_14 => ?_)
      · refine lv_aload_n hx hb dX9_set_27 rfl (lv_at hl 1 rfl) ?_
        refine va_get (D := D) (ci := 9) (v := .ref (α 9)) (C := RX9) (T := TX9) (N := 9) hx hb hts (fun w h => List.mem_cons_of_mem _ (wx_X9 w h)) hown hK hP 0 rfl rfl 8 (by decide) (hW0 _ wf_X9_68) (fun _ h9 => h9) rfl dX9_set_28 ?_
        refine lv_aload_n hx hb dX9_set_31 rfl (lv_at hl 1 rfl) ?_
        refine va_get (D := D) (ci := 9) (v := .ref (α 1)) (C := RX9) (T := TX9) (N := 9) hx hb hts (fun w h => List.mem_cons_of_mem _ (wx_X9 w h)) hown hK hP 0 rfl rfl 0 (by decide) (hW0 _ wf_X9_12) (fun _ h9 => h9) rfl dX9_set_32 ?_
        refine z_callv hP hD hS hA (va_runV (As := [.ref (α 1)]) (rest := []) hC (c_X1_save l D τ α γ h old ch rg ln sl pd ct sg od sv sl9 tk ct9 (by first | assumption | rfl | omega) _) (cwV 1 hts (gV hB wl_X9_83 wn_X1_save ws_X1_save wi_X1 wc_X1_save) rfl rfl rfl hd_X1_save ⟨Nat.le_of_ble_eq_true rfl, Nat.le_of_ble_eq_true rfl⟩) (zp_V hK hP hD hS hA hG (ci := 1) (q0 := 9) rfl rfl rfl) rfl rfl hl.1 rfl (lv_room (Nat.le_of_ble_eq_true rfl)) dX9_set_35 ⟨Nat.le_of_ble_eq_true rfl, Nat.le_of_ble_eq_true rfl⟩) (fun w1 H locs hq9 hP hD hS => ?_)
        obtain ⟨s35_2, c35_3, hv35_0, hv35_1, rfl⟩ := hq9
        have hP : va_P D vwCl (wH α γ (h, old, ch) rg ln sl pd ct sg od (s35_2, sl9, tk, c35_3)) H := hP
        have hD : va_D A (wH α γ (h, old, ch) rg ln sl pd ct sg od (s35_2, sl9, tk, c35_3)) := hD
        refine lv_aload_n hx hb dX9_set_38 rfl (lv_at hl 1 rfl) ?_
        refine va_get (D := D) (ci := 9) (v := .ref (α 1)) (C := RX9) (T := TX9) (N := 9) hx hb hts (fun w h => List.mem_cons_of_mem _ (wx_X9 w h)) hown hK hP 0 rfl rfl 0 (by decide) (hW0 _ wf_X9_12) (fun _ h9 => h9) rfl dX9_set_39 ?_
        refine lv_iload hx hb dX9_set_42 (lv_at hl 0 rfl) ?_
        refine z_calli hP hD hS hA (va_runV (As := [.int (zI v2_1)]) (rest := []) hC (c_X6_at l D τ α γ h old ch rg ln sl pd ct sg od (s35_2, sl9, tk, c35_3) v2_1 (by first | assumption | rfl | omega) (by first | assumption | rfl | omega) _) (cwV 1 hts (gV hB wl_X9_87 wn_X6_at ws_X6_at wi_X6 wc_X6_at) rfl rfl rfl hd_X6_at ⟨Nat.le_of_ble_eq_true rfl, Nat.le_of_ble_eq_true rfl⟩) (zp_V hK hP hD hS hA hG (ci := 6) (q0 := 1) rfl rfl rfl) rfl rfl hl.1 rfl (lv_room (Nat.le_of_ble_eq_true rfl)) dX9_set_44 ⟨Nat.le_of_ble_eq_true rfl, Nat.le_of_ble_eq_true rfl⟩) (fun r w1 H locs hq9 hP hD hS => ?_)
        obtain ⟨v44_4, hv44_0, hv44_1, hv44_2, rfl, rfl⟩ := hq9
        have hP : va_P D vwCl (wH α γ (h, old, ch) rg ln sl pd ct sg od (s35_2, sl9, tk, c35_3)) H := hP
        have hD : va_D A (wH α γ (h, old, ch) rg ln sl pd ct sg od (s35_2, sl9, tk, c35_3)) := hD
        refine lv_istore (lv' := [(5, .int (zI v44_4)), (4, .int (zI v2_1)), (0, .ref (α 0)), (1, .int (zI r9)), (2, .int (zI c9)), (3, .int (zI g9))]) hx hb dX9_set_47 hl (by decide) rfl (fun ls hl => ?_)
        refine lv_aload_n hx hb dX9_set_49 rfl (lv_at hl 2 rfl) ?_
        refine va_get (D := D) (ci := 9) (v := .ref (α 1)) (C := RX9) (T := TX9) (N := 9) hx hb hts (fun w h => List.mem_cons_of_mem _ (wx_X9 w h)) hown hK hP 0 rfl rfl 0 (by decide) (hW0 _ wf_X9_12) (fun _ h9 => h9) rfl dX9_set_50 ?_
        refine lv_iload hx hb dX9_set_53 (lv_at hl 1 rfl) ?_
        refine lv_iload_n hx hb dX9_set_55 rfl (lv_at hl 5 rfl) ?_
        refine z_callv hP hD hS hA (va_runV (As := [.int (zI v2_1), .int (zI g9)]) (rest := []) hC (c_X6_put l D τ α γ h old ch rg ln sl pd ct sg od (s35_2, sl9, tk, c35_3) v2_1 g9 (by first | assumption | rfl | omega) (by first | assumption | rfl | omega) _) (cwV 2 hts (gV hB wl_X9_91 wn_X6_put ws_X6_put wi_X6 wc_X6_put) rfl rfl rfl hd_X6_put ⟨Nat.le_of_ble_eq_true rfl, Nat.le_of_ble_eq_true rfl⟩) (zp_V hK hP hD hS hA hG (ci := 6) (q0 := 1) rfl rfl rfl) rfl rfl hl.1 rfl (lv_room (Nat.le_of_ble_eq_true rfl)) dX9_set_56 ⟨Nat.le_of_ble_eq_true rfl, Nat.le_of_ble_eq_true rfl⟩) (fun w1 H locs hq9 hP hD hS => ?_)
        obtain ⟨h56_5, hv56_0, rfl⟩ := hq9
        have hP : va_P D vwCl (wH α γ (h56_5, old, ch) rg ln sl pd ct sg od (s35_2, sl9, tk, c35_3)) H := hP
        have hD : va_D A (wH α γ (h56_5, old, ch) rg ln sl pd ct sg od (s35_2, sl9, tk, c35_3)) := hD
        refine lv_iload hx hb dX9_set_59 (lv_at hl 0 rfl) ?_
        exact zx_iret hC hr hlk hQ (Nat.le_of_ble_eq_true rfl) (Nat.le_of_ble_eq_true rfl) hP hD hS ⟨h56_5, s35_2, c35_3, v44_4, (by unfold S_tset; rw [if_pos hv2_0, if_pos (by omega)]), (by rw [hv44_2 (by omega), hv2_1]), (by rw [hv56_0, S_put_in (by omega), clip_id (by omega), hv2_1]), (by exact hv35_0), (by exact hv35_1), rfl, rfl⟩ dX9_set_61
      · exact zx_throwS (text := "the height is out of range") (is := 78) hC hst hG hW0 hGX hT hlk hQ hl.1 zX_IAE (List.mem_of_getElem? (i := 0) rfl) hP hD hS (Or.inr ⟨rfl, (by unfold S_tset; rw [if_pos hv2_0, if_neg (by omega)]), rfl⟩) dX9_set_17 dX9_set_20 dX9_set_21 dX9_set_23 dX9_set_26 (Nat.le_of_ble_eq_true rfl) (Nat.le_of_ble_eq_true rfl) (Nat.le_of_ble_eq_true rfl) (Nat.le_of_ble_eq_true rfl) (Nat.le_of_ble_eq_true rfl) (Nat.le_of_ble_eq_true rfl)

abbrev wz_X9_heap : List Cond := .code yX9_heap cX9_heap 5 (some .int) :: W0
abbrev rm_X9_heap : Room := { frames := 7, cells := 2, slots := 12, locals := 112 }
theorem hd_X9_heap : yX9_heap.cls = RX9 ∧ yX9_heap.cls ≠ "java/lang/invoke/MethodHandle" ∧ yX9_heap.cls ≠ "java/lang/invoke/VarHandle" ∧ (parseMethodDescriptor yX9_heap.desc).map (fun d => d.parameters.length) = some 3 := by decide +kernel
set_option maxHeartbeats 4000000 in
set_option maxRecDepth 100000 in
theorem c_X9_heap (l : Launch) (D : va_G) (τ : Nat → Nat) (α : Nat → Nat) (γ : Nat → ClassId) (h : IA) (old : IA) (ch : IA) (rg : TRg) (ln : TLn) (sl : TSl) (pd : TPd) (ct : TCt) (sg : TSg) (od : TOd) (sv : IA) (sl9 : IA) (tk : BA) (ct9 : Int) (r9 : Int) (c9 : Int) (a : Int) (hr9 : -2147483648 ≤ r9 ∧ r9 < 2147483648) (hc9 : -2147483648 ≤ c9 ∧ c9 < 2147483648) (ham : -2147483648 ≤ a ∧ a < 2147483648) (hh : ∀ k, 0 ≤ k → k < 49 → 0 ≤ h k ∧ h k ≤ 99) (hct : 0 ≤ ct9 ∧ ct9 ≤ 6) (hst : l.stackTraces = false) : cX l yX9_heap wz_X9_heap rm_X9_heap D τ (tyH γ) [.ref (α 0), .int (zI r9), .int (zI c9), .int (zI a)] (wH α γ (h, old, ch) rg ln sl pd ct sg od (sv, sl9, tk, ct9)) (zQi (fun r w => ∃ (h2 : IA), ∃ (o2 : IA), ∃ (s2 : IA), ∃ (c2 : Int), ∃ (v : Int), (S_theap r9 c9 a = 0) ∧ (v = S_diff (S_heap h (7 * r9 + c9) a) h) ∧ (h2 = S_heap h (7 * r9 + c9) a) ∧ (s2 = S_sv sv h ct9) ∧ (c2 = S_svC ct9) ∧ r = zI v ∧ wH α γ (h2, o2, ch) rg ln sl pd ct sg od (s2, sl9, tk, c2) = w)) (fun E w => (E = "java/lang/IndexOutOfBoundsException" ∧ (S_theap r9 c9 a = 1) ∧ wH α γ (h, old, ch) rg ln sl pd ct sg od (sv, sl9, tk, ct9) = w) ∨ (E = "java/lang/IllegalArgumentException" ∧ (S_theap r9 c9 a = 2) ∧ wH α γ (h, old, ch) rg ln sl pd ct sg od (sv, sl9, tk, ct9) = w)) := by
  refine z_ofX (cc := cX9_heap) (maxL := 5) (ret := (some .int)) (by decide +kernel) rfl (Nat.le_of_ble_eq_true rfl) ?_
  intro pg e s m args below meth c hC hr hlk hT hK hP A hD hG hA hS hGX ls hl Q hQ
  have hx := hC.1
  have hb := hC.2.1
  have hml := hC.2.2.1
  have hown := hC.2.2.2.1
  have hts := hC.2.2.2.2
  have hB : ∀ w ∈ W0, w ∈ wz_X9_heap := fun _ h => List.mem_cons_of_mem _ h
  have hW0 : ∀ w ∈ W0, w.before args s = true := fun w h => hts w (hB w h)
  have hl : lv_has ls 5 [(0, .ref (α 0)), (1, .int (zI r9)), (2, .int (zI c9)), (3, .int (zI a))] := hl
  refine lv_iload_n hx hb dX9_heap_0 rfl (lv_at hl 1 rfl) ?_
  refine lv_iload_n hx hb dX9_heap_1 rfl (lv_at hl 2 rfl) ?_
  refine zx_calli hP hD hS hA (vx_runS (As := [.int (zI r9), .int (zI c9)]) (rest := []) hC (c_X9_knownPoint l D τ _ _ r9 c9 (by first | assumption | rfl | omega) (by first | assumption | rfl | omega) (by first | assumption | rfl | omega) _) (va_cwS 2 hts (gS hB wl_X9_72 wt_X9_knownPoint wi_X9 wc_X9_knownPoint) rfl rfl rfl hd_X9_knownPoint.2 ⟨Nat.le_of_ble_eq_true rfl, Nat.le_of_ble_eq_true rfl⟩) (zpX_S hK hP hD hS hA hG hGX) rfl rfl hl.1 rfl (lv_room (Nat.le_of_ble_eq_true rfl)) dX9_heap_2 ⟨Nat.le_of_ble_eq_true rfl, Nat.le_of_ble_eq_true rfl⟩) (fun E w1 H locs ce q9 hq9 hP hD hS hce hcv hcl => ?_) (fun r w1 H locs hq9 hP hD hS => ?_)
  · obtain ⟨rfl, hx9, rfl⟩ := hq9
    exact zx_out hT hlk hQ (Nat.le_of_ble_eq_true rfl) (Nat.le_of_ble_eq_true rfl) hP hD hS (Or.inl ⟨rfl, (by unfold S_theap; exact if_neg hx9), rfl⟩) hce hcv hcl
  · obtain ⟨v2_1, hv2_0, hv2_1, hv2_2, rfl, rfl⟩ := hq9
    refine lv_istore (lv' := [(4, .int (zI v2_1)), (0, .ref (α 0)), (1, .int (zI r9)), (2, .int (zI c9)), (3, .int (zI a))]) hx hb dX9_heap_5 hl (by decide) rfl (fun ls hl => ?_)
    refine lv_iload_n hx hb dX9_heap_7 rfl (lv_at hl 4 rfl) ?_
    refine lv_bipush (v := zI (-60)) hx hb dX9_heap_8 (zI_b8 (by decide)) ?_
    refine z_iclt (tgt := 23) hx hb ⟨by omega, by omega⟩ ⟨by omega, by omega⟩ dX9_heap_10 (by decide) (fun c_10 => ?_) (fun c_10 => ?_)
    · exact zx_throwS (text := "the amount is out of range, or 0") (is := 95) hC hst hG hW0 hGX hT hlk hQ hl.1 zX_IAE (List.mem_of_getElem? (i := 1) rfl) hP hD hS (Or.inr ⟨rfl, (by unfold S_theap; rw [if_pos hv2_0, if_neg (by omega)]), rfl⟩) dX9_heap_23 dX9_heap_26 dX9_heap_27 dX9_heap_29 dX9_heap_32 (Nat.le_of_ble_eq_true rfl) (Nat.le_of_ble_eq_true rfl) (Nat.le_of_ble_eq_true rfl) (Nat.le_of_ble_eq_true rfl) (Nat.le_of_ble_eq_true rfl) (Nat.le_of_ble_eq_true rfl)
    · refine lv_iload_n hx hb dX9_heap_13 rfl (lv_at hl 4 rfl) ?_
      refine lv_bipush (v := zI 60) hx hb dX9_heap_14 (zI_b8 (by decide)) ?_
      refine z_icgt (tgt := 23) hx hb ⟨by omega, by omega⟩ ⟨by omega, by omega⟩ dX9_heap_16 (by decide) (fun c_16 => ?_) (fun c_16 => ?_)
      · exact zx_throwS (text := "the amount is out of range, or 0") (is := 95) hC hst hG hW0 hGX hT hlk hQ hl.1 zX_IAE (List.mem_of_getElem? (i := 1) rfl) hP hD hS (Or.inr ⟨rfl, (by unfold S_theap; rw [if_pos hv2_0, if_neg (by omega)]), rfl⟩) dX9_heap_23 dX9_heap_26 dX9_heap_27 dX9_heap_29 dX9_heap_32 (Nat.le_of_ble_eq_true rfl) (Nat.le_of_ble_eq_true rfl) (Nat.le_of_ble_eq_true rfl) (Nat.le_of_ble_eq_true rfl) (Nat.le_of_ble_eq_true rfl) (Nat.le_of_ble_eq_true rfl)
      · refine lv_iload_n hx hb dX9_heap_19 rfl (lv_at hl 4 rfl) ?_
        refine z_ifne (tgt := 33) hx hb ⟨by omega, by omega⟩ dX9_heap_20 (by decide) (fun c_20 => ?_) (fun c_20 => ?_)
        · refine lv_aload_n hx hb dX9_heap_33 rfl (lv_at hl 1 rfl) ?_
          refine va_get (D := D) (ci := 9) (v := .ref (α 9)) (C := RX9) (T := TX9) (N := 9) hx hb hts (fun w h => List.mem_cons_of_mem _ (wx_X9 w h)) hown hK hP 0 rfl rfl 8 (by decide) (hW0 _ wf_X9_68) (fun _ h9 => h9) rfl dX9_heap_34 ?_
          refine lv_aload_n hx hb dX9_heap_37 rfl (lv_at hl 1 rfl) ?_
          refine va_get (D := D) (ci := 9) (v := .ref (α 1)) (C := RX9) (T := TX9) (N := 9) hx hb hts (fun w h => List.mem_cons_of_mem _ (wx_X9 w h)) hown hK hP 0 rfl rfl 0 (by decide) (hW0 _ wf_X9_12) (fun _ h9 => h9) rfl dX9_heap_38 ?_
          refine z_callv hP hD hS hA (va_runV (As := [.ref (α 1)]) (rest := []) hC (c_X1_save l D τ α γ h old ch rg ln sl pd ct sg od sv sl9 tk ct9 (by first | assumption | rfl | omega) _) (cwV 1 hts (gV hB wl_X9_83 wn_X1_save ws_X1_save wi_X1 wc_X1_save) rfl rfl rfl hd_X1_save ⟨Nat.le_of_ble_eq_true rfl, Nat.le_of_ble_eq_true rfl⟩) (zp_V hK hP hD hS hA hG (ci := 1) (q0 := 9) rfl rfl rfl) rfl rfl hl.1 rfl (lv_room (Nat.le_of_ble_eq_true rfl)) dX9_heap_41 ⟨Nat.le_of_ble_eq_true rfl, Nat.le_of_ble_eq_true rfl⟩) (fun w1 H locs hq9 hP hD hS => ?_)
          obtain ⟨s41_2, c41_3, hv41_0, hv41_1, rfl⟩ := hq9
          have hP : va_P D vwCl (wH α γ (h, old, ch) rg ln sl pd ct sg od (s41_2, sl9, tk, c41_3)) H := hP
          have hD : va_D A (wH α γ (h, old, ch) rg ln sl pd ct sg od (s41_2, sl9, tk, c41_3)) := hD
          refine lv_aload_n hx hb dX9_heap_44 rfl (lv_at hl 1 rfl) ?_
          refine va_get (D := D) (ci := 9) (v := .ref (α 1)) (C := RX9) (T := TX9) (N := 9) hx hb hts (fun w h => List.mem_cons_of_mem _ (wx_X9 w h)) hown hK hP 0 rfl rfl 0 (by decide) (hW0 _ wf_X9_12) (fun _ h9 => h9) rfl dX9_heap_45 ?_
          refine lv_iload hx hb dX9_heap_48 (lv_at hl 0 rfl) ?_
          refine lv_iload_n hx hb dX9_heap_50 rfl (lv_at hl 4 rfl) ?_
          refine z_calli hP hD hS hA (va_runV (As := [.int (zI v2_1), .int (zI a)]) (rest := []) hC (c_X6_heapUp l D τ α γ h old ch rg ln sl pd ct sg od (s41_2, sl9, tk, c41_3) v2_1 a (by first | assumption | rfl | omega) (by first | assumption | rfl | omega) (by first | assumption | rfl | omega) _) (cwV 2 hts (gV hB wl_X9_97 wn_X6_heapUp ws_X6_heapUp wi_X6 wc_X6_heapUp) rfl rfl rfl hd_X6_heapUp ⟨Nat.le_of_ble_eq_true rfl, Nat.le_of_ble_eq_true rfl⟩) (zp_V hK hP hD hS hA hG (ci := 6) (q0 := 1) rfl rfl rfl) rfl rfl hl.1 rfl (lv_room (Nat.le_of_ble_eq_true rfl)) dX9_heap_51 ⟨Nat.le_of_ble_eq_true rfl, Nat.le_of_ble_eq_true rfl⟩) (fun r w1 H locs hq9 hP hD hS => ?_)
          obtain ⟨h51_4, o51_5, v51_6, hv51_0, hv51_1, hv51_2, rfl, rfl⟩ := hq9
          have hP : va_P D vwCl (wH α γ (h51_4, o51_5, ch) rg ln sl pd ct sg od (s41_2, sl9, tk, c41_3)) H := hP
          have hD : va_D A (wH α γ (h51_4, o51_5, ch) rg ln sl pd ct sg od (s41_2, sl9, tk, c41_3)) := hD
          exact zx_iret hC hr hlk hQ (Nat.le_of_ble_eq_true rfl) (Nat.le_of_ble_eq_true rfl) hP hD hS ⟨h51_4, o51_5, s41_2, c41_3, v51_6, (by unfold S_theap; rw [if_pos hv2_0, if_pos ⟨⟨by omega, by omega⟩, by omega⟩]), (by rw [hv51_1, hv2_1]), (by rw [hv51_0, hv2_1]), (by exact hv41_0), (by exact hv41_1), rfl, rfl⟩ dX9_heap_54
        · exact zx_throwS (text := "the amount is out of range, or 0") (is := 95) hC hst hG hW0 hGX hT hlk hQ hl.1 zX_IAE (List.mem_of_getElem? (i := 1) rfl) hP hD hS (Or.inr ⟨rfl, (by unfold S_theap; rw [if_pos hv2_0, if_neg (by omega)]), rfl⟩) dX9_heap_23 dX9_heap_26 dX9_heap_27 dX9_heap_29 dX9_heap_32 (Nat.le_of_ble_eq_true rfl) (Nat.le_of_ble_eq_true rfl) (Nat.le_of_ble_eq_true rfl) (Nat.le_of_ble_eq_true rfl) (Nat.le_of_ble_eq_true rfl) (Nat.le_of_ble_eq_true rfl)

abbrev wz_X9_smooth : List Cond := .code yX9_smooth cX9_smooth 1 (some .int) :: W0
abbrev rm_X9_smooth : Room := { frames := 4, cells := 0, slots := 0, locals := 88 }
theorem hd_X9_smooth : yX9_smooth.cls = RX9 ∧ yX9_smooth.cls ≠ "java/lang/invoke/MethodHandle" ∧ yX9_smooth.cls ≠ "java/lang/invoke/VarHandle" ∧ (parseMethodDescriptor yX9_smooth.desc).map (fun d => d.parameters.length) = some 0 := by decide +kernel
set_option maxHeartbeats 4000000 in
set_option maxRecDepth 100000 in
theorem c_X9_smooth (l : Launch) (D : va_G) (τ : Nat → Nat) (α : Nat → Nat) (γ : Nat → ClassId) (h : IA) (old : IA) (ch : IA) (rg : TRg) (ln : TLn) (sl : TSl) (pd : TPd) (ct : TCt) (sg : TSg) (od : TOd) (sv : IA) (sl9 : IA) (tk : BA) (ct9 : Int) (hh : ∀ k, 0 ≤ k → k < 49 → 0 ≤ h k ∧ h k ≤ 99) (hct : 0 ≤ ct9 ∧ ct9 ≤ 6) : cM l yX9_smooth wz_X9_smooth rm_X9_smooth D τ (tyH γ) [.ref (α 0)] (wH α γ (h, old, ch) rg ln sl pd ct sg od (sv, sl9, tk, ct9)) (zQi (fun r w => ∃ (h2 : IA), ∃ (o2 : IA), ∃ (s2 : IA), ∃ (c2 : Int), ∃ (v : Int), (v = S_diff (S_smooth h) h) ∧ (h2 = S_smooth h) ∧ (s2 = S_sv sv h ct9) ∧ (c2 = S_svC ct9) ∧ r = zI v ∧ wH α γ (h2, o2, ch) rg ln sl pd ct sg od (s2, sl9, tk, c2) = w)) := by
  refine z_ofM (cc := cX9_smooth) (maxL := 1) (ret := (some .int)) (by decide +kernel) rfl (Nat.le_of_ble_eq_true rfl) ?_
  intro pg e s m args below meth c hC hr hlk hnm hK hP A hD hG hA hS ls hl Q hQ
  have hx := hC.1
  have hb := hC.2.1
  have hml := hC.2.2.1
  have hown := hC.2.2.2.1
  have hts := hC.2.2.2.2
  have hB : ∀ w ∈ W0, w ∈ wz_X9_smooth := fun _ h => List.mem_cons_of_mem _ h
  have hW0 : ∀ w ∈ W0, w.before args s = true := fun w h => hts w (hB w h)
  have hl : lv_has ls 1 [(0, .ref (α 0))] := hl
  refine lv_aload_n hx hb dX9_smooth_0 rfl (lv_at hl 0 rfl) ?_
  refine va_get (D := D) (ci := 9) (v := .ref (α 9)) (C := RX9) (T := TX9) (N := 9) hx hb hts (fun w h => List.mem_cons_of_mem _ (wx_X9 w h)) hown hK hP 0 rfl rfl 8 (by decide) (hW0 _ wf_X9_68) (fun _ h9 => h9) rfl dX9_smooth_1 ?_
  refine lv_aload_n hx hb dX9_smooth_4 rfl (lv_at hl 0 rfl) ?_
  refine va_get (D := D) (ci := 9) (v := .ref (α 1)) (C := RX9) (T := TX9) (N := 9) hx hb hts (fun w h => List.mem_cons_of_mem _ (wx_X9 w h)) hown hK hP 0 rfl rfl 0 (by decide) (hW0 _ wf_X9_12) (fun _ h9 => h9) rfl dX9_smooth_5 ?_
  refine z_callv hP hD hS hA (va_runV (As := [.ref (α 1)]) (rest := []) hC (c_X1_save l D τ α γ h old ch rg ln sl pd ct sg od sv sl9 tk ct9 (by first | assumption | rfl | omega) _) (cwV 1 hts (gV hB wl_X9_83 wn_X1_save ws_X1_save wi_X1 wc_X1_save) rfl rfl rfl hd_X1_save ⟨Nat.le_of_ble_eq_true rfl, Nat.le_of_ble_eq_true rfl⟩) (zp_V hK hP hD hS hA hG (ci := 1) (q0 := 9) rfl rfl rfl) rfl rfl hl.1 rfl (lv_room (Nat.le_of_ble_eq_true rfl)) dX9_smooth_8 ⟨Nat.le_of_ble_eq_true rfl, Nat.le_of_ble_eq_true rfl⟩) (fun w1 H locs hq9 hP hD hS => ?_)
  obtain ⟨s8_1, c8_2, hv8_0, hv8_1, rfl⟩ := hq9
  have hP : va_P D vwCl (wH α γ (h, old, ch) rg ln sl pd ct sg od (s8_1, sl9, tk, c8_2)) H := hP
  have hD : va_D A (wH α γ (h, old, ch) rg ln sl pd ct sg od (s8_1, sl9, tk, c8_2)) := hD
  refine lv_aload_n hx hb dX9_smooth_11 rfl (lv_at hl 0 rfl) ?_
  refine va_get (D := D) (ci := 9) (v := .ref (α 1)) (C := RX9) (T := TX9) (N := 9) hx hb hts (fun w h => List.mem_cons_of_mem _ (wx_X9 w h)) hown hK hP 0 rfl rfl 0 (by decide) (hW0 _ wf_X9_12) (fun _ h9 => h9) rfl dX9_smooth_12 ?_
  refine z_calli hP hD hS hA (va_runV (As := []) (rest := []) hC (c_X6_smoothOut l D τ α γ h old ch rg ln sl pd ct sg od (s8_1, sl9, tk, c8_2) (by first | assumption | rfl | omega) _) (cwV 0 hts (gV hB wl_X9_100 wn_X6_smoothOut ws_X6_smoothOut wi_X6 wc_X6_smoothOut) rfl rfl rfl hd_X6_smoothOut ⟨Nat.le_of_ble_eq_true rfl, Nat.le_of_ble_eq_true rfl⟩) (zp_V hK hP hD hS hA hG (ci := 6) (q0 := 1) rfl rfl rfl) rfl rfl hl.1 rfl (lv_room (Nat.le_of_ble_eq_true rfl)) dX9_smooth_15 ⟨Nat.le_of_ble_eq_true rfl, Nat.le_of_ble_eq_true rfl⟩) (fun r w1 H locs hq9 hP hD hS => ?_)
  obtain ⟨h15_3, o15_4, v15_5, hv15_0, hv15_1, hv15_2, rfl, rfl⟩ := hq9
  have hP : va_P D vwCl (wH α γ (h15_3, o15_4, ch) rg ln sl pd ct sg od (s8_1, sl9, tk, c8_2)) H := hP
  have hD : va_D A (wH α γ (h15_3, o15_4, ch) rg ln sl pd ct sg od (s8_1, sl9, tk, c8_2)) := hD
  exact z_iret hC hr hlk hQ hP hD hS ⟨h15_3, o15_4, s8_1, c8_2, v15_5, (by assumption), (by assumption), (by assumption), (by assumption), rfl, rfl⟩ dX9_smooth_18

abbrev wz_X9_turnMap : List Cond := .code yX9_turnMap cX9_turnMap 1 (some .int) :: W0
abbrev rm_X9_turnMap : Room := { frames := 3, cells := 0, slots := 0, locals := 76 }
theorem hd_X9_turnMap : yX9_turnMap.cls = RX9 ∧ yX9_turnMap.cls ≠ "java/lang/invoke/MethodHandle" ∧ yX9_turnMap.cls ≠ "java/lang/invoke/VarHandle" ∧ (parseMethodDescriptor yX9_turnMap.desc).map (fun d => d.parameters.length) = some 0 := by decide +kernel
set_option maxHeartbeats 4000000 in
set_option maxRecDepth 100000 in
theorem c_X9_turnMap (l : Launch) (D : va_G) (τ : Nat → Nat) (α : Nat → Nat) (γ : Nat → ClassId) (h : IA) (old : IA) (ch : IA) (rg : TRg) (ln : TLn) (sl : TSl) (pd : TPd) (ct : TCt) (sg : TSg) (od : TOd) (sv : IA) (sl9 : IA) (tk : BA) (ct9 : Int) (hh : ∀ k, 0 ≤ k → k < 49 → 0 ≤ h k ∧ h k ≤ 99) (hct : 0 ≤ ct9 ∧ ct9 ≤ 6) : cM l yX9_turnMap wz_X9_turnMap rm_X9_turnMap D τ (tyH γ) [.ref (α 0)] (wH α γ (h, old, ch) rg ln sl pd ct sg od (sv, sl9, tk, ct9)) (zQi (fun r w => ∃ (h2 : IA), ∃ (o2 : IA), ∃ (s2 : IA), ∃ (c2 : Int), ∃ (v : Int), (v = S_diff (S_turn h) h) ∧ (h2 = S_turn h) ∧ (s2 = S_sv sv h ct9) ∧ (c2 = S_svC ct9) ∧ r = zI v ∧ wH α γ (h2, o2, ch) rg ln sl pd ct sg od (s2, sl9, tk, c2) = w)) := by
  refine z_ofM (cc := cX9_turnMap) (maxL := 1) (ret := (some .int)) (by decide +kernel) rfl (Nat.le_of_ble_eq_true rfl) ?_
  intro pg e s m args below meth c hC hr hlk hnm hK hP A hD hG hA hS ls hl Q hQ
  have hx := hC.1
  have hb := hC.2.1
  have hml := hC.2.2.1
  have hown := hC.2.2.2.1
  have hts := hC.2.2.2.2
  have hB : ∀ w ∈ W0, w ∈ wz_X9_turnMap := fun _ h => List.mem_cons_of_mem _ h
  have hW0 : ∀ w ∈ W0, w.before args s = true := fun w h => hts w (hB w h)
  have hl : lv_has ls 1 [(0, .ref (α 0))] := hl
  refine lv_aload_n hx hb dX9_turnMap_0 rfl (lv_at hl 0 rfl) ?_
  refine va_get (D := D) (ci := 9) (v := .ref (α 9)) (C := RX9) (T := TX9) (N := 9) hx hb hts (fun w h => List.mem_cons_of_mem _ (wx_X9 w h)) hown hK hP 0 rfl rfl 8 (by decide) (hW0 _ wf_X9_68) (fun _ h9 => h9) rfl dX9_turnMap_1 ?_
  refine lv_aload_n hx hb dX9_turnMap_4 rfl (lv_at hl 0 rfl) ?_
  refine va_get (D := D) (ci := 9) (v := .ref (α 1)) (C := RX9) (T := TX9) (N := 9) hx hb hts (fun w h => List.mem_cons_of_mem _ (wx_X9 w h)) hown hK hP 0 rfl rfl 0 (by decide) (hW0 _ wf_X9_12) (fun _ h9 => h9) rfl dX9_turnMap_5 ?_
  refine z_callv hP hD hS hA (va_runV (As := [.ref (α 1)]) (rest := []) hC (c_X1_save l D τ α γ h old ch rg ln sl pd ct sg od sv sl9 tk ct9 (by first | assumption | rfl | omega) _) (cwV 1 hts (gV hB wl_X9_83 wn_X1_save ws_X1_save wi_X1 wc_X1_save) rfl rfl rfl hd_X1_save ⟨Nat.le_of_ble_eq_true rfl, Nat.le_of_ble_eq_true rfl⟩) (zp_V hK hP hD hS hA hG (ci := 1) (q0 := 9) rfl rfl rfl) rfl rfl hl.1 rfl (lv_room (Nat.le_of_ble_eq_true rfl)) dX9_turnMap_8 ⟨Nat.le_of_ble_eq_true rfl, Nat.le_of_ble_eq_true rfl⟩) (fun w1 H locs hq9 hP hD hS => ?_)
  obtain ⟨s8_1, c8_2, hv8_0, hv8_1, rfl⟩ := hq9
  have hP : va_P D vwCl (wH α γ (h, old, ch) rg ln sl pd ct sg od (s8_1, sl9, tk, c8_2)) H := hP
  have hD : va_D A (wH α γ (h, old, ch) rg ln sl pd ct sg od (s8_1, sl9, tk, c8_2)) := hD
  refine lv_aload_n hx hb dX9_turnMap_11 rfl (lv_at hl 0 rfl) ?_
  refine va_get (D := D) (ci := 9) (v := .ref (α 1)) (C := RX9) (T := TX9) (N := 9) hx hb hts (fun w h => List.mem_cons_of_mem _ (wx_X9 w h)) hown hK hP 0 rfl rfl 0 (by decide) (hW0 _ wf_X9_12) (fun _ h9 => h9) rfl dX9_turnMap_12 ?_
  refine z_calli hP hD hS hA (va_runV (As := []) (rest := []) hC (c_X6_turnRight l D τ α γ h old ch rg ln sl pd ct sg od (s8_1, sl9, tk, c8_2) (by first | assumption | rfl | omega) _) (cwV 0 hts (gV hB wl_X9_113 wn_X6_turnRight ws_X6_turnRight wi_X6 wc_X6_turnRight) rfl rfl rfl hd_X6_turnRight ⟨Nat.le_of_ble_eq_true rfl, Nat.le_of_ble_eq_true rfl⟩) (zp_V hK hP hD hS hA hG (ci := 6) (q0 := 1) rfl rfl rfl) rfl rfl hl.1 rfl (lv_room (Nat.le_of_ble_eq_true rfl)) dX9_turnMap_15 ⟨Nat.le_of_ble_eq_true rfl, Nat.le_of_ble_eq_true rfl⟩) (fun r w1 H locs hq9 hP hD hS => ?_)
  obtain ⟨h15_3, o15_4, v15_5, hv15_0, hv15_1, hv15_2, rfl, rfl⟩ := hq9
  have hP : va_P D vwCl (wH α γ (h15_3, o15_4, ch) rg ln sl pd ct sg od (s8_1, sl9, tk, c8_2)) H := hP
  have hD : va_D A (wH α γ (h15_3, o15_4, ch) rg ln sl pd ct sg od (s8_1, sl9, tk, c8_2)) := hD
  exact z_iret hC hr hlk hQ hP hD hS ⟨h15_3, o15_4, s8_1, c8_2, v15_5, (by assumption), (by assumption), (by assumption), (by assumption), rfl, rfl⟩ dX9_turnMap_18

abbrev wz_X9_wash : List Cond := .code yX9_wash cX9_wash 4 (some .int) :: W0
abbrev rm_X9_wash : Room := { frames := 6, cells := 1, slots := 6, locals := 90 }
theorem hd_X9_wash : yX9_wash.cls = RX9 ∧ yX9_wash.cls ≠ "java/lang/invoke/MethodHandle" ∧ yX9_wash.cls ≠ "java/lang/invoke/VarHandle" ∧ (parseMethodDescriptor yX9_wash.desc).map (fun d => d.parameters.length) = some 1 := by decide +kernel
set_option maxHeartbeats 4000000 in
set_option maxRecDepth 100000 in
theorem c_X9_wash (l : Launch) (D : va_G) (τ : Nat → Nat) (α : Nat → Nat) (γ : Nat → ClassId) (h : IA) (old : IA) (ch : IA) (rg : TRg) (ln : TLn) (nx : IA) (dr : IA) (qu : IA) (pd : TPd) (ct : TCt) (sg : TSg) (od : TOd) (sv : IA) (sl9 : IA) (tk : BA) (ct9 : Int) (n9 : Int) (hn9 : -2147483648 ≤ n9 ∧ n9 < 2147483648) (hh : ∀ k, 0 ≤ k → k < 49 → 0 ≤ h k ∧ h k ≤ 99) (hct : 0 ≤ ct9 ∧ ct9 ≤ 6) (hst : l.stackTraces = false) : cX l yX9_wash wz_X9_wash rm_X9_wash D τ (tyH γ) [.ref (α 0), .int (zI n9)] (wH α γ (h, old, ch) rg ln (nx, dr, qu) pd ct sg od (sv, sl9, tk, ct9)) (zQi (fun r w => ∃ (h2 : IA), ∃ (ch2 : IA), ∃ (s2 : IA), ∃ (c2 : Int), ∃ (n2 : IA), ∃ (d2 : IA), ∃ (v : Int), (S_twash n9 = 0) ∧ (v = S_given h n9) ∧ (h2 = S_wash h n9) ∧ (s2 = S_sv sv h ct9) ∧ (c2 = S_svC ct9) ∧ r = zI v ∧ wH α γ (h2, old, ch2) rg ln (n2, d2, qu) pd ct sg od (s2, sl9, tk, c2) = w)) (fun E w => (E = "java/lang/IllegalArgumentException" ∧ (S_twash n9 = 1) ∧ wH α γ (h, old, ch) rg ln (nx, dr, qu) pd ct sg od (sv, sl9, tk, ct9) = w)) := by
  refine z_ofX (cc := cX9_wash) (maxL := 4) (ret := (some .int)) (by decide +kernel) rfl (Nat.le_of_ble_eq_true rfl) ?_
  intro pg e s m args below meth c hC hr hlk hT hK hP A hD hG hA hS hGX ls hl Q hQ
  have hx := hC.1
  have hb := hC.2.1
  have hml := hC.2.2.1
  have hown := hC.2.2.2.1
  have hts := hC.2.2.2.2
  have hB : ∀ w ∈ W0, w ∈ wz_X9_wash := fun _ h => List.mem_cons_of_mem _ h
  have hW0 : ∀ w ∈ W0, w.before args s = true := fun w h => hts w (hB w h)
  have hl : lv_has ls 4 [(0, .ref (α 0)), (1, .int (zI n9))] := hl
  refine lv_iload_n hx hb dX9_wash_0 rfl (lv_at hl 1 rfl) ?_
  refine lv_iconst (v := zI 1) hx hb dX9_wash_1 rfl ?_
  refine z_iclt (tgt := 11) hx hb ⟨by omega, by omega⟩ ⟨by omega, by omega⟩ dX9_wash_2 (by decide) (fun c_2 => ?_) (fun c_2 => ?_)
  · exact zx_throwS (text := "showers is out of range") (is := 104) hC hst hG hW0 hGX hT hlk hQ hl.1 zX_IAE (List.mem_of_getElem? (i := 2) rfl) hP hD hS ⟨rfl, (by unfold S_twash; rw [if_neg (by omega)]), rfl⟩ dX9_wash_11 dX9_wash_14 dX9_wash_15 dX9_wash_17 dX9_wash_20 (Nat.le_of_ble_eq_true rfl) (Nat.le_of_ble_eq_true rfl) (Nat.le_of_ble_eq_true rfl) (Nat.le_of_ble_eq_true rfl) (Nat.le_of_ble_eq_true rfl) (Nat.le_of_ble_eq_true rfl)
  · refine lv_iload_n hx hb dX9_wash_5 rfl (lv_at hl 1 rfl) ?_
    refine lv_bipush (v := zI 50) hx hb dX9_wash_6 (zI_b8 (by decide)) ?_
    refine z_icle (tgt := 21) hx hb ⟨by omega, by omega⟩ ⟨by omega, by omega⟩ dX9_wash_8 (by decide) (fun c_8 => ?_) (fun c_8 => ?_)
    · refine lv_aload_n hx hb dX9_wash_21 rfl (lv_at hl 0 rfl) ?_
      refine va_get (D := D) (ci := 9) (v := .ref (α 9)) (C := RX9) (T := TX9) (N := 9) hx hb hts (fun w h => List.mem_cons_of_mem _ (wx_X9 w h)) hown hK hP 0 rfl rfl 8 (by decide) (hW0 _ wf_X9_68) (fun _ h9 => h9) rfl dX9_wash_22 ?_
      refine lv_aload_n hx hb dX9_wash_25 rfl (lv_at hl 0 rfl) ?_
      refine va_get (D := D) (ci := 9) (v := .ref (α 1)) (C := RX9) (T := TX9) (N := 9) hx hb hts (fun w h => List.mem_cons_of_mem _ (wx_X9 w h)) hown hK hP 0 rfl rfl 0 (by decide) (hW0 _ wf_X9_12) (fun _ h9 => h9) rfl dX9_wash_26 ?_
      refine z_callv hP hD hS hA (va_runV (As := [.ref (α 1)]) (rest := []) hC (c_X1_save l D τ α γ h old ch rg ln (nx, dr, qu) pd ct sg od sv sl9 tk ct9 (by first | assumption | rfl | omega) _) (cwV 1 hts (gV hB wl_X9_83 wn_X1_save ws_X1_save wi_X1 wc_X1_save) rfl rfl rfl hd_X1_save ⟨Nat.le_of_ble_eq_true rfl, Nat.le_of_ble_eq_true rfl⟩) (zp_V hK hP hD hS hA hG (ci := 1) (q0 := 9) rfl rfl rfl) rfl rfl hl.1 rfl (lv_room (Nat.le_of_ble_eq_true rfl)) dX9_wash_29 ⟨Nat.le_of_ble_eq_true rfl, Nat.le_of_ble_eq_true rfl⟩) (fun w1 H locs hq9 hP hD hS => ?_)
      obtain ⟨s29_1, c29_2, hv29_0, hv29_1, rfl⟩ := hq9
      have hP : va_P D vwCl (wH α γ (h, old, ch) rg ln (nx, dr, qu) pd ct sg od (s29_1, sl9, tk, c29_2)) H := hP
      have hD : va_D A (wH α γ (h, old, ch) rg ln (nx, dr, qu) pd ct sg od (s29_1, sl9, tk, c29_2)) := hD
      refine lv_iconst (v := zI 0) hx hb dX9_wash_32 rfl ?_
      refine lv_istore_n (lv' := [(2, .int (zI 0)), (0, .ref (α 0)), (1, .int (zI n9))]) hx hb dX9_wash_33 rfl hl (by decide) rfl (fun ls hl => ?_)
      refine lv_iconst (v := zI 0) hx hb dX9_wash_34 rfl ?_
      refine lv_istore_n (lv' := [(3, .int (zI 0)), (2, .int (zI 0)), (0, .ref (α 0)), (1, .int (zI n9))]) hx hb dX9_wash_35 rfl hl (by decide) rfl (fun ls hl => ?_)
      suffices HL_36 : ∀ (n_36 : Nat), ∀ (h1 : IA) (c1 : IA) (n1 : IA) (d1 : IA) (g : Int) (i : Int) (H : Heap) (locs : List Loc) (hP : va_P D vwCl (wH α γ (h1, old, c1) rg ln (n1, d1, qu) pd ct sg od (s29_1, sl9, tk, c29_2)) H) (hD : va_D A (wH α γ (h1, old, c1) rg ln (n1, d1, qu) pd ct sg od (s29_1, sl9, tk, c29_2))) (hS : va_S A s.heap H locs) (ls : Array Slot) (hl : lv_has ls 4 [(2, .int (zI g)), (3, .int (zI i)), (0, .ref (α 0)), (1, .int (zI n9))]) (hi : 0 ≤ i ∧ i ≤ n9) (hh1 : h1 = S_wash h i) (hg : g = S_given h i) (hb1 : ∀ k, 0 ≤ k → k < 49 → 0 ≤ h1 k ∧ h1 k ≤ 99) (hm : (n9 - i).toNat < n_36), W pg l e rm_X9_wash s m args below meth c H locs 0 0 Q (F0 m 36 ls []) from HL_36 _ h ch nx dr 0 0 _ _ hP hD hS _ (lv_sub hl [1, 0, 2, 3] rfl) (by first | assumption | rfl | omega) (by rfl) (by rfl) (by exact hh) (Nat.lt_succ_self _)
      intro n_36
      induction n_36 with
      | zero => intro h1 c1 n1 d1 g i H locs hP hD hS ls hl hi hh1 hg hb1 hm; exact absurd hm (Nat.not_lt_zero _)
      | succ n_36 ih_36 =>
        intro h1 c1 n1 d1 g i H locs hP hD hS ls hl hi hh1 hg hb1 hm
        refine lv_iload_n hx hb dX9_wash_36 rfl (lv_at hl 1 rfl) ?_
        refine lv_iload_n hx hb dX9_wash_37 rfl (lv_at hl 3 rfl) ?_
        refine z_icge (tgt := 72) hx hb ⟨by omega, by omega⟩ ⟨by omega, by omega⟩ dX9_wash_38 (by decide) (fun c_38 => ?_) (fun c_38 => ?_)
        · refine lv_iload_n hx hb dX9_wash_72 rfl (lv_at hl 0 rfl) ?_
          exact zx_iret hC hr hlk hQ (Nat.le_of_ble_eq_true rfl) (Nat.le_of_ble_eq_true rfl) hP hD hS ⟨h1, c1, s29_1, c29_2, n1, d1, g, (by unfold S_twash; rw [if_pos (by omega)]), (by rw [hg, show i = n9 by omega]), (by rw [hh1, show i = n9 by omega]), (by exact hv29_0), (by exact hv29_1), rfl, rfl⟩ dX9_wash_73
        · refine lv_aload_n hx hb dX9_wash_41 rfl (lv_at hl 2 rfl) ?_
          refine va_get (D := D) (ci := 9) (v := .ref (α 4)) (C := RX9) (T := TX9) (N := 9) hx hb hts (fun w h => List.mem_cons_of_mem _ (wx_X9 w h)) hown hK hP 0 rfl rfl 3 (by decide) (hW0 _ wf_X9_33) (fun _ h9 => h9) rfl dX9_wash_42 ?_
          refine lv_aload_n hx hb dX9_wash_45 rfl (lv_at hl 2 rfl) ?_
          refine va_get (D := D) (ci := 9) (v := .ref (α 1)) (C := RX9) (T := TX9) (N := 9) hx hb hts (fun w h => List.mem_cons_of_mem _ (wx_X9 w h)) hown hK hP 0 rfl rfl 0 (by decide) (hW0 _ wf_X9_12) (fun _ h9 => h9) rfl dX9_wash_46 ?_
          refine z_callv hP hD hS hA (va_runV (As := [.ref (α 1)]) (rest := []) hC (c_X8_read l D τ α γ h1 old c1 rg ln n1 d1 qu pd ct sg od (s29_1, sl9, tk, c29_2) (by exact hb1) _) (cwV 1 hts (gV hB wl_X9_106 wn_X8_read ws_X8_read wi_X8 wc_X8_read) rfl rfl rfl hd_X8_read ⟨Nat.le_of_ble_eq_true rfl, Nat.le_of_ble_eq_true rfl⟩) (zp_V hK hP hD hS hA hG (ci := 8) (q0 := 4) rfl rfl rfl) rfl rfl hl.1 rfl (lv_room (Nat.le_of_ble_eq_true rfl)) dX9_wash_49 ⟨Nat.le_of_ble_eq_true rfl, Nat.le_of_ble_eq_true rfl⟩) (fun w1 H locs hq9 hP hD hS => ?_)
          obtain ⟨n49_3, d49_4, hv49_0, hv49_1, rfl⟩ := hq9
          have hP : va_P D vwCl (wH α γ (h1, old, c1) rg ln (n49_3, d49_4, qu) pd ct sg od (s29_1, sl9, tk, c29_2)) H := hP
          have hD : va_D A (wH α γ (h1, old, c1) rg ln (n49_3, d49_4, qu) pd ct sg od (s29_1, sl9, tk, c29_2)) := hD
          refine lv_iload_n hx hb dX9_wash_52 rfl (lv_at hl 0 rfl) ?_
          refine lv_aload_n hx hb dX9_wash_53 rfl (lv_at hl 2 rfl) ?_
          refine va_get (D := D) (ci := 9) (v := .ref (α 1)) (C := RX9) (T := TX9) (N := 9) hx hb hts (fun w h => List.mem_cons_of_mem _ (wx_X9 w h)) hown hK hP 0 rfl rfl 0 (by decide) (hW0 _ wf_X9_12) (fun _ h9 => h9) rfl dX9_wash_54 ?_
          refine lv_aload_n hx hb dX9_wash_57 rfl (lv_at hl 2 rfl) ?_
          refine va_get (D := D) (ci := 9) (v := .ref (α 4)) (C := RX9) (T := TX9) (N := 9) hx hb hts (fun w h => List.mem_cons_of_mem _ (wx_X9 w h)) hown hK hP 0 rfl rfl 3 (by decide) (hW0 _ wf_X9_33) (fun _ h9 => h9) rfl dX9_wash_58 ?_
          refine z_calli hP hD hS hA (va_runV (As := [.ref (α 4)]) (rest := [.int (zI g)]) hC (c_X6_washDown l D τ α γ h1 old c1 rg ln n49_3 d49_4 qu pd ct sg od (s29_1, sl9, tk, c29_2) (by exact hb1) (by intro k z1 z2; rw [hv49_0, zmix_at ⟨z1, z2⟩]) _) (cwV 1 hts (gV hB wl_X9_109 wn_X6_washDown ws_X6_washDown wi_X6 wc_X6_washDown) rfl rfl rfl hd_X6_washDown ⟨Nat.le_of_ble_eq_true rfl, Nat.le_of_ble_eq_true rfl⟩) (zp_V hK hP hD hS hA hG (ci := 6) (q0 := 1) rfl rfl rfl) rfl rfl hl.1 rfl (lv_room (Nat.le_of_ble_eq_true rfl)) dX9_wash_61 ⟨Nat.le_of_ble_eq_true rfl, Nat.le_of_ble_eq_true rfl⟩) (fun r w1 H locs hq9 hP hD hS => ?_)
          obtain ⟨h61_5, c61_6, v61_7, hv61_0, hv61_1, hv61_2, rfl, rfl⟩ := hq9
          have hP : va_P D vwCl (wH α γ (h61_5, old, c61_6) rg ln (n49_3, d49_4, qu) pd ct sg od (s29_1, sl9, tk, c29_2)) H := hP
          have hD : va_D A (wH α γ (h61_5, old, c61_6) rg ln (n49_3, d49_4, qu) pd ct sg od (s29_1, sl9, tk, c29_2)) := hD
          refine z_iadd hx hb dX9_wash_64 ?_
          refine lv_istore_n (lv' := [(2, .int (zI (g + v61_7))), (3, .int (zI i)), (0, .ref (α 0)), (1, .int (zI n9))]) hx hb dX9_wash_65 rfl hl (by decide) rfl (fun ls hl => ?_)
          refine z_iinc (k := 1) (v := i + 1) (lv' := [(3, .int (zI (i + 1))), (2, .int (zI (g + v61_7))), (0, .ref (α 0)), (1, .int (zI n9))]) hx hb dX9_wash_66 hl rfl rfl (by decide) rfl (fun ls hl => ?_)
          refine lv_goto (tgt := 36) hx hb dX9_wash_69 (by decide) ?_
          exact ih_36 h61_5 c61_6 n49_3 d49_4 (g + v61_7) (i + 1) _ _ hP hD hS _ (lv_sub hl [1, 0, 2, 3] rfl) (by first | assumption | rfl | omega) (by rw [S_wash_up hi.1, ← hh1]; exact hv61_0) (by rw [S_given_up hi.1, ← hg, ← hh1, hv61_1]) (by rw [hv61_0]; exact S_wash1_b hb1) (by omega)
    · exact zx_throwS (text := "showers is out of range") (is := 104) hC hst hG hW0 hGX hT hlk hQ hl.1 zX_IAE (List.mem_of_getElem? (i := 2) rfl) hP hD hS ⟨rfl, (by unfold S_twash; rw [if_neg (by omega)]), rfl⟩ dX9_wash_11 dX9_wash_14 dX9_wash_15 dX9_wash_17 dX9_wash_20 (Nat.le_of_ble_eq_true rfl) (Nat.le_of_ble_eq_true rfl) (Nat.le_of_ble_eq_true rfl) (Nat.le_of_ble_eq_true rfl) (Nat.le_of_ble_eq_true rfl) (Nat.le_of_ble_eq_true rfl)

abbrev wz_X9_append : List Cond := .code yX9_append cX9_append 2 (some .int) :: W0
abbrev rm_X9_append : Room := { frames := 6, cells := 1, slots := 6, locals := 90 }
theorem hd_X9_append : yX9_append.cls = RX9 ∧ yX9_append.cls ≠ "java/lang/invoke/MethodHandle" ∧ yX9_append.cls ≠ "java/lang/invoke/VarHandle" ∧ (parseMethodDescriptor yX9_append.desc).map (fun d => d.parameters.length) = some 1 := by decide +kernel
set_option maxHeartbeats 4000000 in
set_option maxRecDepth 100000 in
theorem c_X9_append (l : Launch) (D : va_G) (τ : Nat → Nat) (α : Nat → Nat) (γ : Nat → ClassId) (rl : TRl) (rg : TRg) (ln : TLn) (sl : TSl) (pd : TPd) (ct : TCt) (sg : TSg) (cd : IA) (ln9 : Int) (pl : Int) (le : Int) (ro : Int) (co : Int) (nu : Int) (hs : THs) (a : Int) (ha : -2147483648 ≤ a ∧ a < 2147483648) (hln : 0 ≤ ln9 ∧ ln9 ≤ 60) (hst : l.stackTraces = false) : cX l yX9_append wz_X9_append rm_X9_append D τ (tyH γ) [.ref (α 0), .int (zI a)] (wH α γ rl rg ln sl pd ct sg (cd, ln9, pl, le, ro, co, nu) hs) (zQi (fun r w => ∃ (f2 : IA), ∃ (n2 : Int), ∃ (v : Int), (S_tapp a ln9 = 0) ∧ (v = ln9 + 1) ∧ (f2 = zu cd ln9 a) ∧ (n2 = ln9 + 1) ∧ r = zI v ∧ wH α γ rl rg ln sl pd ct sg (f2, n2, pl, le, ro, co, nu) hs = w)) (fun E w => (E = "java/lang/IllegalArgumentException" ∧ (S_tapp a ln9 = 1) ∧ wH α γ rl rg ln sl pd ct sg (cd, ln9, pl, le, ro, co, nu) hs = w) ∨ (E = "java/lang/IllegalStateException" ∧ (S_tapp a ln9 = 2) ∧ wH α γ rl rg ln sl pd ct sg (cd, ln9, pl, le, ro, co, nu) hs = w)) := by
  refine z_ofX (cc := cX9_append) (maxL := 2) (ret := (some .int)) (by decide +kernel) rfl (Nat.le_of_ble_eq_true rfl) ?_
  intro pg e s m args below meth c hC hr hlk hT hK hP A hD hG hA hS hGX ls hl Q hQ
  have hx := hC.1
  have hb := hC.2.1
  have hml := hC.2.2.1
  have hown := hC.2.2.2.1
  have hts := hC.2.2.2.2
  have hB : ∀ w ∈ W0, w ∈ wz_X9_append := fun _ h => List.mem_cons_of_mem _ h
  have hW0 : ∀ w ∈ W0, w.before args s = true := fun w h => hts w (hB w h)
  have hl : lv_has ls 2 [(0, .ref (α 0)), (1, .int (zI a))] := hl
  refine lv_iload_n hx hb dX9_append_0 rfl (lv_at hl 1 rfl) ?_
  refine lv_bipush (v := zI 33) hx hb dX9_append_1 (zI_b8 (by decide)) ?_
  refine z_iclt (tgt := 12) hx hb ⟨by omega, by omega⟩ ⟨by omega, by omega⟩ dX9_append_3 (by decide) (fun c_3 => ?_) (fun c_3 => ?_)
  · exact zx_throwS (text := "the code is not 33 to 126") (is := 116) hC hst hG hW0 hGX hT hlk hQ hl.1 zX_IAE (List.mem_of_getElem? (i := 3) rfl) hP hD hS (Or.inl ⟨rfl, (by unfold S_tapp; rw [if_neg (by omega)]), rfl⟩) dX9_append_12 dX9_append_15 dX9_append_16 dX9_append_18 dX9_append_21 (Nat.le_of_ble_eq_true rfl) (Nat.le_of_ble_eq_true rfl) (Nat.le_of_ble_eq_true rfl) (Nat.le_of_ble_eq_true rfl) (Nat.le_of_ble_eq_true rfl) (Nat.le_of_ble_eq_true rfl)
  · refine lv_iload_n hx hb dX9_append_6 rfl (lv_at hl 1 rfl) ?_
    refine lv_bipush (v := zI 126) hx hb dX9_append_7 (zI_b8 (by decide)) ?_
    refine z_icle (tgt := 22) hx hb ⟨by omega, by omega⟩ ⟨by omega, by omega⟩ dX9_append_9 (by decide) (fun c_9 => ?_) (fun c_9 => ?_)
    · refine lv_aload_n hx hb dX9_append_22 rfl (lv_at hl 0 rfl) ?_
      refine va_get (D := D) (ci := 9) (v := .ref (α 8)) (C := RX9) (T := TX9) (N := 9) hx hb hts (fun w h => List.mem_cons_of_mem _ (wx_X9 w h)) hown hK hP 0 rfl rfl 7 (by decide) (hW0 _ wf_X9_61) (fun _ h9 => h9) rfl dX9_append_23 ?_
      refine z_calli hP hD hS hA (va_runV (As := []) (rest := []) hC (c_X3_size l D τ α γ rl rg ln sl pd ct sg cd ln9 pl le ro co nu hs _) (cwV 0 hts (gV hB wl_X9_118 wn_X3_size ws_X3_size wi_X3 wc_X3_size) rfl rfl rfl hd_X3_size ⟨Nat.le_of_ble_eq_true rfl, Nat.le_of_ble_eq_true rfl⟩) (zp_V hK hP hD hS hA hG (ci := 3) (q0 := 8) rfl rfl rfl) rfl rfl hl.1 rfl (lv_room (Nat.le_of_ble_eq_true rfl)) dX9_append_26 ⟨Nat.le_of_ble_eq_true rfl, Nat.le_of_ble_eq_true rfl⟩) (fun r w1 H locs hq9 hP hD hS => ?_)
      obtain ⟨v26_1, hv26_0, rfl, rfl⟩ := hq9
      have hP : va_P D vwCl (wH α γ rl rg ln sl pd ct sg (cd, ln9, pl, le, ro, co, nu) hs) H := hP
      have hD : va_D A (wH α γ rl rg ln sl pd ct sg (cd, ln9, pl, le, ro, co, nu) hs) := hD
      refine lv_bipush (v := zI 60) hx hb dX9_append_29 (zI_b8 (by decide)) ?_
      refine z_iclt (tgt := 44) hx hb ⟨by omega, by omega⟩ ⟨by omega, by omega⟩ dX9_append_31 (by decide) (fun c_31 => ?_) (fun c_31 => ?_)
      · refine lv_aload_n hx hb dX9_append_44 rfl (lv_at hl 0 rfl) ?_
        refine va_get (D := D) (ci := 9) (v := .ref (α 8)) (C := RX9) (T := TX9) (N := 9) hx hb hts (fun w h => List.mem_cons_of_mem _ (wx_X9 w h)) hown hK hP 0 rfl rfl 7 (by decide) (hW0 _ wf_X9_61) (fun _ h9 => h9) rfl dX9_append_45 ?_
        refine lv_iload_n hx hb dX9_append_48 rfl (lv_at hl 1 rfl) ?_
        refine z_callv hP hD hS hA (va_runV (As := [.int (zI a)]) (rest := []) hC (c_X3_add l D τ α γ rl rg ln sl pd ct sg cd ln9 pl le ro co nu hs a (by first | assumption | rfl | omega) _) (cwV 1 hts (gV hB wl_X9_126 wn_X3_add ws_X3_add wi_X3 wc_X3_add) rfl rfl rfl hd_X3_add ⟨Nat.le_of_ble_eq_true rfl, Nat.le_of_ble_eq_true rfl⟩) (zp_V hK hP hD hS hA hG (ci := 3) (q0 := 8) rfl rfl rfl) rfl rfl hl.1 rfl (lv_room (Nat.le_of_ble_eq_true rfl)) dX9_append_49 ⟨Nat.le_of_ble_eq_true rfl, Nat.le_of_ble_eq_true rfl⟩) (fun w1 H locs hq9 hP hD hS => ?_)
        obtain ⟨f49_2, n49_3, hv49_0, hv49_1, rfl⟩ := hq9
        have hP : va_P D vwCl (wH α γ rl rg ln sl pd ct sg (f49_2, n49_3, pl, le, ro, co, nu) hs) H := hP
        have hD : va_D A (wH α γ rl rg ln sl pd ct sg (f49_2, n49_3, pl, le, ro, co, nu) hs) := hD
        refine lv_aload_n hx hb dX9_append_52 rfl (lv_at hl 0 rfl) ?_
        refine va_get (D := D) (ci := 9) (v := .ref (α 8)) (C := RX9) (T := TX9) (N := 9) hx hb hts (fun w h => List.mem_cons_of_mem _ (wx_X9 w h)) hown hK hP 0 rfl rfl 7 (by decide) (hW0 _ wf_X9_61) (fun _ h9 => h9) rfl dX9_append_53 ?_
        refine z_calli hP hD hS hA (va_runV (As := []) (rest := []) hC (c_X3_size l D τ α γ rl rg ln sl pd ct sg f49_2 n49_3 pl le ro co nu hs _) (cwV 0 hts (gV hB wl_X9_118 wn_X3_size ws_X3_size wi_X3 wc_X3_size) rfl rfl rfl hd_X3_size ⟨Nat.le_of_ble_eq_true rfl, Nat.le_of_ble_eq_true rfl⟩) (zp_V hK hP hD hS hA hG (ci := 3) (q0 := 8) rfl rfl rfl) rfl rfl hl.1 rfl (lv_room (Nat.le_of_ble_eq_true rfl)) dX9_append_56 ⟨Nat.le_of_ble_eq_true rfl, Nat.le_of_ble_eq_true rfl⟩) (fun r w1 H locs hq9 hP hD hS => ?_)
        obtain ⟨v56_4, hv56_0, rfl, rfl⟩ := hq9
        have hP : va_P D vwCl (wH α γ rl rg ln sl pd ct sg (f49_2, n49_3, pl, le, ro, co, nu) hs) H := hP
        have hD : va_D A (wH α γ rl rg ln sl pd ct sg (f49_2, n49_3, pl, le, ro, co, nu) hs) := hD
        exact zx_iret hC hr hlk hQ (Nat.le_of_ble_eq_true rfl) (Nat.le_of_ble_eq_true rfl) hP hD hS ⟨f49_2, n49_3, v56_4, (by unfold S_tapp; rw [if_pos (by omega), if_neg (by omega)]), (by omega), (by exact hv49_0), (by exact hv49_1), rfl, rfl⟩ dX9_append_59
      · exact zx_throwS (text := "the buffer is full") (is := 123) hC hst hG hW0 hGX hT hlk hQ hl.1 zX_ISE (List.mem_of_getElem? (i := 4) rfl) hP hD hS (Or.inr ⟨rfl, (by unfold S_tapp; rw [if_pos (by omega), if_pos (by omega)]), rfl⟩) dX9_append_34 dX9_append_37 dX9_append_38 dX9_append_40 dX9_append_43 (Nat.le_of_ble_eq_true rfl) (Nat.le_of_ble_eq_true rfl) (Nat.le_of_ble_eq_true rfl) (Nat.le_of_ble_eq_true rfl) (Nat.le_of_ble_eq_true rfl) (Nat.le_of_ble_eq_true rfl)
    · exact zx_throwS (text := "the code is not 33 to 126") (is := 116) hC hst hG hW0 hGX hT hlk hQ hl.1 zX_IAE (List.mem_of_getElem? (i := 3) rfl) hP hD hS (Or.inl ⟨rfl, (by unfold S_tapp; rw [if_neg (by omega)]), rfl⟩) dX9_append_12 dX9_append_15 dX9_append_16 dX9_append_18 dX9_append_21 (Nat.le_of_ble_eq_true rfl) (Nat.le_of_ble_eq_true rfl) (Nat.le_of_ble_eq_true rfl) (Nat.le_of_ble_eq_true rfl) (Nat.le_of_ble_eq_true rfl) (Nat.le_of_ble_eq_true rfl)

abbrev wz_X9_clearBuffer : List Cond := .code yX9_clearBuffer cX9_clearBuffer 2 (some .int) :: W0
abbrev rm_X9_clearBuffer : Room := { frames := 1, cells := 0, slots := 0, locals := 20 }
theorem hd_X9_clearBuffer : yX9_clearBuffer.cls = RX9 ∧ yX9_clearBuffer.cls ≠ "java/lang/invoke/MethodHandle" ∧ yX9_clearBuffer.cls ≠ "java/lang/invoke/VarHandle" ∧ (parseMethodDescriptor yX9_clearBuffer.desc).map (fun d => d.parameters.length) = some 0 := by decide +kernel
set_option maxHeartbeats 4000000 in
set_option maxRecDepth 100000 in
theorem c_X9_clearBuffer (l : Launch) (D : va_G) (τ : Nat → Nat) (α : Nat → Nat) (γ : Nat → ClassId) (rl : TRl) (rg : TRg) (ln : TLn) (sl : TSl) (pd : TPd) (ct : TCt) (sg : TSg) (cd : IA) (ln9 : Int) (pl : Int) (le : Int) (ro : Int) (co : Int) (nu : Int) (hs : THs) : cM l yX9_clearBuffer wz_X9_clearBuffer rm_X9_clearBuffer D τ (tyH γ) [.ref (α 0)] (wH α γ rl rg ln sl pd ct sg (cd, ln9, pl, le, ro, co, nu) hs) (zQi (fun r w => ∃ (v : Int), (v = ln9) ∧ r = zI v ∧ wH α γ rl rg ln sl pd ct sg (cd, 0, pl, le, ro, co, nu) hs = w)) := by
  refine z_ofM (cc := cX9_clearBuffer) (maxL := 2) (ret := (some .int)) (by decide +kernel) rfl (Nat.le_of_ble_eq_true rfl) ?_
  intro pg e s m args below meth c hC hr hlk hnm hK hP A hD hG hA hS ls hl Q hQ
  have hx := hC.1
  have hb := hC.2.1
  have hml := hC.2.2.1
  have hown := hC.2.2.2.1
  have hts := hC.2.2.2.2
  have hB : ∀ w ∈ W0, w ∈ wz_X9_clearBuffer := fun _ h => List.mem_cons_of_mem _ h
  have hW0 : ∀ w ∈ W0, w.before args s = true := fun w h => hts w (hB w h)
  have hl : lv_has ls 2 [(0, .ref (α 0))] := hl
  refine lv_aload_n hx hb dX9_clearBuffer_0 rfl (lv_at hl 0 rfl) ?_
  refine va_get (D := D) (ci := 9) (v := .ref (α 8)) (C := RX9) (T := TX9) (N := 9) hx hb hts (fun w h => List.mem_cons_of_mem _ (wx_X9 w h)) hown hK hP 0 rfl rfl 7 (by decide) (hW0 _ wf_X9_61) (fun _ h9 => h9) rfl dX9_clearBuffer_1 ?_
  refine z_calli hP hD hS hA (va_runV (As := []) (rest := []) hC (c_X3_size l D τ α γ rl rg ln sl pd ct sg cd ln9 pl le ro co nu hs _) (cwV 0 hts (gV hB wl_X9_118 wn_X3_size ws_X3_size wi_X3 wc_X3_size) rfl rfl rfl hd_X3_size ⟨Nat.le_of_ble_eq_true rfl, Nat.le_of_ble_eq_true rfl⟩) (zp_V hK hP hD hS hA hG (ci := 3) (q0 := 8) rfl rfl rfl) rfl rfl hl.1 rfl (lv_room (Nat.le_of_ble_eq_true rfl)) dX9_clearBuffer_4 ⟨Nat.le_of_ble_eq_true rfl, Nat.le_of_ble_eq_true rfl⟩) (fun r w1 H locs hq9 hP hD hS => ?_)
  obtain ⟨v4_1, hv4_0, rfl, rfl⟩ := hq9
  have hP : va_P D vwCl (wH α γ rl rg ln sl pd ct sg (cd, ln9, pl, le, ro, co, nu) hs) H := hP
  have hD : va_D A (wH α γ rl rg ln sl pd ct sg (cd, ln9, pl, le, ro, co, nu) hs) := hD
  refine lv_istore_n (lv' := [(1, .int (zI v4_1)), (0, .ref (α 0))]) hx hb dX9_clearBuffer_7 rfl hl (by decide) rfl (fun ls hl => ?_)
  refine lv_aload_n hx hb dX9_clearBuffer_8 rfl (lv_at hl 1 rfl) ?_
  refine va_get (D := D) (ci := 9) (v := .ref (α 8)) (C := RX9) (T := TX9) (N := 9) hx hb hts (fun w h => List.mem_cons_of_mem _ (wx_X9 w h)) hown hK hP 0 rfl rfl 7 (by decide) (hW0 _ wf_X9_61) (fun _ h9 => h9) rfl dX9_clearBuffer_9 ?_
  refine z_callv hP hD hS hA (va_runV (As := []) (rest := []) hC (c_X3_drop l D τ α γ rl rg ln sl pd ct sg cd ln9 pl le ro co nu hs _) (cwV 0 hts (gV hB wl_X9_130 wn_X3_drop ws_X3_drop wi_X3 wc_X3_drop) rfl rfl rfl hd_X3_drop ⟨Nat.le_of_ble_eq_true rfl, Nat.le_of_ble_eq_true rfl⟩) (zp_V hK hP hD hS hA hG (ci := 3) (q0 := 8) rfl rfl rfl) rfl rfl hl.1 rfl (lv_room (Nat.le_of_ble_eq_true rfl)) dX9_clearBuffer_12 ⟨Nat.le_of_ble_eq_true rfl, Nat.le_of_ble_eq_true rfl⟩) (fun w1 H locs hq9 hP hD hS => ?_)
  obtain ⟨rfl⟩ := hq9
  have hP : va_P D vwCl (wH α γ rl rg ln sl pd ct sg (cd, 0, pl, le, ro, co, nu) hs) H := hP
  have hD : va_D A (wH α γ rl rg ln sl pd ct sg (cd, 0, pl, le, ro, co, nu) hs) := hD
  refine lv_iload_n hx hb dX9_clearBuffer_15 rfl (lv_at hl 0 rfl) ?_
  exact z_iret hC hr hlk hQ hP hD hS ⟨v4_1, (by first | assumption | rfl | omega), rfl, rfl⟩ dX9_clearBuffer_16

abbrev wz_X9_firstError : List Cond := .code yX9_firstError cX9_firstError 1 (some .int) :: W0
abbrev rm_X9_firstError : Room := { frames := 3, cells := 0, slots := 0, locals := 64 }
theorem hd_X9_firstError : yX9_firstError.cls = RX9 ∧ yX9_firstError.cls ≠ "java/lang/invoke/MethodHandle" ∧ yX9_firstError.cls ≠ "java/lang/invoke/VarHandle" ∧ (parseMethodDescriptor yX9_firstError.desc).map (fun d => d.parameters.length) = some 0 := by decide +kernel
set_option maxHeartbeats 4000000 in
set_option maxRecDepth 100000 in
theorem c_X9_firstError (l : Launch) (D : va_G) (τ : Nat → Nat) (α : Nat → Nat) (γ : Nat → ClassId) (rl : TRl) (rg : TRg) (ln : TLn) (sl : TSl) (pd : TPd) (ct : TCt) (sg : TSg) (cd : IA) (ln9 : Int) (pl : Int) (le : Int) (ro : Int) (co : Int) (nu : Int) (hs : THs) (hln : 0 ≤ ln9 ∧ ln9 ≤ 60) (hcd : ∀ k, 0 ≤ k → k < ln9 → 0 ≤ cd k ∧ cd k ≤ 126) (hov : OV pl le ro co nu) : cM l yX9_firstError wz_X9_firstError rm_X9_firstError D τ (tyH γ) [.ref (α 0)] (wH α γ rl rg ln sl pd ct sg (cd, ln9, pl, le, ro, co, nu) hs) (zQi (fun r w => ∃ (p2 : Int), ∃ (l2 : Int), ∃ (r2 : Int), ∃ (c2 : Int), ∃ (n2 : Int), ∃ (v : Int), (v = (O_run cd ln9 0 OS0).1) ∧ (0 ≤ v ∧ v ≤ ln9) ∧ (OV p2 l2 r2 c2 n2) ∧ r = zI v ∧ wH α γ rl rg ln sl pd ct sg (cd, ln9, p2, l2, r2, c2, n2) hs = w)) := by
  refine z_ofM (cc := cX9_firstError) (maxL := 1) (ret := (some .int)) (by decide +kernel) rfl (Nat.le_of_ble_eq_true rfl) ?_
  intro pg e s m args below meth c hC hr hlk hnm hK hP A hD hG hA hS ls hl Q hQ
  have hx := hC.1
  have hb := hC.2.1
  have hml := hC.2.2.1
  have hown := hC.2.2.2.1
  have hts := hC.2.2.2.2
  have hB : ∀ w ∈ W0, w ∈ wz_X9_firstError := fun _ h => List.mem_cons_of_mem _ h
  have hW0 : ∀ w ∈ W0, w.before args s = true := fun w h => hts w (hB w h)
  have hl : lv_has ls 1 [(0, .ref (α 0))] := hl
  refine lv_aload_n hx hb dX9_firstError_0 rfl (lv_at hl 0 rfl) ?_
  refine va_get (D := D) (ci := 9) (v := .ref (α 8)) (C := RX9) (T := TX9) (N := 9) hx hb hts (fun w h => List.mem_cons_of_mem _ (wx_X9 w h)) hown hK hP 0 rfl rfl 7 (by decide) (hW0 _ wf_X9_61) (fun _ h9 => h9) rfl dX9_firstError_1 ?_
  refine z_calli hP hD hS hA (va_runV (As := []) (rest := []) hC (c_X3_read l D τ α γ rl rg ln sl pd ct sg cd ln9 pl le ro co nu hs (by first | assumption | rfl | omega) (by first | assumption | rfl | omega) (by first | assumption | rfl | omega) _) (cwV 0 hts (gV hB wl_X9_133 wn_X3_read ws_X3_read wi_X3 wc_X3_read) rfl rfl rfl hd_X3_read ⟨Nat.le_of_ble_eq_true rfl, Nat.le_of_ble_eq_true rfl⟩) (zp_V hK hP hD hS hA hG (ci := 3) (q0 := 8) rfl rfl rfl) rfl rfl hl.1 rfl (lv_room (Nat.le_of_ble_eq_true rfl)) dX9_firstError_4 ⟨Nat.le_of_ble_eq_true rfl, Nat.le_of_ble_eq_true rfl⟩) (fun r w1 H locs hq9 hP hD hS => ?_)
  obtain ⟨p4_1, l4_2, r4_3, c4_4, n4_5, v4_6, hv4_0, hv4_1, hv4_2, rfl, rfl⟩ := hq9
  have hP : va_P D vwCl (wH α γ rl rg ln sl pd ct sg (cd, ln9, p4_1, l4_2, r4_3, c4_4, n4_5) hs) H := hP
  have hD : va_D A (wH α γ rl rg ln sl pd ct sg (cd, ln9, p4_1, l4_2, r4_3, c4_4, n4_5) hs) := hD
  exact z_iret hC hr hlk hQ hP hD hS ⟨p4_1, l4_2, r4_3, c4_4, n4_5, v4_6, (by rw [← (O_run_st (OV_0 hov)).1, ← hv4_0]), (by exact hv4_1), (by exact hv4_2), rfl, rfl⟩ dX9_firstError_7

abbrev wz_X9_draw : List Cond := .code yX9_draw cX9_draw 2 (some .int) :: W0
abbrev rm_X9_draw : Room := { frames := 6, cells := 1, slots := 6, locals := 132 }
theorem hd_X9_draw : yX9_draw.cls = RX9 ∧ yX9_draw.cls ≠ "java/lang/invoke/MethodHandle" ∧ yX9_draw.cls ≠ "java/lang/invoke/VarHandle" ∧ (parseMethodDescriptor yX9_draw.desc).map (fun d => d.parameters.length) = some 0 := by decide +kernel
set_option maxHeartbeats 4000000 in
set_option maxRecDepth 100000 in
theorem c_X9_draw (l : Launch) (D : va_G) (τ : Nat → Nat) (α : Nat → Nat) (γ : Nat → ClassId) (h : IA) (old : IA) (ch : IA) (rg : TRg) (ln : TLn) (sl : TSl) (pd : TPd) (ct : TCt) (sg : TSg) (cd : IA) (ln9 : Int) (pl : Int) (le : Int) (ro : Int) (co : Int) (nu : Int) (sv : IA) (sl9 : IA) (tk : BA) (ct9 : Int) (hh : ∀ k, 0 ≤ k → k < 49 → 0 ≤ h k ∧ h k ≤ 99) (hct : 0 ≤ ct9 ∧ ct9 ≤ 6) (hln : 0 ≤ ln9 ∧ ln9 ≤ 60) (hcd : ∀ k, 0 ≤ k → k < ln9 → 0 ≤ cd k ∧ cd k ≤ 126) (hov : OV pl le ro co nu) (hst : l.stackTraces = false) : cX l yX9_draw wz_X9_draw rm_X9_draw D τ (tyH γ) [.ref (α 0)] (wH α γ (h, old, ch) rg ln sl pd ct sg (cd, ln9, pl, le, ro, co, nu) (sv, sl9, tk, ct9)) (zQi (fun r w => ∃ (p2 : Int), ∃ (l2 : Int), ∃ (r2 : Int), ∃ (c2 : Int), ∃ (n2 : Int), ∃ (h2 : IA), ∃ (o2 : IA), ∃ (s2 : IA), ∃ (k2 : Int), ∃ (v : Int), (O_td cd ln9 = 0) ∧ ((h2, v) = O_draw cd ln9 0 OS0 h 0) ∧ (s2 = S_sv sv h ct9) ∧ (k2 = S_svC ct9) ∧ (OV p2 l2 r2 c2 n2) ∧ (∀ k, 0 ≤ k → k < 49 → 0 ≤ h2 k ∧ h2 k ≤ 99) ∧ (0 ≤ v ∧ v ≤ 61) ∧ r = zI v ∧ wH α γ (h2, o2, ch) rg ln sl pd ct sg (cd, 0, p2, l2, r2, c2, n2) (s2, sl9, tk, k2) = w)) (fun E w => (∃ (p2 : Int), ∃ (l2 : Int), ∃ (r2 : Int), ∃ (c2 : Int), ∃ (n2 : Int), E = "java/lang/IllegalArgumentException" ∧ (O_td cd ln9 = 1 ∧ OV p2 l2 r2 c2 n2) ∧ wH α γ (h, old, ch) rg ln sl pd ct sg (cd, ln9, p2, l2, r2, c2, n2) (sv, sl9, tk, ct9) = w)) := by
  refine z_ofX (cc := cX9_draw) (maxL := 2) (ret := (some .int)) (by decide +kernel) rfl (Nat.le_of_ble_eq_true rfl) ?_
  intro pg e s m args below meth c hC hr hlk hT hK hP A hD hG hA hS hGX ls hl Q hQ
  have hx := hC.1
  have hb := hC.2.1
  have hml := hC.2.2.1
  have hown := hC.2.2.2.1
  have hts := hC.2.2.2.2
  have hB : ∀ w ∈ W0, w ∈ wz_X9_draw := fun _ h => List.mem_cons_of_mem _ h
  have hW0 : ∀ w ∈ W0, w.before args s = true := fun w h => hts w (hB w h)
  have hl : lv_has ls 2 [(0, .ref (α 0))] := hl
  refine lv_aload_n hx hb dX9_draw_0 rfl (lv_at hl 0 rfl) ?_
  refine va_get (D := D) (ci := 9) (v := .ref (α 8)) (C := RX9) (T := TX9) (N := 9) hx hb hts (fun w h => List.mem_cons_of_mem _ (wx_X9 w h)) hown hK hP 0 rfl rfl 7 (by decide) (hW0 _ wf_X9_61) (fun _ h9 => h9) rfl dX9_draw_1 ?_
  refine z_calli hP hD hS hA (va_runV (As := []) (rest := []) hC (c_X3_areWhole l D τ α γ (h, old, ch) rg ln sl pd ct sg cd ln9 pl le ro co nu (sv, sl9, tk, ct9) (by first | assumption | rfl | omega) (by first | assumption | rfl | omega) (by first | assumption | rfl | omega) _) (cwV 0 hts (gV hB wl_X9_135 wn_X3_areWhole ws_X3_areWhole wi_X3 wc_X3_areWhole) rfl rfl rfl hd_X3_areWhole ⟨Nat.le_of_ble_eq_true rfl, Nat.le_of_ble_eq_true rfl⟩) (zp_V hK hP hD hS hA hG (ci := 3) (q0 := 8) rfl rfl rfl) rfl rfl hl.1 rfl (lv_room (Nat.le_of_ble_eq_true rfl)) dX9_draw_4 ⟨Nat.le_of_ble_eq_true rfl, Nat.le_of_ble_eq_true rfl⟩) (fun r w1 H locs hq9 hP hD hS => ?_)
  obtain ⟨p4_1, l4_2, r4_3, c4_4, n4_5, v4_6, hv4_0, hv4_1, hv4_2, rfl, rfl⟩ := hq9
  have hP : va_P D vwCl (wH α γ (h, old, ch) rg ln sl pd ct sg (cd, ln9, p4_1, l4_2, r4_3, c4_4, n4_5) (sv, sl9, tk, ct9)) H := hP
  have hD : va_D A (wH α γ (h, old, ch) rg ln sl pd ct sg (cd, ln9, p4_1, l4_2, r4_3, c4_4, n4_5) (sv, sl9, tk, ct9)) := hD
  have hst0 := O_run_st (f := cd) (n := ln9) (OV_0 hov)
  refine z_ifneB (tgt := 20) hx hb dX9_draw_7 (by decide) (fun c_7 => ?_) (fun c_7 => ?_)
  · have hb_7 := hv4_0.mp c_7
    have htd : O_tdraw cd ln9 := by (have z9 := hb_7; rw [hst0.1, hst0.2] at z9; exact z9)
    have ho4 := hv4_1
    have hvo := hv4_2
    have hrun0 : O_run cd ln9 0 (0, le, ro, co, nu) = (ln9, (O_run cd ln9 0 (0, le, ro, co, nu)).2) := Prod.ext hb_7.1 rfl
    have hstx := O_run_st (f := cd) (n := ln9) (OV_0 hvo)
    have hrunx : O_run cd ln9 0 (0, l4_2, r4_3, c4_4, n4_5) = (ln9, (O_run cd ln9 0 (0, l4_2, r4_3, c4_4, n4_5)).2) := Prod.ext (hstx.1.trans htd.1) rfl
    have h5x : 5 ≤ (O_run cd ln9 0 (0, l4_2, r4_3, c4_4, n4_5)).2.1 := by rw [hstx.2]; exact htd.2
    refine lv_aload_n hx hb dX9_draw_20 rfl (lv_at hl 0 rfl) ?_
    refine va_get (D := D) (ci := 9) (v := .ref (α 9)) (C := RX9) (T := TX9) (N := 9) hx hb hts (fun w h => List.mem_cons_of_mem _ (wx_X9 w h)) hown hK hP 0 rfl rfl 8 (by decide) (hW0 _ wf_X9_68) (fun _ h9 => h9) rfl dX9_draw_21 ?_
    refine lv_aload_n hx hb dX9_draw_24 rfl (lv_at hl 0 rfl) ?_
    refine va_get (D := D) (ci := 9) (v := .ref (α 1)) (C := RX9) (T := TX9) (N := 9) hx hb hts (fun w h => List.mem_cons_of_mem _ (wx_X9 w h)) hown hK hP 0 rfl rfl 0 (by decide) (hW0 _ wf_X9_12) (fun _ h9 => h9) rfl dX9_draw_25 ?_
    refine z_callv hP hD hS hA (va_runV (As := [.ref (α 1)]) (rest := []) hC (c_X1_save l D τ α γ h old ch rg ln sl pd ct sg (cd, ln9, p4_1, l4_2, r4_3, c4_4, n4_5) sv sl9 tk ct9 (by first | assumption | rfl | omega) _) (cwV 1 hts (gV hB wl_X9_83 wn_X1_save ws_X1_save wi_X1 wc_X1_save) rfl rfl rfl hd_X1_save ⟨Nat.le_of_ble_eq_true rfl, Nat.le_of_ble_eq_true rfl⟩) (zp_V hK hP hD hS hA hG (ci := 1) (q0 := 9) rfl rfl rfl) rfl rfl hl.1 rfl (lv_room (Nat.le_of_ble_eq_true rfl)) dX9_draw_28 ⟨Nat.le_of_ble_eq_true rfl, Nat.le_of_ble_eq_true rfl⟩) (fun w1 H locs hq9 hP hD hS => ?_)
    obtain ⟨s28_7, c28_8, hv28_0, hv28_1, rfl⟩ := hq9
    have hP : va_P D vwCl (wH α γ (h, old, ch) rg ln sl pd ct sg (cd, ln9, p4_1, l4_2, r4_3, c4_4, n4_5) (s28_7, sl9, tk, c28_8)) H := hP
    have hD : va_D A (wH α γ (h, old, ch) rg ln sl pd ct sg (cd, ln9, p4_1, l4_2, r4_3, c4_4, n4_5) (s28_7, sl9, tk, c28_8)) := hD
    refine lv_aload_n hx hb dX9_draw_31 rfl (lv_at hl 0 rfl) ?_
    refine va_get (D := D) (ci := 9) (v := .ref (α 8)) (C := RX9) (T := TX9) (N := 9) hx hb hts (fun w h => List.mem_cons_of_mem _ (wx_X9 w h)) hown hK hP 0 rfl rfl 7 (by decide) (hW0 _ wf_X9_61) (fun _ h9 => h9) rfl dX9_draw_32 ?_
    refine lv_aload_n hx hb dX9_draw_35 rfl (lv_at hl 0 rfl) ?_
    refine va_get (D := D) (ci := 9) (v := .ref (α 1)) (C := RX9) (T := TX9) (N := 9) hx hb hts (fun w h => List.mem_cons_of_mem _ (wx_X9 w h)) hown hK hP 0 rfl rfl 0 (by decide) (hW0 _ wf_X9_12) (fun _ h9 => h9) rfl dX9_draw_36 ?_
    refine z_calli hP hD hS hA (va_runV (As := [.ref (α 1)]) (rest := []) hC (c_X3_drawOn l D τ α γ h old ch rg ln sl pd ct sg cd ln9 p4_1 l4_2 r4_3 c4_4 n4_5 (s28_7, sl9, tk, c28_8) ((O_run cd ln9 0 (0, l4_2, r4_3, c4_4, n4_5)).2) (by first | assumption | rfl | omega) (by first | assumption | rfl | omega) (by first | assumption | rfl | omega) (by exact hvo) (by exact h5x) (by exact hrunx) _) (cwV 1 hts (gV hB wl_X9_141 wn_X3_drawOn ws_X3_drawOn wi_X3 wc_X3_drawOn) rfl rfl rfl hd_X3_drawOn ⟨Nat.le_of_ble_eq_true rfl, Nat.le_of_ble_eq_true rfl⟩) (zp_V hK hP hD hS hA hG (ci := 3) (q0 := 8) rfl rfl rfl) rfl rfl hl.1 rfl (lv_room (Nat.le_of_ble_eq_true rfl)) dX9_draw_39 ⟨Nat.le_of_ble_eq_true rfl, Nat.le_of_ble_eq_true rfl⟩) (fun r w1 H locs hq9 hP hD hS => ?_)
    obtain ⟨p39_9, l39_10, r39_11, c39_12, n39_13, h39_14, o39_15, v39_16, hv39_0, hv39_1, hv39_2, hv39_3, rfl, rfl⟩ := hq9
    have hP : va_P D vwCl (wH α γ (h39_14, o39_15, ch) rg ln sl pd ct sg (cd, ln9, p39_9, l39_10, r39_11, c39_12, n39_13) (s28_7, sl9, tk, c28_8)) H := hP
    have hD : va_D A (wH α γ (h39_14, o39_15, ch) rg ln sl pd ct sg (cd, ln9, p39_9, l39_10, r39_11, c39_12, n39_13) (s28_7, sl9, tk, c28_8)) := hD
    refine lv_istore_n (lv' := [(1, .int (zI v39_16)), (0, .ref (α 0))]) hx hb dX9_draw_42 rfl hl (by decide) rfl (fun ls hl => ?_)
    refine lv_aload_n hx hb dX9_draw_43 rfl (lv_at hl 1 rfl) ?_
    refine va_get (D := D) (ci := 9) (v := .ref (α 8)) (C := RX9) (T := TX9) (N := 9) hx hb hts (fun w h => List.mem_cons_of_mem _ (wx_X9 w h)) hown hK hP 0 rfl rfl 7 (by decide) (hW0 _ wf_X9_61) (fun _ h9 => h9) rfl dX9_draw_44 ?_
    refine z_callv hP hD hS hA (va_runV (As := []) (rest := []) hC (c_X3_drop l D τ α γ (h39_14, o39_15, ch) rg ln sl pd ct sg cd ln9 p39_9 l39_10 r39_11 c39_12 n39_13 (s28_7, sl9, tk, c28_8) _) (cwV 0 hts (gV hB wl_X9_130 wn_X3_drop ws_X3_drop wi_X3 wc_X3_drop) rfl rfl rfl hd_X3_drop ⟨Nat.le_of_ble_eq_true rfl, Nat.le_of_ble_eq_true rfl⟩) (zp_V hK hP hD hS hA hG (ci := 3) (q0 := 8) rfl rfl rfl) rfl rfl hl.1 rfl (lv_room (Nat.le_of_ble_eq_true rfl)) dX9_draw_47 ⟨Nat.le_of_ble_eq_true rfl, Nat.le_of_ble_eq_true rfl⟩) (fun w1 H locs hq9 hP hD hS => ?_)
    obtain ⟨rfl⟩ := hq9
    have hP : va_P D vwCl (wH α γ (h39_14, o39_15, ch) rg ln sl pd ct sg (cd, 0, p39_9, l39_10, r39_11, c39_12, n39_13) (s28_7, sl9, tk, c28_8)) H := hP
    have hD : va_D A (wH α γ (h39_14, o39_15, ch) rg ln sl pd ct sg (cd, 0, p39_9, l39_10, r39_11, c39_12, n39_13) (s28_7, sl9, tk, c28_8)) := hD
    refine lv_iload_n hx hb dX9_draw_50 rfl (lv_at hl 0 rfl) ?_
    exact zx_iret hC hr hlk hQ (Nat.le_of_ble_eq_true rfl) (Nat.le_of_ble_eq_true rfl) hP hD hS ⟨p39_9, l39_10, r39_11, c39_12, n39_13, h39_14, o39_15, s28_7, c28_8, v39_16, (by unfold O_td; rw [cb_iff.mpr htd, if_pos rfl]), (by rw [hv39_0]; exact O_draw_st (by omega) (OV_0 hvo) h5x hrunx), (by exact hv28_0), (by exact hv28_1), (by exact hv39_2), (by exact hv39_3), (by exact hv39_1), rfl, rfl⟩ dX9_draw_51
  · have hb_7 := zb_neg hv4_0 c_7
    have htd : ¬ O_tdraw cd ln9 := fun h9 => hb_7 (by rw [hst0.1, hst0.2]; exact h9)
    exact zx_throwS (text := "the buffer does not tell orders as a text") (is := 139) hC hst hG hW0 hGX hT hlk hQ hl.1 zX_IAE (List.mem_of_getElem? (i := 5) rfl) hP hD hS ⟨p4_1, l4_2, r4_3, c4_4, n4_5, rfl, (by exact ⟨by (unfold O_td; rw [cb_f.mpr htd, if_neg (by decide)]), hv4_2⟩), rfl⟩ dX9_draw_10 dX9_draw_13 dX9_draw_14 dX9_draw_16 dX9_draw_19 (Nat.le_of_ble_eq_true rfl) (Nat.le_of_ble_eq_true rfl) (Nat.le_of_ble_eq_true rfl) (Nat.le_of_ble_eq_true rfl) (Nat.le_of_ble_eq_true rfl) (Nat.le_of_ble_eq_true rfl)

abbrev wz_X9_keep : List Cond := .code yX9_keep cX9_keep 2 none :: W0
abbrev rm_X9_keep : Room := { frames := 7, cells := 1, slots := 6, locals := 110 }
theorem hd_X9_keep : yX9_keep.cls = RX9 ∧ yX9_keep.cls ≠ "java/lang/invoke/MethodHandle" ∧ yX9_keep.cls ≠ "java/lang/invoke/VarHandle" ∧ (parseMethodDescriptor yX9_keep.desc).map (fun d => d.parameters.length) = some 1 := by decide +kernel
set_option maxHeartbeats 4000000 in
set_option maxRecDepth 100000 in
theorem c_X9_keep (l : Launch) (D : va_G) (τ : Nat → Nat) (α : Nat → Nat) (γ : Nat → ClassId) (h : IA) (old : IA) (ch : IA) (rg : TRg) (ln : TLn) (sl : TSl) (pd : TPd) (ct : TCt) (sg : TSg) (od : TOd) (sv : IA) (sl9 : IA) (tk : BA) (ct9 : Int) (k9 : Int) (hk9 : -2147483648 ≤ k9 ∧ k9 < 2147483648) (hst : l.stackTraces = false) : cX l yX9_keep wz_X9_keep rm_X9_keep D τ (tyH γ) [.ref (α 0), .int (zI k9)] (wH α γ (h, old, ch) rg ln sl pd ct sg od (sv, sl9, tk, ct9)) (zQv (fun w => ∃ (s2 : IA), ∃ (t2 : BA), (S_tslot k9 = 0) ∧ (s2 = zcpy h sl9 0 (49 * k9) 49) ∧ (t2 = bu tk k9 true) ∧ wH α γ (h, old, ch) rg ln sl pd ct sg od (sv, s2, t2, ct9) = w)) (fun E w => (E = "java/lang/IllegalArgumentException" ∧ (S_tslot k9 = 1) ∧ wH α γ (h, old, ch) rg ln sl pd ct sg od (sv, sl9, tk, ct9) = w)) := by
  refine z_ofX (cc := cX9_keep) (maxL := 2) (ret := none) (by decide +kernel) rfl (Nat.le_of_ble_eq_true rfl) ?_
  intro pg e s m args below meth c hC hr hlk hT hK hP A hD hG hA hS hGX ls hl Q hQ
  have hx := hC.1
  have hb := hC.2.1
  have hml := hC.2.2.1
  have hown := hC.2.2.2.1
  have hts := hC.2.2.2.2
  have hB : ∀ w ∈ W0, w ∈ wz_X9_keep := fun _ h => List.mem_cons_of_mem _ h
  have hW0 : ∀ w ∈ W0, w.before args s = true := fun w h => hts w (hB w h)
  have hl : lv_has ls 2 [(0, .ref (α 0)), (1, .int (zI k9))] := hl
  refine lv_iload_n hx hb dX9_keep_0 rfl (lv_at hl 1 rfl) ?_
  refine zx_callv hP hD hS hA (vx_runS (As := [.int (zI k9)]) (rest := []) hC (c_X9_checkSlot l D τ _ _ k9 (by first | assumption | rfl | omega) (by first | assumption | rfl | omega) _) (va_cwS 1 hts (gS hB wl_X9_145 wt_X9_checkSlot wi_X9 wc_X9_checkSlot) rfl rfl rfl hd_X9_checkSlot.2 ⟨Nat.le_of_ble_eq_true rfl, Nat.le_of_ble_eq_true rfl⟩) (zpX_S hK hP hD hS hA hG hGX) rfl rfl hl.1 rfl (lv_room (Nat.le_of_ble_eq_true rfl)) dX9_keep_1 ⟨Nat.le_of_ble_eq_true rfl, Nat.le_of_ble_eq_true rfl⟩) (fun E w1 H locs ce q9 hq9 hP hD hS hce hcv hcl => ?_) (fun w1 H locs hq9 hP hD hS => ?_)
  · obtain ⟨rfl, hx9, rfl⟩ := hq9
    exact zx_out hT hlk hQ (Nat.le_of_ble_eq_true rfl) (Nat.le_of_ble_eq_true rfl) hP hD hS ⟨rfl, (by unfold S_tslot; exact if_neg (by omega)), rfl⟩ hce hcv hcl
  · obtain ⟨hv1_0, rfl⟩ := hq9
    refine lv_aload_n hx hb dX9_keep_4 rfl (lv_at hl 0 rfl) ?_
    refine va_get (D := D) (ci := 9) (v := .ref (α 9)) (C := RX9) (T := TX9) (N := 9) hx hb hts (fun w h => List.mem_cons_of_mem _ (wx_X9 w h)) hown hK hP 0 rfl rfl 8 (by decide) (hW0 _ wf_X9_68) (fun _ h9 => h9) rfl dX9_keep_5 ?_
    refine lv_iload_n hx hb dX9_keep_8 rfl (lv_at hl 1 rfl) ?_
    refine lv_aload_n hx hb dX9_keep_9 rfl (lv_at hl 0 rfl) ?_
    refine va_get (D := D) (ci := 9) (v := .ref (α 1)) (C := RX9) (T := TX9) (N := 9) hx hb hts (fun w h => List.mem_cons_of_mem _ (wx_X9 w h)) hown hK hP 0 rfl rfl 0 (by decide) (hW0 _ wf_X9_12) (fun _ h9 => h9) rfl dX9_keep_10 ?_
    refine z_callv hP hD hS hA (va_runV (As := [.int (zI k9), .ref (α 1)]) (rest := []) hC (c_X1_take l D τ α γ h old ch rg ln sl pd ct sg od sv sl9 tk ct9 k9 (by first | assumption | rfl | omega) _) (cwV 2 hts (gV hB wl_X9_148 wn_X1_take ws_X1_take wi_X1 wc_X1_take) rfl rfl rfl hd_X1_take ⟨Nat.le_of_ble_eq_true rfl, Nat.le_of_ble_eq_true rfl⟩) (zp_V hK hP hD hS hA hG (ci := 1) (q0 := 9) rfl rfl rfl) rfl rfl hl.1 rfl (lv_room (Nat.le_of_ble_eq_true rfl)) dX9_keep_13 ⟨Nat.le_of_ble_eq_true rfl, Nat.le_of_ble_eq_true rfl⟩) (fun w1 H locs hq9 hP hD hS => ?_)
    obtain ⟨s13_1, t13_2, hv13_0, hv13_1, rfl⟩ := hq9
    have hP : va_P D vwCl (wH α γ (h, old, ch) rg ln sl pd ct sg od (sv, s13_1, t13_2, ct9)) H := hP
    have hD : va_D A (wH α γ (h, old, ch) rg ln sl pd ct sg od (sv, s13_1, t13_2, ct9)) := hD
    exact zx_vret hC hr hlk hQ (Nat.le_of_ble_eq_true rfl) (Nat.le_of_ble_eq_true rfl) hP hD hS ⟨s13_1, t13_2, (by unfold S_tslot; exact if_pos (by omega)), (by exact hv13_0), (by exact hv13_1), rfl⟩ dX9_keep_16

abbrev wz_X9_goBack : List Cond := .code yX9_goBack cX9_goBack 2 none :: W0
abbrev rm_X9_goBack : Room := { frames := 7, cells := 2, slots := 12, locals := 110 }
theorem hd_X9_goBack : yX9_goBack.cls = RX9 ∧ yX9_goBack.cls ≠ "java/lang/invoke/MethodHandle" ∧ yX9_goBack.cls ≠ "java/lang/invoke/VarHandle" ∧ (parseMethodDescriptor yX9_goBack.desc).map (fun d => d.parameters.length) = some 1 := by decide +kernel
set_option maxHeartbeats 4000000 in
set_option maxRecDepth 100000 in
theorem c_X9_goBack (l : Launch) (D : va_G) (τ : Nat → Nat) (α : Nat → Nat) (γ : Nat → ClassId) (h : IA) (old : IA) (ch : IA) (rg : TRg) (ln : TLn) (sl : TSl) (pd : TPd) (ct : TCt) (sg : TSg) (od : TOd) (sv : IA) (sl9 : IA) (tk : BA) (ct9 : Int) (k9 : Int) (hk9 : -2147483648 ≤ k9 ∧ k9 < 2147483648) (hct : 0 ≤ ct9 ∧ ct9 ≤ 6) (hst : l.stackTraces = false) : cX l yX9_goBack wz_X9_goBack rm_X9_goBack D τ (tyH γ) [.ref (α 0), .int (zI k9)] (wH α γ (h, old, ch) rg ln sl pd ct sg od (sv, sl9, tk, ct9)) (zQv (fun w => ∃ (h2 : IA), ∃ (s2 : IA), ∃ (c2 : Int), (S_tback k9 tk = 0) ∧ (h2 = zcpy sl9 h (49 * k9) 0 49) ∧ (s2 = S_sv sv h ct9) ∧ (c2 = S_svC ct9) ∧ wH α γ (h2, old, ch) rg ln sl pd ct sg od (s2, sl9, tk, c2) = w)) (fun E w => (E = "java/lang/IllegalArgumentException" ∧ (S_tback k9 tk = 1) ∧ wH α γ (h, old, ch) rg ln sl pd ct sg od (sv, sl9, tk, ct9) = w) ∨ (E = "java/lang/IllegalStateException" ∧ (S_tback k9 tk = 2) ∧ wH α γ (h, old, ch) rg ln sl pd ct sg od (sv, sl9, tk, ct9) = w)) := by
  refine z_ofX (cc := cX9_goBack) (maxL := 2) (ret := none) (by decide +kernel) rfl (Nat.le_of_ble_eq_true rfl) ?_
  intro pg e s m args below meth c hC hr hlk hT hK hP A hD hG hA hS hGX ls hl Q hQ
  have hx := hC.1
  have hb := hC.2.1
  have hml := hC.2.2.1
  have hown := hC.2.2.2.1
  have hts := hC.2.2.2.2
  have hB : ∀ w ∈ W0, w ∈ wz_X9_goBack := fun _ h => List.mem_cons_of_mem _ h
  have hW0 : ∀ w ∈ W0, w.before args s = true := fun w h => hts w (hB w h)
  have hl : lv_has ls 2 [(0, .ref (α 0)), (1, .int (zI k9))] := hl
  refine lv_iload_n hx hb dX9_goBack_0 rfl (lv_at hl 1 rfl) ?_
  refine zx_callv hP hD hS hA (vx_runS (As := [.int (zI k9)]) (rest := []) hC (c_X9_checkSlot l D τ _ _ k9 (by first | assumption | rfl | omega) (by first | assumption | rfl | omega) _) (va_cwS 1 hts (gS hB wl_X9_145 wt_X9_checkSlot wi_X9 wc_X9_checkSlot) rfl rfl rfl hd_X9_checkSlot.2 ⟨Nat.le_of_ble_eq_true rfl, Nat.le_of_ble_eq_true rfl⟩) (zpX_S hK hP hD hS hA hG hGX) rfl rfl hl.1 rfl (lv_room (Nat.le_of_ble_eq_true rfl)) dX9_goBack_1 ⟨Nat.le_of_ble_eq_true rfl, Nat.le_of_ble_eq_true rfl⟩) (fun E w1 H locs ce q9 hq9 hP hD hS hce hcv hcl => ?_) (fun w1 H locs hq9 hP hD hS => ?_)
  · obtain ⟨rfl, hx9, rfl⟩ := hq9
    exact zx_out hT hlk hQ (Nat.le_of_ble_eq_true rfl) (Nat.le_of_ble_eq_true rfl) hP hD hS (Or.inl ⟨rfl, (by unfold S_tback; exact if_neg (by omega)), rfl⟩) hce hcv hcl
  · obtain ⟨hv1_0, rfl⟩ := hq9
    refine lv_aload_n hx hb dX9_goBack_4 rfl (lv_at hl 0 rfl) ?_
    refine va_get (D := D) (ci := 9) (v := .ref (α 9)) (C := RX9) (T := TX9) (N := 9) hx hb hts (fun w h => List.mem_cons_of_mem _ (wx_X9 w h)) hown hK hP 0 rfl rfl 8 (by decide) (hW0 _ wf_X9_68) (fun _ h9 => h9) rfl dX9_goBack_5 ?_
    refine lv_iload_n hx hb dX9_goBack_8 rfl (lv_at hl 1 rfl) ?_
    refine z_calli hP hD hS hA (va_runV (As := [.int (zI k9)]) (rest := []) hC (c_X1_isTaken l D τ α γ (h, old, ch) rg ln sl pd ct sg od sv sl9 tk ct9 k9 (by first | assumption | rfl | omega) _) (cwV 1 hts (gV hB wl_X9_152 wn_X1_isTaken ws_X1_isTaken wi_X1 wc_X1_isTaken) rfl rfl rfl hd_X1_isTaken ⟨Nat.le_of_ble_eq_true rfl, Nat.le_of_ble_eq_true rfl⟩) (zp_V hK hP hD hS hA hG (ci := 1) (q0 := 9) rfl rfl rfl) rfl rfl hl.1 rfl (lv_room (Nat.le_of_ble_eq_true rfl)) dX9_goBack_9 ⟨Nat.le_of_ble_eq_true rfl, Nat.le_of_ble_eq_true rfl⟩) (fun r w1 H locs hq9 hP hD hS => ?_)
    obtain ⟨v9_1, hv9_0, rfl, rfl⟩ := hq9
    have hP : va_P D vwCl (wH α γ (h, old, ch) rg ln sl pd ct sg od (sv, sl9, tk, ct9)) H := hP
    have hD : va_D A (wH α γ (h, old, ch) rg ln sl pd ct sg od (sv, sl9, tk, ct9)) := hD
    refine z_ifneB (tgt := 25) hx hb dX9_goBack_12 (by decide) (fun c_12 => ?_) (fun c_12 => ?_)
    · refine lv_aload_n hx hb dX9_goBack_25 rfl (lv_at hl 0 rfl) ?_
      refine va_get (D := D) (ci := 9) (v := .ref (α 9)) (C := RX9) (T := TX9) (N := 9) hx hb hts (fun w h => List.mem_cons_of_mem _ (wx_X9 w h)) hown hK hP 0 rfl rfl 8 (by decide) (hW0 _ wf_X9_68) (fun _ h9 => h9) rfl dX9_goBack_26 ?_
      refine lv_aload_n hx hb dX9_goBack_29 rfl (lv_at hl 0 rfl) ?_
      refine va_get (D := D) (ci := 9) (v := .ref (α 1)) (C := RX9) (T := TX9) (N := 9) hx hb hts (fun w h => List.mem_cons_of_mem _ (wx_X9 w h)) hown hK hP 0 rfl rfl 0 (by decide) (hW0 _ wf_X9_12) (fun _ h9 => h9) rfl dX9_goBack_30 ?_
      refine z_callv hP hD hS hA (va_runV (As := [.ref (α 1)]) (rest := []) hC (c_X1_save l D τ α γ h old ch rg ln sl pd ct sg od sv sl9 tk ct9 (by first | assumption | rfl | omega) _) (cwV 1 hts (gV hB wl_X9_83 wn_X1_save ws_X1_save wi_X1 wc_X1_save) rfl rfl rfl hd_X1_save ⟨Nat.le_of_ble_eq_true rfl, Nat.le_of_ble_eq_true rfl⟩) (zp_V hK hP hD hS hA hG (ci := 1) (q0 := 9) rfl rfl rfl) rfl rfl hl.1 rfl (lv_room (Nat.le_of_ble_eq_true rfl)) dX9_goBack_33 ⟨Nat.le_of_ble_eq_true rfl, Nat.le_of_ble_eq_true rfl⟩) (fun w1 H locs hq9 hP hD hS => ?_)
      obtain ⟨s33_2, c33_3, hv33_0, hv33_1, rfl⟩ := hq9
      have hP : va_P D vwCl (wH α γ (h, old, ch) rg ln sl pd ct sg od (s33_2, sl9, tk, c33_3)) H := hP
      have hD : va_D A (wH α γ (h, old, ch) rg ln sl pd ct sg od (s33_2, sl9, tk, c33_3)) := hD
      refine lv_aload_n hx hb dX9_goBack_36 rfl (lv_at hl 0 rfl) ?_
      refine va_get (D := D) (ci := 9) (v := .ref (α 9)) (C := RX9) (T := TX9) (N := 9) hx hb hts (fun w h => List.mem_cons_of_mem _ (wx_X9 w h)) hown hK hP 0 rfl rfl 8 (by decide) (hW0 _ wf_X9_68) (fun _ h9 => h9) rfl dX9_goBack_37 ?_
      refine lv_iload_n hx hb dX9_goBack_40 rfl (lv_at hl 1 rfl) ?_
      refine lv_aload_n hx hb dX9_goBack_41 rfl (lv_at hl 0 rfl) ?_
      refine va_get (D := D) (ci := 9) (v := .ref (α 1)) (C := RX9) (T := TX9) (N := 9) hx hb hts (fun w h => List.mem_cons_of_mem _ (wx_X9 w h)) hown hK hP 0 rfl rfl 0 (by decide) (hW0 _ wf_X9_12) (fun _ h9 => h9) rfl dX9_goBack_42 ?_
      refine z_callv hP hD hS hA (va_runV (As := [.int (zI k9), .ref (α 1)]) (rest := []) hC (c_X1_restore l D τ α γ h old ch rg ln sl pd ct sg od s33_2 sl9 tk c33_3 k9 (by first | assumption | rfl | omega) (by rw [← hv9_0]; exact c_12) _) (cwV 2 hts (gV hB wl_X9_158 wn_X1_restore ws_X1_restore wi_X1 wc_X1_restore) rfl rfl rfl hd_X1_restore ⟨Nat.le_of_ble_eq_true rfl, Nat.le_of_ble_eq_true rfl⟩) (zp_V hK hP hD hS hA hG (ci := 1) (q0 := 9) rfl rfl rfl) rfl rfl hl.1 rfl (lv_room (Nat.le_of_ble_eq_true rfl)) dX9_goBack_45 ⟨Nat.le_of_ble_eq_true rfl, Nat.le_of_ble_eq_true rfl⟩) (fun w1 H locs hq9 hP hD hS => ?_)
      obtain ⟨h45_4, hv45_0, rfl⟩ := hq9
      have hP : va_P D vwCl (wH α γ (h45_4, old, ch) rg ln sl pd ct sg od (s33_2, sl9, tk, c33_3)) H := hP
      have hD : va_D A (wH α γ (h45_4, old, ch) rg ln sl pd ct sg od (s33_2, sl9, tk, c33_3)) := hD
      exact zx_vret hC hr hlk hQ (Nat.le_of_ble_eq_true rfl) (Nat.le_of_ble_eq_true rfl) hP hD hS ⟨h45_4, s33_2, c33_3, (by unfold S_tback; rw [if_pos (by omega), if_pos (by rw [← hv9_0]; exact c_12)]), (by exact hv45_0), (by exact hv33_0), (by exact hv33_1), rfl⟩ dX9_goBack_48
    · exact zx_throwS (text := "there is no snapshot in the slot") (is := 156) hC hst hG hW0 hGX hT hlk hQ hl.1 zX_ISE (List.mem_of_getElem? (i := 6) rfl) hP hD hS (Or.inr ⟨rfl, (by unfold S_tback; rw [if_pos (by omega), if_neg (by rw [← hv9_0, c_12]; decide)]), rfl⟩) dX9_goBack_15 dX9_goBack_18 dX9_goBack_19 dX9_goBack_21 dX9_goBack_24 (Nat.le_of_ble_eq_true rfl) (Nat.le_of_ble_eq_true rfl) (Nat.le_of_ble_eq_true rfl) (Nat.le_of_ble_eq_true rfl) (Nat.le_of_ble_eq_true rfl) (Nat.le_of_ble_eq_true rfl)

abbrev wz_X9_undo : List Cond := .code yX9_undo cX9_undo 1 none :: W0
abbrev rm_X9_undo : Room := { frames := 6, cells := 1, slots := 6, locals := 90 }
theorem hd_X9_undo : yX9_undo.cls = RX9 ∧ yX9_undo.cls ≠ "java/lang/invoke/MethodHandle" ∧ yX9_undo.cls ≠ "java/lang/invoke/VarHandle" ∧ (parseMethodDescriptor yX9_undo.desc).map (fun d => d.parameters.length) = some 0 := by decide +kernel
set_option maxHeartbeats 4000000 in
set_option maxRecDepth 100000 in
theorem c_X9_undo (l : Launch) (D : va_G) (τ : Nat → Nat) (α : Nat → Nat) (γ : Nat → ClassId) (h : IA) (old : IA) (ch : IA) (rg : TRg) (ln : TLn) (sl : TSl) (pd : TPd) (ct : TCt) (sg : TSg) (od : TOd) (sv : IA) (sl9 : IA) (tk : BA) (ct9 : Int) (hct : 0 ≤ ct9 ∧ ct9 ≤ 6) (hst : l.stackTraces = false) : cX l yX9_undo wz_X9_undo rm_X9_undo D τ (tyH γ) [.ref (α 0)] (wH α γ (h, old, ch) rg ln sl pd ct sg od (sv, sl9, tk, ct9)) (zQv (fun w => ∃ (h2 : IA), ∃ (c2 : Int), (S_tundo ct9 = 0) ∧ (h2 = zcpy sv h (49 * (ct9 - 1)) 0 49) ∧ (c2 = ct9 - 1) ∧ wH α γ (h2, old, ch) rg ln sl pd ct sg od (sv, sl9, tk, c2) = w)) (fun E w => (E = "java/lang/IllegalStateException" ∧ (S_tundo ct9 = 1) ∧ wH α γ (h, old, ch) rg ln sl pd ct sg od (sv, sl9, tk, ct9) = w)) := by
  refine z_ofX (cc := cX9_undo) (maxL := 1) (ret := none) (by decide +kernel) rfl (Nat.le_of_ble_eq_true rfl) ?_
  intro pg e s m args below meth c hC hr hlk hT hK hP A hD hG hA hS hGX ls hl Q hQ
  have hx := hC.1
  have hb := hC.2.1
  have hml := hC.2.2.1
  have hown := hC.2.2.2.1
  have hts := hC.2.2.2.2
  have hB : ∀ w ∈ W0, w ∈ wz_X9_undo := fun _ h => List.mem_cons_of_mem _ h
  have hW0 : ∀ w ∈ W0, w.before args s = true := fun w h => hts w (hB w h)
  have hl : lv_has ls 1 [(0, .ref (α 0))] := hl
  refine lv_aload_n hx hb dX9_undo_0 rfl (lv_at hl 0 rfl) ?_
  refine va_get (D := D) (ci := 9) (v := .ref (α 9)) (C := RX9) (T := TX9) (N := 9) hx hb hts (fun w h => List.mem_cons_of_mem _ (wx_X9 w h)) hown hK hP 0 rfl rfl 8 (by decide) (hW0 _ wf_X9_68) (fun _ h9 => h9) rfl dX9_undo_1 ?_
  refine z_calli hP hD hS hA (va_runV (As := []) (rest := []) hC (c_X1_size l D τ α γ (h, old, ch) rg ln sl pd ct sg od sv sl9 tk ct9 _) (cwV 0 hts (gV hB wl_X9_161 wn_X1_size ws_X1_size wi_X1 wc_X1_size) rfl rfl rfl hd_X1_size ⟨Nat.le_of_ble_eq_true rfl, Nat.le_of_ble_eq_true rfl⟩) (zp_V hK hP hD hS hA hG (ci := 1) (q0 := 9) rfl rfl rfl) rfl rfl hl.1 rfl (lv_room (Nat.le_of_ble_eq_true rfl)) dX9_undo_4 ⟨Nat.le_of_ble_eq_true rfl, Nat.le_of_ble_eq_true rfl⟩) (fun r w1 H locs hq9 hP hD hS => ?_)
  obtain ⟨v4_1, hv4_0, rfl, rfl⟩ := hq9
  have hP : va_P D vwCl (wH α γ (h, old, ch) rg ln sl pd ct sg od (sv, sl9, tk, ct9)) H := hP
  have hD : va_D A (wH α γ (h, old, ch) rg ln sl pd ct sg od (sv, sl9, tk, ct9)) := hD
  refine z_ifne (tgt := 20) hx hb ⟨by omega, by omega⟩ dX9_undo_7 (by decide) (fun c_7 => ?_) (fun c_7 => ?_)
  · refine lv_aload_n hx hb dX9_undo_20 rfl (lv_at hl 0 rfl) ?_
    refine va_get (D := D) (ci := 9) (v := .ref (α 9)) (C := RX9) (T := TX9) (N := 9) hx hb hts (fun w h => List.mem_cons_of_mem _ (wx_X9 w h)) hown hK hP 0 rfl rfl 8 (by decide) (hW0 _ wf_X9_68) (fun _ h9 => h9) rfl dX9_undo_21 ?_
    refine lv_aload_n hx hb dX9_undo_24 rfl (lv_at hl 0 rfl) ?_
    refine va_get (D := D) (ci := 9) (v := .ref (α 1)) (C := RX9) (T := TX9) (N := 9) hx hb hts (fun w h => List.mem_cons_of_mem _ (wx_X9 w h)) hown hK hP 0 rfl rfl 0 (by decide) (hW0 _ wf_X9_12) (fun _ h9 => h9) rfl dX9_undo_25 ?_
    refine z_callv hP hD hS hA (va_runV (As := [.ref (α 1)]) (rest := []) hC (c_X1_takeBack l D τ α γ h old ch rg ln sl pd ct sg od sv sl9 tk ct9 (by first | assumption | rfl | omega) _) (cwV 1 hts (gV hB wl_X9_164 wn_X1_takeBack ws_X1_takeBack wi_X1 wc_X1_takeBack) rfl rfl rfl hd_X1_takeBack ⟨Nat.le_of_ble_eq_true rfl, Nat.le_of_ble_eq_true rfl⟩) (zp_V hK hP hD hS hA hG (ci := 1) (q0 := 9) rfl rfl rfl) rfl rfl hl.1 rfl (lv_room (Nat.le_of_ble_eq_true rfl)) dX9_undo_28 ⟨Nat.le_of_ble_eq_true rfl, Nat.le_of_ble_eq_true rfl⟩) (fun w1 H locs hq9 hP hD hS => ?_)
    obtain ⟨h28_2, c28_3, hv28_0, hv28_1, rfl⟩ := hq9
    have hP : va_P D vwCl (wH α γ (h28_2, old, ch) rg ln sl pd ct sg od (sv, sl9, tk, c28_3)) H := hP
    have hD : va_D A (wH α γ (h28_2, old, ch) rg ln sl pd ct sg od (sv, sl9, tk, c28_3)) := hD
    exact zx_vret hC hr hlk hQ (Nat.le_of_ble_eq_true rfl) (Nat.le_of_ble_eq_true rfl) hP hD hS ⟨h28_2, c28_3, (by unfold S_tundo; exact if_neg (by omega)), (by rw [hv28_1, if_pos (by omega)]), (by rw [hv28_0, if_pos (by omega)]), rfl⟩ dX9_undo_31
  · exact zx_throwS (text := "there is no saved state") (is := 162) hC hst hG hW0 hGX hT hlk hQ hl.1 zX_ISE (List.mem_of_getElem? (i := 7) rfl) hP hD hS ⟨rfl, (by unfold S_tundo; exact if_pos (by omega)), rfl⟩ dX9_undo_10 dX9_undo_13 dX9_undo_14 dX9_undo_16 dX9_undo_19 (Nat.le_of_ble_eq_true rfl) (Nat.le_of_ble_eq_true rfl) (Nat.le_of_ble_eq_true rfl) (Nat.le_of_ble_eq_true rfl) (Nat.le_of_ble_eq_true rfl) (Nat.le_of_ble_eq_true rfl)

abbrev wz_X9_savedStates : List Cond := .code yX9_savedStates cX9_savedStates 1 (some .int) :: W0
abbrev rm_X9_savedStates : Room := { frames := 1, cells := 0, slots := 0, locals := 20 }
theorem hd_X9_savedStates : yX9_savedStates.cls = RX9 ∧ yX9_savedStates.cls ≠ "java/lang/invoke/MethodHandle" ∧ yX9_savedStates.cls ≠ "java/lang/invoke/VarHandle" ∧ (parseMethodDescriptor yX9_savedStates.desc).map (fun d => d.parameters.length) = some 0 := by decide +kernel
set_option maxHeartbeats 4000000 in
set_option maxRecDepth 100000 in
theorem c_X9_savedStates (l : Launch) (D : va_G) (τ : Nat → Nat) (α : Nat → Nat) (γ : Nat → ClassId) (rl : TRl) (rg : TRg) (ln : TLn) (sl : TSl) (pd : TPd) (ct : TCt) (sg : TSg) (od : TOd) (sv : IA) (sl9 : IA) (tk : BA) (ct9 : Int) : cM l yX9_savedStates wz_X9_savedStates rm_X9_savedStates D τ (tyH γ) [.ref (α 0)] (wH α γ rl rg ln sl pd ct sg od (sv, sl9, tk, ct9)) (zQi (fun r w => ∃ (v : Int), (v = ct9) ∧ r = zI v ∧ wH α γ rl rg ln sl pd ct sg od (sv, sl9, tk, ct9) = w)) := by
  refine z_ofM (cc := cX9_savedStates) (maxL := 1) (ret := (some .int)) (by decide +kernel) rfl (Nat.le_of_ble_eq_true rfl) ?_
  intro pg e s m args below meth c hC hr hlk hnm hK hP A hD hG hA hS ls hl Q hQ
  have hx := hC.1
  have hb := hC.2.1
  have hml := hC.2.2.1
  have hown := hC.2.2.2.1
  have hts := hC.2.2.2.2
  have hB : ∀ w ∈ W0, w ∈ wz_X9_savedStates := fun _ h => List.mem_cons_of_mem _ h
  have hW0 : ∀ w ∈ W0, w.before args s = true := fun w h => hts w (hB w h)
  have hl : lv_has ls 1 [(0, .ref (α 0))] := hl
  refine lv_aload_n hx hb dX9_savedStates_0 rfl (lv_at hl 0 rfl) ?_
  refine va_get (D := D) (ci := 9) (v := .ref (α 9)) (C := RX9) (T := TX9) (N := 9) hx hb hts (fun w h => List.mem_cons_of_mem _ (wx_X9 w h)) hown hK hP 0 rfl rfl 8 (by decide) (hW0 _ wf_X9_68) (fun _ h9 => h9) rfl dX9_savedStates_1 ?_
  refine z_calli hP hD hS hA (va_runV (As := []) (rest := []) hC (c_X1_size l D τ α γ rl rg ln sl pd ct sg od sv sl9 tk ct9 _) (cwV 0 hts (gV hB wl_X9_161 wn_X1_size ws_X1_size wi_X1 wc_X1_size) rfl rfl rfl hd_X1_size ⟨Nat.le_of_ble_eq_true rfl, Nat.le_of_ble_eq_true rfl⟩) (zp_V hK hP hD hS hA hG (ci := 1) (q0 := 9) rfl rfl rfl) rfl rfl hl.1 rfl (lv_room (Nat.le_of_ble_eq_true rfl)) dX9_savedStates_4 ⟨Nat.le_of_ble_eq_true rfl, Nat.le_of_ble_eq_true rfl⟩) (fun r w1 H locs hq9 hP hD hS => ?_)
  obtain ⟨v4_1, hv4_0, rfl, rfl⟩ := hq9
  have hP : va_P D vwCl (wH α γ rl rg ln sl pd ct sg od (sv, sl9, tk, ct9)) H := hP
  have hD : va_D A (wH α γ rl rg ln sl pd ct sg od (sv, sl9, tk, ct9)) := hD
  exact z_iret hC hr hlk hQ hP hD hS ⟨v4_1, (by first | assumption | rfl | omega), rfl, rfl⟩ dX9_savedStates_7

abbrev wz_X9_heightOf : List Cond := .code yX9_heightOf cX9_heightOf 3 (some .int) :: W0
abbrev rm_X9_heightOf : Room := { frames := 7, cells := 1, slots := 6, locals := 112 }
theorem hd_X9_heightOf : yX9_heightOf.cls = RX9 ∧ yX9_heightOf.cls ≠ "java/lang/invoke/MethodHandle" ∧ yX9_heightOf.cls ≠ "java/lang/invoke/VarHandle" ∧ (parseMethodDescriptor yX9_heightOf.desc).map (fun d => d.parameters.length) = some 2 := by decide +kernel
set_option maxHeartbeats 4000000 in
set_option maxRecDepth 100000 in
theorem c_X9_heightOf (l : Launch) (D : va_G) (τ : Nat → Nat) (α : Nat → Nat) (γ : Nat → ClassId) (h : IA) (old : IA) (ch : IA) (rg : TRg) (ln : TLn) (sl : TSl) (pd : TPd) (ct : TCt) (sg : TSg) (od : TOd) (hs : THs) (r9 : Int) (c9 : Int) (hr9 : -2147483648 ≤ r9 ∧ r9 < 2147483648) (hc9 : -2147483648 ≤ c9 ∧ c9 < 2147483648) (hh : ∀ k, 0 ≤ k → k < 49 → 0 ≤ h k ∧ h k ≤ 99) (hst : l.stackTraces = false) : cX l yX9_heightOf wz_X9_heightOf rm_X9_heightOf D τ (tyH γ) [.ref (α 0), .int (zI r9), .int (zI c9)] (wH α γ (h, old, ch) rg ln sl pd ct sg od hs) (zQi (fun r w => ∃ (v : Int), (S_tpt r9 c9 = 0) ∧ (v = h (7 * r9 + c9)) ∧ r = zI v ∧ wH α γ (h, old, ch) rg ln sl pd ct sg od hs = w)) (fun E w => (E = "java/lang/IndexOutOfBoundsException" ∧ (S_tpt r9 c9 = 1) ∧ wH α γ (h, old, ch) rg ln sl pd ct sg od hs = w)) := by
  refine z_ofX (cc := cX9_heightOf) (maxL := 3) (ret := (some .int)) (by decide +kernel) rfl (Nat.le_of_ble_eq_true rfl) ?_
  intro pg e s m args below meth c hC hr hlk hT hK hP A hD hG hA hS hGX ls hl Q hQ
  have hx := hC.1
  have hb := hC.2.1
  have hml := hC.2.2.1
  have hown := hC.2.2.2.1
  have hts := hC.2.2.2.2
  have hB : ∀ w ∈ W0, w ∈ wz_X9_heightOf := fun _ h => List.mem_cons_of_mem _ h
  have hW0 : ∀ w ∈ W0, w.before args s = true := fun w h => hts w (hB w h)
  have hl : lv_has ls 3 [(0, .ref (α 0)), (1, .int (zI r9)), (2, .int (zI c9))] := hl
  refine lv_aload_n hx hb dX9_heightOf_0 rfl (lv_at hl 0 rfl) ?_
  refine va_get (D := D) (ci := 9) (v := .ref (α 1)) (C := RX9) (T := TX9) (N := 9) hx hb hts (fun w h => List.mem_cons_of_mem _ (wx_X9 w h)) hown hK hP 0 rfl rfl 0 (by decide) (hW0 _ wf_X9_12) (fun _ h9 => h9) rfl dX9_heightOf_1 ?_
  refine lv_iload_n hx hb dX9_heightOf_4 rfl (lv_at hl 1 rfl) ?_
  refine lv_iload_n hx hb dX9_heightOf_5 rfl (lv_at hl 2 rfl) ?_
  refine zx_calli hP hD hS hA (vx_runS (As := [.int (zI r9), .int (zI c9)]) (rest := [.ref (α 1)]) hC (c_X9_knownPoint l D τ _ _ r9 c9 (by first | assumption | rfl | omega) (by first | assumption | rfl | omega) (by first | assumption | rfl | omega) _) (va_cwS 2 hts (gS hB wl_X9_72 wt_X9_knownPoint wi_X9 wc_X9_knownPoint) rfl rfl rfl hd_X9_knownPoint.2 ⟨Nat.le_of_ble_eq_true rfl, Nat.le_of_ble_eq_true rfl⟩) (zpX_S hK hP hD hS hA hG hGX) rfl rfl hl.1 rfl (lv_room (Nat.le_of_ble_eq_true rfl)) dX9_heightOf_6 ⟨Nat.le_of_ble_eq_true rfl, Nat.le_of_ble_eq_true rfl⟩) (fun E w1 H locs ce q9 hq9 hP hD hS hce hcv hcl => ?_) (fun r w1 H locs hq9 hP hD hS => ?_)
  · obtain ⟨rfl, hx9, rfl⟩ := hq9
    exact zx_out hT hlk hQ (Nat.le_of_ble_eq_true rfl) (Nat.le_of_ble_eq_true rfl) hP hD hS ⟨rfl, (by unfold S_tpt; exact if_neg hx9), rfl⟩ hce hcv hcl
  · obtain ⟨v6_1, hv6_0, hv6_1, hv6_2, rfl, rfl⟩ := hq9
    refine z_calli hP hD hS hA (va_runV (As := [.int (zI v6_1)]) (rest := []) hC (c_X6_at l D τ α γ h old ch rg ln sl pd ct sg od hs v6_1 (by first | assumption | rfl | omega) (by first | assumption | rfl | omega) _) (cwV 1 hts (gV hB wl_X9_87 wn_X6_at ws_X6_at wi_X6 wc_X6_at) rfl rfl rfl hd_X6_at ⟨Nat.le_of_ble_eq_true rfl, Nat.le_of_ble_eq_true rfl⟩) (zp_V hK hP hD hS hA hG (ci := 6) (q0 := 1) rfl rfl rfl) rfl rfl hl.1 rfl (lv_room (Nat.le_of_ble_eq_true rfl)) dX9_heightOf_9 ⟨Nat.le_of_ble_eq_true rfl, Nat.le_of_ble_eq_true rfl⟩) (fun r w1 H locs hq9 hP hD hS => ?_)
    obtain ⟨v9_2, hv9_0, hv9_1, hv9_2, rfl, rfl⟩ := hq9
    have hP : va_P D vwCl (wH α γ (h, old, ch) rg ln sl pd ct sg od hs) H := hP
    have hD : va_D A (wH α γ (h, old, ch) rg ln sl pd ct sg od hs) := hD
    exact zx_iret hC hr hlk hQ (Nat.le_of_ble_eq_true rfl) (Nat.le_of_ble_eq_true rfl) hP hD hS ⟨v9_2, (by unfold S_tpt; exact if_pos hv6_0), (by rw [hv9_2 (by omega), hv6_1]), rfl, rfl⟩ dX9_heightOf_12

