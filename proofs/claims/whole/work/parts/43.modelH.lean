abbrev wz_X10_sign : List Cond := .code yX10_sign cX10_sign 4 (some .int) :: W0
abbrev rm_X10_sign : Room := { frames := 1, cells := 0, slots := 0, locals := 22 }
theorem hd_X10_sign : yX10_sign.cls = RX10 ∧ yX10_sign.cls ≠ "java/lang/invoke/MethodHandle" ∧ yX10_sign.cls ≠ "java/lang/invoke/VarHandle" ∧ (parseMethodDescriptor yX10_sign.desc).map (fun d => d.parameters.length) = some 2 := by decide +kernel
set_option maxHeartbeats 4000000 in
set_option maxRecDepth 100000 in
theorem c_X10_sign (l : Launch) (D : va_G) (τ : Nat → Nat) (β : Nat → Nat) (δ : Nat → ClassId) (ms : IA) (mb : IA) (mo : IA) (mp : BA) (mf : IA) (mn : IA) (mi : IA) (mc : IA) (mq : BA) (mr : IA) (mw : IA) (mk : Int) (ml : Int) (mt : Int) (ma : Int) (mx : Bool) (mh : Int64) (lo : Int) (hi9 : Int) (hml9 : 0 ≤ ml ∧ ml ≤ 60) (hmf : ∀ k, 0 ≤ k → k < ml → 33 ≤ mf k ∧ mf k ≤ 126) (hat : 0 ≤ ma ∧ ma ≤ ml) (hlo : 1 ≤ lo ∧ lo ≤ 126) (hhi : 1 ≤ hi9 ∧ hi9 ≤ 126) : cM l yX10_sign wz_X10_sign rm_X10_sign D τ (tyM δ) [.ref (β 0), .int (zI lo), .int (zI hi9)] (wM β δ ms mb mo mp mf mn mi mc mq mr mw mk ml mt ma mx mh) (zQi (fun r w => ∃ (a2 : Int), ∃ (x2 : Bool), ∃ (v : Int), (v = sgC mf ml ma mx) ∧ (x2 = true ↔ (mx = true ∨ ¬ (lo ≤ v ∧ v ≤ hi9))) ∧ (a2 = if x2 = true then ma else ma + 1) ∧ (0 ≤ v ∧ v ≤ 126) ∧ (0 ≤ a2 ∧ a2 ≤ ml) ∧ r = zI v ∧ wM β δ ms mb mo mp mf mn mi mc mq mr mw mk ml mt a2 x2 mh = w)) := by
  refine z_ofM (cc := cX10_sign) (maxL := 4) (ret := (some .int)) (by decide +kernel) rfl (Nat.le_of_ble_eq_true rfl) ?_
  intro pg e s m args below meth c hC hr hlk hnm hK hP A hD hG hA hS ls hl Q hQ
  have hx := hC.1
  have hb := hC.2.1
  have hml := hC.2.2.1
  have hown := hC.2.2.2.1
  have hts := hC.2.2.2.2
  have hB : ∀ w ∈ W0, w ∈ wz_X10_sign := fun _ h => List.mem_cons_of_mem _ h
  have hW0 : ∀ w ∈ W0, w.before args s = true := fun w h => hts w (hB w h)
  have hl : lv_has ls 4 [(0, .ref (β 0)), (1, .int (zI lo)), (2, .int (zI hi9))] := hl
  refine lv_aload_n hx hb dX10_sign_0 rfl (lv_at hl 0 rfl) ?_
  refine va_get (D := D) (ci := 10) (v := .int (zI ma)) (C := RX10) (T := TX10) (N := 17) hx hb hts (fun w h => List.mem_cons_of_mem _ (wx_X10 w h)) hown hK hP 0 rfl rfl 9 (by decide) (hW0 _ wf_X10_99) (fun _ h9 => h9) rfl dX10_sign_1 ?_
  refine lv_aload_n hx hb dX10_sign_4 rfl (lv_at hl 0 rfl) ?_
  refine va_get (D := D) (ci := 10) (v := .int (zI ml)) (C := RX10) (T := TX10) (N := 17) hx hb hts (fun w h => List.mem_cons_of_mem _ (wx_X10 w h)) hown hK hP 0 rfl rfl 6 (by decide) (hW0 _ wf_X10_96) (fun _ h9 => h9) rfl dX10_sign_5 ?_
  refine z_icge (tgt := 30) hx hb ⟨by omega, by omega⟩ ⟨by omega, by omega⟩ dX10_sign_8 (by decide) (fun c_8 => ?_) (fun c_8 => ?_)
  · refine lv_iconst (v := zI 0) hx hb dX10_sign_30 rfl ?_
    refine lv_istore_n (lv' := [(3, .int (zI 0)), (0, .ref (β 0)), (1, .int (zI lo)), (2, .int (zI hi9))]) hx hb dX10_sign_31 rfl hl (by decide) rfl (fun ls hl => ?_)
    refine lv_aload_n hx hb dX10_sign_32 rfl (lv_at hl 1 rfl) ?_
    refine lv_aload_n hx hb dX10_sign_33 rfl (lv_at hl 1 rfl) ?_
    refine va_get (D := D) (ci := 10) (v := .int (bI mx)) (C := RX10) (T := TX10) (N := 17) hx hb hts (fun w h => List.mem_cons_of_mem _ (wx_X10 w h)) hown hK hP 0 rfl rfl 10 (by decide) (hW0 _ wf_X10_102) (fun _ h9 => h9) rfl dX10_sign_34 ?_
    refine z_ifneB (tgt := 49) hx hb dX10_sign_37 (by decide) (fun c_37 => ?_) (fun c_37 => ?_)
    · refine lv_iconst (v := zI 1) hx hb dX10_sign_49 rfl ?_
      refine lv_goto (tgt := 54) hx hb dX10_sign_50 (by decide) ?_
      refine va_put (D := D) (ci := 10) (v := .int (bI true)) (ty := .boolean) (C := RX10) (T := TX10) (N := 17) hx hb hts (fun w h => List.mem_cons_of_mem _ (wx_X10 w h)) tyX10 tyX10_ok nmX10 hown hK hP hD hS 0 rfl rfl 10 (by decide) (hW0 _ wf_X10_102) (fun _ h9 => h9) rfl (by decide +kernel) (bI_nar true) (bI_fit true) (Nat.le_of_ble_eq_true rfl) dX10_sign_54 (fun H locs hP hD hS => ?_)
      have hP : va_P D vwCl (wM β δ ms mb mo mp mf mn mi mc mq mr mw mk ml mt ma true mh) H := hP
      have hD : va_D A (wM β δ ms mb mo mp mf mn mi mc mq mr mw mk ml mt ma true mh) := hD
      refine lv_aload_n hx hb dX10_sign_57 rfl (lv_at hl 1 rfl) ?_
      refine lv_dup hx hb dX10_sign_58 rfl ?_
      refine va_get (D := D) (ci := 10) (v := .int (zI ma)) (C := RX10) (T := TX10) (N := 17) hx hb hts (fun w h => List.mem_cons_of_mem _ (wx_X10 w h)) hown hK hP 0 rfl rfl 9 (by decide) (hW0 _ wf_X10_99) (fun _ h9 => h9) rfl dX10_sign_59 ?_
      refine lv_aload_n hx hb dX10_sign_62 rfl (lv_at hl 1 rfl) ?_
      refine va_get (D := D) (ci := 10) (v := .int (bI true)) (C := RX10) (T := TX10) (N := 17) hx hb hts (fun w h => List.mem_cons_of_mem _ (wx_X10 w h)) hown hK hP 0 rfl rfl 10 (by decide) (hW0 _ wf_X10_102) (fun _ h9 => h9) rfl dX10_sign_63 ?_
      refine z_ifeqB (tgt := 73) hx hb dX10_sign_66 (by decide) (fun c_66 => ?_) (fun c_66 => ?_)
      · exact absurd c_66 (by decide)
      · refine lv_iconst (v := zI 0) hx hb dX10_sign_69 rfl ?_
        refine lv_goto (tgt := 74) hx hb dX10_sign_70 (by decide) ?_
        refine z_iadd hx hb dX10_sign_74 ?_
        refine va_put (D := D) (ci := 10) (v := .int (zI (ma + 0))) (ty := .int) (C := RX10) (T := TX10) (N := 17) hx hb hts (fun w h => List.mem_cons_of_mem _ (wx_X10 w h)) tyX10 tyX10_ok nmX10 hown hK hP hD hS 0 rfl rfl 9 (by decide) (hW0 _ wf_X10_99) (fun _ h9 => h9) rfl (by decide +kernel) rfl rfl (Nat.le_of_ble_eq_true rfl) dX10_sign_75 (fun H locs hP hD hS => ?_)
        have hP : va_P D vwCl (wM β δ ms mb mo mp mf mn mi mc mq mr mw mk ml mt (ma + 0) true mh) H := hP
        have hD : va_D A (wM β δ ms mb mo mp mf mn mi mc mq mr mw mk ml mt (ma + 0) true mh) := hD
        refine lv_iload_n hx hb dX10_sign_78 rfl (lv_at hl 0 rfl) ?_
        exact z_iret hC hr hlk hQ hP hD hS ⟨ma + 0, true, 0, (by unfold sgC; first | (rw [if_pos ⟨by omega, c_15⟩]; done) | (rw [if_neg (fun h9 => absurd h9.1 (by omega))]; done) | (rw [if_neg (fun h9 => by (have z9 := h9.2; rw [c_15] at z9; cases z9; done))]; done)), (by first | exact zb_T (Or.inl c_37) | exact zb_T (Or.inr hb_46) | exact zb_F (fun h9 => h9.elim (fun z => by (rw [c_37] at z; cases z; done)) (fun z => z hb_46))), (by simp), (by first | assumption | rfl | omega), (by first | omega | (exfalso; rw [c_15] at c_37; cases c_37)), rfl, rfl⟩ dX10_sign_79
    · refine lv_iload_n hx hb dX10_sign_40 rfl (lv_at hl 0 rfl) ?_
      refine lv_iload_n hx hb dX10_sign_41 rfl (lv_at hl 2 rfl) ?_
      refine lv_iload_n hx hb dX10_sign_42 rfl (lv_at hl 3 rfl) ?_
      refine z_calli hP hD hS hA (va_runS (As := [.int (zI 0), .int (zI lo), .int (zI hi9)]) (rest := [.ref (β 0)]) hC (c_X10_in l D τ _ _ 0 lo hi9 (by first | assumption | rfl | omega) (by first | assumption | rfl | omega) (by first | assumption | rfl | omega) _) (va_cwS 3 hts (gS hB wl_X10_48 wt_X10_in wi_X10 wc_X10_in) rfl rfl rfl hd_X10_in.2 ⟨Nat.le_of_ble_eq_true rfl, Nat.le_of_ble_eq_true rfl⟩) (zp_S hK hP hD hS hA hG) rfl rfl hl.1 rfl (lv_room (Nat.le_of_ble_eq_true rfl)) dX10_sign_43 ⟨Nat.le_of_ble_eq_true rfl, Nat.le_of_ble_eq_true rfl⟩) (fun r w1 H locs hq9 hP hD hS => ?_)
      obtain ⟨v43_1, hv43_0, rfl, rfl⟩ := hq9
      refine z_ifneB (tgt := 53) hx hb dX10_sign_46 (by decide) (fun c_46 => ?_) (fun c_46 => ?_)
      · have hb_46 := hv43_0.mp c_46
        refine lv_iconst (v := zI 0) hx hb dX10_sign_53 rfl ?_
        refine va_put (D := D) (ci := 10) (v := .int (bI false)) (ty := .boolean) (C := RX10) (T := TX10) (N := 17) hx hb hts (fun w h => List.mem_cons_of_mem _ (wx_X10 w h)) tyX10 tyX10_ok nmX10 hown hK hP hD hS 0 rfl rfl 10 (by decide) (hW0 _ wf_X10_102) (fun _ h9 => h9) rfl (by decide +kernel) (bI_nar false) (bI_fit false) (Nat.le_of_ble_eq_true rfl) dX10_sign_54 (fun H locs hP hD hS => ?_)
        have hP : va_P D vwCl (wM β δ ms mb mo mp mf mn mi mc mq mr mw mk ml mt ma false mh) H := hP
        have hD : va_D A (wM β δ ms mb mo mp mf mn mi mc mq mr mw mk ml mt ma false mh) := hD
        refine lv_aload_n hx hb dX10_sign_57 rfl (lv_at hl 1 rfl) ?_
        refine lv_dup hx hb dX10_sign_58 rfl ?_
        refine va_get (D := D) (ci := 10) (v := .int (zI ma)) (C := RX10) (T := TX10) (N := 17) hx hb hts (fun w h => List.mem_cons_of_mem _ (wx_X10 w h)) hown hK hP 0 rfl rfl 9 (by decide) (hW0 _ wf_X10_99) (fun _ h9 => h9) rfl dX10_sign_59 ?_
        refine lv_aload_n hx hb dX10_sign_62 rfl (lv_at hl 1 rfl) ?_
        refine va_get (D := D) (ci := 10) (v := .int (bI false)) (C := RX10) (T := TX10) (N := 17) hx hb hts (fun w h => List.mem_cons_of_mem _ (wx_X10 w h)) hown hK hP 0 rfl rfl 10 (by decide) (hW0 _ wf_X10_102) (fun _ h9 => h9) rfl dX10_sign_63 ?_
        refine z_ifeqB (tgt := 73) hx hb dX10_sign_66 (by decide) (fun c_66 => ?_) (fun c_66 => ?_)
        · refine lv_iconst (v := zI 1) hx hb dX10_sign_73 rfl ?_
          refine z_iadd hx hb dX10_sign_74 ?_
          refine va_put (D := D) (ci := 10) (v := .int (zI (ma + 1))) (ty := .int) (C := RX10) (T := TX10) (N := 17) hx hb hts (fun w h => List.mem_cons_of_mem _ (wx_X10 w h)) tyX10 tyX10_ok nmX10 hown hK hP hD hS 0 rfl rfl 9 (by decide) (hW0 _ wf_X10_99) (fun _ h9 => h9) rfl (by decide +kernel) rfl rfl (Nat.le_of_ble_eq_true rfl) dX10_sign_75 (fun H locs hP hD hS => ?_)
          have hP : va_P D vwCl (wM β δ ms mb mo mp mf mn mi mc mq mr mw mk ml mt (ma + 1) false mh) H := hP
          have hD : va_D A (wM β δ ms mb mo mp mf mn mi mc mq mr mw mk ml mt (ma + 1) false mh) := hD
          refine lv_iload_n hx hb dX10_sign_78 rfl (lv_at hl 0 rfl) ?_
          exact z_iret hC hr hlk hQ hP hD hS ⟨ma + 1, false, 0, (by unfold sgC; first | (rw [if_pos ⟨by omega, c_15⟩]; done) | (rw [if_neg (fun h9 => absurd h9.1 (by omega))]; done) | (rw [if_neg (fun h9 => by (have z9 := h9.2; rw [c_15] at z9; cases z9; done))]; done)), (by first | exact zb_T (Or.inl c_37) | exact zb_T (Or.inr hb_46) | exact zb_F (fun h9 => h9.elim (fun z => by (rw [c_37] at z; cases z; done)) (fun z => z hb_46))), (by simp), (by first | assumption | rfl | omega), (by first | omega | (exfalso; rw [c_15] at c_37; cases c_37)), rfl, rfl⟩ dX10_sign_79
        · exact absurd c_66 (by decide)
      · have hb_46 := zb_neg hv43_0 c_46
        refine lv_iconst (v := zI 1) hx hb dX10_sign_49 rfl ?_
        refine lv_goto (tgt := 54) hx hb dX10_sign_50 (by decide) ?_
        refine va_put (D := D) (ci := 10) (v := .int (bI true)) (ty := .boolean) (C := RX10) (T := TX10) (N := 17) hx hb hts (fun w h => List.mem_cons_of_mem _ (wx_X10 w h)) tyX10 tyX10_ok nmX10 hown hK hP hD hS 0 rfl rfl 10 (by decide) (hW0 _ wf_X10_102) (fun _ h9 => h9) rfl (by decide +kernel) (bI_nar true) (bI_fit true) (Nat.le_of_ble_eq_true rfl) dX10_sign_54 (fun H locs hP hD hS => ?_)
        have hP : va_P D vwCl (wM β δ ms mb mo mp mf mn mi mc mq mr mw mk ml mt ma true mh) H := hP
        have hD : va_D A (wM β δ ms mb mo mp mf mn mi mc mq mr mw mk ml mt ma true mh) := hD
        refine lv_aload_n hx hb dX10_sign_57 rfl (lv_at hl 1 rfl) ?_
        refine lv_dup hx hb dX10_sign_58 rfl ?_
        refine va_get (D := D) (ci := 10) (v := .int (zI ma)) (C := RX10) (T := TX10) (N := 17) hx hb hts (fun w h => List.mem_cons_of_mem _ (wx_X10 w h)) hown hK hP 0 rfl rfl 9 (by decide) (hW0 _ wf_X10_99) (fun _ h9 => h9) rfl dX10_sign_59 ?_
        refine lv_aload_n hx hb dX10_sign_62 rfl (lv_at hl 1 rfl) ?_
        refine va_get (D := D) (ci := 10) (v := .int (bI true)) (C := RX10) (T := TX10) (N := 17) hx hb hts (fun w h => List.mem_cons_of_mem _ (wx_X10 w h)) hown hK hP 0 rfl rfl 10 (by decide) (hW0 _ wf_X10_102) (fun _ h9 => h9) rfl dX10_sign_63 ?_
        refine z_ifeqB (tgt := 73) hx hb dX10_sign_66 (by decide) (fun c_66 => ?_) (fun c_66 => ?_)
        · exact absurd c_66 (by decide)
        · refine lv_iconst (v := zI 0) hx hb dX10_sign_69 rfl ?_
          refine lv_goto (tgt := 74) hx hb dX10_sign_70 (by decide) ?_
          refine z_iadd hx hb dX10_sign_74 ?_
          refine va_put (D := D) (ci := 10) (v := .int (zI (ma + 0))) (ty := .int) (C := RX10) (T := TX10) (N := 17) hx hb hts (fun w h => List.mem_cons_of_mem _ (wx_X10 w h)) tyX10 tyX10_ok nmX10 hown hK hP hD hS 0 rfl rfl 9 (by decide) (hW0 _ wf_X10_99) (fun _ h9 => h9) rfl (by decide +kernel) rfl rfl (Nat.le_of_ble_eq_true rfl) dX10_sign_75 (fun H locs hP hD hS => ?_)
          have hP : va_P D vwCl (wM β δ ms mb mo mp mf mn mi mc mq mr mw mk ml mt (ma + 0) true mh) H := hP
          have hD : va_D A (wM β δ ms mb mo mp mf mn mi mc mq mr mw mk ml mt (ma + 0) true mh) := hD
          refine lv_iload_n hx hb dX10_sign_78 rfl (lv_at hl 0 rfl) ?_
          exact z_iret hC hr hlk hQ hP hD hS ⟨ma + 0, true, 0, (by unfold sgC; first | (rw [if_pos ⟨by omega, c_15⟩]; done) | (rw [if_neg (fun h9 => absurd h9.1 (by omega))]; done) | (rw [if_neg (fun h9 => by (have z9 := h9.2; rw [c_15] at z9; cases z9; done))]; done)), (by first | exact zb_T (Or.inl c_37) | exact zb_T (Or.inr hb_46) | exact zb_F (fun h9 => h9.elim (fun z => by (rw [c_37] at z; cases z; done)) (fun z => z hb_46))), (by simp), (by first | assumption | rfl | omega), (by first | omega | (exfalso; rw [c_15] at c_37; cases c_37)), rfl, rfl⟩ dX10_sign_79
  · refine lv_aload_n hx hb dX10_sign_11 rfl (lv_at hl 0 rfl) ?_
    refine va_get (D := D) (ci := 10) (v := .int (bI mx)) (C := RX10) (T := TX10) (N := 17) hx hb hts (fun w h => List.mem_cons_of_mem _ (wx_X10 w h)) hown hK hP 0 rfl rfl 10 (by decide) (hW0 _ wf_X10_102) (fun _ h9 => h9) rfl dX10_sign_12 ?_
    refine z_ifneB (tgt := 30) hx hb dX10_sign_15 (by decide) (fun c_15 => ?_) (fun c_15 => ?_)
    · refine lv_iconst (v := zI 0) hx hb dX10_sign_30 rfl ?_
      refine lv_istore_n (lv' := [(3, .int (zI 0)), (0, .ref (β 0)), (1, .int (zI lo)), (2, .int (zI hi9))]) hx hb dX10_sign_31 rfl hl (by decide) rfl (fun ls hl => ?_)
      refine lv_aload_n hx hb dX10_sign_32 rfl (lv_at hl 1 rfl) ?_
      refine lv_aload_n hx hb dX10_sign_33 rfl (lv_at hl 1 rfl) ?_
      refine va_get (D := D) (ci := 10) (v := .int (bI mx)) (C := RX10) (T := TX10) (N := 17) hx hb hts (fun w h => List.mem_cons_of_mem _ (wx_X10 w h)) hown hK hP 0 rfl rfl 10 (by decide) (hW0 _ wf_X10_102) (fun _ h9 => h9) rfl dX10_sign_34 ?_
      refine z_ifneB (tgt := 49) hx hb dX10_sign_37 (by decide) (fun c_37 => ?_) (fun c_37 => ?_)
      · refine lv_iconst (v := zI 1) hx hb dX10_sign_49 rfl ?_
        refine lv_goto (tgt := 54) hx hb dX10_sign_50 (by decide) ?_
        refine va_put (D := D) (ci := 10) (v := .int (bI true)) (ty := .boolean) (C := RX10) (T := TX10) (N := 17) hx hb hts (fun w h => List.mem_cons_of_mem _ (wx_X10 w h)) tyX10 tyX10_ok nmX10 hown hK hP hD hS 0 rfl rfl 10 (by decide) (hW0 _ wf_X10_102) (fun _ h9 => h9) rfl (by decide +kernel) (bI_nar true) (bI_fit true) (Nat.le_of_ble_eq_true rfl) dX10_sign_54 (fun H locs hP hD hS => ?_)
        have hP : va_P D vwCl (wM β δ ms mb mo mp mf mn mi mc mq mr mw mk ml mt ma true mh) H := hP
        have hD : va_D A (wM β δ ms mb mo mp mf mn mi mc mq mr mw mk ml mt ma true mh) := hD
        refine lv_aload_n hx hb dX10_sign_57 rfl (lv_at hl 1 rfl) ?_
        refine lv_dup hx hb dX10_sign_58 rfl ?_
        refine va_get (D := D) (ci := 10) (v := .int (zI ma)) (C := RX10) (T := TX10) (N := 17) hx hb hts (fun w h => List.mem_cons_of_mem _ (wx_X10 w h)) hown hK hP 0 rfl rfl 9 (by decide) (hW0 _ wf_X10_99) (fun _ h9 => h9) rfl dX10_sign_59 ?_
        refine lv_aload_n hx hb dX10_sign_62 rfl (lv_at hl 1 rfl) ?_
        refine va_get (D := D) (ci := 10) (v := .int (bI true)) (C := RX10) (T := TX10) (N := 17) hx hb hts (fun w h => List.mem_cons_of_mem _ (wx_X10 w h)) hown hK hP 0 rfl rfl 10 (by decide) (hW0 _ wf_X10_102) (fun _ h9 => h9) rfl dX10_sign_63 ?_
        refine z_ifeqB (tgt := 73) hx hb dX10_sign_66 (by decide) (fun c_66 => ?_) (fun c_66 => ?_)
        · exact absurd c_66 (by decide)
        · refine lv_iconst (v := zI 0) hx hb dX10_sign_69 rfl ?_
          refine lv_goto (tgt := 74) hx hb dX10_sign_70 (by decide) ?_
          refine z_iadd hx hb dX10_sign_74 ?_
          refine va_put (D := D) (ci := 10) (v := .int (zI (ma + 0))) (ty := .int) (C := RX10) (T := TX10) (N := 17) hx hb hts (fun w h => List.mem_cons_of_mem _ (wx_X10 w h)) tyX10 tyX10_ok nmX10 hown hK hP hD hS 0 rfl rfl 9 (by decide) (hW0 _ wf_X10_99) (fun _ h9 => h9) rfl (by decide +kernel) rfl rfl (Nat.le_of_ble_eq_true rfl) dX10_sign_75 (fun H locs hP hD hS => ?_)
          have hP : va_P D vwCl (wM β δ ms mb mo mp mf mn mi mc mq mr mw mk ml mt (ma + 0) true mh) H := hP
          have hD : va_D A (wM β δ ms mb mo mp mf mn mi mc mq mr mw mk ml mt (ma + 0) true mh) := hD
          refine lv_iload_n hx hb dX10_sign_78 rfl (lv_at hl 0 rfl) ?_
          exact z_iret hC hr hlk hQ hP hD hS ⟨ma + 0, true, 0, (by unfold sgC; first | (rw [if_pos ⟨by omega, c_15⟩]; done) | (rw [if_neg (fun h9 => absurd h9.1 (by omega))]; done) | (rw [if_neg (fun h9 => by (have z9 := h9.2; rw [c_15] at z9; cases z9; done))]; done)), (by first | exact zb_T (Or.inl c_37) | exact zb_T (Or.inr hb_46) | exact zb_F (fun h9 => h9.elim (fun z => by (rw [c_37] at z; cases z; done)) (fun z => z hb_46))), (by simp), (by first | assumption | rfl | omega), (by first | omega | (exfalso; rw [c_15] at c_37; cases c_37)), rfl, rfl⟩ dX10_sign_79
      · refine lv_iload_n hx hb dX10_sign_40 rfl (lv_at hl 0 rfl) ?_
        refine lv_iload_n hx hb dX10_sign_41 rfl (lv_at hl 2 rfl) ?_
        refine lv_iload_n hx hb dX10_sign_42 rfl (lv_at hl 3 rfl) ?_
        refine z_calli hP hD hS hA (va_runS (As := [.int (zI 0), .int (zI lo), .int (zI hi9)]) (rest := [.ref (β 0)]) hC (c_X10_in l D τ _ _ 0 lo hi9 (by first | assumption | rfl | omega) (by first | assumption | rfl | omega) (by first | assumption | rfl | omega) _) (va_cwS 3 hts (gS hB wl_X10_48 wt_X10_in wi_X10 wc_X10_in) rfl rfl rfl hd_X10_in.2 ⟨Nat.le_of_ble_eq_true rfl, Nat.le_of_ble_eq_true rfl⟩) (zp_S hK hP hD hS hA hG) rfl rfl hl.1 rfl (lv_room (Nat.le_of_ble_eq_true rfl)) dX10_sign_43 ⟨Nat.le_of_ble_eq_true rfl, Nat.le_of_ble_eq_true rfl⟩) (fun r w1 H locs hq9 hP hD hS => ?_)
        obtain ⟨v43_2, hv43_0, rfl, rfl⟩ := hq9
        refine z_ifneB (tgt := 53) hx hb dX10_sign_46 (by decide) (fun c_46 => ?_) (fun c_46 => ?_)
        · have hb_46 := hv43_0.mp c_46
          refine lv_iconst (v := zI 0) hx hb dX10_sign_53 rfl ?_
          refine va_put (D := D) (ci := 10) (v := .int (bI false)) (ty := .boolean) (C := RX10) (T := TX10) (N := 17) hx hb hts (fun w h => List.mem_cons_of_mem _ (wx_X10 w h)) tyX10 tyX10_ok nmX10 hown hK hP hD hS 0 rfl rfl 10 (by decide) (hW0 _ wf_X10_102) (fun _ h9 => h9) rfl (by decide +kernel) (bI_nar false) (bI_fit false) (Nat.le_of_ble_eq_true rfl) dX10_sign_54 (fun H locs hP hD hS => ?_)
          have hP : va_P D vwCl (wM β δ ms mb mo mp mf mn mi mc mq mr mw mk ml mt ma false mh) H := hP
          have hD : va_D A (wM β δ ms mb mo mp mf mn mi mc mq mr mw mk ml mt ma false mh) := hD
          refine lv_aload_n hx hb dX10_sign_57 rfl (lv_at hl 1 rfl) ?_
          refine lv_dup hx hb dX10_sign_58 rfl ?_
          refine va_get (D := D) (ci := 10) (v := .int (zI ma)) (C := RX10) (T := TX10) (N := 17) hx hb hts (fun w h => List.mem_cons_of_mem _ (wx_X10 w h)) hown hK hP 0 rfl rfl 9 (by decide) (hW0 _ wf_X10_99) (fun _ h9 => h9) rfl dX10_sign_59 ?_
          refine lv_aload_n hx hb dX10_sign_62 rfl (lv_at hl 1 rfl) ?_
          refine va_get (D := D) (ci := 10) (v := .int (bI false)) (C := RX10) (T := TX10) (N := 17) hx hb hts (fun w h => List.mem_cons_of_mem _ (wx_X10 w h)) hown hK hP 0 rfl rfl 10 (by decide) (hW0 _ wf_X10_102) (fun _ h9 => h9) rfl dX10_sign_63 ?_
          refine z_ifeqB (tgt := 73) hx hb dX10_sign_66 (by decide) (fun c_66 => ?_) (fun c_66 => ?_)
          · refine lv_iconst (v := zI 1) hx hb dX10_sign_73 rfl ?_
            refine z_iadd hx hb dX10_sign_74 ?_
            refine va_put (D := D) (ci := 10) (v := .int (zI (ma + 1))) (ty := .int) (C := RX10) (T := TX10) (N := 17) hx hb hts (fun w h => List.mem_cons_of_mem _ (wx_X10 w h)) tyX10 tyX10_ok nmX10 hown hK hP hD hS 0 rfl rfl 9 (by decide) (hW0 _ wf_X10_99) (fun _ h9 => h9) rfl (by decide +kernel) rfl rfl (Nat.le_of_ble_eq_true rfl) dX10_sign_75 (fun H locs hP hD hS => ?_)
            have hP : va_P D vwCl (wM β δ ms mb mo mp mf mn mi mc mq mr mw mk ml mt (ma + 1) false mh) H := hP
            have hD : va_D A (wM β δ ms mb mo mp mf mn mi mc mq mr mw mk ml mt (ma + 1) false mh) := hD
            refine lv_iload_n hx hb dX10_sign_78 rfl (lv_at hl 0 rfl) ?_
            exact z_iret hC hr hlk hQ hP hD hS ⟨ma + 1, false, 0, (by unfold sgC; first | (rw [if_pos ⟨by omega, c_15⟩]; done) | (rw [if_neg (fun h9 => absurd h9.1 (by omega))]; done) | (rw [if_neg (fun h9 => by (have z9 := h9.2; rw [c_15] at z9; cases z9; done))]; done)), (by first | exact zb_T (Or.inl c_37) | exact zb_T (Or.inr hb_46) | exact zb_F (fun h9 => h9.elim (fun z => by (rw [c_37] at z; cases z; done)) (fun z => z hb_46))), (by simp), (by first | assumption | rfl | omega), (by first | omega | (exfalso; rw [c_15] at c_37; cases c_37)), rfl, rfl⟩ dX10_sign_79
          · exact absurd c_66 (by decide)
        · have hb_46 := zb_neg hv43_0 c_46
          refine lv_iconst (v := zI 1) hx hb dX10_sign_49 rfl ?_
          refine lv_goto (tgt := 54) hx hb dX10_sign_50 (by decide) ?_
          refine va_put (D := D) (ci := 10) (v := .int (bI true)) (ty := .boolean) (C := RX10) (T := TX10) (N := 17) hx hb hts (fun w h => List.mem_cons_of_mem _ (wx_X10 w h)) tyX10 tyX10_ok nmX10 hown hK hP hD hS 0 rfl rfl 10 (by decide) (hW0 _ wf_X10_102) (fun _ h9 => h9) rfl (by decide +kernel) (bI_nar true) (bI_fit true) (Nat.le_of_ble_eq_true rfl) dX10_sign_54 (fun H locs hP hD hS => ?_)
          have hP : va_P D vwCl (wM β δ ms mb mo mp mf mn mi mc mq mr mw mk ml mt ma true mh) H := hP
          have hD : va_D A (wM β δ ms mb mo mp mf mn mi mc mq mr mw mk ml mt ma true mh) := hD
          refine lv_aload_n hx hb dX10_sign_57 rfl (lv_at hl 1 rfl) ?_
          refine lv_dup hx hb dX10_sign_58 rfl ?_
          refine va_get (D := D) (ci := 10) (v := .int (zI ma)) (C := RX10) (T := TX10) (N := 17) hx hb hts (fun w h => List.mem_cons_of_mem _ (wx_X10 w h)) hown hK hP 0 rfl rfl 9 (by decide) (hW0 _ wf_X10_99) (fun _ h9 => h9) rfl dX10_sign_59 ?_
          refine lv_aload_n hx hb dX10_sign_62 rfl (lv_at hl 1 rfl) ?_
          refine va_get (D := D) (ci := 10) (v := .int (bI true)) (C := RX10) (T := TX10) (N := 17) hx hb hts (fun w h => List.mem_cons_of_mem _ (wx_X10 w h)) hown hK hP 0 rfl rfl 10 (by decide) (hW0 _ wf_X10_102) (fun _ h9 => h9) rfl dX10_sign_63 ?_
          refine z_ifeqB (tgt := 73) hx hb dX10_sign_66 (by decide) (fun c_66 => ?_) (fun c_66 => ?_)
          · exact absurd c_66 (by decide)
          · refine lv_iconst (v := zI 0) hx hb dX10_sign_69 rfl ?_
            refine lv_goto (tgt := 74) hx hb dX10_sign_70 (by decide) ?_
            refine z_iadd hx hb dX10_sign_74 ?_
            refine va_put (D := D) (ci := 10) (v := .int (zI (ma + 0))) (ty := .int) (C := RX10) (T := TX10) (N := 17) hx hb hts (fun w h => List.mem_cons_of_mem _ (wx_X10 w h)) tyX10 tyX10_ok nmX10 hown hK hP hD hS 0 rfl rfl 9 (by decide) (hW0 _ wf_X10_99) (fun _ h9 => h9) rfl (by decide +kernel) rfl rfl (Nat.le_of_ble_eq_true rfl) dX10_sign_75 (fun H locs hP hD hS => ?_)
            have hP : va_P D vwCl (wM β δ ms mb mo mp mf mn mi mc mq mr mw mk ml mt (ma + 0) true mh) H := hP
            have hD : va_D A (wM β δ ms mb mo mp mf mn mi mc mq mr mw mk ml mt (ma + 0) true mh) := hD
            refine lv_iload_n hx hb dX10_sign_78 rfl (lv_at hl 0 rfl) ?_
            exact z_iret hC hr hlk hQ hP hD hS ⟨ma + 0, true, 0, (by unfold sgC; first | (rw [if_pos ⟨by omega, c_15⟩]; done) | (rw [if_neg (fun h9 => absurd h9.1 (by omega))]; done) | (rw [if_neg (fun h9 => by (have z9 := h9.2; rw [c_15] at z9; cases z9; done))]; done)), (by first | exact zb_T (Or.inl c_37) | exact zb_T (Or.inr hb_46) | exact zb_F (fun h9 => h9.elim (fun z => by (rw [c_37] at z; cases z; done)) (fun z => z hb_46))), (by simp), (by first | assumption | rfl | omega), (by first | omega | (exfalso; rw [c_15] at c_37; cases c_37)), rfl, rfl⟩ dX10_sign_79
    · refine lv_aload_n hx hb dX10_sign_18 rfl (lv_at hl 0 rfl) ?_
      refine va_get (D := D) (ci := 10) (v := .ref (β 5)) (C := RX10) (T := TX10) (N := 17) hx hb hts (fun w h => List.mem_cons_of_mem _ (wx_X10 w h)) hown hK hP 0 rfl rfl 5 (by decide) (hW0 _ wf_X10_23) (fun _ h9 => h9) rfl dX10_sign_19 ?_
      refine lv_aload_n hx hb dX10_sign_22 rfl (lv_at hl 0 rfl) ?_
      refine va_get (D := D) (ci := 10) (v := .int (zI ma)) (C := RX10) (T := TX10) (N := 17) hx hb hts (fun w h => List.mem_cons_of_mem _ (wx_X10 w h)) hown hK hP 0 rfl rfl 9 (by decide) (hW0 _ wf_X10_99) (fun _ h9 => h9) rfl dX10_sign_23 ?_
      refine z_iald (f := mf) hx hb hK hP 5 4 rfl rfl ⟨⟨by omega, by omega⟩, by decide⟩ dX10_sign_26 ?_
      have hb_26 := hmf ma (by omega) (by omega)
      refine lv_goto (tgt := 31) hx hb dX10_sign_27 (by decide) ?_
      refine lv_istore_n (lv' := [(3, .int (zI (mf ma))), (0, .ref (β 0)), (1, .int (zI lo)), (2, .int (zI hi9))]) hx hb dX10_sign_31 rfl hl (by decide) rfl (fun ls hl => ?_)
      refine lv_aload_n hx hb dX10_sign_32 rfl (lv_at hl 1 rfl) ?_
      refine lv_aload_n hx hb dX10_sign_33 rfl (lv_at hl 1 rfl) ?_
      refine va_get (D := D) (ci := 10) (v := .int (bI mx)) (C := RX10) (T := TX10) (N := 17) hx hb hts (fun w h => List.mem_cons_of_mem _ (wx_X10 w h)) hown hK hP 0 rfl rfl 10 (by decide) (hW0 _ wf_X10_102) (fun _ h9 => h9) rfl dX10_sign_34 ?_
      refine z_ifneB (tgt := 49) hx hb dX10_sign_37 (by decide) (fun c_37 => ?_) (fun c_37 => ?_)
      · refine lv_iconst (v := zI 1) hx hb dX10_sign_49 rfl ?_
        refine lv_goto (tgt := 54) hx hb dX10_sign_50 (by decide) ?_
        refine va_put (D := D) (ci := 10) (v := .int (bI true)) (ty := .boolean) (C := RX10) (T := TX10) (N := 17) hx hb hts (fun w h => List.mem_cons_of_mem _ (wx_X10 w h)) tyX10 tyX10_ok nmX10 hown hK hP hD hS 0 rfl rfl 10 (by decide) (hW0 _ wf_X10_102) (fun _ h9 => h9) rfl (by decide +kernel) (bI_nar true) (bI_fit true) (Nat.le_of_ble_eq_true rfl) dX10_sign_54 (fun H locs hP hD hS => ?_)
        have hP : va_P D vwCl (wM β δ ms mb mo mp mf mn mi mc mq mr mw mk ml mt ma true mh) H := hP
        have hD : va_D A (wM β δ ms mb mo mp mf mn mi mc mq mr mw mk ml mt ma true mh) := hD
        refine lv_aload_n hx hb dX10_sign_57 rfl (lv_at hl 1 rfl) ?_
        refine lv_dup hx hb dX10_sign_58 rfl ?_
        refine va_get (D := D) (ci := 10) (v := .int (zI ma)) (C := RX10) (T := TX10) (N := 17) hx hb hts (fun w h => List.mem_cons_of_mem _ (wx_X10 w h)) hown hK hP 0 rfl rfl 9 (by decide) (hW0 _ wf_X10_99) (fun _ h9 => h9) rfl dX10_sign_59 ?_
        refine lv_aload_n hx hb dX10_sign_62 rfl (lv_at hl 1 rfl) ?_
        refine va_get (D := D) (ci := 10) (v := .int (bI true)) (C := RX10) (T := TX10) (N := 17) hx hb hts (fun w h => List.mem_cons_of_mem _ (wx_X10 w h)) hown hK hP 0 rfl rfl 10 (by decide) (hW0 _ wf_X10_102) (fun _ h9 => h9) rfl dX10_sign_63 ?_
        refine z_ifeqB (tgt := 73) hx hb dX10_sign_66 (by decide) (fun c_66 => ?_) (fun c_66 => ?_)
        · exact absurd c_66 (by decide)
        · refine lv_iconst (v := zI 0) hx hb dX10_sign_69 rfl ?_
          refine lv_goto (tgt := 74) hx hb dX10_sign_70 (by decide) ?_
          refine z_iadd hx hb dX10_sign_74 ?_
          refine va_put (D := D) (ci := 10) (v := .int (zI (ma + 0))) (ty := .int) (C := RX10) (T := TX10) (N := 17) hx hb hts (fun w h => List.mem_cons_of_mem _ (wx_X10 w h)) tyX10 tyX10_ok nmX10 hown hK hP hD hS 0 rfl rfl 9 (by decide) (hW0 _ wf_X10_99) (fun _ h9 => h9) rfl (by decide +kernel) rfl rfl (Nat.le_of_ble_eq_true rfl) dX10_sign_75 (fun H locs hP hD hS => ?_)
          have hP : va_P D vwCl (wM β δ ms mb mo mp mf mn mi mc mq mr mw mk ml mt (ma + 0) true mh) H := hP
          have hD : va_D A (wM β δ ms mb mo mp mf mn mi mc mq mr mw mk ml mt (ma + 0) true mh) := hD
          refine lv_iload_n hx hb dX10_sign_78 rfl (lv_at hl 0 rfl) ?_
          exact z_iret hC hr hlk hQ hP hD hS ⟨ma + 0, true, mf ma, (by unfold sgC; first | (rw [if_pos ⟨by omega, c_15⟩]; done) | (rw [if_neg (fun h9 => absurd h9.1 (by omega))]; done) | (rw [if_neg (fun h9 => by (have z9 := h9.2; rw [c_15] at z9; cases z9; done))]; done)), (by first | exact zb_T (Or.inl c_37) | exact zb_T (Or.inr hb_46) | exact zb_F (fun h9 => h9.elim (fun z => by (rw [c_37] at z; cases z; done)) (fun z => z hb_46))), (by simp), (by first | assumption | rfl | omega), (by first | omega | (exfalso; rw [c_15] at c_37; cases c_37)), rfl, rfl⟩ dX10_sign_79
      · refine lv_iload_n hx hb dX10_sign_40 rfl (lv_at hl 0 rfl) ?_
        refine lv_iload_n hx hb dX10_sign_41 rfl (lv_at hl 2 rfl) ?_
        refine lv_iload_n hx hb dX10_sign_42 rfl (lv_at hl 3 rfl) ?_
        refine z_calli hP hD hS hA (va_runS (As := [.int (zI (mf ma)), .int (zI lo), .int (zI hi9)]) (rest := [.ref (β 0)]) hC (c_X10_in l D τ _ _ (mf ma) lo hi9 (by first | assumption | rfl | omega) (by first | assumption | rfl | omega) (by first | assumption | rfl | omega) _) (va_cwS 3 hts (gS hB wl_X10_48 wt_X10_in wi_X10 wc_X10_in) rfl rfl rfl hd_X10_in.2 ⟨Nat.le_of_ble_eq_true rfl, Nat.le_of_ble_eq_true rfl⟩) (zp_S hK hP hD hS hA hG) rfl rfl hl.1 rfl (lv_room (Nat.le_of_ble_eq_true rfl)) dX10_sign_43 ⟨Nat.le_of_ble_eq_true rfl, Nat.le_of_ble_eq_true rfl⟩) (fun r w1 H locs hq9 hP hD hS => ?_)
        obtain ⟨v43_3, hv43_0, rfl, rfl⟩ := hq9
        refine z_ifneB (tgt := 53) hx hb dX10_sign_46 (by decide) (fun c_46 => ?_) (fun c_46 => ?_)
        · have hb_46 := hv43_0.mp c_46
          refine lv_iconst (v := zI 0) hx hb dX10_sign_53 rfl ?_
          refine va_put (D := D) (ci := 10) (v := .int (bI false)) (ty := .boolean) (C := RX10) (T := TX10) (N := 17) hx hb hts (fun w h => List.mem_cons_of_mem _ (wx_X10 w h)) tyX10 tyX10_ok nmX10 hown hK hP hD hS 0 rfl rfl 10 (by decide) (hW0 _ wf_X10_102) (fun _ h9 => h9) rfl (by decide +kernel) (bI_nar false) (bI_fit false) (Nat.le_of_ble_eq_true rfl) dX10_sign_54 (fun H locs hP hD hS => ?_)
          have hP : va_P D vwCl (wM β δ ms mb mo mp mf mn mi mc mq mr mw mk ml mt ma false mh) H := hP
          have hD : va_D A (wM β δ ms mb mo mp mf mn mi mc mq mr mw mk ml mt ma false mh) := hD
          refine lv_aload_n hx hb dX10_sign_57 rfl (lv_at hl 1 rfl) ?_
          refine lv_dup hx hb dX10_sign_58 rfl ?_
          refine va_get (D := D) (ci := 10) (v := .int (zI ma)) (C := RX10) (T := TX10) (N := 17) hx hb hts (fun w h => List.mem_cons_of_mem _ (wx_X10 w h)) hown hK hP 0 rfl rfl 9 (by decide) (hW0 _ wf_X10_99) (fun _ h9 => h9) rfl dX10_sign_59 ?_
          refine lv_aload_n hx hb dX10_sign_62 rfl (lv_at hl 1 rfl) ?_
          refine va_get (D := D) (ci := 10) (v := .int (bI false)) (C := RX10) (T := TX10) (N := 17) hx hb hts (fun w h => List.mem_cons_of_mem _ (wx_X10 w h)) hown hK hP 0 rfl rfl 10 (by decide) (hW0 _ wf_X10_102) (fun _ h9 => h9) rfl dX10_sign_63 ?_
          refine z_ifeqB (tgt := 73) hx hb dX10_sign_66 (by decide) (fun c_66 => ?_) (fun c_66 => ?_)
          · refine lv_iconst (v := zI 1) hx hb dX10_sign_73 rfl ?_
            refine z_iadd hx hb dX10_sign_74 ?_
            refine va_put (D := D) (ci := 10) (v := .int (zI (ma + 1))) (ty := .int) (C := RX10) (T := TX10) (N := 17) hx hb hts (fun w h => List.mem_cons_of_mem _ (wx_X10 w h)) tyX10 tyX10_ok nmX10 hown hK hP hD hS 0 rfl rfl 9 (by decide) (hW0 _ wf_X10_99) (fun _ h9 => h9) rfl (by decide +kernel) rfl rfl (Nat.le_of_ble_eq_true rfl) dX10_sign_75 (fun H locs hP hD hS => ?_)
            have hP : va_P D vwCl (wM β δ ms mb mo mp mf mn mi mc mq mr mw mk ml mt (ma + 1) false mh) H := hP
            have hD : va_D A (wM β δ ms mb mo mp mf mn mi mc mq mr mw mk ml mt (ma + 1) false mh) := hD
            refine lv_iload_n hx hb dX10_sign_78 rfl (lv_at hl 0 rfl) ?_
            exact z_iret hC hr hlk hQ hP hD hS ⟨ma + 1, false, mf ma, (by unfold sgC; first | (rw [if_pos ⟨by omega, c_15⟩]; done) | (rw [if_neg (fun h9 => absurd h9.1 (by omega))]; done) | (rw [if_neg (fun h9 => by (have z9 := h9.2; rw [c_15] at z9; cases z9; done))]; done)), (by first | exact zb_T (Or.inl c_37) | exact zb_T (Or.inr hb_46) | exact zb_F (fun h9 => h9.elim (fun z => by (rw [c_37] at z; cases z; done)) (fun z => z hb_46))), (by simp), (by first | assumption | rfl | omega), (by first | omega | (exfalso; rw [c_15] at c_37; cases c_37)), rfl, rfl⟩ dX10_sign_79
          · exact absurd c_66 (by decide)
        · have hb_46 := zb_neg hv43_0 c_46
          refine lv_iconst (v := zI 1) hx hb dX10_sign_49 rfl ?_
          refine lv_goto (tgt := 54) hx hb dX10_sign_50 (by decide) ?_
          refine va_put (D := D) (ci := 10) (v := .int (bI true)) (ty := .boolean) (C := RX10) (T := TX10) (N := 17) hx hb hts (fun w h => List.mem_cons_of_mem _ (wx_X10 w h)) tyX10 tyX10_ok nmX10 hown hK hP hD hS 0 rfl rfl 10 (by decide) (hW0 _ wf_X10_102) (fun _ h9 => h9) rfl (by decide +kernel) (bI_nar true) (bI_fit true) (Nat.le_of_ble_eq_true rfl) dX10_sign_54 (fun H locs hP hD hS => ?_)
          have hP : va_P D vwCl (wM β δ ms mb mo mp mf mn mi mc mq mr mw mk ml mt ma true mh) H := hP
          have hD : va_D A (wM β δ ms mb mo mp mf mn mi mc mq mr mw mk ml mt ma true mh) := hD
          refine lv_aload_n hx hb dX10_sign_57 rfl (lv_at hl 1 rfl) ?_
          refine lv_dup hx hb dX10_sign_58 rfl ?_
          refine va_get (D := D) (ci := 10) (v := .int (zI ma)) (C := RX10) (T := TX10) (N := 17) hx hb hts (fun w h => List.mem_cons_of_mem _ (wx_X10 w h)) hown hK hP 0 rfl rfl 9 (by decide) (hW0 _ wf_X10_99) (fun _ h9 => h9) rfl dX10_sign_59 ?_
          refine lv_aload_n hx hb dX10_sign_62 rfl (lv_at hl 1 rfl) ?_
          refine va_get (D := D) (ci := 10) (v := .int (bI true)) (C := RX10) (T := TX10) (N := 17) hx hb hts (fun w h => List.mem_cons_of_mem _ (wx_X10 w h)) hown hK hP 0 rfl rfl 10 (by decide) (hW0 _ wf_X10_102) (fun _ h9 => h9) rfl dX10_sign_63 ?_
          refine z_ifeqB (tgt := 73) hx hb dX10_sign_66 (by decide) (fun c_66 => ?_) (fun c_66 => ?_)
          · exact absurd c_66 (by decide)
          · refine lv_iconst (v := zI 0) hx hb dX10_sign_69 rfl ?_
            refine lv_goto (tgt := 74) hx hb dX10_sign_70 (by decide) ?_
            refine z_iadd hx hb dX10_sign_74 ?_
            refine va_put (D := D) (ci := 10) (v := .int (zI (ma + 0))) (ty := .int) (C := RX10) (T := TX10) (N := 17) hx hb hts (fun w h => List.mem_cons_of_mem _ (wx_X10 w h)) tyX10 tyX10_ok nmX10 hown hK hP hD hS 0 rfl rfl 9 (by decide) (hW0 _ wf_X10_99) (fun _ h9 => h9) rfl (by decide +kernel) rfl rfl (Nat.le_of_ble_eq_true rfl) dX10_sign_75 (fun H locs hP hD hS => ?_)
            have hP : va_P D vwCl (wM β δ ms mb mo mp mf mn mi mc mq mr mw mk ml mt (ma + 0) true mh) H := hP
            have hD : va_D A (wM β δ ms mb mo mp mf mn mi mc mq mr mw mk ml mt (ma + 0) true mh) := hD
            refine lv_iload_n hx hb dX10_sign_78 rfl (lv_at hl 0 rfl) ?_
            exact z_iret hC hr hlk hQ hP hD hS ⟨ma + 0, true, mf ma, (by unfold sgC; first | (rw [if_pos ⟨by omega, c_15⟩]; done) | (rw [if_neg (fun h9 => absurd h9.1 (by omega))]; done) | (rw [if_neg (fun h9 => by (have z9 := h9.2; rw [c_15] at z9; cases z9; done))]; done)), (by first | exact zb_T (Or.inl c_37) | exact zb_T (Or.inr hb_46) | exact zb_F (fun h9 => h9.elim (fun z => by (rw [c_37] at z; cases z; done)) (fun z => z hb_46))), (by simp), (by first | assumption | rfl | omega), (by first | omega | (exfalso; rw [c_15] at c_37; cases c_37)), rfl, rfl⟩ dX10_sign_79

abbrev wz_X10_number : List Cond := .code yX10_number cX10_number 5 (some .int) :: W0
abbrev rm_X10_number : Room := { frames := 2, cells := 0, slots := 0, locals := 45 }
theorem hd_X10_number : yX10_number.cls = RX10 ∧ yX10_number.cls ≠ "java/lang/invoke/MethodHandle" ∧ yX10_number.cls ≠ "java/lang/invoke/VarHandle" ∧ (parseMethodDescriptor yX10_number.desc).map (fun d => d.parameters.length) = some 2 := by decide +kernel
set_option maxHeartbeats 4000000 in
set_option maxRecDepth 100000 in
theorem c_X10_number (l : Launch) (D : va_G) (τ : Nat → Nat) (β : Nat → Nat) (δ : Nat → ClassId) (ms : IA) (mb : IA) (mo : IA) (mp : BA) (mf : IA) (mn : IA) (mi : IA) (mc : IA) (mq : BA) (mr : IA) (mw : IA) (mk : Int) (ml : Int) (mt : Int) (ma : Int) (mx : Bool) (mh : Int64) (ls9 : Int) (mo9 : Int) (hml9 : 0 ≤ ml ∧ ml ≤ 60) (hmf : ∀ k, 0 ≤ k → k < ml → 33 ≤ mf k ∧ mf k ≤ 126) (hat : 0 ≤ ma ∧ ma ≤ ml) (hls : 0 ≤ ls9 ∧ ls9 ≤ 1) (hmo : 0 ≤ mo9 ∧ mo9 ≤ 99) : cM l yX10_number wz_X10_number rm_X10_number D τ (tyM δ) [.ref (β 0), .int (zI ls9), .int (zI mo9)] (wM β δ ms mb mo mp mf mn mi mc mq mr mw mk ml mt ma mx mh) (zQi (fun r w => ∃ (c1 : Int), ∃ (a1 : Int), ∃ (a2 : Int), ∃ (x2 : Bool), ∃ (v : Int), (c1 = sgC mf ml ma mx) ∧ (x2 = true ↔ (mx = true ∨ ¬ (48 + ls9 ≤ c1 ∧ c1 ≤ 57))) ∧ (a1 = if x2 = true then ma else ma + 1) ∧ ((nmM mf ml a1 (c1 - 48) mo9 x2 ∧ v = 10 * (c1 - 48) + mf a1 - 48 ∧ a2 = a1 + 1) ∨ (¬ nmM mf ml a1 (c1 - 48) mo9 x2 ∧ v = c1 - 48 ∧ a2 = a1)) ∧ (0 ≤ a2 ∧ a2 ≤ ml) ∧ (-48 ≤ v ∧ v ≤ 1000) ∧ r = zI v ∧ wM β δ ms mb mo mp mf mn mi mc mq mr mw mk ml mt a2 x2 mh = w)) := by
  refine z_ofM (cc := cX10_number) (maxL := 5) (ret := (some .int)) (by decide +kernel) rfl (Nat.le_of_ble_eq_true rfl) ?_
  intro pg e s m args below meth c hC hr hlk hnm hK hP A hD hG hA hS ls hl Q hQ
  have hx := hC.1
  have hb := hC.2.1
  have hml := hC.2.2.1
  have hown := hC.2.2.2.1
  have hts := hC.2.2.2.2
  have hB : ∀ w ∈ W0, w ∈ wz_X10_number := fun _ h => List.mem_cons_of_mem _ h
  have hW0 : ∀ w ∈ W0, w.before args s = true := fun w h => hts w (hB w h)
  have hl : lv_has ls 5 [(0, .ref (β 0)), (1, .int (zI ls9)), (2, .int (zI mo9))] := hl
  refine lv_aload_n hx hb dX10_number_0 rfl (lv_at hl 0 rfl) ?_
  refine lv_bipush (v := zI 48) hx hb dX10_number_1 (zI_b8 (by decide)) ?_
  refine lv_iload_n hx hb dX10_number_3 rfl (lv_at hl 1 rfl) ?_
  refine z_iadd hx hb dX10_number_4 ?_
  refine lv_bipush (v := zI 57) hx hb dX10_number_5 (zI_b8 (by decide)) ?_
  refine z_calli hP hD hS hA (va_runV (As := [.int (zI (48 + ls9)), .int (zI 57)]) (rest := []) hC (c_X10_sign l D τ β δ ms mb mo mp mf mn mi mc mq mr mw mk ml mt ma mx mh (48 + ls9) 57 (by first | assumption | rfl | omega) (by first | assumption | rfl | omega) (by first | assumption | rfl | omega) (by first | assumption | rfl | omega) (by first | assumption | rfl | omega) _) (cwV 2 hts (gV hB wl_X10_106 wn_X10_sign ws_X10_sign wi_X10 wc_X10_sign) rfl rfl rfl hd_X10_sign ⟨Nat.le_of_ble_eq_true rfl, Nat.le_of_ble_eq_true rfl⟩) (zp_V hK hP hD hS hA hG (ci := 10) (q0 := 0) rfl rfl rfl) rfl rfl hl.1 rfl (lv_room (Nat.le_of_ble_eq_true rfl)) dX10_number_7 ⟨Nat.le_of_ble_eq_true rfl, Nat.le_of_ble_eq_true rfl⟩) (fun r w1 H locs hq9 hP hD hS => ?_)
  obtain ⟨a7_1, x7_2, v7_3, hv7_0, hv7_1, hv7_2, hv7_3, hv7_4, rfl, rfl⟩ := hq9
  have hP : va_P D vwCl (wM β δ ms mb mo mp mf mn mi mc mq mr mw mk ml mt a7_1 x7_2 mh) H := hP
  have hD : va_D A (wM β δ ms mb mo mp mf mn mi mc mq mr mw mk ml mt a7_1 x7_2 mh) := hD
  refine lv_bipush (v := zI 48) hx hb dX10_number_10 (zI_b8 (by decide)) ?_
  refine z_isub hx hb dX10_number_12 ?_
  refine lv_istore_n (lv' := [(3, .int (zI (v7_3 - 48))), (0, .ref (β 0)), (1, .int (zI ls9)), (2, .int (zI mo9))]) hx hb dX10_number_13 rfl hl (by decide) rfl (fun ls hl => ?_)
  refine lv_aload_n hx hb dX10_number_14 rfl (lv_at hl 1 rfl) ?_
  refine va_get (D := D) (ci := 10) (v := .int (bI x7_2)) (C := RX10) (T := TX10) (N := 17) hx hb hts (fun w h => List.mem_cons_of_mem _ (wx_X10 w h)) hown hK hP 0 rfl rfl 10 (by decide) (hW0 _ wf_X10_102) (fun _ h9 => h9) rfl dX10_number_15 ?_
  refine z_ifneB (tgt := 80) hx hb dX10_number_18 (by decide) (fun c_18 => ?_) (fun c_18 => ?_)
  · refine lv_iconst (v := zI 0) hx hb dX10_number_80 rfl ?_
    refine lv_istore (lv' := [(4, .int (zI 0)), (3, .int (zI (v7_3 - 48))), (0, .ref (β 0)), (1, .int (zI ls9)), (2, .int (zI mo9))]) hx hb dX10_number_81 hl (by decide) rfl (fun ls hl => ?_)
    refine lv_iload hx hb dX10_number_83 (lv_at hl 0 rfl) ?_
    refine z_ifeq (tgt := 107) hx hb ⟨by omega, by omega⟩ dX10_number_85 (by decide) (fun c_85 => ?_) (fun c_85 => ?_)
    · refine lv_iload_n hx hb dX10_number_107 rfl (lv_at hl 1 rfl) ?_
      exact z_iret hC hr hlk hQ hP hD hS ⟨v7_3, a7_1, a7_1, x7_2, v7_3 - 48, (by exact hv7_0), (by first | (rw [hxf, ← c_18]; exact hv7_1) | exact hv7_1), (by first | (rw [hxf, ← c_18]; exact hv7_2) | exact hv7_2), (by first | exact Or.inl ⟨⟨hxf, by omega, by omega, hb_52, by omega⟩, by omega, haf⟩ | exact Or.inr ⟨fun ⟨n1, n2, n3, n4, n5⟩ => (by first | (rw [c_18] at n1; cases n1; done) | omega | exact hb_52 n4), rfl, rfl⟩), (by omega), (by omega), rfl, rfl⟩ dX10_number_108
    · exact absurd c_85 (by decide)
  · refine lv_iload_n hx hb dX10_number_21 rfl (lv_at hl 0 rfl) ?_
    refine z_ifle (tgt := 80) hx hb ⟨by omega, by omega⟩ dX10_number_22 (by decide) (fun c_22 => ?_) (fun c_22 => ?_)
    · refine lv_iconst (v := zI 0) hx hb dX10_number_80 rfl ?_
      refine lv_istore (lv' := [(4, .int (zI 0)), (3, .int (zI (v7_3 - 48))), (0, .ref (β 0)), (1, .int (zI ls9)), (2, .int (zI mo9))]) hx hb dX10_number_81 hl (by decide) rfl (fun ls hl => ?_)
      refine lv_iload hx hb dX10_number_83 (lv_at hl 0 rfl) ?_
      refine z_ifeq (tgt := 107) hx hb ⟨by omega, by omega⟩ dX10_number_85 (by decide) (fun c_85 => ?_) (fun c_85 => ?_)
      · refine lv_iload_n hx hb dX10_number_107 rfl (lv_at hl 1 rfl) ?_
        exact z_iret hC hr hlk hQ hP hD hS ⟨v7_3, a7_1, a7_1, x7_2, v7_3 - 48, (by exact hv7_0), (by first | (rw [hxf, ← c_18]; exact hv7_1) | exact hv7_1), (by first | (rw [hxf, ← c_18]; exact hv7_2) | exact hv7_2), (by first | exact Or.inl ⟨⟨hxf, by omega, by omega, hb_52, by omega⟩, by omega, haf⟩ | exact Or.inr ⟨fun ⟨n1, n2, n3, n4, n5⟩ => (by first | (rw [c_18] at n1; cases n1; done) | omega | exact hb_52 n4), rfl, rfl⟩), (by omega), (by omega), rfl, rfl⟩ dX10_number_108
      · exact absurd c_85 (by decide)
    · refine lv_aload_n hx hb dX10_number_25 rfl (lv_at hl 1 rfl) ?_
      refine va_get (D := D) (ci := 10) (v := .int (zI a7_1)) (C := RX10) (T := TX10) (N := 17) hx hb hts (fun w h => List.mem_cons_of_mem _ (wx_X10 w h)) hown hK hP 0 rfl rfl 9 (by decide) (hW0 _ wf_X10_99) (fun _ h9 => h9) rfl dX10_number_26 ?_
      refine lv_aload_n hx hb dX10_number_29 rfl (lv_at hl 1 rfl) ?_
      refine va_get (D := D) (ci := 10) (v := .int (zI ml)) (C := RX10) (T := TX10) (N := 17) hx hb hts (fun w h => List.mem_cons_of_mem _ (wx_X10 w h)) hown hK hP 0 rfl rfl 6 (by decide) (hW0 _ wf_X10_96) (fun _ h9 => h9) rfl dX10_number_30 ?_
      refine z_icge (tgt := 80) hx hb ⟨by omega, by omega⟩ ⟨by omega, by omega⟩ dX10_number_33 (by decide) (fun c_33 => ?_) (fun c_33 => ?_)
      · refine lv_iconst (v := zI 0) hx hb dX10_number_80 rfl ?_
        refine lv_istore (lv' := [(4, .int (zI 0)), (3, .int (zI (v7_3 - 48))), (0, .ref (β 0)), (1, .int (zI ls9)), (2, .int (zI mo9))]) hx hb dX10_number_81 hl (by decide) rfl (fun ls hl => ?_)
        refine lv_iload hx hb dX10_number_83 (lv_at hl 0 rfl) ?_
        refine z_ifeq (tgt := 107) hx hb ⟨by omega, by omega⟩ dX10_number_85 (by decide) (fun c_85 => ?_) (fun c_85 => ?_)
        · refine lv_iload_n hx hb dX10_number_107 rfl (lv_at hl 1 rfl) ?_
          exact z_iret hC hr hlk hQ hP hD hS ⟨v7_3, a7_1, a7_1, x7_2, v7_3 - 48, (by exact hv7_0), (by first | (rw [hxf, ← c_18]; exact hv7_1) | exact hv7_1), (by first | (rw [hxf, ← c_18]; exact hv7_2) | exact hv7_2), (by first | exact Or.inl ⟨⟨hxf, by omega, by omega, hb_52, by omega⟩, by omega, haf⟩ | exact Or.inr ⟨fun ⟨n1, n2, n3, n4, n5⟩ => (by first | (rw [c_18] at n1; cases n1; done) | omega | exact hb_52 n4), rfl, rfl⟩), (by omega), (by omega), rfl, rfl⟩ dX10_number_108
        · exact absurd c_85 (by decide)
      · refine lv_aload_n hx hb dX10_number_36 rfl (lv_at hl 1 rfl) ?_
        refine va_get (D := D) (ci := 10) (v := .ref (β 5)) (C := RX10) (T := TX10) (N := 17) hx hb hts (fun w h => List.mem_cons_of_mem _ (wx_X10 w h)) hown hK hP 0 rfl rfl 5 (by decide) (hW0 _ wf_X10_23) (fun _ h9 => h9) rfl dX10_number_37 ?_
        refine lv_aload_n hx hb dX10_number_40 rfl (lv_at hl 1 rfl) ?_
        refine va_get (D := D) (ci := 10) (v := .int (zI a7_1)) (C := RX10) (T := TX10) (N := 17) hx hb hts (fun w h => List.mem_cons_of_mem _ (wx_X10 w h)) hown hK hP 0 rfl rfl 9 (by decide) (hW0 _ wf_X10_99) (fun _ h9 => h9) rfl dX10_number_41 ?_
        refine z_iald (f := mf) hx hb hK hP 5 4 rfl rfl ⟨⟨by omega, by omega⟩, by decide⟩ dX10_number_44 ?_
        have hb_44 := hmf a7_1 (by omega) (by omega)
        refine lv_bipush (v := zI 48) hx hb dX10_number_45 (zI_b8 (by decide)) ?_
        refine lv_bipush (v := zI 57) hx hb dX10_number_47 (zI_b8 (by decide)) ?_
        refine z_calli hP hD hS hA (va_runS (As := [.int (zI (mf a7_1)), .int (zI 48), .int (zI 57)]) (rest := []) hC (c_X10_in l D τ _ _ (mf a7_1) 48 57 (by first | assumption | rfl | omega) (by first | assumption | rfl | omega) (by first | assumption | rfl | omega) _) (va_cwS 3 hts (gS hB wl_X10_48 wt_X10_in wi_X10 wc_X10_in) rfl rfl rfl hd_X10_in.2 ⟨Nat.le_of_ble_eq_true rfl, Nat.le_of_ble_eq_true rfl⟩) (zp_S hK hP hD hS hA hG) rfl rfl hl.1 rfl (lv_room (Nat.le_of_ble_eq_true rfl)) dX10_number_49 ⟨Nat.le_of_ble_eq_true rfl, Nat.le_of_ble_eq_true rfl⟩) (fun r w1 H locs hq9 hP hD hS => ?_)
        obtain ⟨v49_4, hv49_0, rfl, rfl⟩ := hq9
        refine z_ifeqB (tgt := 80) hx hb dX10_number_52 (by decide) (fun c_52 => ?_) (fun c_52 => ?_)
        · have hb_52 := zb_neg hv49_0 c_52
          refine lv_iconst (v := zI 0) hx hb dX10_number_80 rfl ?_
          refine lv_istore (lv' := [(4, .int (zI 0)), (3, .int (zI (v7_3 - 48))), (0, .ref (β 0)), (1, .int (zI ls9)), (2, .int (zI mo9))]) hx hb dX10_number_81 hl (by decide) rfl (fun ls hl => ?_)
          refine lv_iload hx hb dX10_number_83 (lv_at hl 0 rfl) ?_
          refine z_ifeq (tgt := 107) hx hb ⟨by omega, by omega⟩ dX10_number_85 (by decide) (fun c_85 => ?_) (fun c_85 => ?_)
          · refine lv_iload_n hx hb dX10_number_107 rfl (lv_at hl 1 rfl) ?_
            exact z_iret hC hr hlk hQ hP hD hS ⟨v7_3, a7_1, a7_1, x7_2, v7_3 - 48, (by exact hv7_0), (by first | (rw [hxf, ← c_18]; exact hv7_1) | exact hv7_1), (by first | (rw [hxf, ← c_18]; exact hv7_2) | exact hv7_2), (by first | exact Or.inl ⟨⟨hxf, by omega, by omega, hb_52, by omega⟩, by omega, haf⟩ | exact Or.inr ⟨fun ⟨n1, n2, n3, n4, n5⟩ => (by first | (rw [c_18] at n1; cases n1; done) | omega | exact hb_52 n4), rfl, rfl⟩), (by omega), (by omega), rfl, rfl⟩ dX10_number_108
          · exact absurd c_85 (by decide)
        · have hb_52 := hv49_0.mp c_52
          refine lv_bipush (v := zI 10) hx hb dX10_number_55 (zI_b8 (by decide)) ?_
          refine lv_iload_n hx hb dX10_number_57 rfl (lv_at hl 0 rfl) ?_
          refine z_imul hx hb dX10_number_58 ?_
          refine lv_aload_n hx hb dX10_number_59 rfl (lv_at hl 1 rfl) ?_
          refine va_get (D := D) (ci := 10) (v := .ref (β 5)) (C := RX10) (T := TX10) (N := 17) hx hb hts (fun w h => List.mem_cons_of_mem _ (wx_X10 w h)) hown hK hP 0 rfl rfl 5 (by decide) (hW0 _ wf_X10_23) (fun _ h9 => h9) rfl dX10_number_60 ?_
          refine lv_aload_n hx hb dX10_number_63 rfl (lv_at hl 1 rfl) ?_
          refine va_get (D := D) (ci := 10) (v := .int (zI a7_1)) (C := RX10) (T := TX10) (N := 17) hx hb hts (fun w h => List.mem_cons_of_mem _ (wx_X10 w h)) hown hK hP 0 rfl rfl 9 (by decide) (hW0 _ wf_X10_99) (fun _ h9 => h9) rfl dX10_number_64 ?_
          refine z_iald (f := mf) hx hb hK hP 5 4 rfl rfl ⟨⟨by omega, by omega⟩, by decide⟩ dX10_number_67 ?_
          have hb_67 := hmf a7_1 (by omega) (by omega)
          refine z_iadd hx hb dX10_number_68 ?_
          refine lv_bipush (v := zI 48) hx hb dX10_number_69 (zI_b8 (by decide)) ?_
          refine z_isub hx hb dX10_number_71 ?_
          refine lv_iload_n hx hb dX10_number_72 rfl (lv_at hl 3 rfl) ?_
          refine z_icgt (tgt := 80) hx hb ⟨by omega, by omega⟩ ⟨by omega, by omega⟩ dX10_number_73 (by decide) (fun c_73 => ?_) (fun c_73 => ?_)
          · refine lv_iconst (v := zI 0) hx hb dX10_number_80 rfl ?_
            refine lv_istore (lv' := [(4, .int (zI 0)), (3, .int (zI (v7_3 - 48))), (0, .ref (β 0)), (1, .int (zI ls9)), (2, .int (zI mo9))]) hx hb dX10_number_81 hl (by decide) rfl (fun ls hl => ?_)
            refine lv_iload hx hb dX10_number_83 (lv_at hl 0 rfl) ?_
            refine z_ifeq (tgt := 107) hx hb ⟨by omega, by omega⟩ dX10_number_85 (by decide) (fun c_85 => ?_) (fun c_85 => ?_)
            · refine lv_iload_n hx hb dX10_number_107 rfl (lv_at hl 1 rfl) ?_
              exact z_iret hC hr hlk hQ hP hD hS ⟨v7_3, a7_1, a7_1, x7_2, v7_3 - 48, (by exact hv7_0), (by first | (rw [hxf, ← c_18]; exact hv7_1) | exact hv7_1), (by first | (rw [hxf, ← c_18]; exact hv7_2) | exact hv7_2), (by first | exact Or.inl ⟨⟨hxf, by omega, by omega, hb_52, by omega⟩, by omega, haf⟩ | exact Or.inr ⟨fun ⟨n1, n2, n3, n4, n5⟩ => (by first | (rw [c_18] at n1; cases n1; done) | omega | exact hb_52 n4), rfl, rfl⟩), (by omega), (by omega), rfl, rfl⟩ dX10_number_108
            · exact absurd c_85 (by decide)
          · refine lv_iconst (v := zI 1) hx hb dX10_number_76 rfl ?_
            refine lv_goto (tgt := 81) hx hb dX10_number_77 (by decide) ?_
            refine lv_istore (lv' := [(4, .int (zI 1)), (3, .int (zI (v7_3 - 48))), (0, .ref (β 0)), (1, .int (zI ls9)), (2, .int (zI mo9))]) hx hb dX10_number_81 hl (by decide) rfl (fun ls hl => ?_)
            refine lv_iload hx hb dX10_number_83 (lv_at hl 0 rfl) ?_
            refine z_ifeq (tgt := 107) hx hb ⟨by omega, by omega⟩ dX10_number_85 (by decide) (fun c_85 => ?_) (fun c_85 => ?_)
            · exact absurd c_85 (by decide)
            · refine lv_bipush (v := zI 10) hx hb dX10_number_88 (zI_b8 (by decide)) ?_
              refine lv_iload_n hx hb dX10_number_90 rfl (lv_at hl 1 rfl) ?_
              refine z_imul hx hb dX10_number_91 ?_
              refine lv_aload_n hx hb dX10_number_92 rfl (lv_at hl 2 rfl) ?_
              refine lv_bipush (v := zI 48) hx hb dX10_number_93 (zI_b8 (by decide)) ?_
              refine lv_bipush (v := zI 57) hx hb dX10_number_95 (zI_b8 (by decide)) ?_
              refine z_calli hP hD hS hA (va_runV (As := [.int (zI 48), .int (zI 57)]) (rest := [.int (zI (10 * (v7_3 - 48)))]) hC (c_X10_sign l D τ β δ ms mb mo mp mf mn mi mc mq mr mw mk ml mt a7_1 x7_2 mh 48 57 (by first | assumption | rfl | omega) (by first | assumption | rfl | omega) (by first | assumption | rfl | omega) (by first | assumption | rfl | omega) (by first | assumption | rfl | omega) _) (cwV 2 hts (gV hB wl_X10_106 wn_X10_sign ws_X10_sign wi_X10 wc_X10_sign) rfl rfl rfl hd_X10_sign ⟨Nat.le_of_ble_eq_true rfl, Nat.le_of_ble_eq_true rfl⟩) (zp_V hK hP hD hS hA hG (ci := 10) (q0 := 0) rfl rfl rfl) rfl rfl hl.1 rfl (lv_room (Nat.le_of_ble_eq_true rfl)) dX10_number_97 ⟨Nat.le_of_ble_eq_true rfl, Nat.le_of_ble_eq_true rfl⟩) (fun r w1 H locs hq9 hP hD hS => ?_)
              obtain ⟨a97_5, x97_6, v97_7, hv97_0, hv97_1, hv97_2, hv97_3, hv97_4, rfl, rfl⟩ := hq9
              have hP : va_P D vwCl (wM β δ ms mb mo mp mf mn mi mc mq mr mw mk ml mt a97_5 x97_6 mh) H := hP
              have hD : va_D A (wM β δ ms mb mo mp mf mn mi mc mq mr mw mk ml mt a97_5 x97_6 mh) := hD
              have hsg : v97_7 = mf a7_1 := by rw [hv97_0]; unfold sgC; rw [if_pos ⟨by omega, c_18⟩]
              have hxf : x97_6 = false := Bool.eq_false_iff.mpr (fun z => (hv97_1.mp z).elim (fun w => by (rw [c_18] at w; cases w; done)) (fun w => w (by rw [hsg]; exact hb_52)))
              have haf := hv97_2
              rw [hxf, if_neg (by decide)] at haf
              refine z_iadd hx hb dX10_number_100 ?_
              refine lv_bipush (v := zI 48) hx hb dX10_number_101 (zI_b8 (by decide)) ?_
              refine z_isub hx hb dX10_number_103 ?_
              refine lv_goto (tgt := 108) hx hb dX10_number_104 (by decide) ?_
              exact z_iret hC hr hlk hQ hP hD hS ⟨v7_3, a7_1, a97_5, x97_6, ((10 * (v7_3 - 48)) + v97_7) - 48, (by exact hv7_0), (by first | (rw [hxf, ← c_18]; exact hv7_1) | exact hv7_1), (by first | (rw [hxf, ← c_18]; exact hv7_2) | exact hv7_2), (by first | exact Or.inl ⟨⟨hxf, by omega, by omega, hb_52, by omega⟩, by omega, haf⟩ | exact Or.inr ⟨fun ⟨n1, n2, n3, n4, n5⟩ => (by first | (rw [c_18] at n1; cases n1; done) | omega | exact hb_52 n4), rfl, rfl⟩), (by omega), (by omega), rfl, rfl⟩ dX10_number_108

abbrev wz_X10_order : List Cond := .code yX10_order cX10_order 8 none :: W0
abbrev rm_X10_order : Room := { frames := 4, cells := 0, slots := 0, locals := 91 }
theorem hd_X10_order : yX10_order.cls = RX10 ∧ yX10_order.cls ≠ "java/lang/invoke/MethodHandle" ∧ yX10_order.cls ≠ "java/lang/invoke/VarHandle" ∧ (parseMethodDescriptor yX10_order.desc).map (fun d => d.parameters.length) = some 1 := by decide +kernel
set_option maxHeartbeats 4000000 in
set_option maxRecDepth 100000 in
theorem c_X10_order (l : Launch) (D : va_G) (τ : Nat → Nat) (β : Nat → Nat) (δ : Nat → ClassId) (ms : IA) (mb : IA) (mo : IA) (mp : BA) (mf : IA) (mn : IA) (mi : IA) (mc : IA) (mq : BA) (mr : IA) (mw : IA) (mk : Int) (ml : Int) (mt : Int) (ma : Int) (mx : Bool) (mh : Int64) (le0 : Int) (ro0 : Int) (co0 : Int) (nu0 : Int) (dn : Bool) (hms : ∀ k, 0 ≤ k → k < 49 → 0 ≤ ms k ∧ ms k ≤ 99) (hml9 : 0 ≤ ml ∧ ml ≤ 60) (hmf : ∀ k, 0 ≤ k → k < ml → 33 ≤ mf k ∧ mf k ≤ 126) (hat : 0 ≤ ma ∧ ma ≤ ml) (hmx : mx = false) (hov : OV 0 le0 ro0 co0 nu0) (hdn : dn = true → ∃ e2 : OS, O_run mf ml ma (0, le0, ro0, co0, nu0) = (ml, e2) ∧ 5 ≤ e2.1) : cM l yX10_order wz_X10_order rm_X10_order D τ (tyM δ) [.ref (β 0), .int (bI dn)] (wM β δ ms mb mo mp mf mn mi mc mq mr mw mk ml mt ma mx mh) (zQv (fun w => ∃ (s2 : IA), ∃ (n2 : IA), ∃ (a2 : Int), ∃ (x2 : Bool), (ORD mf ml ma (0, le0, ro0, co0, nu0) dn ms a2 x2 s2) ∧ wM β δ s2 mb mo mp mf n2 mi mc mq mr mw mk ml mt a2 x2 mh = w)) := by
  refine z_ofM (cc := cX10_order) (maxL := 8) (ret := none) (by decide +kernel) rfl (Nat.le_of_ble_eq_true rfl) ?_
  intro pg e s m args below meth c hC hr hlk hnm hK hP A hD hG hA hS ls hl Q hQ
  have hx := hC.1
  have hb := hC.2.1
  have hml := hC.2.2.1
  have hown := hC.2.2.2.1
  have hts := hC.2.2.2.2
  have hB : ∀ w ∈ W0, w ∈ wz_X10_order := fun _ h => List.mem_cons_of_mem _ h
  have hW0 : ∀ w ∈ W0, w.before args s = true := fun w h => hts w (hB w h)
  have hl : lv_has ls 8 [(0, .ref (β 0)), (1, .int (bI dn))] := hl
  refine lv_aload_n hx hb dX10_order_0 rfl (lv_at hl 0 rfl) ?_
  refine va_get (D := D) (ci := 10) (v := .int (zI ma)) (C := RX10) (T := TX10) (N := 17) hx hb hts (fun w h => List.mem_cons_of_mem _ (wx_X10 w h)) hown hK hP 0 rfl rfl 9 (by decide) (hW0 _ wf_X10_99) (fun _ h9 => h9) rfl dX10_order_1 ?_
  refine lv_aload_n hx hb dX10_order_4 rfl (lv_at hl 0 rfl) ?_
  refine va_get (D := D) (ci := 10) (v := .int (zI ml)) (C := RX10) (T := TX10) (N := 17) hx hb hts (fun w h => List.mem_cons_of_mem _ (wx_X10 w h)) hown hK hP 0 rfl rfl 6 (by decide) (hW0 _ wf_X10_96) (fun _ h9 => h9) rfl dX10_order_5 ?_
  refine z_icge (tgt := 30) hx hb ⟨by omega, by omega⟩ ⟨by omega, by omega⟩ dX10_order_8 (by decide) (fun c_8 => ?_) (fun c_8 => ?_)
  · refine lv_iconst (v := zI 0) hx hb dX10_order_30 rfl ?_
    refine lv_istore_n (lv' := [(2, .int (zI 0)), (0, .ref (β 0)), (1, .int (bI dn))]) hx hb dX10_order_31 rfl hl (by decide) rfl (fun ls hl => ?_)
    refine lv_aload_n hx hb dX10_order_32 rfl (lv_at hl 1 rfl) ?_
    refine lv_aload_n hx hb dX10_order_33 rfl (lv_at hl 1 rfl) ?_
    refine va_get (D := D) (ci := 10) (v := .int (bI mx)) (C := RX10) (T := TX10) (N := 17) hx hb hts (fun w h => List.mem_cons_of_mem _ (wx_X10 w h)) hown hK hP 0 rfl rfl 10 (by decide) (hW0 _ wf_X10_102) (fun _ h9 => h9) rfl dX10_order_34 ?_
    refine z_ifneB (tgt := 64) hx hb dX10_order_37 (by decide) (fun c_37 => ?_) (fun c_37 => ?_)
    · exact absurd (hmx.symm.trans c_37) (by decide)
    · refine lv_iload_n hx hb dX10_order_40 rfl (lv_at hl 0 rfl) ?_
      refine lv_bipush (v := zI 115) hx hb dX10_order_41 (zI_b8 (by decide)) ?_
      refine z_iceq (tgt := 68) hx hb ⟨by omega, by omega⟩ ⟨by omega, by omega⟩ dX10_order_43 (by decide) (fun c_43 => ?_) (fun c_43 => ?_)
      · exact absurd c_43 (by decide)
      · refine lv_iload_n hx hb dX10_order_46 rfl (lv_at hl 0 rfl) ?_
        refine lv_bipush (v := zI 104) hx hb dX10_order_47 (zI_b8 (by decide)) ?_
        refine z_iceq (tgt := 68) hx hb ⟨by omega, by omega⟩ ⟨by omega, by omega⟩ dX10_order_49 (by decide) (fun c_49 => ?_) (fun c_49 => ?_)
        · exact absurd c_49 (by decide)
        · refine lv_iload_n hx hb dX10_order_52 rfl (lv_at hl 0 rfl) ?_
          refine lv_bipush (v := zI 100) hx hb dX10_order_53 (zI_b8 (by decide)) ?_
          refine z_iceq (tgt := 68) hx hb ⟨by omega, by omega⟩ ⟨by omega, by omega⟩ dX10_order_55 (by decide) (fun c_55 => ?_) (fun c_55 => ?_)
          · exact absurd c_55 (by decide)
          · refine lv_iload_n hx hb dX10_order_58 rfl (lv_at hl 0 rfl) ?_
            refine lv_bipush (v := zI 126) hx hb dX10_order_59 (zI_b8 (by decide)) ?_
            refine z_iceq (tgt := 68) hx hb ⟨by omega, by omega⟩ ⟨by omega, by omega⟩ dX10_order_61 (by decide) (fun c_61 => ?_) (fun c_61 => ?_)
            · exact absurd c_61 (by decide)
            · refine lv_iconst (v := zI 1) hx hb dX10_order_64 rfl ?_
              refine lv_goto (tgt := 69) hx hb dX10_order_65 (by decide) ?_
              refine va_put (D := D) (ci := 10) (v := .int (bI true)) (ty := .boolean) (C := RX10) (T := TX10) (N := 17) hx hb hts (fun w h => List.mem_cons_of_mem _ (wx_X10 w h)) tyX10 tyX10_ok nmX10 hown hK hP hD hS 0 rfl rfl 10 (by decide) (hW0 _ wf_X10_102) (fun _ h9 => h9) rfl (by decide +kernel) (bI_nar true) (bI_fit true) (Nat.le_of_ble_eq_true rfl) dX10_order_69 (fun H locs hP hD hS => ?_)
              have hP : va_P D vwCl (wM β δ ms mb mo mp mf mn mi mc mq mr mw mk ml mt ma true mh) H := hP
              have hD : va_D A (wM β δ ms mb mo mp mf mn mi mc mq mr mw mk ml mt ma true mh) := hD
              refine lv_aload_n hx hb dX10_order_72 rfl (lv_at hl 1 rfl) ?_
              refine lv_dup hx hb dX10_order_73 rfl ?_
              refine va_get (D := D) (ci := 10) (v := .int (zI ma)) (C := RX10) (T := TX10) (N := 17) hx hb hts (fun w h => List.mem_cons_of_mem _ (wx_X10 w h)) hown hK hP 0 rfl rfl 9 (by decide) (hW0 _ wf_X10_99) (fun _ h9 => h9) rfl dX10_order_74 ?_
              refine lv_aload_n hx hb dX10_order_77 rfl (lv_at hl 1 rfl) ?_
              refine va_get (D := D) (ci := 10) (v := .int (bI true)) (C := RX10) (T := TX10) (N := 17) hx hb hts (fun w h => List.mem_cons_of_mem _ (wx_X10 w h)) hown hK hP 0 rfl rfl 10 (by decide) (hW0 _ wf_X10_102) (fun _ h9 => h9) rfl dX10_order_78 ?_
              refine z_ifeqB (tgt := 88) hx hb dX10_order_81 (by decide) (fun c_81 => ?_) (fun c_81 => ?_)
              · exact absurd c_81 (by decide)
              · refine lv_iconst (v := zI 0) hx hb dX10_order_84 rfl ?_
                refine lv_goto (tgt := 89) hx hb dX10_order_85 (by decide) ?_
                refine z_iadd hx hb dX10_order_89 ?_
                refine va_put (D := D) (ci := 10) (v := .int (zI (ma + 0))) (ty := .int) (C := RX10) (T := TX10) (N := 17) hx hb hts (fun w h => List.mem_cons_of_mem _ (wx_X10 w h)) tyX10 tyX10_ok nmX10 hown hK hP hD hS 0 rfl rfl 9 (by decide) (hW0 _ wf_X10_99) (fun _ h9 => h9) rfl (by decide +kernel) rfl rfl (Nat.le_of_ble_eq_true rfl) dX10_order_90 (fun H locs hP hD hS => ?_)
                have hP : va_P D vwCl (wM β δ ms mb mo mp mf mn mi mc mq mr mw mk ml mt (ma + 0) true mh) H := hP
                have hD : va_D A (wM β δ ms mb mo mp mf mn mi mc mq mr mw mk ml mt (ma + 0) true mh) := hD
                have hL : OI mf ml ma (0, le0, ro0, co0, nu0) (ma + 0) true 1 104 ro0 co0 nu0 := by rw [Int.add_zero]; exact OI_no (by omega) (OI_0 hat hov) (fun h9 z => by have z9 := O_fits0.mp z; omega)
                refine lv_iload_n hx hb dX10_order_93 rfl (lv_at hl 0 rfl) ?_
                refine lv_bipush (v := zI 126) hx hb dX10_order_94 (zI_b8 (by decide)) ?_
                refine z_icne (tgt := 113) hx hb ⟨by omega, by omega⟩ ⟨by omega, by omega⟩ dX10_order_96 (by decide) (fun c_96 => ?_) (fun c_96 => ?_)
                · refine lv_aload_n hx hb dX10_order_113 rfl (lv_at hl 1 rfl) ?_
                  refine lv_bipush (v := zI 48) hx hb dX10_order_114 (zI_b8 (by decide)) ?_
                  refine lv_bipush (v := zI 54) hx hb dX10_order_116 (zI_b8 (by decide)) ?_
                  refine z_calli hP hD hS hA (va_runV (As := [.int (zI 48), .int (zI 54)]) (rest := []) hC (c_X10_sign l D τ β δ ms mb mo mp mf mn mi mc mq mr mw mk ml mt (ma + 0) true mh 48 54 (by first | assumption | rfl | omega) (by first | assumption | rfl | omega) (by first | assumption | rfl | omega) (by first | assumption | rfl | omega) (by first | assumption | rfl | omega) _) (cwV 2 hts (gV hB wl_X10_106 wn_X10_sign ws_X10_sign wi_X10 wc_X10_sign) rfl rfl rfl hd_X10_sign ⟨Nat.le_of_ble_eq_true rfl, Nat.le_of_ble_eq_true rfl⟩) (zp_V hK hP hD hS hA hG (ci := 10) (q0 := 0) rfl rfl rfl) rfl rfl hl.1 rfl (lv_room (Nat.le_of_ble_eq_true rfl)) dX10_order_118 ⟨Nat.le_of_ble_eq_true rfl, Nat.le_of_ble_eq_true rfl⟩) (fun r w1 H locs hq9 hP hD hS => ?_)
                  obtain ⟨a118_1, x118_2, v118_3, hv118_0, hv118_1, hv118_2, hv118_3, hv118_4, rfl, rfl⟩ := hq9
                  have hP : va_P D vwCl (wM β δ ms mb mo mp mf mn mi mc mq mr mw mk ml mt a118_1 x118_2 mh) H := hP
                  have hD : va_D A (wM β δ ms mb mo mp mf mn mi mc mq mr mw mk ml mt a118_1 x118_2 mh) := hD
                  have hR : OI mf ml ma (0, le0, ro0, co0, nu0) a118_1 x118_2 2 (104) (v118_3 - 48) co0 nu0 := OI_sg (by omega) (by omega) (fun c => O_fits12 (Or.inl rfl)) hL hv118_0 hv118_1 hv118_2 O_st1
                  refine lv_bipush (v := zI 48) hx hb dX10_order_121 (zI_b8 (by decide)) ?_
                  refine z_isub hx hb dX10_order_123 ?_
                  refine lv_istore_n (lv' := [(3, .int (zI (v118_3 - 48))), (2, .int (zI 0)), (0, .ref (β 0)), (1, .int (bI dn))]) hx hb dX10_order_124 rfl hl (by decide) rfl (fun ls hl => ?_)
                  refine lv_aload_n hx hb dX10_order_125 rfl (lv_at hl 2 rfl) ?_
                  refine lv_bipush (v := zI 48) hx hb dX10_order_126 (zI_b8 (by decide)) ?_
                  refine lv_bipush (v := zI 54) hx hb dX10_order_128 (zI_b8 (by decide)) ?_
                  refine z_calli hP hD hS hA (va_runV (As := [.int (zI 48), .int (zI 54)]) (rest := []) hC (c_X10_sign l D τ β δ ms mb mo mp mf mn mi mc mq mr mw mk ml mt a118_1 x118_2 mh 48 54 (by first | assumption | rfl | omega) (by first | assumption | rfl | omega) (by first | assumption | rfl | omega) (by first | assumption | rfl | omega) (by first | assumption | rfl | omega) _) (cwV 2 hts (gV hB wl_X10_106 wn_X10_sign ws_X10_sign wi_X10 wc_X10_sign) rfl rfl rfl hd_X10_sign ⟨Nat.le_of_ble_eq_true rfl, Nat.le_of_ble_eq_true rfl⟩) (zp_V hK hP hD hS hA hG (ci := 10) (q0 := 0) rfl rfl rfl) rfl rfl hl.1 rfl (lv_room (Nat.le_of_ble_eq_true rfl)) dX10_order_130 ⟨Nat.le_of_ble_eq_true rfl, Nat.le_of_ble_eq_true rfl⟩) (fun r w1 H locs hq9 hP hD hS => ?_)
                  obtain ⟨a130_4, x130_5, v130_6, hv130_0, hv130_1, hv130_2, hv130_3, hv130_4, rfl, rfl⟩ := hq9
                  have hP : va_P D vwCl (wM β δ ms mb mo mp mf mn mi mc mq mr mw mk ml mt a130_4 x130_5 mh) H := hP
                  have hD : va_D A (wM β δ ms mb mo mp mf mn mi mc mq mr mw mk ml mt a130_4 x130_5 mh) := hD
                  have hCc : OI mf ml ma (0, le0, ro0, co0, nu0) a130_4 x130_5 3 (104) (v118_3 - 48) (v130_6 - 48) nu0 := OI_sg (by omega) (by omega) (fun c => O_fits12 (Or.inr rfl)) hR hv130_0 hv130_1 hv130_2 O_st2
                  refine lv_bipush (v := zI 48) hx hb dX10_order_133 (zI_b8 (by decide)) ?_
                  refine z_isub hx hb dX10_order_135 ?_
                  refine lv_istore (lv' := [(4, .int (zI (v130_6 - 48))), (3, .int (zI (v118_3 - 48))), (2, .int (zI 0)), (0, .ref (β 0)), (1, .int (bI dn))]) hx hb dX10_order_136 hl (by decide) rfl (fun ls hl => ?_)
                  refine lv_iload_n hx hb dX10_order_138 rfl (lv_at hl 2 rfl) ?_
                  refine lv_bipush (v := zI 115) hx hb dX10_order_139 (zI_b8 (by decide)) ?_
                  refine z_icne (tgt := 155) hx hb ⟨by omega, by omega⟩ ⟨by omega, by omega⟩ dX10_order_141 (by decide) (fun c_141 => ?_) (fun c_141 => ?_)
                  · refine lv_aload_n hx hb dX10_order_155 rfl (lv_at hl 3 rfl) ?_
                    refine lv_bipush (v := zI 42) hx hb dX10_order_156 (zI_b8 (by decide)) ?_
                    refine lv_bipush (v := zI 42) hx hb dX10_order_158 (zI_b8 (by decide)) ?_
                    refine z_calli hP hD hS hA (va_runV (As := [.int (zI 42), .int (zI 42)]) (rest := []) hC (c_X10_sign l D τ β δ ms mb mo mp mf mn mi mc mq mr mw mk ml mt a130_4 x130_5 mh 42 42 (by first | assumption | rfl | omega) (by first | assumption | rfl | omega) (by first | assumption | rfl | omega) (by first | assumption | rfl | omega) (by first | assumption | rfl | omega) _) (cwV 2 hts (gV hB wl_X10_106 wn_X10_sign ws_X10_sign wi_X10 wc_X10_sign) rfl rfl rfl hd_X10_sign ⟨Nat.le_of_ble_eq_true rfl, Nat.le_of_ble_eq_true rfl⟩) (zp_V hK hP hD hS hA hG (ci := 10) (q0 := 0) rfl rfl rfl) rfl rfl hl.1 rfl (lv_room (Nat.le_of_ble_eq_true rfl)) dX10_order_160 ⟨Nat.le_of_ble_eq_true rfl, Nat.le_of_ble_eq_true rfl⟩) (fun r w1 H locs hq9 hP hD hS => ?_)
                    obtain ⟨a160_7, x160_8, v160_9, hv160_0, hv160_1, hv160_2, hv160_3, hv160_4, rfl, rfl⟩ := hq9
                    have hP : va_P D vwCl (wM β δ ms mb mo mp mf mn mi mc mq mr mw mk ml mt a160_7 x160_8 mh) H := hP
                    have hD : va_D A (wM β δ ms mb mo mp mf mn mi mc mq mr mw mk ml mt a160_7 x160_8 mh) := hD
                    have hSg : OI mf ml ma (0, le0, ro0, co0, nu0) a160_7 x160_8 4 (104) (v118_3 - 48) (v130_6 - 48) nu0 := OI_sg (by omega) (by omega) (fun c => O_fits3h (by omega)) hCc hv160_0 hv160_1 hv160_2 O_st3
                    refine lv_istore (lv' := [(5, .int (zI v160_9)), (4, .int (zI (v130_6 - 48))), (3, .int (zI (v118_3 - 48))), (2, .int (zI 0)), (0, .ref (β 0)), (1, .int (bI dn))]) hx hb dX10_order_163 hl (by decide) rfl (fun ls hl => ?_)
                    refine lv_iload_n hx hb dX10_order_165 rfl (lv_at hl 3 rfl) ?_
                    refine lv_bipush (v := zI 115) hx hb dX10_order_166 (zI_b8 (by decide)) ?_
                    refine z_icne (tgt := 181) hx hb ⟨by omega, by omega⟩ ⟨by omega, by omega⟩ dX10_order_168 (by decide) (fun c_168 => ?_) (fun c_168 => ?_)
                    · refine lv_aload_n hx hb dX10_order_181 rfl (lv_at hl 4 rfl) ?_
                      refine lv_iconst (v := zI 1) hx hb dX10_order_182 rfl ?_
                      refine lv_bipush (v := zI 60) hx hb dX10_order_183 (zI_b8 (by decide)) ?_
                      refine z_calli hP hD hS hA (va_runV (As := [.int (zI 1), .int (zI 60)]) (rest := []) hC (c_X10_number l D τ β δ ms mb mo mp mf mn mi mc mq mr mw mk ml mt a160_7 x160_8 mh 1 60 (by first | assumption | rfl | omega) (by first | assumption | rfl | omega) (by first | assumption | rfl | omega) (by first | assumption | rfl | omega) (by first | assumption | rfl | omega) _) (cwV 2 hts (gV hB wl_X10_109 wn_X10_number ws_X10_number wi_X10 wc_X10_number) rfl rfl rfl hd_X10_number ⟨Nat.le_of_ble_eq_true rfl, Nat.le_of_ble_eq_true rfl⟩) (zp_V hK hP hD hS hA hG (ci := 10) (q0 := 0) rfl rfl rfl) rfl rfl hl.1 rfl (lv_room (Nat.le_of_ble_eq_true rfl)) dX10_order_185 ⟨Nat.le_of_ble_eq_true rfl, Nat.le_of_ble_eq_true rfl⟩) (fun r w1 H locs hq9 hP hD hS => ?_)
                      obtain ⟨c185_10, a185_11, a185_12, x185_13, v185_14, hv185_0, hv185_1, hv185_2, hv185_3, hv185_4, hv185_5, rfl, rfl⟩ := hq9
                      have hP : va_P D vwCl (wM β δ ms mb mo mp mf mn mi mc mq mr mw mk ml mt a185_12 x185_13 mh) H := hP
                      have hD : va_D A (wM β δ ms mb mo mp mf mn mi mc mq mr mw mk ml mt a185_12 x185_13 mh) := hD
                      obtain ⟨pN, hN, hN5, hN6⟩ := OI_num (by omega) (by unfold O_last; rw [if_neg (by omega)]) hSg hv185_0 (by have z9 := hv185_1; rw [show (48 : Int) + 1 = 49 from rfl] at z9; rw [if_neg (by omega)]; exact z9) hv185_2 hv185_3
                      refine lv_istore (lv' := [(6, .int (zI v185_14)), (5, .int (zI v160_9)), (4, .int (zI (v130_6 - 48))), (3, .int (zI (v118_3 - 48))), (2, .int (zI 0)), (0, .ref (β 0)), (1, .int (bI dn))]) hx hb dX10_order_188 hl (by decide) rfl (fun ls hl => ?_)
                      refine lv_iload_n hx hb dX10_order_190 rfl (lv_at hl 6 rfl) ?_
                      refine z_ifeqB (tgt := 214) hx hb dX10_order_191 (by decide) (fun c_191 => ?_) (fun c_191 => ?_)
                      · refine lv_iload_n hx hb dX10_order_214 rfl (lv_at hl 6 rfl) ?_
                        refine z_ifeqB (tgt := 247) hx hb dX10_order_215 (by decide) (fun c_215 => ?_) (fun c_215 => ?_)
                        · exact z_vret hC hr hlk hQ hP hD hS ⟨ms, mn, a185_12, x185_13, (by first | (rw [c_191]; cases hxx : x185_13; (rw [hxx] at hN; exact ORD_t hms hN hN5 (fun z => hN6 z hxx) (fun _ => rfl) (fun z => by cases z; done)); (rw [hxx] at hN; exact ORD_w hms hN)) | (have hcar := hcar9; rw [hxf]; exact ORD_t (by rw [hcar]; exact O_carry_b hms) hNf hN5 (fun z => hN6 z hxf) (fun z => by (rw [c_191] at z; cases z; done)) (fun _ => hcar))), rfl⟩ dX10_order_247
                        · exact absurd (c_191.symm.trans c_215) (by decide)
                      · exact absurd (OI_nx hL (hdn c_191)) (by decide)
                    · exact absurd c_168 (by decide)
                  · exact absurd c_141 (by decide)
                · exact absurd c_96 (by decide)
  · refine lv_aload_n hx hb dX10_order_11 rfl (lv_at hl 0 rfl) ?_
    refine va_get (D := D) (ci := 10) (v := .int (bI mx)) (C := RX10) (T := TX10) (N := 17) hx hb hts (fun w h => List.mem_cons_of_mem _ (wx_X10 w h)) hown hK hP 0 rfl rfl 10 (by decide) (hW0 _ wf_X10_102) (fun _ h9 => h9) rfl dX10_order_12 ?_
    refine z_ifneB (tgt := 30) hx hb dX10_order_15 (by decide) (fun c_15 => ?_) (fun c_15 => ?_)
    · exact absurd (hmx.symm.trans c_15) (by decide)
    · refine lv_aload_n hx hb dX10_order_18 rfl (lv_at hl 0 rfl) ?_
      refine va_get (D := D) (ci := 10) (v := .ref (β 5)) (C := RX10) (T := TX10) (N := 17) hx hb hts (fun w h => List.mem_cons_of_mem _ (wx_X10 w h)) hown hK hP 0 rfl rfl 5 (by decide) (hW0 _ wf_X10_23) (fun _ h9 => h9) rfl dX10_order_19 ?_
      refine lv_aload_n hx hb dX10_order_22 rfl (lv_at hl 0 rfl) ?_
      refine va_get (D := D) (ci := 10) (v := .int (zI ma)) (C := RX10) (T := TX10) (N := 17) hx hb hts (fun w h => List.mem_cons_of_mem _ (wx_X10 w h)) hown hK hP 0 rfl rfl 9 (by decide) (hW0 _ wf_X10_99) (fun _ h9 => h9) rfl dX10_order_23 ?_
      refine z_iald (f := mf) hx hb hK hP 5 4 rfl rfl ⟨⟨by omega, by omega⟩, by decide⟩ dX10_order_26 ?_
      have hb_26 := hmf ma (by omega) (by omega)
      refine lv_goto (tgt := 31) hx hb dX10_order_27 (by decide) ?_
      refine lv_istore_n (lv' := [(2, .int (zI (mf ma))), (0, .ref (β 0)), (1, .int (bI dn))]) hx hb dX10_order_31 rfl hl (by decide) rfl (fun ls hl => ?_)
      refine lv_aload_n hx hb dX10_order_32 rfl (lv_at hl 1 rfl) ?_
      refine lv_aload_n hx hb dX10_order_33 rfl (lv_at hl 1 rfl) ?_
      refine va_get (D := D) (ci := 10) (v := .int (bI mx)) (C := RX10) (T := TX10) (N := 17) hx hb hts (fun w h => List.mem_cons_of_mem _ (wx_X10 w h)) hown hK hP 0 rfl rfl 10 (by decide) (hW0 _ wf_X10_102) (fun _ h9 => h9) rfl dX10_order_34 ?_
      refine z_ifneB (tgt := 64) hx hb dX10_order_37 (by decide) (fun c_37 => ?_) (fun c_37 => ?_)
      · exact absurd (hmx.symm.trans c_37) (by decide)
      · refine lv_iload_n hx hb dX10_order_40 rfl (lv_at hl 0 rfl) ?_
        refine lv_bipush (v := zI 115) hx hb dX10_order_41 (zI_b8 (by decide)) ?_
        refine z_iceq (tgt := 68) hx hb ⟨by omega, by omega⟩ ⟨by omega, by omega⟩ dX10_order_43 (by decide) (fun c_43 => ?_) (fun c_43 => ?_)
        · refine lv_iconst (v := zI 0) hx hb dX10_order_68 rfl ?_
          refine va_put (D := D) (ci := 10) (v := .int (bI false)) (ty := .boolean) (C := RX10) (T := TX10) (N := 17) hx hb hts (fun w h => List.mem_cons_of_mem _ (wx_X10 w h)) tyX10 tyX10_ok nmX10 hown hK hP hD hS 0 rfl rfl 10 (by decide) (hW0 _ wf_X10_102) (fun _ h9 => h9) rfl (by decide +kernel) (bI_nar false) (bI_fit false) (Nat.le_of_ble_eq_true rfl) dX10_order_69 (fun H locs hP hD hS => ?_)
          have hP : va_P D vwCl (wM β δ ms mb mo mp mf mn mi mc mq mr mw mk ml mt ma false mh) H := hP
          have hD : va_D A (wM β δ ms mb mo mp mf mn mi mc mq mr mw mk ml mt ma false mh) := hD
          refine lv_aload_n hx hb dX10_order_72 rfl (lv_at hl 1 rfl) ?_
          refine lv_dup hx hb dX10_order_73 rfl ?_
          refine va_get (D := D) (ci := 10) (v := .int (zI ma)) (C := RX10) (T := TX10) (N := 17) hx hb hts (fun w h => List.mem_cons_of_mem _ (wx_X10 w h)) hown hK hP 0 rfl rfl 9 (by decide) (hW0 _ wf_X10_99) (fun _ h9 => h9) rfl dX10_order_74 ?_
          refine lv_aload_n hx hb dX10_order_77 rfl (lv_at hl 1 rfl) ?_
          refine va_get (D := D) (ci := 10) (v := .int (bI false)) (C := RX10) (T := TX10) (N := 17) hx hb hts (fun w h => List.mem_cons_of_mem _ (wx_X10 w h)) hown hK hP 0 rfl rfl 10 (by decide) (hW0 _ wf_X10_102) (fun _ h9 => h9) rfl dX10_order_78 ?_
          refine z_ifeqB (tgt := 88) hx hb dX10_order_81 (by decide) (fun c_81 => ?_) (fun c_81 => ?_)
          · refine lv_iconst (v := zI 1) hx hb dX10_order_88 rfl ?_
            refine z_iadd hx hb dX10_order_89 ?_
            refine va_put (D := D) (ci := 10) (v := .int (zI (ma + 1))) (ty := .int) (C := RX10) (T := TX10) (N := 17) hx hb hts (fun w h => List.mem_cons_of_mem _ (wx_X10 w h)) tyX10 tyX10_ok nmX10 hown hK hP hD hS 0 rfl rfl 9 (by decide) (hW0 _ wf_X10_99) (fun _ h9 => h9) rfl (by decide +kernel) rfl rfl (Nat.le_of_ble_eq_true rfl) dX10_order_90 (fun H locs hP hD hS => ?_)
            have hP : va_P D vwCl (wM β δ ms mb mo mp mf mn mi mc mq mr mw mk ml mt (ma + 1) false mh) H := hP
            have hD : va_D A (wM β δ ms mb mo mp mf mn mi mc mq mr mw mk ml mt (ma + 1) false mh) := hD
            have hL : OI mf ml ma (0, le0, ro0, co0, nu0) (ma + 1) false 1 (mf ma) ro0 co0 nu0 := OI_up (by omega) (OI_0 hat hov) (by omega) (O_fits0.mpr (by omega)) (O_st0 (by omega))
            refine lv_iload_n hx hb dX10_order_93 rfl (lv_at hl 0 rfl) ?_
            refine lv_bipush (v := zI 126) hx hb dX10_order_94 (zI_b8 (by decide)) ?_
            refine z_icne (tgt := 113) hx hb ⟨by omega, by omega⟩ ⟨by omega, by omega⟩ dX10_order_96 (by decide) (fun c_96 => ?_) (fun c_96 => ?_)
            · refine lv_aload_n hx hb dX10_order_113 rfl (lv_at hl 1 rfl) ?_
              refine lv_bipush (v := zI 48) hx hb dX10_order_114 (zI_b8 (by decide)) ?_
              refine lv_bipush (v := zI 54) hx hb dX10_order_116 (zI_b8 (by decide)) ?_
              refine z_calli hP hD hS hA (va_runV (As := [.int (zI 48), .int (zI 54)]) (rest := []) hC (c_X10_sign l D τ β δ ms mb mo mp mf mn mi mc mq mr mw mk ml mt (ma + 1) false mh 48 54 (by first | assumption | rfl | omega) (by first | assumption | rfl | omega) (by first | assumption | rfl | omega) (by first | assumption | rfl | omega) (by first | assumption | rfl | omega) _) (cwV 2 hts (gV hB wl_X10_106 wn_X10_sign ws_X10_sign wi_X10 wc_X10_sign) rfl rfl rfl hd_X10_sign ⟨Nat.le_of_ble_eq_true rfl, Nat.le_of_ble_eq_true rfl⟩) (zp_V hK hP hD hS hA hG (ci := 10) (q0 := 0) rfl rfl rfl) rfl rfl hl.1 rfl (lv_room (Nat.le_of_ble_eq_true rfl)) dX10_order_118 ⟨Nat.le_of_ble_eq_true rfl, Nat.le_of_ble_eq_true rfl⟩) (fun r w1 H locs hq9 hP hD hS => ?_)
              obtain ⟨a118_15, x118_16, v118_17, hv118_0, hv118_1, hv118_2, hv118_3, hv118_4, rfl, rfl⟩ := hq9
              have hP : va_P D vwCl (wM β δ ms mb mo mp mf mn mi mc mq mr mw mk ml mt a118_15 x118_16 mh) H := hP
              have hD : va_D A (wM β δ ms mb mo mp mf mn mi mc mq mr mw mk ml mt a118_15 x118_16 mh) := hD
              have hR : OI mf ml ma (0, le0, ro0, co0, nu0) a118_15 x118_16 2 (mf ma) (v118_17 - 48) co0 nu0 := OI_sg (by omega) (by omega) (fun c => O_fits12 (Or.inl rfl)) hL hv118_0 hv118_1 hv118_2 O_st1
              refine lv_bipush (v := zI 48) hx hb dX10_order_121 (zI_b8 (by decide)) ?_
              refine z_isub hx hb dX10_order_123 ?_
              refine lv_istore_n (lv' := [(3, .int (zI (v118_17 - 48))), (2, .int (zI (mf ma))), (0, .ref (β 0)), (1, .int (bI dn))]) hx hb dX10_order_124 rfl hl (by decide) rfl (fun ls hl => ?_)
              refine lv_aload_n hx hb dX10_order_125 rfl (lv_at hl 2 rfl) ?_
              refine lv_bipush (v := zI 48) hx hb dX10_order_126 (zI_b8 (by decide)) ?_
              refine lv_bipush (v := zI 54) hx hb dX10_order_128 (zI_b8 (by decide)) ?_
              refine z_calli hP hD hS hA (va_runV (As := [.int (zI 48), .int (zI 54)]) (rest := []) hC (c_X10_sign l D τ β δ ms mb mo mp mf mn mi mc mq mr mw mk ml mt a118_15 x118_16 mh 48 54 (by first | assumption | rfl | omega) (by first | assumption | rfl | omega) (by first | assumption | rfl | omega) (by first | assumption | rfl | omega) (by first | assumption | rfl | omega) _) (cwV 2 hts (gV hB wl_X10_106 wn_X10_sign ws_X10_sign wi_X10 wc_X10_sign) rfl rfl rfl hd_X10_sign ⟨Nat.le_of_ble_eq_true rfl, Nat.le_of_ble_eq_true rfl⟩) (zp_V hK hP hD hS hA hG (ci := 10) (q0 := 0) rfl rfl rfl) rfl rfl hl.1 rfl (lv_room (Nat.le_of_ble_eq_true rfl)) dX10_order_130 ⟨Nat.le_of_ble_eq_true rfl, Nat.le_of_ble_eq_true rfl⟩) (fun r w1 H locs hq9 hP hD hS => ?_)
              obtain ⟨a130_18, x130_19, v130_20, hv130_0, hv130_1, hv130_2, hv130_3, hv130_4, rfl, rfl⟩ := hq9
              have hP : va_P D vwCl (wM β δ ms mb mo mp mf mn mi mc mq mr mw mk ml mt a130_18 x130_19 mh) H := hP
              have hD : va_D A (wM β δ ms mb mo mp mf mn mi mc mq mr mw mk ml mt a130_18 x130_19 mh) := hD
              have hCc : OI mf ml ma (0, le0, ro0, co0, nu0) a130_18 x130_19 3 (mf ma) (v118_17 - 48) (v130_20 - 48) nu0 := OI_sg (by omega) (by omega) (fun c => O_fits12 (Or.inr rfl)) hR hv130_0 hv130_1 hv130_2 O_st2
              refine lv_bipush (v := zI 48) hx hb dX10_order_133 (zI_b8 (by decide)) ?_
              refine z_isub hx hb dX10_order_135 ?_
              refine lv_istore (lv' := [(4, .int (zI (v130_20 - 48))), (3, .int (zI (v118_17 - 48))), (2, .int (zI (mf ma))), (0, .ref (β 0)), (1, .int (bI dn))]) hx hb dX10_order_136 hl (by decide) rfl (fun ls hl => ?_)
              refine lv_iload_n hx hb dX10_order_138 rfl (lv_at hl 2 rfl) ?_
              refine lv_bipush (v := zI 115) hx hb dX10_order_139 (zI_b8 (by decide)) ?_
              refine z_icne (tgt := 155) hx hb ⟨by omega, by omega⟩ ⟨by omega, by omega⟩ dX10_order_141 (by decide) (fun c_141 => ?_) (fun c_141 => ?_)
              · exact absurd c_141 (by omega)
              · refine lv_aload_n hx hb dX10_order_144 rfl (lv_at hl 3 rfl) ?_
                refine lv_bipush (v := zI 61) hx hb dX10_order_145 (zI_b8 (by decide)) ?_
                refine lv_bipush (v := zI 61) hx hb dX10_order_147 (zI_b8 (by decide)) ?_
                refine z_calli hP hD hS hA (va_runV (As := [.int (zI 61), .int (zI 61)]) (rest := []) hC (c_X10_sign l D τ β δ ms mb mo mp mf mn mi mc mq mr mw mk ml mt a130_18 x130_19 mh 61 61 (by first | assumption | rfl | omega) (by first | assumption | rfl | omega) (by first | assumption | rfl | omega) (by first | assumption | rfl | omega) (by first | assumption | rfl | omega) _) (cwV 2 hts (gV hB wl_X10_106 wn_X10_sign ws_X10_sign wi_X10 wc_X10_sign) rfl rfl rfl hd_X10_sign ⟨Nat.le_of_ble_eq_true rfl, Nat.le_of_ble_eq_true rfl⟩) (zp_V hK hP hD hS hA hG (ci := 10) (q0 := 0) rfl rfl rfl) rfl rfl hl.1 rfl (lv_room (Nat.le_of_ble_eq_true rfl)) dX10_order_149 ⟨Nat.le_of_ble_eq_true rfl, Nat.le_of_ble_eq_true rfl⟩) (fun r w1 H locs hq9 hP hD hS => ?_)
                obtain ⟨a149_21, x149_22, v149_23, hv149_0, hv149_1, hv149_2, hv149_3, hv149_4, rfl, rfl⟩ := hq9
                have hP : va_P D vwCl (wM β δ ms mb mo mp mf mn mi mc mq mr mw mk ml mt a149_21 x149_22 mh) H := hP
                have hD : va_D A (wM β δ ms mb mo mp mf mn mi mc mq mr mw mk ml mt a149_21 x149_22 mh) := hD
                refine lv_goto (tgt := 163) hx hb dX10_order_152 (by decide) ?_
                have hSg : OI mf ml ma (0, le0, ro0, co0, nu0) a149_21 x149_22 4 (mf ma) (v118_17 - 48) (v130_20 - 48) nu0 := OI_sg (by omega) (by omega) (fun c => O_fits3s (by omega)) hCc hv149_0 hv149_1 hv149_2 O_st3
                refine lv_istore (lv' := [(5, .int (zI v149_23)), (4, .int (zI (v130_20 - 48))), (3, .int (zI (v118_17 - 48))), (2, .int (zI (mf ma))), (0, .ref (β 0)), (1, .int (bI dn))]) hx hb dX10_order_163 hl (by decide) rfl (fun ls hl => ?_)
                refine lv_iload_n hx hb dX10_order_165 rfl (lv_at hl 3 rfl) ?_
                refine lv_bipush (v := zI 115) hx hb dX10_order_166 (zI_b8 (by decide)) ?_
                refine z_icne (tgt := 181) hx hb ⟨by omega, by omega⟩ ⟨by omega, by omega⟩ dX10_order_168 (by decide) (fun c_168 => ?_) (fun c_168 => ?_)
                · exact absurd c_168 (by omega)
                · refine lv_aload_n hx hb dX10_order_171 rfl (lv_at hl 4 rfl) ?_
                  refine lv_iconst (v := zI 0) hx hb dX10_order_172 rfl ?_
                  refine lv_bipush (v := zI 99) hx hb dX10_order_173 (zI_b8 (by decide)) ?_
                  refine z_calli hP hD hS hA (va_runV (As := [.int (zI 0), .int (zI 99)]) (rest := []) hC (c_X10_number l D τ β δ ms mb mo mp mf mn mi mc mq mr mw mk ml mt a149_21 x149_22 mh 0 99 (by first | assumption | rfl | omega) (by first | assumption | rfl | omega) (by first | assumption | rfl | omega) (by first | assumption | rfl | omega) (by first | assumption | rfl | omega) _) (cwV 2 hts (gV hB wl_X10_109 wn_X10_number ws_X10_number wi_X10 wc_X10_number) rfl rfl rfl hd_X10_number ⟨Nat.le_of_ble_eq_true rfl, Nat.le_of_ble_eq_true rfl⟩) (zp_V hK hP hD hS hA hG (ci := 10) (q0 := 0) rfl rfl rfl) rfl rfl hl.1 rfl (lv_room (Nat.le_of_ble_eq_true rfl)) dX10_order_175 ⟨Nat.le_of_ble_eq_true rfl, Nat.le_of_ble_eq_true rfl⟩) (fun r w1 H locs hq9 hP hD hS => ?_)
                  obtain ⟨c175_24, a175_25, a175_26, x175_27, v175_28, hv175_0, hv175_1, hv175_2, hv175_3, hv175_4, hv175_5, rfl, rfl⟩ := hq9
                  have hP : va_P D vwCl (wM β δ ms mb mo mp mf mn mi mc mq mr mw mk ml mt a175_26 x175_27 mh) H := hP
                  have hD : va_D A (wM β δ ms mb mo mp mf mn mi mc mq mr mw mk ml mt a175_26 x175_27 mh) := hD
                  refine lv_goto (tgt := 188) hx hb dX10_order_178 (by decide) ?_
                  obtain ⟨pN, hN, hN5, hN6⟩ := OI_num (by omega) (by unfold O_last; rw [if_pos (by omega)]) hSg hv175_0 (by have z9 := hv175_1; rw [show (48 : Int) + 0 = 48 from rfl] at z9; rw [if_pos (by omega)]; exact z9) hv175_2 hv175_3
                  refine lv_istore (lv' := [(6, .int (zI v175_28)), (5, .int (zI v149_23)), (4, .int (zI (v130_20 - 48))), (3, .int (zI (v118_17 - 48))), (2, .int (zI (mf ma))), (0, .ref (β 0)), (1, .int (bI dn))]) hx hb dX10_order_188 hl (by decide) rfl (fun ls hl => ?_)
                  refine lv_iload_n hx hb dX10_order_190 rfl (lv_at hl 6 rfl) ?_
                  refine z_ifeqB (tgt := 214) hx hb dX10_order_191 (by decide) (fun c_191 => ?_) (fun c_191 => ?_)
                  · refine lv_iload_n hx hb dX10_order_214 rfl (lv_at hl 6 rfl) ?_
                    refine z_ifeqB (tgt := 247) hx hb dX10_order_215 (by decide) (fun c_215 => ?_) (fun c_215 => ?_)
                    · exact z_vret hC hr hlk hQ hP hD hS ⟨ms, mn, a175_26, x175_27, (by first | (rw [c_191]; cases hxx : x175_27; (rw [hxx] at hN; exact ORD_t hms hN hN5 (fun z => hN6 z hxx) (fun _ => rfl) (fun z => by cases z; done)); (rw [hxx] at hN; exact ORD_w hms hN)) | (have hcar := hcar9; rw [hxf]; exact ORD_t (by rw [hcar]; exact O_carry_b hms) hNf hN5 (fun z => hN6 z hxf) (fun z => by (rw [c_191] at z; cases z; done)) (fun _ => hcar))), rfl⟩ dX10_order_247
                    · exact absurd (c_191.symm.trans c_215) (by decide)
                  · have hxf : x175_27 = false := OI_nx hN (hdn c_191)
                    have hNf := hN
                    rw [hxf] at hNf
                    have hov9 := OI_OV hNf
                    unfold OV at hov9
                    refine lv_iload_n hx hb dX10_order_194 rfl (lv_at hl 4 rfl) ?_
                    refine lv_bipush (v := zI 115) hx hb dX10_order_195 (zI_b8 (by decide)) ?_
                    refine z_icne (tgt := 214) hx hb ⟨by omega, by omega⟩ ⟨by omega, by omega⟩ dX10_order_197 (by decide) (fun c_197 => ?_) (fun c_197 => ?_)
                    · exact absurd c_197 (by omega)
                    · refine lv_aload_n hx hb dX10_order_200 rfl (lv_at hl 5 rfl) ?_
                      refine va_get (D := D) (ci := 10) (v := .ref (β 1)) (C := RX10) (T := TX10) (N := 17) hx hb hts (fun w h => List.mem_cons_of_mem _ (wx_X10 w h)) hown hK hP 0 rfl rfl 0 (by decide) (hW0 _ wf_X10_7) (fun _ h9 => h9) rfl dX10_order_201 ?_
                      refine lv_bipush (v := zI 7) hx hb dX10_order_204 (zI_b8 (by decide)) ?_
                      refine lv_iload_n hx hb dX10_order_206 rfl (lv_at hl 3 rfl) ?_
                      refine z_imul hx hb dX10_order_207 ?_
                      refine lv_iload hx hb dX10_order_208 (lv_at hl 2 rfl) ?_
                      refine z_iadd hx hb dX10_order_210 ?_
                      refine lv_iload hx hb dX10_order_211 (lv_at hl 0 rfl) ?_
                      refine z_iast (f := ms) (v := v175_28) hx hb hK hP hD hS 1 0 rfl rfl ⟨⟨by omega, by omega⟩, by decide⟩ dX10_order_213 (fun H locs hP hD hS => ?_)
                      have hP : va_P D vwCl (wM β δ ((zu ms ((7 * (v118_17 - 48)) + (v130_20 - 48)) v175_28)) mb mo mp mf mn mi mc mq mr mw mk ml mt a175_26 x175_27 mh) H := hP
                      have hD : va_D A (wM β δ ((zu ms ((7 * (v118_17 - 48)) + (v130_20 - 48)) v175_28)) mb mo mp mf mn mi mc mq mr mw mk ml mt a175_26 x175_27 mh) := hD
                      refine lv_iload_n hx hb dX10_order_214 rfl (lv_at hl 6 rfl) ?_
                      refine z_ifeqB (tgt := 247) hx hb dX10_order_215 (by decide) (fun c_215 => ?_) (fun c_215 => ?_)
                      · exact absurd (c_191.symm.trans c_215) (by decide)
                      · refine lv_iload_n hx hb dX10_order_218 rfl (lv_at hl 4 rfl) ?_
                        refine lv_bipush (v := zI 115) hx hb dX10_order_219 (zI_b8 (by decide)) ?_
                        refine z_iceq (tgt := 247) hx hb ⟨by omega, by omega⟩ ⟨by omega, by omega⟩ dX10_order_221 (by decide) (fun c_221 => ?_) (fun c_221 => ?_)
                        · have hcar9 : (zu ms ((7 * (v118_17 - 48)) + (v130_20 - 48)) v175_28) = O_carry (mf ma) (v118_17 - 48) (v130_20 - 48) v175_28 ms := by (rw [show mf ma = 115 by omega]; exact O_carry_s (by omega) (by omega) (by omega))
                          exact z_vret hC hr hlk hQ hP hD hS ⟨zu ms ((7 * (v118_17 - 48)) + (v130_20 - 48)) v175_28, mn, a175_26, x175_27, (by first | (rw [c_191]; cases hxx : x175_27; (rw [hxx] at hN; exact ORD_t hms hN hN5 (fun z => hN6 z hxx) (fun _ => rfl) (fun z => by cases z; done)); (rw [hxx] at hN; exact ORD_w hms hN)) | (have hcar := hcar9; rw [hxf]; exact ORD_t (by rw [hcar]; exact O_carry_b hms) hNf hN5 (fun z => hN6 z hxf) (fun z => by (rw [c_191] at z; cases z; done)) (fun _ => hcar))), rfl⟩ dX10_order_247
                        · exact absurd c_221 (by omega)
            · exact absurd c_96 (by omega)
          · exact absurd c_81 (by decide)
        · refine lv_iload_n hx hb dX10_order_46 rfl (lv_at hl 0 rfl) ?_
          refine lv_bipush (v := zI 104) hx hb dX10_order_47 (zI_b8 (by decide)) ?_
          refine z_iceq (tgt := 68) hx hb ⟨by omega, by omega⟩ ⟨by omega, by omega⟩ dX10_order_49 (by decide) (fun c_49 => ?_) (fun c_49 => ?_)
          · refine lv_iconst (v := zI 0) hx hb dX10_order_68 rfl ?_
            refine va_put (D := D) (ci := 10) (v := .int (bI false)) (ty := .boolean) (C := RX10) (T := TX10) (N := 17) hx hb hts (fun w h => List.mem_cons_of_mem _ (wx_X10 w h)) tyX10 tyX10_ok nmX10 hown hK hP hD hS 0 rfl rfl 10 (by decide) (hW0 _ wf_X10_102) (fun _ h9 => h9) rfl (by decide +kernel) (bI_nar false) (bI_fit false) (Nat.le_of_ble_eq_true rfl) dX10_order_69 (fun H locs hP hD hS => ?_)
            have hP : va_P D vwCl (wM β δ ms mb mo mp mf mn mi mc mq mr mw mk ml mt ma false mh) H := hP
            have hD : va_D A (wM β δ ms mb mo mp mf mn mi mc mq mr mw mk ml mt ma false mh) := hD
            refine lv_aload_n hx hb dX10_order_72 rfl (lv_at hl 1 rfl) ?_
            refine lv_dup hx hb dX10_order_73 rfl ?_
            refine va_get (D := D) (ci := 10) (v := .int (zI ma)) (C := RX10) (T := TX10) (N := 17) hx hb hts (fun w h => List.mem_cons_of_mem _ (wx_X10 w h)) hown hK hP 0 rfl rfl 9 (by decide) (hW0 _ wf_X10_99) (fun _ h9 => h9) rfl dX10_order_74 ?_
            refine lv_aload_n hx hb dX10_order_77 rfl (lv_at hl 1 rfl) ?_
            refine va_get (D := D) (ci := 10) (v := .int (bI false)) (C := RX10) (T := TX10) (N := 17) hx hb hts (fun w h => List.mem_cons_of_mem _ (wx_X10 w h)) hown hK hP 0 rfl rfl 10 (by decide) (hW0 _ wf_X10_102) (fun _ h9 => h9) rfl dX10_order_78 ?_
            refine z_ifeqB (tgt := 88) hx hb dX10_order_81 (by decide) (fun c_81 => ?_) (fun c_81 => ?_)
            · refine lv_iconst (v := zI 1) hx hb dX10_order_88 rfl ?_
              refine z_iadd hx hb dX10_order_89 ?_
              refine va_put (D := D) (ci := 10) (v := .int (zI (ma + 1))) (ty := .int) (C := RX10) (T := TX10) (N := 17) hx hb hts (fun w h => List.mem_cons_of_mem _ (wx_X10 w h)) tyX10 tyX10_ok nmX10 hown hK hP hD hS 0 rfl rfl 9 (by decide) (hW0 _ wf_X10_99) (fun _ h9 => h9) rfl (by decide +kernel) rfl rfl (Nat.le_of_ble_eq_true rfl) dX10_order_90 (fun H locs hP hD hS => ?_)
              have hP : va_P D vwCl (wM β δ ms mb mo mp mf mn mi mc mq mr mw mk ml mt (ma + 1) false mh) H := hP
              have hD : va_D A (wM β δ ms mb mo mp mf mn mi mc mq mr mw mk ml mt (ma + 1) false mh) := hD
              have hL : OI mf ml ma (0, le0, ro0, co0, nu0) (ma + 1) false 1 (mf ma) ro0 co0 nu0 := OI_up (by omega) (OI_0 hat hov) (by omega) (O_fits0.mpr (by omega)) (O_st0 (by omega))
              refine lv_iload_n hx hb dX10_order_93 rfl (lv_at hl 0 rfl) ?_
              refine lv_bipush (v := zI 126) hx hb dX10_order_94 (zI_b8 (by decide)) ?_
              refine z_icne (tgt := 113) hx hb ⟨by omega, by omega⟩ ⟨by omega, by omega⟩ dX10_order_96 (by decide) (fun c_96 => ?_) (fun c_96 => ?_)
              · refine lv_aload_n hx hb dX10_order_113 rfl (lv_at hl 1 rfl) ?_
                refine lv_bipush (v := zI 48) hx hb dX10_order_114 (zI_b8 (by decide)) ?_
                refine lv_bipush (v := zI 54) hx hb dX10_order_116 (zI_b8 (by decide)) ?_
                refine z_calli hP hD hS hA (va_runV (As := [.int (zI 48), .int (zI 54)]) (rest := []) hC (c_X10_sign l D τ β δ ms mb mo mp mf mn mi mc mq mr mw mk ml mt (ma + 1) false mh 48 54 (by first | assumption | rfl | omega) (by first | assumption | rfl | omega) (by first | assumption | rfl | omega) (by first | assumption | rfl | omega) (by first | assumption | rfl | omega) _) (cwV 2 hts (gV hB wl_X10_106 wn_X10_sign ws_X10_sign wi_X10 wc_X10_sign) rfl rfl rfl hd_X10_sign ⟨Nat.le_of_ble_eq_true rfl, Nat.le_of_ble_eq_true rfl⟩) (zp_V hK hP hD hS hA hG (ci := 10) (q0 := 0) rfl rfl rfl) rfl rfl hl.1 rfl (lv_room (Nat.le_of_ble_eq_true rfl)) dX10_order_118 ⟨Nat.le_of_ble_eq_true rfl, Nat.le_of_ble_eq_true rfl⟩) (fun r w1 H locs hq9 hP hD hS => ?_)
                obtain ⟨a118_29, x118_30, v118_31, hv118_0, hv118_1, hv118_2, hv118_3, hv118_4, rfl, rfl⟩ := hq9
                have hP : va_P D vwCl (wM β δ ms mb mo mp mf mn mi mc mq mr mw mk ml mt a118_29 x118_30 mh) H := hP
                have hD : va_D A (wM β δ ms mb mo mp mf mn mi mc mq mr mw mk ml mt a118_29 x118_30 mh) := hD
                have hR : OI mf ml ma (0, le0, ro0, co0, nu0) a118_29 x118_30 2 (mf ma) (v118_31 - 48) co0 nu0 := OI_sg (by omega) (by omega) (fun c => O_fits12 (Or.inl rfl)) hL hv118_0 hv118_1 hv118_2 O_st1
                refine lv_bipush (v := zI 48) hx hb dX10_order_121 (zI_b8 (by decide)) ?_
                refine z_isub hx hb dX10_order_123 ?_
                refine lv_istore_n (lv' := [(3, .int (zI (v118_31 - 48))), (2, .int (zI (mf ma))), (0, .ref (β 0)), (1, .int (bI dn))]) hx hb dX10_order_124 rfl hl (by decide) rfl (fun ls hl => ?_)
                refine lv_aload_n hx hb dX10_order_125 rfl (lv_at hl 2 rfl) ?_
                refine lv_bipush (v := zI 48) hx hb dX10_order_126 (zI_b8 (by decide)) ?_
                refine lv_bipush (v := zI 54) hx hb dX10_order_128 (zI_b8 (by decide)) ?_
                refine z_calli hP hD hS hA (va_runV (As := [.int (zI 48), .int (zI 54)]) (rest := []) hC (c_X10_sign l D τ β δ ms mb mo mp mf mn mi mc mq mr mw mk ml mt a118_29 x118_30 mh 48 54 (by first | assumption | rfl | omega) (by first | assumption | rfl | omega) (by first | assumption | rfl | omega) (by first | assumption | rfl | omega) (by first | assumption | rfl | omega) _) (cwV 2 hts (gV hB wl_X10_106 wn_X10_sign ws_X10_sign wi_X10 wc_X10_sign) rfl rfl rfl hd_X10_sign ⟨Nat.le_of_ble_eq_true rfl, Nat.le_of_ble_eq_true rfl⟩) (zp_V hK hP hD hS hA hG (ci := 10) (q0 := 0) rfl rfl rfl) rfl rfl hl.1 rfl (lv_room (Nat.le_of_ble_eq_true rfl)) dX10_order_130 ⟨Nat.le_of_ble_eq_true rfl, Nat.le_of_ble_eq_true rfl⟩) (fun r w1 H locs hq9 hP hD hS => ?_)
                obtain ⟨a130_32, x130_33, v130_34, hv130_0, hv130_1, hv130_2, hv130_3, hv130_4, rfl, rfl⟩ := hq9
                have hP : va_P D vwCl (wM β δ ms mb mo mp mf mn mi mc mq mr mw mk ml mt a130_32 x130_33 mh) H := hP
                have hD : va_D A (wM β δ ms mb mo mp mf mn mi mc mq mr mw mk ml mt a130_32 x130_33 mh) := hD
                have hCc : OI mf ml ma (0, le0, ro0, co0, nu0) a130_32 x130_33 3 (mf ma) (v118_31 - 48) (v130_34 - 48) nu0 := OI_sg (by omega) (by omega) (fun c => O_fits12 (Or.inr rfl)) hR hv130_0 hv130_1 hv130_2 O_st2
                refine lv_bipush (v := zI 48) hx hb dX10_order_133 (zI_b8 (by decide)) ?_
                refine z_isub hx hb dX10_order_135 ?_
                refine lv_istore (lv' := [(4, .int (zI (v130_34 - 48))), (3, .int (zI (v118_31 - 48))), (2, .int (zI (mf ma))), (0, .ref (β 0)), (1, .int (bI dn))]) hx hb dX10_order_136 hl (by decide) rfl (fun ls hl => ?_)
                refine lv_iload_n hx hb dX10_order_138 rfl (lv_at hl 2 rfl) ?_
                refine lv_bipush (v := zI 115) hx hb dX10_order_139 (zI_b8 (by decide)) ?_
                refine z_icne (tgt := 155) hx hb ⟨by omega, by omega⟩ ⟨by omega, by omega⟩ dX10_order_141 (by decide) (fun c_141 => ?_) (fun c_141 => ?_)
                · refine lv_aload_n hx hb dX10_order_155 rfl (lv_at hl 3 rfl) ?_
                  refine lv_bipush (v := zI 42) hx hb dX10_order_156 (zI_b8 (by decide)) ?_
                  refine lv_bipush (v := zI 42) hx hb dX10_order_158 (zI_b8 (by decide)) ?_
                  refine z_calli hP hD hS hA (va_runV (As := [.int (zI 42), .int (zI 42)]) (rest := []) hC (c_X10_sign l D τ β δ ms mb mo mp mf mn mi mc mq mr mw mk ml mt a130_32 x130_33 mh 42 42 (by first | assumption | rfl | omega) (by first | assumption | rfl | omega) (by first | assumption | rfl | omega) (by first | assumption | rfl | omega) (by first | assumption | rfl | omega) _) (cwV 2 hts (gV hB wl_X10_106 wn_X10_sign ws_X10_sign wi_X10 wc_X10_sign) rfl rfl rfl hd_X10_sign ⟨Nat.le_of_ble_eq_true rfl, Nat.le_of_ble_eq_true rfl⟩) (zp_V hK hP hD hS hA hG (ci := 10) (q0 := 0) rfl rfl rfl) rfl rfl hl.1 rfl (lv_room (Nat.le_of_ble_eq_true rfl)) dX10_order_160 ⟨Nat.le_of_ble_eq_true rfl, Nat.le_of_ble_eq_true rfl⟩) (fun r w1 H locs hq9 hP hD hS => ?_)
                  obtain ⟨a160_35, x160_36, v160_37, hv160_0, hv160_1, hv160_2, hv160_3, hv160_4, rfl, rfl⟩ := hq9
                  have hP : va_P D vwCl (wM β δ ms mb mo mp mf mn mi mc mq mr mw mk ml mt a160_35 x160_36 mh) H := hP
                  have hD : va_D A (wM β δ ms mb mo mp mf mn mi mc mq mr mw mk ml mt a160_35 x160_36 mh) := hD
                  have hSg : OI mf ml ma (0, le0, ro0, co0, nu0) a160_35 x160_36 4 (mf ma) (v118_31 - 48) (v130_34 - 48) nu0 := OI_sg (by omega) (by omega) (fun c => O_fits3h (by omega)) hCc hv160_0 hv160_1 hv160_2 O_st3
                  refine lv_istore (lv' := [(5, .int (zI v160_37)), (4, .int (zI (v130_34 - 48))), (3, .int (zI (v118_31 - 48))), (2, .int (zI (mf ma))), (0, .ref (β 0)), (1, .int (bI dn))]) hx hb dX10_order_163 hl (by decide) rfl (fun ls hl => ?_)
                  refine lv_iload_n hx hb dX10_order_165 rfl (lv_at hl 3 rfl) ?_
                  refine lv_bipush (v := zI 115) hx hb dX10_order_166 (zI_b8 (by decide)) ?_
                  refine z_icne (tgt := 181) hx hb ⟨by omega, by omega⟩ ⟨by omega, by omega⟩ dX10_order_168 (by decide) (fun c_168 => ?_) (fun c_168 => ?_)
                  · refine lv_aload_n hx hb dX10_order_181 rfl (lv_at hl 4 rfl) ?_
                    refine lv_iconst (v := zI 1) hx hb dX10_order_182 rfl ?_
                    refine lv_bipush (v := zI 60) hx hb dX10_order_183 (zI_b8 (by decide)) ?_
                    refine z_calli hP hD hS hA (va_runV (As := [.int (zI 1), .int (zI 60)]) (rest := []) hC (c_X10_number l D τ β δ ms mb mo mp mf mn mi mc mq mr mw mk ml mt a160_35 x160_36 mh 1 60 (by first | assumption | rfl | omega) (by first | assumption | rfl | omega) (by first | assumption | rfl | omega) (by first | assumption | rfl | omega) (by first | assumption | rfl | omega) _) (cwV 2 hts (gV hB wl_X10_109 wn_X10_number ws_X10_number wi_X10 wc_X10_number) rfl rfl rfl hd_X10_number ⟨Nat.le_of_ble_eq_true rfl, Nat.le_of_ble_eq_true rfl⟩) (zp_V hK hP hD hS hA hG (ci := 10) (q0 := 0) rfl rfl rfl) rfl rfl hl.1 rfl (lv_room (Nat.le_of_ble_eq_true rfl)) dX10_order_185 ⟨Nat.le_of_ble_eq_true rfl, Nat.le_of_ble_eq_true rfl⟩) (fun r w1 H locs hq9 hP hD hS => ?_)
                    obtain ⟨c185_38, a185_39, a185_40, x185_41, v185_42, hv185_0, hv185_1, hv185_2, hv185_3, hv185_4, hv185_5, rfl, rfl⟩ := hq9
                    have hP : va_P D vwCl (wM β δ ms mb mo mp mf mn mi mc mq mr mw mk ml mt a185_40 x185_41 mh) H := hP
                    have hD : va_D A (wM β δ ms mb mo mp mf mn mi mc mq mr mw mk ml mt a185_40 x185_41 mh) := hD
                    obtain ⟨pN, hN, hN5, hN6⟩ := OI_num (by omega) (by unfold O_last; rw [if_neg (by omega)]) hSg hv185_0 (by have z9 := hv185_1; rw [show (48 : Int) + 1 = 49 from rfl] at z9; rw [if_neg (by omega)]; exact z9) hv185_2 hv185_3
                    refine lv_istore (lv' := [(6, .int (zI v185_42)), (5, .int (zI v160_37)), (4, .int (zI (v130_34 - 48))), (3, .int (zI (v118_31 - 48))), (2, .int (zI (mf ma))), (0, .ref (β 0)), (1, .int (bI dn))]) hx hb dX10_order_188 hl (by decide) rfl (fun ls hl => ?_)
                    refine lv_iload_n hx hb dX10_order_190 rfl (lv_at hl 6 rfl) ?_
                    refine z_ifeqB (tgt := 214) hx hb dX10_order_191 (by decide) (fun c_191 => ?_) (fun c_191 => ?_)
                    · refine lv_iload_n hx hb dX10_order_214 rfl (lv_at hl 6 rfl) ?_
                      refine z_ifeqB (tgt := 247) hx hb dX10_order_215 (by decide) (fun c_215 => ?_) (fun c_215 => ?_)
                      · exact z_vret hC hr hlk hQ hP hD hS ⟨ms, mn, a185_40, x185_41, (by first | (rw [c_191]; cases hxx : x185_41; (rw [hxx] at hN; exact ORD_t hms hN hN5 (fun z => hN6 z hxx) (fun _ => rfl) (fun z => by cases z; done)); (rw [hxx] at hN; exact ORD_w hms hN)) | (have hcar := hcar9; rw [hxf]; exact ORD_t (by rw [hcar]; exact O_carry_b hms) hNf hN5 (fun z => hN6 z hxf) (fun z => by (rw [c_191] at z; cases z; done)) (fun _ => hcar))), rfl⟩ dX10_order_247
                      · exact absurd (c_191.symm.trans c_215) (by decide)
                    · have hxf : x185_41 = false := OI_nx hN (hdn c_191)
                      have hNf := hN
                      rw [hxf] at hNf
                      have hov9 := OI_OV hNf
                      unfold OV at hov9
                      refine lv_iload_n hx hb dX10_order_194 rfl (lv_at hl 4 rfl) ?_
                      refine lv_bipush (v := zI 115) hx hb dX10_order_195 (zI_b8 (by decide)) ?_
                      refine z_icne (tgt := 214) hx hb ⟨by omega, by omega⟩ ⟨by omega, by omega⟩ dX10_order_197 (by decide) (fun c_197 => ?_) (fun c_197 => ?_)
                      · refine lv_iload_n hx hb dX10_order_214 rfl (lv_at hl 6 rfl) ?_
                        refine z_ifeqB (tgt := 247) hx hb dX10_order_215 (by decide) (fun c_215 => ?_) (fun c_215 => ?_)
                        · exact absurd (c_191.symm.trans c_215) (by decide)
                        · refine lv_iload_n hx hb dX10_order_218 rfl (lv_at hl 4 rfl) ?_
                          refine lv_bipush (v := zI 115) hx hb dX10_order_219 (zI_b8 (by decide)) ?_
                          refine z_iceq (tgt := 247) hx hb ⟨by omega, by omega⟩ ⟨by omega, by omega⟩ dX10_order_221 (by decide) (fun c_221 => ?_) (fun c_221 => ?_)
                          · exact absurd c_221 (by omega)
                          · refine lv_aload_n hx hb dX10_order_224 rfl (lv_at hl 5 rfl) ?_
                            refine lv_iload_n hx hb dX10_order_225 rfl (lv_at hl 3 rfl) ?_
                            refine lv_iload hx hb dX10_order_226 (lv_at hl 2 rfl) ?_
                            refine lv_iload_n hx hb dX10_order_228 rfl (lv_at hl 4 rfl) ?_
                            refine lv_bipush (v := zI 104) hx hb dX10_order_229 (zI_b8 (by decide)) ?_
                            refine z_icne (tgt := 239) hx hb ⟨by omega, by omega⟩ ⟨by omega, by omega⟩ dX10_order_231 (by decide) (fun c_231 => ?_) (fun c_231 => ?_)
                            · exact absurd c_231 (by omega)
                            · refine lv_iload hx hb dX10_order_234 (lv_at hl 0 rfl) ?_
                              refine lv_goto (tgt := 242) hx hb dX10_order_236 (by decide) ?_
                              refine z_calli hP hD hS hA (va_runV (As := [.int (zI (v118_31 - 48)), .int (zI (v130_34 - 48)), .int (zI v185_42)]) (rest := []) hC (c_X10_heaps l D τ β δ ms mb mo mp mf mn mi mc mq mr mw mk ml mt a185_40 x185_41 mh (v118_31 - 48) (v130_34 - 48) v185_42 (by first | assumption | rfl | omega) (by first | assumption | rfl | omega) (by first | assumption | rfl | omega) (by first | assumption | rfl | omega) _) (cwV 3 hts (gV hB wl_X10_83 wn_X10_heaps ws_X10_heaps wi_X10 wc_X10_heaps) rfl rfl rfl hd_X10_heaps ⟨Nat.le_of_ble_eq_true rfl, Nat.le_of_ble_eq_true rfl⟩) (zp_V hK hP hD hS hA hG (ci := 10) (q0 := 0) rfl rfl rfl) rfl rfl hl.1 rfl (lv_room (Nat.le_of_ble_eq_true rfl)) dX10_order_242 ⟨Nat.le_of_ble_eq_true rfl, Nat.le_of_ble_eq_true rfl⟩) (fun r w1 H locs hq9 hP hD hS => ?_)
                              obtain ⟨s242_43, n242_44, v242_45, hv242_0, hv242_1, hv242_2, rfl, rfl⟩ := hq9
                              have hP : va_P D vwCl (wM β δ s242_43 mb mo mp mf n242_44 mi mc mq mr mw mk ml mt a185_40 x185_41 mh) H := hP
                              have hD : va_D A (wM β δ s242_43 mb mo mp mf n242_44 mi mc mq mr mw mk ml mt a185_40 x185_41 mh) := hD
                              refine lv_istore (lv' := [(7, .int (zI v242_45)), (6, .int (zI v185_42)), (5, .int (zI v160_37)), (4, .int (zI (v130_34 - 48))), (3, .int (zI (v118_31 - 48))), (2, .int (zI (mf ma))), (0, .ref (β 0)), (1, .int (bI dn))]) hx hb dX10_order_245 hl (by decide) rfl (fun ls hl => ?_)
                              have hcar9 : s242_43 = O_carry (mf ma) (v118_31 - 48) (v130_34 - 48) v185_42 ms := by (rw [hv242_0, show mf ma = 104 by omega]; exact O_carry_h)
                              exact z_vret hC hr hlk hQ hP hD hS ⟨s242_43, n242_44, a185_40, x185_41, (by first | (rw [c_191]; cases hxx : x185_41; (rw [hxx] at hN; exact ORD_t hms hN hN5 (fun z => hN6 z hxx) (fun _ => rfl) (fun z => by cases z; done)); (rw [hxx] at hN; exact ORD_w hms hN)) | (have hcar := hcar9; rw [hxf]; exact ORD_t (by rw [hcar]; exact O_carry_b hms) hNf hN5 (fun z => hN6 z hxf) (fun z => by (rw [c_191] at z; cases z; done)) (fun _ => hcar))), rfl⟩ dX10_order_247
                      · exact absurd c_197 (by omega)
                  · exact absurd c_168 (by omega)
                · exact absurd c_141 (by omega)
              · exact absurd c_96 (by omega)
            · exact absurd c_81 (by decide)
          · refine lv_iload_n hx hb dX10_order_52 rfl (lv_at hl 0 rfl) ?_
            refine lv_bipush (v := zI 100) hx hb dX10_order_53 (zI_b8 (by decide)) ?_
            refine z_iceq (tgt := 68) hx hb ⟨by omega, by omega⟩ ⟨by omega, by omega⟩ dX10_order_55 (by decide) (fun c_55 => ?_) (fun c_55 => ?_)
            · refine lv_iconst (v := zI 0) hx hb dX10_order_68 rfl ?_
              refine va_put (D := D) (ci := 10) (v := .int (bI false)) (ty := .boolean) (C := RX10) (T := TX10) (N := 17) hx hb hts (fun w h => List.mem_cons_of_mem _ (wx_X10 w h)) tyX10 tyX10_ok nmX10 hown hK hP hD hS 0 rfl rfl 10 (by decide) (hW0 _ wf_X10_102) (fun _ h9 => h9) rfl (by decide +kernel) (bI_nar false) (bI_fit false) (Nat.le_of_ble_eq_true rfl) dX10_order_69 (fun H locs hP hD hS => ?_)
              have hP : va_P D vwCl (wM β δ ms mb mo mp mf mn mi mc mq mr mw mk ml mt ma false mh) H := hP
              have hD : va_D A (wM β δ ms mb mo mp mf mn mi mc mq mr mw mk ml mt ma false mh) := hD
              refine lv_aload_n hx hb dX10_order_72 rfl (lv_at hl 1 rfl) ?_
              refine lv_dup hx hb dX10_order_73 rfl ?_
              refine va_get (D := D) (ci := 10) (v := .int (zI ma)) (C := RX10) (T := TX10) (N := 17) hx hb hts (fun w h => List.mem_cons_of_mem _ (wx_X10 w h)) hown hK hP 0 rfl rfl 9 (by decide) (hW0 _ wf_X10_99) (fun _ h9 => h9) rfl dX10_order_74 ?_
              refine lv_aload_n hx hb dX10_order_77 rfl (lv_at hl 1 rfl) ?_
              refine va_get (D := D) (ci := 10) (v := .int (bI false)) (C := RX10) (T := TX10) (N := 17) hx hb hts (fun w h => List.mem_cons_of_mem _ (wx_X10 w h)) hown hK hP 0 rfl rfl 10 (by decide) (hW0 _ wf_X10_102) (fun _ h9 => h9) rfl dX10_order_78 ?_
              refine z_ifeqB (tgt := 88) hx hb dX10_order_81 (by decide) (fun c_81 => ?_) (fun c_81 => ?_)
              · refine lv_iconst (v := zI 1) hx hb dX10_order_88 rfl ?_
                refine z_iadd hx hb dX10_order_89 ?_
                refine va_put (D := D) (ci := 10) (v := .int (zI (ma + 1))) (ty := .int) (C := RX10) (T := TX10) (N := 17) hx hb hts (fun w h => List.mem_cons_of_mem _ (wx_X10 w h)) tyX10 tyX10_ok nmX10 hown hK hP hD hS 0 rfl rfl 9 (by decide) (hW0 _ wf_X10_99) (fun _ h9 => h9) rfl (by decide +kernel) rfl rfl (Nat.le_of_ble_eq_true rfl) dX10_order_90 (fun H locs hP hD hS => ?_)
                have hP : va_P D vwCl (wM β δ ms mb mo mp mf mn mi mc mq mr mw mk ml mt (ma + 1) false mh) H := hP
                have hD : va_D A (wM β δ ms mb mo mp mf mn mi mc mq mr mw mk ml mt (ma + 1) false mh) := hD
                have hL : OI mf ml ma (0, le0, ro0, co0, nu0) (ma + 1) false 1 (mf ma) ro0 co0 nu0 := OI_up (by omega) (OI_0 hat hov) (by omega) (O_fits0.mpr (by omega)) (O_st0 (by omega))
                refine lv_iload_n hx hb dX10_order_93 rfl (lv_at hl 0 rfl) ?_
                refine lv_bipush (v := zI 126) hx hb dX10_order_94 (zI_b8 (by decide)) ?_
                refine z_icne (tgt := 113) hx hb ⟨by omega, by omega⟩ ⟨by omega, by omega⟩ dX10_order_96 (by decide) (fun c_96 => ?_) (fun c_96 => ?_)
                · refine lv_aload_n hx hb dX10_order_113 rfl (lv_at hl 1 rfl) ?_
                  refine lv_bipush (v := zI 48) hx hb dX10_order_114 (zI_b8 (by decide)) ?_
                  refine lv_bipush (v := zI 54) hx hb dX10_order_116 (zI_b8 (by decide)) ?_
                  refine z_calli hP hD hS hA (va_runV (As := [.int (zI 48), .int (zI 54)]) (rest := []) hC (c_X10_sign l D τ β δ ms mb mo mp mf mn mi mc mq mr mw mk ml mt (ma + 1) false mh 48 54 (by first | assumption | rfl | omega) (by first | assumption | rfl | omega) (by first | assumption | rfl | omega) (by first | assumption | rfl | omega) (by first | assumption | rfl | omega) _) (cwV 2 hts (gV hB wl_X10_106 wn_X10_sign ws_X10_sign wi_X10 wc_X10_sign) rfl rfl rfl hd_X10_sign ⟨Nat.le_of_ble_eq_true rfl, Nat.le_of_ble_eq_true rfl⟩) (zp_V hK hP hD hS hA hG (ci := 10) (q0 := 0) rfl rfl rfl) rfl rfl hl.1 rfl (lv_room (Nat.le_of_ble_eq_true rfl)) dX10_order_118 ⟨Nat.le_of_ble_eq_true rfl, Nat.le_of_ble_eq_true rfl⟩) (fun r w1 H locs hq9 hP hD hS => ?_)
                  obtain ⟨a118_46, x118_47, v118_48, hv118_0, hv118_1, hv118_2, hv118_3, hv118_4, rfl, rfl⟩ := hq9
                  have hP : va_P D vwCl (wM β δ ms mb mo mp mf mn mi mc mq mr mw mk ml mt a118_46 x118_47 mh) H := hP
                  have hD : va_D A (wM β δ ms mb mo mp mf mn mi mc mq mr mw mk ml mt a118_46 x118_47 mh) := hD
                  have hR : OI mf ml ma (0, le0, ro0, co0, nu0) a118_46 x118_47 2 (mf ma) (v118_48 - 48) co0 nu0 := OI_sg (by omega) (by omega) (fun c => O_fits12 (Or.inl rfl)) hL hv118_0 hv118_1 hv118_2 O_st1
                  refine lv_bipush (v := zI 48) hx hb dX10_order_121 (zI_b8 (by decide)) ?_
                  refine z_isub hx hb dX10_order_123 ?_
                  refine lv_istore_n (lv' := [(3, .int (zI (v118_48 - 48))), (2, .int (zI (mf ma))), (0, .ref (β 0)), (1, .int (bI dn))]) hx hb dX10_order_124 rfl hl (by decide) rfl (fun ls hl => ?_)
                  refine lv_aload_n hx hb dX10_order_125 rfl (lv_at hl 2 rfl) ?_
                  refine lv_bipush (v := zI 48) hx hb dX10_order_126 (zI_b8 (by decide)) ?_
                  refine lv_bipush (v := zI 54) hx hb dX10_order_128 (zI_b8 (by decide)) ?_
                  refine z_calli hP hD hS hA (va_runV (As := [.int (zI 48), .int (zI 54)]) (rest := []) hC (c_X10_sign l D τ β δ ms mb mo mp mf mn mi mc mq mr mw mk ml mt a118_46 x118_47 mh 48 54 (by first | assumption | rfl | omega) (by first | assumption | rfl | omega) (by first | assumption | rfl | omega) (by first | assumption | rfl | omega) (by first | assumption | rfl | omega) _) (cwV 2 hts (gV hB wl_X10_106 wn_X10_sign ws_X10_sign wi_X10 wc_X10_sign) rfl rfl rfl hd_X10_sign ⟨Nat.le_of_ble_eq_true rfl, Nat.le_of_ble_eq_true rfl⟩) (zp_V hK hP hD hS hA hG (ci := 10) (q0 := 0) rfl rfl rfl) rfl rfl hl.1 rfl (lv_room (Nat.le_of_ble_eq_true rfl)) dX10_order_130 ⟨Nat.le_of_ble_eq_true rfl, Nat.le_of_ble_eq_true rfl⟩) (fun r w1 H locs hq9 hP hD hS => ?_)
                  obtain ⟨a130_49, x130_50, v130_51, hv130_0, hv130_1, hv130_2, hv130_3, hv130_4, rfl, rfl⟩ := hq9
                  have hP : va_P D vwCl (wM β δ ms mb mo mp mf mn mi mc mq mr mw mk ml mt a130_49 x130_50 mh) H := hP
                  have hD : va_D A (wM β δ ms mb mo mp mf mn mi mc mq mr mw mk ml mt a130_49 x130_50 mh) := hD
                  have hCc : OI mf ml ma (0, le0, ro0, co0, nu0) a130_49 x130_50 3 (mf ma) (v118_48 - 48) (v130_51 - 48) nu0 := OI_sg (by omega) (by omega) (fun c => O_fits12 (Or.inr rfl)) hR hv130_0 hv130_1 hv130_2 O_st2
                  refine lv_bipush (v := zI 48) hx hb dX10_order_133 (zI_b8 (by decide)) ?_
                  refine z_isub hx hb dX10_order_135 ?_
                  refine lv_istore (lv' := [(4, .int (zI (v130_51 - 48))), (3, .int (zI (v118_48 - 48))), (2, .int (zI (mf ma))), (0, .ref (β 0)), (1, .int (bI dn))]) hx hb dX10_order_136 hl (by decide) rfl (fun ls hl => ?_)
                  refine lv_iload_n hx hb dX10_order_138 rfl (lv_at hl 2 rfl) ?_
                  refine lv_bipush (v := zI 115) hx hb dX10_order_139 (zI_b8 (by decide)) ?_
                  refine z_icne (tgt := 155) hx hb ⟨by omega, by omega⟩ ⟨by omega, by omega⟩ dX10_order_141 (by decide) (fun c_141 => ?_) (fun c_141 => ?_)
                  · refine lv_aload_n hx hb dX10_order_155 rfl (lv_at hl 3 rfl) ?_
                    refine lv_bipush (v := zI 42) hx hb dX10_order_156 (zI_b8 (by decide)) ?_
                    refine lv_bipush (v := zI 42) hx hb dX10_order_158 (zI_b8 (by decide)) ?_
                    refine z_calli hP hD hS hA (va_runV (As := [.int (zI 42), .int (zI 42)]) (rest := []) hC (c_X10_sign l D τ β δ ms mb mo mp mf mn mi mc mq mr mw mk ml mt a130_49 x130_50 mh 42 42 (by first | assumption | rfl | omega) (by first | assumption | rfl | omega) (by first | assumption | rfl | omega) (by first | assumption | rfl | omega) (by first | assumption | rfl | omega) _) (cwV 2 hts (gV hB wl_X10_106 wn_X10_sign ws_X10_sign wi_X10 wc_X10_sign) rfl rfl rfl hd_X10_sign ⟨Nat.le_of_ble_eq_true rfl, Nat.le_of_ble_eq_true rfl⟩) (zp_V hK hP hD hS hA hG (ci := 10) (q0 := 0) rfl rfl rfl) rfl rfl hl.1 rfl (lv_room (Nat.le_of_ble_eq_true rfl)) dX10_order_160 ⟨Nat.le_of_ble_eq_true rfl, Nat.le_of_ble_eq_true rfl⟩) (fun r w1 H locs hq9 hP hD hS => ?_)
                    obtain ⟨a160_52, x160_53, v160_54, hv160_0, hv160_1, hv160_2, hv160_3, hv160_4, rfl, rfl⟩ := hq9
                    have hP : va_P D vwCl (wM β δ ms mb mo mp mf mn mi mc mq mr mw mk ml mt a160_52 x160_53 mh) H := hP
                    have hD : va_D A (wM β δ ms mb mo mp mf mn mi mc mq mr mw mk ml mt a160_52 x160_53 mh) := hD
                    have hSg : OI mf ml ma (0, le0, ro0, co0, nu0) a160_52 x160_53 4 (mf ma) (v118_48 - 48) (v130_51 - 48) nu0 := OI_sg (by omega) (by omega) (fun c => O_fits3h (by omega)) hCc hv160_0 hv160_1 hv160_2 O_st3
                    refine lv_istore (lv' := [(5, .int (zI v160_54)), (4, .int (zI (v130_51 - 48))), (3, .int (zI (v118_48 - 48))), (2, .int (zI (mf ma))), (0, .ref (β 0)), (1, .int (bI dn))]) hx hb dX10_order_163 hl (by decide) rfl (fun ls hl => ?_)
                    refine lv_iload_n hx hb dX10_order_165 rfl (lv_at hl 3 rfl) ?_
                    refine lv_bipush (v := zI 115) hx hb dX10_order_166 (zI_b8 (by decide)) ?_
                    refine z_icne (tgt := 181) hx hb ⟨by omega, by omega⟩ ⟨by omega, by omega⟩ dX10_order_168 (by decide) (fun c_168 => ?_) (fun c_168 => ?_)
                    · refine lv_aload_n hx hb dX10_order_181 rfl (lv_at hl 4 rfl) ?_
                      refine lv_iconst (v := zI 1) hx hb dX10_order_182 rfl ?_
                      refine lv_bipush (v := zI 60) hx hb dX10_order_183 (zI_b8 (by decide)) ?_
                      refine z_calli hP hD hS hA (va_runV (As := [.int (zI 1), .int (zI 60)]) (rest := []) hC (c_X10_number l D τ β δ ms mb mo mp mf mn mi mc mq mr mw mk ml mt a160_52 x160_53 mh 1 60 (by first | assumption | rfl | omega) (by first | assumption | rfl | omega) (by first | assumption | rfl | omega) (by first | assumption | rfl | omega) (by first | assumption | rfl | omega) _) (cwV 2 hts (gV hB wl_X10_109 wn_X10_number ws_X10_number wi_X10 wc_X10_number) rfl rfl rfl hd_X10_number ⟨Nat.le_of_ble_eq_true rfl, Nat.le_of_ble_eq_true rfl⟩) (zp_V hK hP hD hS hA hG (ci := 10) (q0 := 0) rfl rfl rfl) rfl rfl hl.1 rfl (lv_room (Nat.le_of_ble_eq_true rfl)) dX10_order_185 ⟨Nat.le_of_ble_eq_true rfl, Nat.le_of_ble_eq_true rfl⟩) (fun r w1 H locs hq9 hP hD hS => ?_)
                      obtain ⟨c185_55, a185_56, a185_57, x185_58, v185_59, hv185_0, hv185_1, hv185_2, hv185_3, hv185_4, hv185_5, rfl, rfl⟩ := hq9
                      have hP : va_P D vwCl (wM β δ ms mb mo mp mf mn mi mc mq mr mw mk ml mt a185_57 x185_58 mh) H := hP
                      have hD : va_D A (wM β δ ms mb mo mp mf mn mi mc mq mr mw mk ml mt a185_57 x185_58 mh) := hD
                      obtain ⟨pN, hN, hN5, hN6⟩ := OI_num (by omega) (by unfold O_last; rw [if_neg (by omega)]) hSg hv185_0 (by have z9 := hv185_1; rw [show (48 : Int) + 1 = 49 from rfl] at z9; rw [if_neg (by omega)]; exact z9) hv185_2 hv185_3
                      refine lv_istore (lv' := [(6, .int (zI v185_59)), (5, .int (zI v160_54)), (4, .int (zI (v130_51 - 48))), (3, .int (zI (v118_48 - 48))), (2, .int (zI (mf ma))), (0, .ref (β 0)), (1, .int (bI dn))]) hx hb dX10_order_188 hl (by decide) rfl (fun ls hl => ?_)
                      refine lv_iload_n hx hb dX10_order_190 rfl (lv_at hl 6 rfl) ?_
                      refine z_ifeqB (tgt := 214) hx hb dX10_order_191 (by decide) (fun c_191 => ?_) (fun c_191 => ?_)
                      · refine lv_iload_n hx hb dX10_order_214 rfl (lv_at hl 6 rfl) ?_
                        refine z_ifeqB (tgt := 247) hx hb dX10_order_215 (by decide) (fun c_215 => ?_) (fun c_215 => ?_)
                        · exact z_vret hC hr hlk hQ hP hD hS ⟨ms, mn, a185_57, x185_58, (by first | (rw [c_191]; cases hxx : x185_58; (rw [hxx] at hN; exact ORD_t hms hN hN5 (fun z => hN6 z hxx) (fun _ => rfl) (fun z => by cases z; done)); (rw [hxx] at hN; exact ORD_w hms hN)) | (have hcar := hcar9; rw [hxf]; exact ORD_t (by rw [hcar]; exact O_carry_b hms) hNf hN5 (fun z => hN6 z hxf) (fun z => by (rw [c_191] at z; cases z; done)) (fun _ => hcar))), rfl⟩ dX10_order_247
                        · exact absurd (c_191.symm.trans c_215) (by decide)
                      · have hxf : x185_58 = false := OI_nx hN (hdn c_191)
                        have hNf := hN
                        rw [hxf] at hNf
                        have hov9 := OI_OV hNf
                        unfold OV at hov9
                        refine lv_iload_n hx hb dX10_order_194 rfl (lv_at hl 4 rfl) ?_
                        refine lv_bipush (v := zI 115) hx hb dX10_order_195 (zI_b8 (by decide)) ?_
                        refine z_icne (tgt := 214) hx hb ⟨by omega, by omega⟩ ⟨by omega, by omega⟩ dX10_order_197 (by decide) (fun c_197 => ?_) (fun c_197 => ?_)
                        · refine lv_iload_n hx hb dX10_order_214 rfl (lv_at hl 6 rfl) ?_
                          refine z_ifeqB (tgt := 247) hx hb dX10_order_215 (by decide) (fun c_215 => ?_) (fun c_215 => ?_)
                          · exact absurd (c_191.symm.trans c_215) (by decide)
                          · refine lv_iload_n hx hb dX10_order_218 rfl (lv_at hl 4 rfl) ?_
                            refine lv_bipush (v := zI 115) hx hb dX10_order_219 (zI_b8 (by decide)) ?_
                            refine z_iceq (tgt := 247) hx hb ⟨by omega, by omega⟩ ⟨by omega, by omega⟩ dX10_order_221 (by decide) (fun c_221 => ?_) (fun c_221 => ?_)
                            · exact absurd c_221 (by omega)
                            · refine lv_aload_n hx hb dX10_order_224 rfl (lv_at hl 5 rfl) ?_
                              refine lv_iload_n hx hb dX10_order_225 rfl (lv_at hl 3 rfl) ?_
                              refine lv_iload hx hb dX10_order_226 (lv_at hl 2 rfl) ?_
                              refine lv_iload_n hx hb dX10_order_228 rfl (lv_at hl 4 rfl) ?_
                              refine lv_bipush (v := zI 104) hx hb dX10_order_229 (zI_b8 (by decide)) ?_
                              refine z_icne (tgt := 239) hx hb ⟨by omega, by omega⟩ ⟨by omega, by omega⟩ dX10_order_231 (by decide) (fun c_231 => ?_) (fun c_231 => ?_)
                              · refine lv_iload hx hb dX10_order_239 (lv_at hl 0 rfl) ?_
                                refine z_ineg hx hb dX10_order_241 ?_
                                refine z_calli hP hD hS hA (va_runV (As := [.int (zI (v118_48 - 48)), .int (zI (v130_51 - 48)), .int (zI (-v185_59))]) (rest := []) hC (c_X10_heaps l D τ β δ ms mb mo mp mf mn mi mc mq mr mw mk ml mt a185_57 x185_58 mh (v118_48 - 48) (v130_51 - 48) (-v185_59) (by first | assumption | rfl | omega) (by first | assumption | rfl | omega) (by first | assumption | rfl | omega) (by first | assumption | rfl | omega) _) (cwV 3 hts (gV hB wl_X10_83 wn_X10_heaps ws_X10_heaps wi_X10 wc_X10_heaps) rfl rfl rfl hd_X10_heaps ⟨Nat.le_of_ble_eq_true rfl, Nat.le_of_ble_eq_true rfl⟩) (zp_V hK hP hD hS hA hG (ci := 10) (q0 := 0) rfl rfl rfl) rfl rfl hl.1 rfl (lv_room (Nat.le_of_ble_eq_true rfl)) dX10_order_242 ⟨Nat.le_of_ble_eq_true rfl, Nat.le_of_ble_eq_true rfl⟩) (fun r w1 H locs hq9 hP hD hS => ?_)
                                obtain ⟨s242_60, n242_61, v242_62, hv242_0, hv242_1, hv242_2, rfl, rfl⟩ := hq9
                                have hP : va_P D vwCl (wM β δ s242_60 mb mo mp mf n242_61 mi mc mq mr mw mk ml mt a185_57 x185_58 mh) H := hP
                                have hD : va_D A (wM β δ s242_60 mb mo mp mf n242_61 mi mc mq mr mw mk ml mt a185_57 x185_58 mh) := hD
                                refine lv_istore (lv' := [(7, .int (zI v242_62)), (6, .int (zI v185_59)), (5, .int (zI v160_54)), (4, .int (zI (v130_51 - 48))), (3, .int (zI (v118_48 - 48))), (2, .int (zI (mf ma))), (0, .ref (β 0)), (1, .int (bI dn))]) hx hb dX10_order_245 hl (by decide) rfl (fun ls hl => ?_)
                                have hcar9 : s242_60 = O_carry (mf ma) (v118_48 - 48) (v130_51 - 48) v185_59 ms := by (rw [hv242_0, show mf ma = 100 by omega]; exact O_carry_d)
                                exact z_vret hC hr hlk hQ hP hD hS ⟨s242_60, n242_61, a185_57, x185_58, (by first | (rw [c_191]; cases hxx : x185_58; (rw [hxx] at hN; exact ORD_t hms hN hN5 (fun z => hN6 z hxx) (fun _ => rfl) (fun z => by cases z; done)); (rw [hxx] at hN; exact ORD_w hms hN)) | (have hcar := hcar9; rw [hxf]; exact ORD_t (by rw [hcar]; exact O_carry_b hms) hNf hN5 (fun z => hN6 z hxf) (fun z => by (rw [c_191] at z; cases z; done)) (fun _ => hcar))), rfl⟩ dX10_order_247
                              · exact absurd c_231 (by omega)
                        · exact absurd c_197 (by omega)
                    · exact absurd c_168 (by omega)
                  · exact absurd c_141 (by omega)
                · exact absurd c_96 (by omega)
              · exact absurd c_81 (by decide)
            · refine lv_iload_n hx hb dX10_order_58 rfl (lv_at hl 0 rfl) ?_
              refine lv_bipush (v := zI 126) hx hb dX10_order_59 (zI_b8 (by decide)) ?_
              refine z_iceq (tgt := 68) hx hb ⟨by omega, by omega⟩ ⟨by omega, by omega⟩ dX10_order_61 (by decide) (fun c_61 => ?_) (fun c_61 => ?_)
              · refine lv_iconst (v := zI 0) hx hb dX10_order_68 rfl ?_
                refine va_put (D := D) (ci := 10) (v := .int (bI false)) (ty := .boolean) (C := RX10) (T := TX10) (N := 17) hx hb hts (fun w h => List.mem_cons_of_mem _ (wx_X10 w h)) tyX10 tyX10_ok nmX10 hown hK hP hD hS 0 rfl rfl 10 (by decide) (hW0 _ wf_X10_102) (fun _ h9 => h9) rfl (by decide +kernel) (bI_nar false) (bI_fit false) (Nat.le_of_ble_eq_true rfl) dX10_order_69 (fun H locs hP hD hS => ?_)
                have hP : va_P D vwCl (wM β δ ms mb mo mp mf mn mi mc mq mr mw mk ml mt ma false mh) H := hP
                have hD : va_D A (wM β δ ms mb mo mp mf mn mi mc mq mr mw mk ml mt ma false mh) := hD
                refine lv_aload_n hx hb dX10_order_72 rfl (lv_at hl 1 rfl) ?_
                refine lv_dup hx hb dX10_order_73 rfl ?_
                refine va_get (D := D) (ci := 10) (v := .int (zI ma)) (C := RX10) (T := TX10) (N := 17) hx hb hts (fun w h => List.mem_cons_of_mem _ (wx_X10 w h)) hown hK hP 0 rfl rfl 9 (by decide) (hW0 _ wf_X10_99) (fun _ h9 => h9) rfl dX10_order_74 ?_
                refine lv_aload_n hx hb dX10_order_77 rfl (lv_at hl 1 rfl) ?_
                refine va_get (D := D) (ci := 10) (v := .int (bI false)) (C := RX10) (T := TX10) (N := 17) hx hb hts (fun w h => List.mem_cons_of_mem _ (wx_X10 w h)) hown hK hP 0 rfl rfl 10 (by decide) (hW0 _ wf_X10_102) (fun _ h9 => h9) rfl dX10_order_78 ?_
                refine z_ifeqB (tgt := 88) hx hb dX10_order_81 (by decide) (fun c_81 => ?_) (fun c_81 => ?_)
                · refine lv_iconst (v := zI 1) hx hb dX10_order_88 rfl ?_
                  refine z_iadd hx hb dX10_order_89 ?_
                  refine va_put (D := D) (ci := 10) (v := .int (zI (ma + 1))) (ty := .int) (C := RX10) (T := TX10) (N := 17) hx hb hts (fun w h => List.mem_cons_of_mem _ (wx_X10 w h)) tyX10 tyX10_ok nmX10 hown hK hP hD hS 0 rfl rfl 9 (by decide) (hW0 _ wf_X10_99) (fun _ h9 => h9) rfl (by decide +kernel) rfl rfl (Nat.le_of_ble_eq_true rfl) dX10_order_90 (fun H locs hP hD hS => ?_)
                  have hP : va_P D vwCl (wM β δ ms mb mo mp mf mn mi mc mq mr mw mk ml mt (ma + 1) false mh) H := hP
                  have hD : va_D A (wM β δ ms mb mo mp mf mn mi mc mq mr mw mk ml mt (ma + 1) false mh) := hD
                  have hL : OI mf ml ma (0, le0, ro0, co0, nu0) (ma + 1) false 6 (mf ma) ro0 co0 nu0 := OI_up (by omega) (OI_0 hat hov) (by omega) (O_fits0.mpr (by omega)) (O_st0t (by omega))
                  refine lv_iload_n hx hb dX10_order_93 rfl (lv_at hl 0 rfl) ?_
                  refine lv_bipush (v := zI 126) hx hb dX10_order_94 (zI_b8 (by decide)) ?_
                  refine z_icne (tgt := 113) hx hb ⟨by omega, by omega⟩ ⟨by omega, by omega⟩ dX10_order_96 (by decide) (fun c_96 => ?_) (fun c_96 => ?_)
                  · exact absurd c_96 (by omega)
                  · refine lv_iload_n hx hb dX10_order_99 rfl (lv_at hl 2 rfl) ?_
                    refine z_ifeqB (tgt := 110) hx hb dX10_order_100 (by decide) (fun c_100 => ?_) (fun c_100 => ?_)
                    · refine lv_iconst (v := zI 0) hx hb dX10_order_110 rfl ?_
                      refine lv_istore_n (lv' := [(3, .int (zI 0)), (2, .int (zI (mf ma))), (0, .ref (β 0)), (1, .int (bI dn))]) hx hb dX10_order_111 rfl hl (by decide) rfl (fun ls hl => ?_)
                      exact z_vret hC hr hlk hQ hP hD hS ⟨ms, mn, ma + 1, false, (by first | (rw [c_100]; exact ORD_t hms hL (by omega) (fun _ => O_fits6) (fun _ => rfl) (fun z => by cases z; done)) | (have hcar : ms = O_carry (mf ma) ro0 co0 nu0 ms := by (rw [hv104_0, show mf ma = 126 by omega]; exact O_carry_m)); exact ORD_t (by rw [hcar]; exact O_carry_b hms) hL (by omega) (fun _ => O_fits6) (fun z => by (rw [c_100] at z; cases z; done)) (fun _ => hcar)), rfl⟩ dX10_order_112
                    · refine lv_aload_n hx hb dX10_order_103 rfl (lv_at hl 1 rfl) ?_
                      refine z_calli hP hD hS hA (va_runV (As := []) (rest := []) hC (c_X10_smooths l D τ β δ ms mb mo mp mf mn mi mc mq mr mw mk ml mt (ma + 1) false mh (by first | assumption | rfl | omega) _) (cwV 0 hts (gV hB wl_X10_87 wn_X10_smooths ws_X10_smooths wi_X10 wc_X10_smooths) rfl rfl rfl hd_X10_smooths ⟨Nat.le_of_ble_eq_true rfl, Nat.le_of_ble_eq_true rfl⟩) (zp_V hK hP hD hS hA hG (ci := 10) (q0 := 0) rfl rfl rfl) rfl rfl hl.1 rfl (lv_room (Nat.le_of_ble_eq_true rfl)) dX10_order_104 ⟨Nat.le_of_ble_eq_true rfl, Nat.le_of_ble_eq_true rfl⟩) (fun r w1 H locs hq9 hP hD hS => ?_)
                      obtain ⟨s104_63, n104_64, v104_65, hv104_0, hv104_1, hv104_2, rfl, rfl⟩ := hq9
                      have hP : va_P D vwCl (wM β δ s104_63 mb mo mp mf n104_64 mi mc mq mr mw mk ml mt (ma + 1) false mh) H := hP
                      have hD : va_D A (wM β δ s104_63 mb mo mp mf n104_64 mi mc mq mr mw mk ml mt (ma + 1) false mh) := hD
                      refine lv_goto (tgt := 111) hx hb dX10_order_107 (by decide) ?_
                      refine lv_istore_n (lv' := [(3, .int (zI v104_65)), (2, .int (zI (mf ma))), (0, .ref (β 0)), (1, .int (bI dn))]) hx hb dX10_order_111 rfl hl (by decide) rfl (fun ls hl => ?_)
                      exact z_vret hC hr hlk hQ hP hD hS ⟨s104_63, n104_64, ma + 1, false, (by first | (rw [c_100]; exact ORD_t hms hL (by omega) (fun _ => O_fits6) (fun _ => rfl) (fun z => by cases z; done)) | (have hcar : s104_63 = O_carry (mf ma) ro0 co0 nu0 ms := by (rw [hv104_0, show mf ma = 126 by omega]; exact O_carry_m)); exact ORD_t (by rw [hcar]; exact O_carry_b hms) hL (by omega) (fun _ => O_fits6) (fun z => by (rw [c_100] at z; cases z; done)) (fun _ => hcar)), rfl⟩ dX10_order_112
                · exact absurd c_81 (by decide)
              · refine lv_iconst (v := zI 1) hx hb dX10_order_64 rfl ?_
                refine lv_goto (tgt := 69) hx hb dX10_order_65 (by decide) ?_
                refine va_put (D := D) (ci := 10) (v := .int (bI true)) (ty := .boolean) (C := RX10) (T := TX10) (N := 17) hx hb hts (fun w h => List.mem_cons_of_mem _ (wx_X10 w h)) tyX10 tyX10_ok nmX10 hown hK hP hD hS 0 rfl rfl 10 (by decide) (hW0 _ wf_X10_102) (fun _ h9 => h9) rfl (by decide +kernel) (bI_nar true) (bI_fit true) (Nat.le_of_ble_eq_true rfl) dX10_order_69 (fun H locs hP hD hS => ?_)
                have hP : va_P D vwCl (wM β δ ms mb mo mp mf mn mi mc mq mr mw mk ml mt ma true mh) H := hP
                have hD : va_D A (wM β δ ms mb mo mp mf mn mi mc mq mr mw mk ml mt ma true mh) := hD
                refine lv_aload_n hx hb dX10_order_72 rfl (lv_at hl 1 rfl) ?_
                refine lv_dup hx hb dX10_order_73 rfl ?_
                refine va_get (D := D) (ci := 10) (v := .int (zI ma)) (C := RX10) (T := TX10) (N := 17) hx hb hts (fun w h => List.mem_cons_of_mem _ (wx_X10 w h)) hown hK hP 0 rfl rfl 9 (by decide) (hW0 _ wf_X10_99) (fun _ h9 => h9) rfl dX10_order_74 ?_
                refine lv_aload_n hx hb dX10_order_77 rfl (lv_at hl 1 rfl) ?_
                refine va_get (D := D) (ci := 10) (v := .int (bI true)) (C := RX10) (T := TX10) (N := 17) hx hb hts (fun w h => List.mem_cons_of_mem _ (wx_X10 w h)) hown hK hP 0 rfl rfl 10 (by decide) (hW0 _ wf_X10_102) (fun _ h9 => h9) rfl dX10_order_78 ?_
                refine z_ifeqB (tgt := 88) hx hb dX10_order_81 (by decide) (fun c_81 => ?_) (fun c_81 => ?_)
                · exact absurd c_81 (by decide)
                · refine lv_iconst (v := zI 0) hx hb dX10_order_84 rfl ?_
                  refine lv_goto (tgt := 89) hx hb dX10_order_85 (by decide) ?_
                  refine z_iadd hx hb dX10_order_89 ?_
                  refine va_put (D := D) (ci := 10) (v := .int (zI (ma + 0))) (ty := .int) (C := RX10) (T := TX10) (N := 17) hx hb hts (fun w h => List.mem_cons_of_mem _ (wx_X10 w h)) tyX10 tyX10_ok nmX10 hown hK hP hD hS 0 rfl rfl 9 (by decide) (hW0 _ wf_X10_99) (fun _ h9 => h9) rfl (by decide +kernel) rfl rfl (Nat.le_of_ble_eq_true rfl) dX10_order_90 (fun H locs hP hD hS => ?_)
                  have hP : va_P D vwCl (wM β δ ms mb mo mp mf mn mi mc mq mr mw mk ml mt (ma + 0) true mh) H := hP
                  have hD : va_D A (wM β δ ms mb mo mp mf mn mi mc mq mr mw mk ml mt (ma + 0) true mh) := hD
                  have hL : OI mf ml ma (0, le0, ro0, co0, nu0) (ma + 0) true 1 104 ro0 co0 nu0 := by rw [Int.add_zero]; exact OI_no (by omega) (OI_0 hat hov) (fun h9 z => by have z9 := O_fits0.mp z; omega)
                  refine lv_iload_n hx hb dX10_order_93 rfl (lv_at hl 0 rfl) ?_
                  refine lv_bipush (v := zI 126) hx hb dX10_order_94 (zI_b8 (by decide)) ?_
                  refine z_icne (tgt := 113) hx hb ⟨by omega, by omega⟩ ⟨by omega, by omega⟩ dX10_order_96 (by decide) (fun c_96 => ?_) (fun c_96 => ?_)
                  · refine lv_aload_n hx hb dX10_order_113 rfl (lv_at hl 1 rfl) ?_
                    refine lv_bipush (v := zI 48) hx hb dX10_order_114 (zI_b8 (by decide)) ?_
                    refine lv_bipush (v := zI 54) hx hb dX10_order_116 (zI_b8 (by decide)) ?_
                    refine z_calli hP hD hS hA (va_runV (As := [.int (zI 48), .int (zI 54)]) (rest := []) hC (c_X10_sign l D τ β δ ms mb mo mp mf mn mi mc mq mr mw mk ml mt (ma + 0) true mh 48 54 (by first | assumption | rfl | omega) (by first | assumption | rfl | omega) (by first | assumption | rfl | omega) (by first | assumption | rfl | omega) (by first | assumption | rfl | omega) _) (cwV 2 hts (gV hB wl_X10_106 wn_X10_sign ws_X10_sign wi_X10 wc_X10_sign) rfl rfl rfl hd_X10_sign ⟨Nat.le_of_ble_eq_true rfl, Nat.le_of_ble_eq_true rfl⟩) (zp_V hK hP hD hS hA hG (ci := 10) (q0 := 0) rfl rfl rfl) rfl rfl hl.1 rfl (lv_room (Nat.le_of_ble_eq_true rfl)) dX10_order_118 ⟨Nat.le_of_ble_eq_true rfl, Nat.le_of_ble_eq_true rfl⟩) (fun r w1 H locs hq9 hP hD hS => ?_)
                    obtain ⟨a118_66, x118_67, v118_68, hv118_0, hv118_1, hv118_2, hv118_3, hv118_4, rfl, rfl⟩ := hq9
                    have hP : va_P D vwCl (wM β δ ms mb mo mp mf mn mi mc mq mr mw mk ml mt a118_66 x118_67 mh) H := hP
                    have hD : va_D A (wM β δ ms mb mo mp mf mn mi mc mq mr mw mk ml mt a118_66 x118_67 mh) := hD
                    have hR : OI mf ml ma (0, le0, ro0, co0, nu0) a118_66 x118_67 2 (104) (v118_68 - 48) co0 nu0 := OI_sg (by omega) (by omega) (fun c => O_fits12 (Or.inl rfl)) hL hv118_0 hv118_1 hv118_2 O_st1
                    refine lv_bipush (v := zI 48) hx hb dX10_order_121 (zI_b8 (by decide)) ?_
                    refine z_isub hx hb dX10_order_123 ?_
                    refine lv_istore_n (lv' := [(3, .int (zI (v118_68 - 48))), (2, .int (zI (mf ma))), (0, .ref (β 0)), (1, .int (bI dn))]) hx hb dX10_order_124 rfl hl (by decide) rfl (fun ls hl => ?_)
                    refine lv_aload_n hx hb dX10_order_125 rfl (lv_at hl 2 rfl) ?_
                    refine lv_bipush (v := zI 48) hx hb dX10_order_126 (zI_b8 (by decide)) ?_
                    refine lv_bipush (v := zI 54) hx hb dX10_order_128 (zI_b8 (by decide)) ?_
                    refine z_calli hP hD hS hA (va_runV (As := [.int (zI 48), .int (zI 54)]) (rest := []) hC (c_X10_sign l D τ β δ ms mb mo mp mf mn mi mc mq mr mw mk ml mt a118_66 x118_67 mh 48 54 (by first | assumption | rfl | omega) (by first | assumption | rfl | omega) (by first | assumption | rfl | omega) (by first | assumption | rfl | omega) (by first | assumption | rfl | omega) _) (cwV 2 hts (gV hB wl_X10_106 wn_X10_sign ws_X10_sign wi_X10 wc_X10_sign) rfl rfl rfl hd_X10_sign ⟨Nat.le_of_ble_eq_true rfl, Nat.le_of_ble_eq_true rfl⟩) (zp_V hK hP hD hS hA hG (ci := 10) (q0 := 0) rfl rfl rfl) rfl rfl hl.1 rfl (lv_room (Nat.le_of_ble_eq_true rfl)) dX10_order_130 ⟨Nat.le_of_ble_eq_true rfl, Nat.le_of_ble_eq_true rfl⟩) (fun r w1 H locs hq9 hP hD hS => ?_)
                    obtain ⟨a130_69, x130_70, v130_71, hv130_0, hv130_1, hv130_2, hv130_3, hv130_4, rfl, rfl⟩ := hq9
                    have hP : va_P D vwCl (wM β δ ms mb mo mp mf mn mi mc mq mr mw mk ml mt a130_69 x130_70 mh) H := hP
                    have hD : va_D A (wM β δ ms mb mo mp mf mn mi mc mq mr mw mk ml mt a130_69 x130_70 mh) := hD
                    have hCc : OI mf ml ma (0, le0, ro0, co0, nu0) a130_69 x130_70 3 (104) (v118_68 - 48) (v130_71 - 48) nu0 := OI_sg (by omega) (by omega) (fun c => O_fits12 (Or.inr rfl)) hR hv130_0 hv130_1 hv130_2 O_st2
                    refine lv_bipush (v := zI 48) hx hb dX10_order_133 (zI_b8 (by decide)) ?_
                    refine z_isub hx hb dX10_order_135 ?_
                    refine lv_istore (lv' := [(4, .int (zI (v130_71 - 48))), (3, .int (zI (v118_68 - 48))), (2, .int (zI (mf ma))), (0, .ref (β 0)), (1, .int (bI dn))]) hx hb dX10_order_136 hl (by decide) rfl (fun ls hl => ?_)
                    refine lv_iload_n hx hb dX10_order_138 rfl (lv_at hl 2 rfl) ?_
                    refine lv_bipush (v := zI 115) hx hb dX10_order_139 (zI_b8 (by decide)) ?_
                    refine z_icne (tgt := 155) hx hb ⟨by omega, by omega⟩ ⟨by omega, by omega⟩ dX10_order_141 (by decide) (fun c_141 => ?_) (fun c_141 => ?_)
                    · refine lv_aload_n hx hb dX10_order_155 rfl (lv_at hl 3 rfl) ?_
                      refine lv_bipush (v := zI 42) hx hb dX10_order_156 (zI_b8 (by decide)) ?_
                      refine lv_bipush (v := zI 42) hx hb dX10_order_158 (zI_b8 (by decide)) ?_
                      refine z_calli hP hD hS hA (va_runV (As := [.int (zI 42), .int (zI 42)]) (rest := []) hC (c_X10_sign l D τ β δ ms mb mo mp mf mn mi mc mq mr mw mk ml mt a130_69 x130_70 mh 42 42 (by first | assumption | rfl | omega) (by first | assumption | rfl | omega) (by first | assumption | rfl | omega) (by first | assumption | rfl | omega) (by first | assumption | rfl | omega) _) (cwV 2 hts (gV hB wl_X10_106 wn_X10_sign ws_X10_sign wi_X10 wc_X10_sign) rfl rfl rfl hd_X10_sign ⟨Nat.le_of_ble_eq_true rfl, Nat.le_of_ble_eq_true rfl⟩) (zp_V hK hP hD hS hA hG (ci := 10) (q0 := 0) rfl rfl rfl) rfl rfl hl.1 rfl (lv_room (Nat.le_of_ble_eq_true rfl)) dX10_order_160 ⟨Nat.le_of_ble_eq_true rfl, Nat.le_of_ble_eq_true rfl⟩) (fun r w1 H locs hq9 hP hD hS => ?_)
                      obtain ⟨a160_72, x160_73, v160_74, hv160_0, hv160_1, hv160_2, hv160_3, hv160_4, rfl, rfl⟩ := hq9
                      have hP : va_P D vwCl (wM β δ ms mb mo mp mf mn mi mc mq mr mw mk ml mt a160_72 x160_73 mh) H := hP
                      have hD : va_D A (wM β δ ms mb mo mp mf mn mi mc mq mr mw mk ml mt a160_72 x160_73 mh) := hD
                      have hSg : OI mf ml ma (0, le0, ro0, co0, nu0) a160_72 x160_73 4 (104) (v118_68 - 48) (v130_71 - 48) nu0 := OI_sg (by omega) (by omega) (fun c => O_fits3h (by omega)) hCc hv160_0 hv160_1 hv160_2 O_st3
                      refine lv_istore (lv' := [(5, .int (zI v160_74)), (4, .int (zI (v130_71 - 48))), (3, .int (zI (v118_68 - 48))), (2, .int (zI (mf ma))), (0, .ref (β 0)), (1, .int (bI dn))]) hx hb dX10_order_163 hl (by decide) rfl (fun ls hl => ?_)
                      refine lv_iload_n hx hb dX10_order_165 rfl (lv_at hl 3 rfl) ?_
                      refine lv_bipush (v := zI 115) hx hb dX10_order_166 (zI_b8 (by decide)) ?_
                      refine z_icne (tgt := 181) hx hb ⟨by omega, by omega⟩ ⟨by omega, by omega⟩ dX10_order_168 (by decide) (fun c_168 => ?_) (fun c_168 => ?_)
                      · refine lv_aload_n hx hb dX10_order_181 rfl (lv_at hl 4 rfl) ?_
                        refine lv_iconst (v := zI 1) hx hb dX10_order_182 rfl ?_
                        refine lv_bipush (v := zI 60) hx hb dX10_order_183 (zI_b8 (by decide)) ?_
                        refine z_calli hP hD hS hA (va_runV (As := [.int (zI 1), .int (zI 60)]) (rest := []) hC (c_X10_number l D τ β δ ms mb mo mp mf mn mi mc mq mr mw mk ml mt a160_72 x160_73 mh 1 60 (by first | assumption | rfl | omega) (by first | assumption | rfl | omega) (by first | assumption | rfl | omega) (by first | assumption | rfl | omega) (by first | assumption | rfl | omega) _) (cwV 2 hts (gV hB wl_X10_109 wn_X10_number ws_X10_number wi_X10 wc_X10_number) rfl rfl rfl hd_X10_number ⟨Nat.le_of_ble_eq_true rfl, Nat.le_of_ble_eq_true rfl⟩) (zp_V hK hP hD hS hA hG (ci := 10) (q0 := 0) rfl rfl rfl) rfl rfl hl.1 rfl (lv_room (Nat.le_of_ble_eq_true rfl)) dX10_order_185 ⟨Nat.le_of_ble_eq_true rfl, Nat.le_of_ble_eq_true rfl⟩) (fun r w1 H locs hq9 hP hD hS => ?_)
                        obtain ⟨c185_75, a185_76, a185_77, x185_78, v185_79, hv185_0, hv185_1, hv185_2, hv185_3, hv185_4, hv185_5, rfl, rfl⟩ := hq9
                        have hP : va_P D vwCl (wM β δ ms mb mo mp mf mn mi mc mq mr mw mk ml mt a185_77 x185_78 mh) H := hP
                        have hD : va_D A (wM β δ ms mb mo mp mf mn mi mc mq mr mw mk ml mt a185_77 x185_78 mh) := hD
                        obtain ⟨pN, hN, hN5, hN6⟩ := OI_num (by omega) (by unfold O_last; rw [if_neg (by omega)]) hSg hv185_0 (by have z9 := hv185_1; rw [show (48 : Int) + 1 = 49 from rfl] at z9; rw [if_neg (by omega)]; exact z9) hv185_2 hv185_3
                        refine lv_istore (lv' := [(6, .int (zI v185_79)), (5, .int (zI v160_74)), (4, .int (zI (v130_71 - 48))), (3, .int (zI (v118_68 - 48))), (2, .int (zI (mf ma))), (0, .ref (β 0)), (1, .int (bI dn))]) hx hb dX10_order_188 hl (by decide) rfl (fun ls hl => ?_)
                        refine lv_iload_n hx hb dX10_order_190 rfl (lv_at hl 6 rfl) ?_
                        refine z_ifeqB (tgt := 214) hx hb dX10_order_191 (by decide) (fun c_191 => ?_) (fun c_191 => ?_)
                        · refine lv_iload_n hx hb dX10_order_214 rfl (lv_at hl 6 rfl) ?_
                          refine z_ifeqB (tgt := 247) hx hb dX10_order_215 (by decide) (fun c_215 => ?_) (fun c_215 => ?_)
                          · exact z_vret hC hr hlk hQ hP hD hS ⟨ms, mn, a185_77, x185_78, (by first | (rw [c_191]; cases hxx : x185_78; (rw [hxx] at hN; exact ORD_t hms hN hN5 (fun z => hN6 z hxx) (fun _ => rfl) (fun z => by cases z; done)); (rw [hxx] at hN; exact ORD_w hms hN)) | (have hcar := hcar9; rw [hxf]; exact ORD_t (by rw [hcar]; exact O_carry_b hms) hNf hN5 (fun z => hN6 z hxf) (fun z => by (rw [c_191] at z; cases z; done)) (fun _ => hcar))), rfl⟩ dX10_order_247
                          · exact absurd (c_191.symm.trans c_215) (by decide)
                        · exact absurd (OI_nx hL (hdn c_191)) (by decide)
                      · exact absurd c_168 (by omega)
                    · exact absurd c_141 (by omega)
                  · exact absurd c_96 (by omega)

abbrev wz_X10_go : List Cond := .code yX10_go cX10_go 5 (some .int) :: W0
abbrev rm_X10_go : Room := { frames := 5, cells := 0, slots := 0, locals := 118 }
theorem hd_X10_go : yX10_go.cls = RX10 ∧ yX10_go.cls ≠ "java/lang/invoke/MethodHandle" ∧ yX10_go.cls ≠ "java/lang/invoke/VarHandle" ∧ (parseMethodDescriptor yX10_go.desc).map (fun d => d.parameters.length) = some 1 := by decide +kernel
set_option maxHeartbeats 4000000 in
set_option maxRecDepth 100000 in
theorem c_X10_go (l : Launch) (D : va_G) (τ : Nat → Nat) (β : Nat → Nat) (δ : Nat → ClassId) (ms : IA) (mb : IA) (mo : IA) (mp : BA) (mf : IA) (mn : IA) (mi : IA) (mc : IA) (mq : BA) (mr : IA) (mw : IA) (mk : Int) (ml : Int) (mt : Int) (ma : Int) (mx : Bool) (mh : Int64) (dn : Bool) (hms : ∀ k, 0 ≤ k → k < 49 → 0 ≤ ms k ∧ ms k ≤ 99) (hml9 : 0 ≤ ml ∧ ml ≤ 60) (hmf : ∀ k, 0 ≤ k → k < ml → 33 ≤ mf k ∧ mf k ≤ 126) (hdn : dn = true → ∃ e2 : OS, O_run mf ml 0 OS0 = (ml, e2) ∧ 5 ≤ e2.1) : cM l yX10_go wz_X10_go rm_X10_go D τ (tyM δ) [.ref (β 0), .int (bI dn)] (wM β δ ms mb mo mp mf mn mi mc mq mr mw mk ml mt ma mx mh) (zQi (fun r w => ∃ (s2 : IA), ∃ (n2 : IA), ∃ (a2 : Int), ∃ (x2 : Bool), ∃ (v : Int), ((x2 = true → (O_run mf ml 0 OS0).1 = a2 ∧ ¬ O_tdraw mf ml) ∧ (x2 = false → a2 = ml ∧ O_tdraw mf ml ∧ (dn = true → O_draw mf ml 0 OS0 ms 0 = (s2, v)))) ∧ (dn = false → s2 = ms) ∧ (∀ k, 0 ≤ k → k < 49 → 0 ≤ s2 k ∧ s2 k ≤ 99) ∧ (0 ≤ a2 ∧ a2 ≤ ml) ∧ (0 ≤ v ∧ v ≤ 61) ∧ r = zI v ∧ wM β δ s2 mb mo mp mf n2 mi mc mq mr mw mk ml mt a2 x2 mh = w)) := by
  refine z_ofM (cc := cX10_go) (maxL := 5) (ret := (some .int)) (by decide +kernel) rfl (Nat.le_of_ble_eq_true rfl) ?_
  intro pg e s m args below meth c hC hr hlk hnm hK hP A hD hG hA hS ls hl Q hQ
  have hx := hC.1
  have hb := hC.2.1
  have hml := hC.2.2.1
  have hown := hC.2.2.2.1
  have hts := hC.2.2.2.2
  have hB : ∀ w ∈ W0, w ∈ wz_X10_go := fun _ h => List.mem_cons_of_mem _ h
  have hW0 : ∀ w ∈ W0, w.before args s = true := fun w h => hts w (hB w h)
  have hl : lv_has ls 5 [(0, .ref (β 0)), (1, .int (bI dn))] := hl
  refine lv_aload_n hx hb dX10_go_0 rfl (lv_at hl 0 rfl) ?_
  refine lv_iconst (v := zI 0) hx hb dX10_go_1 rfl ?_
  refine va_put (D := D) (ci := 10) (v := .int (zI 0)) (ty := .int) (C := RX10) (T := TX10) (N := 17) hx hb hts (fun w h => List.mem_cons_of_mem _ (wx_X10 w h)) tyX10 tyX10_ok nmX10 hown hK hP hD hS 0 rfl rfl 9 (by decide) (hW0 _ wf_X10_99) (fun _ h9 => h9) rfl (by decide +kernel) rfl rfl (Nat.le_of_ble_eq_true rfl) dX10_go_2 (fun H locs hP hD hS => ?_)
  have hP : va_P D vwCl (wM β δ ms mb mo mp mf mn mi mc mq mr mw mk ml mt 0 mx mh) H := hP
  have hD : va_D A (wM β δ ms mb mo mp mf mn mi mc mq mr mw mk ml mt 0 mx mh) := hD
  refine lv_aload_n hx hb dX10_go_5 rfl (lv_at hl 0 rfl) ?_
  refine lv_iconst (v := zI 0) hx hb dX10_go_6 rfl ?_
  refine va_put (D := D) (ci := 10) (v := .int (bI false)) (ty := .boolean) (C := RX10) (T := TX10) (N := 17) hx hb hts (fun w h => List.mem_cons_of_mem _ (wx_X10 w h)) tyX10 tyX10_ok nmX10 hown hK hP hD hS 0 rfl rfl 10 (by decide) (hW0 _ wf_X10_102) (fun _ h9 => h9) rfl (by decide +kernel) (bI_nar false) (bI_fit false) (Nat.le_of_ble_eq_true rfl) dX10_go_7 (fun H locs hP hD hS => ?_)
  have hP : va_P D vwCl (wM β δ ms mb mo mp mf mn mi mc mq mr mw mk ml mt 0 false mh) H := hP
  have hD : va_D A (wM β δ ms mb mo mp mf mn mi mc mq mr mw mk ml mt 0 false mh) := hD
  refine lv_iconst (v := zI 0) hx hb dX10_go_10 rfl ?_
  refine lv_istore_n (lv' := [(2, .int (zI 0)), (0, .ref (β 0)), (1, .int (bI dn))]) hx hb dX10_go_11 rfl hl (by decide) rfl (fun ls hl => ?_)
  refine lv_iconst (v := zI 1) hx hb dX10_go_12 rfl ?_
  refine lv_istore_n (lv' := [(3, .int (zI 1)), (2, .int (zI 0)), (0, .ref (β 0)), (1, .int (bI dn))]) hx hb dX10_go_13 rfl hl (by decide) rfl (fun ls hl => ?_)
  suffices HL_14 : ∀ (n_14 : Nat), ∀ (s1 : IA) (n1 : IA) (a1 : Int) (x1 : Bool) (g : Int) (c8 : Int) (le : Int) (ro : Int) (co : Int) (nu : Int) (H : Heap) (locs : List Loc) (hP : va_P D vwCl (wM β δ s1 mb mo mp mf n1 mi mc mq mr mw mk ml mt a1 x1 mh) H) (hD : va_D A (wM β δ s1 mb mo mp mf n1 mi mc mq mr mw mk ml mt a1 x1 mh)) (hS : va_S A s.heap H locs) (ls : Array Slot) (hl : lv_has ls 5 [(2, .int (zI g)), (3, .int (zI c8)), (0, .ref (β 0)), (1, .int (bI dn))]) (hc8 : c8 = 0 ∨ c8 = 1) (hab : 0 ≤ a1 ∧ a1 ≤ ml) (hgb : 0 ≤ g ∧ g ≤ 61) (hGO : GO mf ml dn ms s1 a1 x1 c8 g le ro co nu) (hm : (2 * (ml - a1) + c8).toNat < n_14), W pg l e rm_X10_go s m args below meth c H locs 0 0 Q (F0 m 14 ls []) from HL_14 _ ms mn 0 false 0 1 0 0 0 0 _ _ hP hD hS _ (lv_sub hl [1, 0, 2, 3] rfl) (by first | assumption | rfl | omega) (by first | assumption | rfl | omega) (by first | assumption | rfl | omega) (by exact GO_0 hml9.1 hms) (Nat.lt_succ_self _)
  intro n_14
  induction n_14 with
  | zero => intro s1 n1 a1 x1 g c8 le ro co nu H locs hP hD hS ls hl hc8 hab hgb hGO hm; exact absurd hm (Nat.not_lt_zero _)
  | succ n_14 ih_14 =>
    intro s1 n1 a1 x1 g c8 le ro co nu H locs hP hD hS ls hl hc8 hab hgb hGO hm
    refine lv_iload_n hx hb dX10_go_14 rfl (lv_at hl 1 rfl) ?_
    refine z_ifeq (tgt := 80) hx hb ⟨by omega, by omega⟩ dX10_go_15 (by decide) (fun c_15 => ?_) (fun c_15 => ?_)
    · refine lv_iload_n hx hb dX10_go_80 rfl (lv_at hl 0 rfl) ?_
      exact z_iret hC hr hlk hQ hP hD hS ⟨s1, n1, a1, x1, g, (by have z9 := hGO; rw [c_15] at z9; exact GO_end z9), (by exact hGO.2.2.1), (by exact hGO.2.1), (by exact hab), (by exact hgb), rfl, rfl⟩ dX10_go_81
    · have hin := GO_in hGO c_15
      refine lv_aload_n hx hb dX10_go_18 rfl (lv_at hl 2 rfl) ?_
      refine lv_iload_n hx hb dX10_go_19 rfl (lv_at hl 3 rfl) ?_
      refine z_callv hP hD hS hA (va_runV (As := [.int (bI dn)]) (rest := []) hC (c_X10_order l D τ β δ s1 mb mo mp mf n1 mi mc mq mr mw mk ml mt a1 x1 mh le ro co nu dn (by exact hGO.2.1) (by first | assumption | rfl | omega) (by first | assumption | rfl | omega) (by exact hab) (by exact hin.1) (by exact hin.2.2.1) (by intro z; obtain ⟨e2, w1, w2⟩ := hdn z; exact ⟨e2, by rw [← hin.2.2.2.1]; exact w1, w2⟩) _) (cwV 1 hts (gV hB wl_X10_112 wn_X10_order ws_X10_order wi_X10 wc_X10_order) rfl rfl rfl hd_X10_order ⟨Nat.le_of_ble_eq_true rfl, Nat.le_of_ble_eq_true rfl⟩) (zp_V hK hP hD hS hA hG (ci := 10) (q0 := 0) rfl rfl rfl) rfl rfl hl.1 rfl (lv_room (Nat.le_of_ble_eq_true rfl)) dX10_go_20 ⟨Nat.le_of_ble_eq_true rfl, Nat.le_of_ble_eq_true rfl⟩) (fun w1 H locs hq9 hP hD hS => ?_)
      obtain ⟨s20_1, n20_2, a20_3, x20_4, hv20_0, rfl⟩ := hq9
      have hP : va_P D vwCl (wM β δ s20_1 mb mo mp mf n20_2 mi mc mq mr mw mk ml mt a20_3 x20_4 mh) H := hP
      have hD : va_D A (wM β δ s20_1 mb mo mp mf n20_2 mi mc mq mr mw mk ml mt a20_3 x20_4 mh) := hD
      refine z_iinc (k := 0) (v := g + 1) (lv' := [(2, .int (zI (g + 1))), (3, .int (zI c8)), (0, .ref (β 0)), (1, .int (bI dn))]) hx hb dX10_go_23 hl rfl rfl (by decide) rfl (fun ls hl => ?_)
      refine lv_aload_n hx hb dX10_go_26 rfl (lv_at hl 2 rfl) ?_
      refine va_get (D := D) (ci := 10) (v := .int (bI x20_4)) (C := RX10) (T := TX10) (N := 17) hx hb hts (fun w h => List.mem_cons_of_mem _ (wx_X10 w h)) hown hK hP 0 rfl rfl 10 (by decide) (hW0 _ wf_X10_102) (fun _ h9 => h9) rfl dX10_go_27 ?_
      refine z_ifneB (tgt := 48) hx hb dX10_go_30 (by decide) (fun c_30 => ?_) (fun c_30 => ?_)
      · have hO := hv20_0
        rw [c_30] at hO
        have hle := ORD_le hin.2.2.1 hab.2 hO
        refine lv_iconst (v := zI 0) hx hb dX10_go_48 rfl ?_
        refine lv_istore_n (lv' := [(3, .int (zI 0)), (2, .int (zI (g + 1))), (0, .ref (β 0)), (1, .int (bI dn))]) hx hb dX10_go_49 rfl hl (by decide) rfl (fun ls hl => ?_)
        refine lv_iload_n hx hb dX10_go_50 rfl (lv_at hl 0 rfl) ?_
        refine z_ifeq (tgt := 14) hx hb ⟨by omega, by omega⟩ dX10_go_51 (by decide) (fun c_51 => ?_) (fun c_51 => ?_)
        · exact ih_14 s20_1 n20_2 a20_3 x20_4 (g + 1) 0 0 0 0 0 _ _ hP hD hS _ (lv_sub hl [1, 0, 2, 3] rfl) (by first | assumption | rfl | omega) (by first | exact hGS.1 | exact hO.1) (by first | (have z9 := hGS.2.2.2.1; have z8 := hGS.1; omega) | omega) (by first | (rw [c_68]; rw [c_68, if_pos rfl] at hGS; exact hGS) | (rw [c_68]; rw [c_68, if_neg (by decide)] at hGS; exact hGS) | (rw [c_30]; exact GO_w hGO c_15 hO) | (rw [c_30]; exact GO_e hGO c_15 hO (by omega))) (by omega)
        · exact absurd c_51 (by decide)
      · have hO := hv20_0
        rw [c_30] at hO
        have hle := ORD_le hin.2.2.1 hab.2 hO
        have hob := hO.1
        refine lv_aload_n hx hb dX10_go_33 rfl (lv_at hl 2 rfl) ?_
        refine va_get (D := D) (ci := 10) (v := .int (zI a20_3)) (C := RX10) (T := TX10) (N := 17) hx hb hts (fun w h => List.mem_cons_of_mem _ (wx_X10 w h)) hown hK hP 0 rfl rfl 9 (by decide) (hW0 _ wf_X10_99) (fun _ h9 => h9) rfl dX10_go_34 ?_
        refine lv_aload_n hx hb dX10_go_37 rfl (lv_at hl 2 rfl) ?_
        refine va_get (D := D) (ci := 10) (v := .int (zI ml)) (C := RX10) (T := TX10) (N := 17) hx hb hts (fun w h => List.mem_cons_of_mem _ (wx_X10 w h)) hown hK hP 0 rfl rfl 6 (by decide) (hW0 _ wf_X10_96) (fun _ h9 => h9) rfl dX10_go_38 ?_
        refine z_icge (tgt := 48) hx hb ⟨by omega, by omega⟩ ⟨by omega, by omega⟩ dX10_go_41 (by decide) (fun c_41 => ?_) (fun c_41 => ?_)
        · refine lv_iconst (v := zI 0) hx hb dX10_go_48 rfl ?_
          refine lv_istore_n (lv' := [(3, .int (zI 0)), (2, .int (zI (g + 1))), (0, .ref (β 0)), (1, .int (bI dn))]) hx hb dX10_go_49 rfl hl (by decide) rfl (fun ls hl => ?_)
          refine lv_iload_n hx hb dX10_go_50 rfl (lv_at hl 0 rfl) ?_
          refine z_ifeq (tgt := 14) hx hb ⟨by omega, by omega⟩ dX10_go_51 (by decide) (fun c_51 => ?_) (fun c_51 => ?_)
          · exact ih_14 s20_1 n20_2 a20_3 x20_4 (g + 1) 0 0 0 0 0 _ _ hP hD hS _ (lv_sub hl [1, 0, 2, 3] rfl) (by first | assumption | rfl | omega) (by first | exact hGS.1 | exact hO.1) (by first | (have z9 := hGS.2.2.2.1; have z8 := hGS.1; omega) | omega) (by first | (rw [c_68]; rw [c_68, if_pos rfl] at hGS; exact hGS) | (rw [c_68]; rw [c_68, if_neg (by decide)] at hGS; exact hGS) | (rw [c_30]; exact GO_w hGO c_15 hO) | (rw [c_30]; exact GO_e hGO c_15 hO (by omega))) (by omega)
          · exact absurd c_51 (by decide)
        · refine lv_iconst (v := zI 1) hx hb dX10_go_44 rfl ?_
          refine lv_goto (tgt := 49) hx hb dX10_go_45 (by decide) ?_
          refine lv_istore_n (lv' := [(3, .int (zI 1)), (2, .int (zI (g + 1))), (0, .ref (β 0)), (1, .int (bI dn))]) hx hb dX10_go_49 rfl hl (by decide) rfl (fun ls hl => ?_)
          refine lv_iload_n hx hb dX10_go_50 rfl (lv_at hl 0 rfl) ?_
          refine z_ifeq (tgt := 14) hx hb ⟨by omega, by omega⟩ dX10_go_51 (by decide) (fun c_51 => ?_) (fun c_51 => ?_)
          · exact absurd c_51 (by decide)
          · refine lv_aload_n hx hb dX10_go_54 rfl (lv_at hl 2 rfl) ?_
            refine lv_bipush (v := zI 59) hx hb dX10_go_55 (zI_b8 (by decide)) ?_
            refine lv_bipush (v := zI 59) hx hb dX10_go_57 (zI_b8 (by decide)) ?_
            refine z_calli hP hD hS hA (va_runV (As := [.int (zI 59), .int (zI 59)]) (rest := []) hC (c_X10_sign l D τ β δ s20_1 mb mo mp mf n20_2 mi mc mq mr mw mk ml mt a20_3 x20_4 mh 59 59 (by first | assumption | rfl | omega) (by first | assumption | rfl | omega) (by exact hO.1) (by first | assumption | rfl | omega) (by first | assumption | rfl | omega) _) (cwV 2 hts (gV hB wl_X10_106 wn_X10_sign ws_X10_sign wi_X10 wc_X10_sign) rfl rfl rfl hd_X10_sign ⟨Nat.le_of_ble_eq_true rfl, Nat.le_of_ble_eq_true rfl⟩) (zp_V hK hP hD hS hA hG (ci := 10) (q0 := 0) rfl rfl rfl) rfl rfl hl.1 rfl (lv_room (Nat.le_of_ble_eq_true rfl)) dX10_go_59 ⟨Nat.le_of_ble_eq_true rfl, Nat.le_of_ble_eq_true rfl⟩) (fun r w1 H locs hq9 hP hD hS => ?_)
            obtain ⟨a59_5, x59_6, v59_7, hv59_0, hv59_1, hv59_2, hv59_3, hv59_4, rfl, rfl⟩ := hq9
            have hP : va_P D vwCl (wM β δ s20_1 mb mo mp mf n20_2 mi mc mq mr mw mk ml mt a59_5 x59_6 mh) H := hP
            have hD : va_D A (wM β δ s20_1 mb mo mp mf n20_2 mi mc mq mr mw mk ml mt a59_5 x59_6 mh) := hD
            refine lv_istore (lv' := [(4, .int (zI v59_7)), (3, .int (zI 1)), (2, .int (zI (g + 1))), (0, .ref (β 0)), (1, .int (bI dn))]) hx hb dX10_go_62 hl (by decide) rfl (fun ls hl => ?_)
            have hx59 := hv59_1
            rw [c_30] at hx59
            have hs59 := hv59_0
            rw [c_30] at hs59
            obtain ⟨l9, r9, c9, u9, hGS⟩ := GO_s hGO c_15 hO (by omega) hdn hs59 hx59 hv59_2
            refine lv_aload_n hx hb dX10_go_64 rfl (lv_at hl 3 rfl) ?_
            refine va_get (D := D) (ci := 10) (v := .int (bI x59_6)) (C := RX10) (T := TX10) (N := 17) hx hb hts (fun w h => List.mem_cons_of_mem _ (wx_X10 w h)) hown hK hP 0 rfl rfl 10 (by decide) (hW0 _ wf_X10_102) (fun _ h9 => h9) rfl dX10_go_65 ?_
            refine z_ifneB (tgt := 75) hx hb dX10_go_68 (by decide) (fun c_68 => ?_) (fun c_68 => ?_)
            · have ha3 := hv59_2
              rw [c_68, if_pos rfl] at ha3
              refine lv_iconst (v := zI 0) hx hb dX10_go_75 rfl ?_
              refine lv_istore_n (lv' := [(3, .int (zI 0)), (4, .int (zI v59_7)), (2, .int (zI (g + 1))), (0, .ref (β 0)), (1, .int (bI dn))]) hx hb dX10_go_76 rfl hl (by decide) rfl (fun ls hl => ?_)
              refine lv_goto (tgt := 14) hx hb dX10_go_77 (by decide) ?_
              exact ih_14 s20_1 n20_2 a59_5 x59_6 (g + 1) 0 l9 r9 c9 u9 _ _ hP hD hS _ (lv_sub hl [2, 0, 3, 4] rfl) (by first | assumption | rfl | omega) (by first | exact hGS.1 | exact hO.1) (by first | (have z9 := hGS.2.2.2.1; have z8 := hGS.1; omega) | omega) (by first | (rw [c_68]; rw [c_68, if_pos rfl] at hGS; exact hGS) | (rw [c_68]; rw [c_68, if_neg (by decide)] at hGS; exact hGS) | (rw [c_30]; exact GO_w hGO c_15 hO) | (rw [c_30]; exact GO_e hGO c_15 hO (by omega))) (by omega)
            · have ha3 := hv59_2
              rw [c_68, if_neg (by decide)] at ha3
              refine lv_iconst (v := zI 1) hx hb dX10_go_71 rfl ?_
              refine lv_goto (tgt := 76) hx hb dX10_go_72 (by decide) ?_
              refine lv_istore_n (lv' := [(3, .int (zI 1)), (4, .int (zI v59_7)), (2, .int (zI (g + 1))), (0, .ref (β 0)), (1, .int (bI dn))]) hx hb dX10_go_76 rfl hl (by decide) rfl (fun ls hl => ?_)
              refine lv_goto (tgt := 14) hx hb dX10_go_77 (by decide) ?_
              exact ih_14 s20_1 n20_2 a59_5 x59_6 (g + 1) 1 l9 r9 c9 u9 _ _ hP hD hS _ (lv_sub hl [2, 0, 3, 4] rfl) (by first | assumption | rfl | omega) (by first | exact hGS.1 | exact hO.1) (by first | (have z9 := hGS.2.2.2.1; have z8 := hGS.1; omega) | omega) (by first | (rw [c_68]; rw [c_68, if_pos rfl] at hGS; exact hGS) | (rw [c_68]; rw [c_68, if_neg (by decide)] at hGS; exact hGS) | (rw [c_30]; exact GO_w hGO c_15 hO) | (rw [c_30]; exact GO_e hGO c_15 hO (by omega))) (by omega)

abbrev wz_X10_firstError : List Cond := .code yX10_firstError cX10_firstError 2 (some .int) :: W0
abbrev rm_X10_firstError : Room := { frames := 6, cells := 0, slots := 0, locals := 142 }
theorem hd_X10_firstError : yX10_firstError.cls = RX10 ∧ yX10_firstError.cls ≠ "java/lang/invoke/MethodHandle" ∧ yX10_firstError.cls ≠ "java/lang/invoke/VarHandle" ∧ (parseMethodDescriptor yX10_firstError.desc).map (fun d => d.parameters.length) = some 0 := by decide +kernel
set_option maxHeartbeats 4000000 in
set_option maxRecDepth 100000 in
theorem c_X10_firstError (l : Launch) (D : va_G) (τ : Nat → Nat) (β : Nat → Nat) (δ : Nat → ClassId) (ms : IA) (mb : IA) (mo : IA) (mp : BA) (mf : IA) (mn : IA) (mi : IA) (mc : IA) (mq : BA) (mr : IA) (mw : IA) (mk : Int) (ml : Int) (mt : Int) (ma : Int) (mx : Bool) (mh : Int64) (hms : ∀ k, 0 ≤ k → k < 49 → 0 ≤ ms k ∧ ms k ≤ 99) (hml9 : 0 ≤ ml ∧ ml ≤ 60) (hmf : ∀ k, 0 ≤ k → k < ml → 33 ≤ mf k ∧ mf k ≤ 126) : cM l yX10_firstError wz_X10_firstError rm_X10_firstError D τ (tyM δ) [.ref (β 0)] (wM β δ ms mb mo mp mf mn mi mc mq mr mw mk ml mt ma mx mh) (zQi (fun r w => ∃ (s2 : IA), ∃ (n2 : IA), ∃ (a2 : Int), ∃ (x2 : Bool), ∃ (v : Int), (s2 = ms) ∧ (v = (O_run mf ml 0 OS0).1) ∧ (0 ≤ v ∧ v ≤ ml) ∧ r = zI v ∧ wM β δ s2 mb mo mp mf n2 mi mc mq mr mw mk ml 0 a2 x2 mh = w)) := by
  refine z_ofM (cc := cX10_firstError) (maxL := 2) (ret := (some .int)) (by decide +kernel) rfl (Nat.le_of_ble_eq_true rfl) ?_
  intro pg e s m args below meth c hC hr hlk hnm hK hP A hD hG hA hS ls hl Q hQ
  have hx := hC.1
  have hb := hC.2.1
  have hml := hC.2.2.1
  have hown := hC.2.2.2.1
  have hts := hC.2.2.2.2
  have hB : ∀ w ∈ W0, w ∈ wz_X10_firstError := fun _ h => List.mem_cons_of_mem _ h
  have hW0 : ∀ w ∈ W0, w.before args s = true := fun w h => hts w (hB w h)
  have hl : lv_has ls 2 [(0, .ref (β 0))] := hl
  refine lv_aload_n hx hb dX10_firstError_0 rfl (lv_at hl 0 rfl) ?_
  refine lv_iconst (v := zI 0) hx hb dX10_firstError_1 rfl ?_
  refine va_put (D := D) (ci := 10) (v := .int (zI 0)) (ty := .int) (C := RX10) (T := TX10) (N := 17) hx hb hts (fun w h => List.mem_cons_of_mem _ (wx_X10 w h)) tyX10 tyX10_ok nmX10 hown hK hP hD hS 0 rfl rfl 7 (by decide) (hW0 _ wf_X10_44) (fun _ h9 => h9) rfl (by decide +kernel) rfl rfl (Nat.le_of_ble_eq_true rfl) dX10_firstError_2 (fun H locs hP hD hS => ?_)
  have hP : va_P D vwCl (wM β δ ms mb mo mp mf mn mi mc mq mr mw mk ml 0 ma mx mh) H := hP
  have hD : va_D A (wM β δ ms mb mo mp mf mn mi mc mq mr mw mk ml 0 ma mx mh) := hD
  refine lv_aload_n hx hb dX10_firstError_5 rfl (lv_at hl 0 rfl) ?_
  refine lv_iconst (v := zI 0) hx hb dX10_firstError_6 rfl ?_
  refine z_calli hP hD hS hA (va_runV (As := [.int (bI false)]) (rest := []) hC (c_X10_go l D τ β δ ms mb mo mp mf mn mi mc mq mr mw mk ml 0 ma mx mh false (by first | assumption | rfl | omega) (by first | assumption | rfl | omega) (by first | assumption | rfl | omega) (by intro z; cases z) _) (cwV 1 hts (gV hB wl_X10_116 wn_X10_go ws_X10_go wi_X10 wc_X10_go) rfl rfl rfl hd_X10_go ⟨Nat.le_of_ble_eq_true rfl, Nat.le_of_ble_eq_true rfl⟩) (zp_V hK hP hD hS hA hG (ci := 10) (q0 := 0) rfl rfl rfl) rfl rfl hl.1 rfl (lv_room (Nat.le_of_ble_eq_true rfl)) dX10_firstError_7 ⟨Nat.le_of_ble_eq_true rfl, Nat.le_of_ble_eq_true rfl⟩) (fun r w1 H locs hq9 hP hD hS => ?_)
  obtain ⟨s7_1, n7_2, a7_3, x7_4, v7_5, hv7_0, hv7_1, hv7_2, hv7_3, hv7_4, rfl, rfl⟩ := hq9
  have hP : va_P D vwCl (wM β δ s7_1 mb mo mp mf n7_2 mi mc mq mr mw mk ml 0 a7_3 x7_4 mh) H := hP
  have hD : va_D A (wM β δ s7_1 mb mo mp mf n7_2 mi mc mq mr mw mk ml 0 a7_3 x7_4 mh) := hD
  refine lv_istore_n (lv' := [(1, .int (zI v7_5)), (0, .ref (β 0))]) hx hb dX10_firstError_10 rfl hl (by decide) rfl (fun ls hl => ?_)
  refine lv_aload_n hx hb dX10_firstError_11 rfl (lv_at hl 1 rfl) ?_
  refine va_get (D := D) (ci := 10) (v := .int (bI x7_4)) (C := RX10) (T := TX10) (N := 17) hx hb hts (fun w h => List.mem_cons_of_mem _ (wx_X10 w h)) hown hK hP 0 rfl rfl 10 (by decide) (hW0 _ wf_X10_102) (fun _ h9 => h9) rfl dX10_firstError_12 ?_
  refine z_ifeqB (tgt := 25) hx hb dX10_firstError_15 (by decide) (fun c_15 => ?_) (fun c_15 => ?_)
  · refine lv_aload_n hx hb dX10_firstError_25 rfl (lv_at hl 1 rfl) ?_
    refine va_get (D := D) (ci := 10) (v := .int (zI ml)) (C := RX10) (T := TX10) (N := 17) hx hb hts (fun w h => List.mem_cons_of_mem _ (wx_X10 w h)) hown hK hP 0 rfl rfl 6 (by decide) (hW0 _ wf_X10_96) (fun _ h9 => h9) rfl dX10_firstError_26 ?_
    exact z_iret hC hr hlk hQ hP hD hS ⟨s7_1, n7_2, a7_3, x7_4, ml, (by exact hv7_1 rfl), (by first | exact (hv7_0.1 c_15).1.symm | exact (hv7_0.2 c_15).2.1.1.symm), (by first | exact hv7_3 | omega), rfl, rfl⟩ dX10_firstError_29
  · refine lv_aload_n hx hb dX10_firstError_18 rfl (lv_at hl 1 rfl) ?_
    refine va_get (D := D) (ci := 10) (v := .int (zI a7_3)) (C := RX10) (T := TX10) (N := 17) hx hb hts (fun w h => List.mem_cons_of_mem _ (wx_X10 w h)) hown hK hP 0 rfl rfl 9 (by decide) (hW0 _ wf_X10_99) (fun _ h9 => h9) rfl dX10_firstError_19 ?_
    refine lv_goto (tgt := 29) hx hb dX10_firstError_22 (by decide) ?_
    exact z_iret hC hr hlk hQ hP hD hS ⟨s7_1, n7_2, a7_3, x7_4, a7_3, (by exact hv7_1 rfl), (by first | exact (hv7_0.1 c_15).1.symm | exact (hv7_0.2 c_15).2.1.1.symm), (by first | exact hv7_3 | omega), rfl, rfl⟩ dX10_firstError_29

abbrev wz_X10_draw : List Cond := .code yX10_draw cX10_draw 2 (some .int) :: W0
abbrev rm_X10_draw : Room := { frames := 6, cells := 0, slots := 0, locals := 142 }
theorem hd_X10_draw : yX10_draw.cls = RX10 ∧ yX10_draw.cls ≠ "java/lang/invoke/MethodHandle" ∧ yX10_draw.cls ≠ "java/lang/invoke/VarHandle" ∧ (parseMethodDescriptor yX10_draw.desc).map (fun d => d.parameters.length) = some 0 := by decide +kernel
set_option maxHeartbeats 4000000 in
set_option maxRecDepth 100000 in
theorem c_X10_draw (l : Launch) (D : va_G) (τ : Nat → Nat) (β : Nat → Nat) (δ : Nat → ClassId) (ms : IA) (mb : IA) (mo : IA) (mp : BA) (mf : IA) (mn : IA) (mi : IA) (mc : IA) (mq : BA) (mr : IA) (mw : IA) (mk : Int) (ml : Int) (mt : Int) (ma : Int) (mx : Bool) (mh : Int64) (hms : ∀ k, 0 ≤ k → k < 49 → 0 ≤ ms k ∧ ms k ≤ 99) (hml9 : 0 ≤ ml ∧ ml ≤ 60) (hmf : ∀ k, 0 ≤ k → k < ml → 33 ≤ mf k ∧ mf k ≤ 126) (hmk : 0 ≤ mk ∧ mk ≤ 6) : cM l yX10_draw wz_X10_draw rm_X10_draw D τ (tyM δ) [.ref (β 0)] (wM β δ ms mb mo mp mf mn mi mc mq mr mw mk ml mt ma mx mh) (zQi (fun r w => ∃ (s2 : IA), ∃ (n2 : IA), ∃ (b2 : IA), ∃ (k2 : Int), ∃ (a2 : Int), ∃ (x2 : Bool), ∃ (l2 : Int), ∃ (t2 : Int), ∃ (v : Int), (t2 = O_td mf ml) ∧ (t2 = 0 → (s2, v) = O_draw mf ml 0 OS0 ms 0) ∧ (b2 = (if O_td mf ml = 0 then S_sv mb ms mk else mb)) ∧ (k2 = (if O_td mf ml = 0 then S_svC mk else mk)) ∧ (l2 = (if O_td mf ml = 0 then 0 else ml)) ∧ (s2 = (if O_td mf ml = 0 then (O_draw mf ml 0 OS0 ms 0).1 else ms)) ∧ (∀ k, 0 ≤ k → k < 49 → 0 ≤ s2 k ∧ s2 k ≤ 99) ∧ r = zI v ∧ wM β δ s2 b2 mo mp mf n2 mi mc mq mr mw k2 l2 t2 a2 x2 mh = w)) := by
  refine z_ofM (cc := cX10_draw) (maxL := 2) (ret := (some .int)) (by decide +kernel) rfl (Nat.le_of_ble_eq_true rfl) ?_
  intro pg e s m args below meth c hC hr hlk hnm hK hP A hD hG hA hS ls hl Q hQ
  have hx := hC.1
  have hb := hC.2.1
  have hml := hC.2.2.1
  have hown := hC.2.2.2.1
  have hts := hC.2.2.2.2
  have hB : ∀ w ∈ W0, w ∈ wz_X10_draw := fun _ h => List.mem_cons_of_mem _ h
  have hW0 : ∀ w ∈ W0, w.before args s = true := fun w h => hts w (hB w h)
  have hl : lv_has ls 2 [(0, .ref (β 0))] := hl
  refine lv_aload_n hx hb dX10_draw_0 rfl (lv_at hl 0 rfl) ?_
  refine lv_iconst (v := zI 0) hx hb dX10_draw_1 rfl ?_
  refine va_put (D := D) (ci := 10) (v := .int (zI 0)) (ty := .int) (C := RX10) (T := TX10) (N := 17) hx hb hts (fun w h => List.mem_cons_of_mem _ (wx_X10 w h)) tyX10 tyX10_ok nmX10 hown hK hP hD hS 0 rfl rfl 7 (by decide) (hW0 _ wf_X10_44) (fun _ h9 => h9) rfl (by decide +kernel) rfl rfl (Nat.le_of_ble_eq_true rfl) dX10_draw_2 (fun H locs hP hD hS => ?_)
  have hP : va_P D vwCl (wM β δ ms mb mo mp mf mn mi mc mq mr mw mk ml 0 ma mx mh) H := hP
  have hD : va_D A (wM β δ ms mb mo mp mf mn mi mc mq mr mw mk ml 0 ma mx mh) := hD
  refine lv_aload_n hx hb dX10_draw_5 rfl (lv_at hl 0 rfl) ?_
  refine lv_iconst (v := zI 0) hx hb dX10_draw_6 rfl ?_
  refine z_calli hP hD hS hA (va_runV (As := [.int (bI false)]) (rest := []) hC (c_X10_go l D τ β δ ms mb mo mp mf mn mi mc mq mr mw mk ml 0 ma mx mh false (by first | assumption | rfl | omega) (by first | assumption | rfl | omega) (by first | assumption | rfl | omega) (by intro z; cases z) _) (cwV 1 hts (gV hB wl_X10_116 wn_X10_go ws_X10_go wi_X10 wc_X10_go) rfl rfl rfl hd_X10_go ⟨Nat.le_of_ble_eq_true rfl, Nat.le_of_ble_eq_true rfl⟩) (zp_V hK hP hD hS hA hG (ci := 10) (q0 := 0) rfl rfl rfl) rfl rfl hl.1 rfl (lv_room (Nat.le_of_ble_eq_true rfl)) dX10_draw_7 ⟨Nat.le_of_ble_eq_true rfl, Nat.le_of_ble_eq_true rfl⟩) (fun r w1 H locs hq9 hP hD hS => ?_)
  obtain ⟨s7_1, n7_2, a7_3, x7_4, v7_5, hv7_0, hv7_1, hv7_2, hv7_3, hv7_4, rfl, rfl⟩ := hq9
  have hP : va_P D vwCl (wM β δ s7_1 mb mo mp mf n7_2 mi mc mq mr mw mk ml 0 a7_3 x7_4 mh) H := hP
  have hD : va_D A (wM β δ s7_1 mb mo mp mf n7_2 mi mc mq mr mw mk ml 0 a7_3 x7_4 mh) := hD
  refine lv_istore_n (lv' := [(1, .int (zI v7_5)), (0, .ref (β 0))]) hx hb dX10_draw_10 rfl hl (by decide) rfl (fun ls hl => ?_)
  refine lv_aload_n hx hb dX10_draw_11 rfl (lv_at hl 1 rfl) ?_
  refine va_get (D := D) (ci := 10) (v := .int (bI x7_4)) (C := RX10) (T := TX10) (N := 17) hx hb hts (fun w h => List.mem_cons_of_mem _ (wx_X10 w h)) hown hK hP 0 rfl rfl 10 (by decide) (hW0 _ wf_X10_102) (fun _ h9 => h9) rfl dX10_draw_12 ?_
  refine z_ifeqB (tgt := 24) hx hb dX10_draw_15 (by decide) (fun c_15 => ?_) (fun c_15 => ?_)
  · have htd := (hv7_0.2 c_15).2.1
    have ht : O_td mf ml = 0 := by unfold O_td; rw [cb_iff.mpr htd, if_pos rfl]
    have hs7 := hv7_1 rfl
    have hex : ∃ e2 : OS, O_run mf ml 0 OS0 = (ml, e2) ∧ 5 ≤ e2.1 := ⟨(O_run mf ml 0 OS0).2, Prod.ext htd.1 rfl, htd.2⟩
    refine lv_aload_n hx hb dX10_draw_24 rfl (lv_at hl 1 rfl) ?_
    refine z_callv hP hD hS hA (va_runV (As := []) (rest := []) hC (c_X10_save l D τ β δ s7_1 mb mo mp mf n7_2 mi mc mq mr mw mk ml 0 a7_3 x7_4 mh (by first | assumption | rfl | omega) _) (cwV 0 hts (gV hB wl_X10_80 wn_X10_save ws_X10_save wi_X10 wc_X10_save) rfl rfl rfl hd_X10_save ⟨Nat.le_of_ble_eq_true rfl, Nat.le_of_ble_eq_true rfl⟩) (zp_V hK hP hD hS hA hG (ci := 10) (q0 := 0) rfl rfl rfl) rfl rfl hl.1 rfl (lv_room (Nat.le_of_ble_eq_true rfl)) dX10_draw_25 ⟨Nat.le_of_ble_eq_true rfl, Nat.le_of_ble_eq_true rfl⟩) (fun w1 H locs hq9 hP hD hS => ?_)
    obtain ⟨b25_6, k25_7, hv25_0, hv25_1, rfl⟩ := hq9
    have hP : va_P D vwCl (wM β δ s7_1 b25_6 mo mp mf n7_2 mi mc mq mr mw k25_7 ml 0 a7_3 x7_4 mh) H := hP
    have hD : va_D A (wM β δ s7_1 b25_6 mo mp mf n7_2 mi mc mq mr mw k25_7 ml 0 a7_3 x7_4 mh) := hD
    refine lv_aload_n hx hb dX10_draw_28 rfl (lv_at hl 1 rfl) ?_
    refine lv_iconst (v := zI 1) hx hb dX10_draw_29 rfl ?_
    refine z_calli hP hD hS hA (va_runV (As := [.int (bI true)]) (rest := []) hC (c_X10_go l D τ β δ s7_1 b25_6 mo mp mf n7_2 mi mc mq mr mw k25_7 ml 0 a7_3 x7_4 mh true (by exact hv7_2) (by first | assumption | rfl | omega) (by first | assumption | rfl | omega) (by exact fun _ => hex) _) (cwV 1 hts (gV hB wl_X10_116 wn_X10_go ws_X10_go wi_X10 wc_X10_go) rfl rfl rfl hd_X10_go ⟨Nat.le_of_ble_eq_true rfl, Nat.le_of_ble_eq_true rfl⟩) (zp_V hK hP hD hS hA hG (ci := 10) (q0 := 0) rfl rfl rfl) rfl rfl hl.1 rfl (lv_room (Nat.le_of_ble_eq_true rfl)) dX10_draw_30 ⟨Nat.le_of_ble_eq_true rfl, Nat.le_of_ble_eq_true rfl⟩) (fun r w1 H locs hq9 hP hD hS => ?_)
    obtain ⟨s30_8, n30_9, a30_10, x30_11, v30_12, hv30_0, hv30_1, hv30_2, hv30_3, hv30_4, rfl, rfl⟩ := hq9
    have hP : va_P D vwCl (wM β δ s30_8 b25_6 mo mp mf n30_9 mi mc mq mr mw k25_7 ml 0 a30_10 x30_11 mh) H := hP
    have hD : va_D A (wM β δ s30_8 b25_6 mo mp mf n30_9 mi mc mq mr mw k25_7 ml 0 a30_10 x30_11 mh) := hD
    have hnx : x30_11 = false := by cases hq : x30_11; rfl; exact absurd htd (hv30_0.1 hq).2
    have hdr := (hv30_0.2 hnx).2.2 rfl
    rw [hs7] at hdr
    refine lv_istore_n (lv' := [(1, .int (zI v30_12)), (0, .ref (β 0))]) hx hb dX10_draw_33 rfl hl (by decide) rfl (fun ls hl => ?_)
    refine lv_aload_n hx hb dX10_draw_34 rfl (lv_at hl 1 rfl) ?_
    refine lv_iconst (v := zI 0) hx hb dX10_draw_35 rfl ?_
    refine va_put (D := D) (ci := 10) (v := .int (zI 0)) (ty := .int) (C := RX10) (T := TX10) (N := 17) hx hb hts (fun w h => List.mem_cons_of_mem _ (wx_X10 w h)) tyX10 tyX10_ok nmX10 hown hK hP hD hS 0 rfl rfl 6 (by decide) (hW0 _ wf_X10_96) (fun _ h9 => h9) rfl (by decide +kernel) rfl rfl (Nat.le_of_ble_eq_true rfl) dX10_draw_36 (fun H locs hP hD hS => ?_)
    have hP : va_P D vwCl (wM β δ s30_8 b25_6 mo mp mf n30_9 mi mc mq mr mw k25_7 0 0 a30_10 x30_11 mh) H := hP
    have hD : va_D A (wM β δ s30_8 b25_6 mo mp mf n30_9 mi mc mq mr mw k25_7 0 0 a30_10 x30_11 mh) := hD
    refine lv_iload_n hx hb dX10_draw_39 rfl (lv_at hl 0 rfl) ?_
    exact z_iret hC hr hlk hQ hP hD hS ⟨s30_8, n30_9, b25_6, k25_7, a30_10, x30_11, 0, 0, v30_12, (by first | exact hv20_1.trans ht.symm | exact ht.symm), (by first | exact fun _ => hdr.symm | (intro h9; exfalso; omega)), (by rw [ht]; first | (rw [if_pos rfl, ← hs7]; exact hv25_0) | (rw [if_neg (by decide)]; done)), (by rw [ht]; first | (rw [if_pos rfl]; exact hv25_1) | (rw [if_neg (by decide)]; done)), (by first | (rw [ht, if_pos rfl]; done) | (rw [ht, if_neg (by decide)]; done)), (by rw [ht]; first | (rw [if_pos rfl, hdr]; done) | (rw [if_neg (by decide)]; exact hs7)), (by first | exact hv30_2 | exact hv7_2), rfl, rfl⟩ dX10_draw_40
  · have ht : O_td mf ml = 1 := by unfold O_td; rw [cb_f.mpr (hv7_0.1 c_15).2, if_neg (by decide)]
    have hs7 := hv7_1 rfl
    refine lv_aload_n hx hb dX10_draw_18 rfl (lv_at hl 1 rfl) ?_
    refine lv_iconst (v := zI 1) hx hb dX10_draw_19 rfl ?_
    refine z_calli hP hD hS hA (va_runV (As := [.int (zI 1)]) (rest := []) hC (c_X10_throwing l D τ β δ s7_1 mb mo mp mf n7_2 mi mc mq mr mw mk ml 0 a7_3 x7_4 mh 1 _) (cwV 1 hts (gV hB wl_X10_90 wn_X10_throwing ws_X10_throwing wi_X10 wc_X10_throwing) rfl rfl rfl hd_X10_throwing ⟨Nat.le_of_ble_eq_true rfl, Nat.le_of_ble_eq_true rfl⟩) (zp_V hK hP hD hS hA hG (ci := 10) (q0 := 0) rfl rfl rfl) rfl rfl hl.1 rfl (lv_room (Nat.le_of_ble_eq_true rfl)) dX10_draw_20 ⟨Nat.le_of_ble_eq_true rfl, Nat.le_of_ble_eq_true rfl⟩) (fun r w1 H locs hq9 hP hD hS => ?_)
    obtain ⟨t20_13, v20_14, hv20_0, hv20_1, rfl, rfl⟩ := hq9
    have hP : va_P D vwCl (wM β δ s7_1 mb mo mp mf n7_2 mi mc mq mr mw mk ml t20_13 a7_3 x7_4 mh) H := hP
    have hD : va_D A (wM β δ s7_1 mb mo mp mf n7_2 mi mc mq mr mw mk ml t20_13 a7_3 x7_4 mh) := hD
    exact z_iret hC hr hlk hQ hP hD hS ⟨s7_1, n7_2, mb, mk, a7_3, x7_4, ml, t20_13, v20_14, (by first | exact hv20_1.trans ht.symm | exact ht.symm), (by first | exact fun _ => hdr.symm | (intro h9; exfalso; omega)), (by rw [ht]; first | (rw [if_pos rfl, ← hs7]; exact hv25_0) | (rw [if_neg (by decide)]; done)), (by rw [ht]; first | (rw [if_pos rfl]; exact hv25_1) | (rw [if_neg (by decide)]; done)), (by first | (rw [ht, if_pos rfl]; done) | (rw [ht, if_neg (by decide)]; done)), (by rw [ht]; first | (rw [if_pos rfl, hdr]; done) | (rw [if_neg (by decide)]; exact hs7)), (by first | exact hv30_2 | exact hv7_2), rfl, rfl⟩ dX10_draw_23

