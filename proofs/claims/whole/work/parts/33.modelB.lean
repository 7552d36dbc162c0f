abbrev wz_X10_thrown : List Cond := .code yX10_thrown cX10_thrown 1 (some .int) :: W0
abbrev rm_X10_thrown : Room := { frames := 0, cells := 0, slots := 0, locals := 0 }
theorem hd_X10_thrown : yX10_thrown.cls = RX10 ∧ yX10_thrown.cls ≠ "java/lang/invoke/MethodHandle" ∧ yX10_thrown.cls ≠ "java/lang/invoke/VarHandle" ∧ (parseMethodDescriptor yX10_thrown.desc).map (fun d => d.parameters.length) = some 0 := by decide +kernel
set_option maxHeartbeats 4000000 in
set_option maxRecDepth 100000 in
theorem c_X10_thrown (l : Launch) (D : va_G) (τ : Nat → Nat) (β : Nat → Nat) (δ : Nat → ClassId) (ms : IA) (mb : IA) (mo : IA) (mp : BA) (mf : IA) (mn : IA) (mi : IA) (mc : IA) (mq : BA) (mr : IA) (mw : IA) (mk : Int) (ml : Int) (mt : Int) (ma : Int) (mx : Bool) (mh : Int64) : cM l yX10_thrown wz_X10_thrown rm_X10_thrown D τ (tyM δ) [.ref (β 0)] (wM β δ ms mb mo mp mf mn mi mc mq mr mw mk ml mt ma mx mh) (zQi (fun r w => ∃ (v : Int), (v = mt) ∧ r = zI v ∧ wM β δ ms mb mo mp mf mn mi mc mq mr mw mk ml mt ma mx mh = w)) := by
  refine z_ofM (cc := cX10_thrown) (maxL := 1) (ret := (some .int)) (by decide +kernel) rfl (Nat.le_of_ble_eq_true rfl) ?_
  intro pg e s m args below meth c hC hr hlk hnm hK hP A hD hG hA hS ls hl Q hQ
  have hx := hC.1
  have hb := hC.2.1
  have hml := hC.2.2.1
  have hown := hC.2.2.2.1
  have hts := hC.2.2.2.2
  have hB : ∀ w ∈ W0, w ∈ wz_X10_thrown := fun _ h => List.mem_cons_of_mem _ h
  have hW0 : ∀ w ∈ W0, w.before args s = true := fun w h => hts w (hB w h)
  have hl : lv_has ls 1 [(0, .ref (β 0))] := hl
  refine lv_aload_n hx hb dX10_thrown_0 rfl (lv_at hl 0 rfl) ?_
  refine va_get (D := D) (ci := 10) (v := .int (zI mt)) (C := RX10) (T := TX10) (N := 17) hx hb hts (fun w h => List.mem_cons_of_mem _ (wx_X10 w h)) hown hK hP 0 rfl rfl 7 (by decide) (hW0 _ wf_X10_44) (fun _ h9 => h9) rfl dX10_thrown_1 ?_
  exact z_iret hC hr hlk hQ hP hD hS ⟨mt, (by first | assumption | rfl | omega), rfl, rfl⟩ dX10_thrown_4

abbrev wz_X10_throwing : List Cond := .code yX10_throwing cX10_throwing 2 (some .int) :: W0
abbrev rm_X10_throwing : Room := { frames := 0, cells := 0, slots := 0, locals := 0 }
theorem hd_X10_throwing : yX10_throwing.cls = RX10 ∧ yX10_throwing.cls ≠ "java/lang/invoke/MethodHandle" ∧ yX10_throwing.cls ≠ "java/lang/invoke/VarHandle" ∧ (parseMethodDescriptor yX10_throwing.desc).map (fun d => d.parameters.length) = some 1 := by decide +kernel
set_option maxHeartbeats 4000000 in
set_option maxRecDepth 100000 in
theorem c_X10_throwing (l : Launch) (D : va_G) (τ : Nat → Nat) (β : Nat → Nat) (δ : Nat → ClassId) (ms : IA) (mb : IA) (mo : IA) (mp : BA) (mf : IA) (mn : IA) (mi : IA) (mc : IA) (mq : BA) (mr : IA) (mw : IA) (mk : Int) (ml : Int) (mt : Int) (ma : Int) (mx : Bool) (mh : Int64) (k9 : Int) : cM l yX10_throwing wz_X10_throwing rm_X10_throwing D τ (tyM δ) [.ref (β 0), .int (zI k9)] (wM β δ ms mb mo mp mf mn mi mc mq mr mw mk ml mt ma mx mh) (zQi (fun r w => ∃ (t2 : Int), ∃ (v : Int), (v = 0) ∧ (t2 = k9) ∧ r = zI v ∧ wM β δ ms mb mo mp mf mn mi mc mq mr mw mk ml t2 ma mx mh = w)) := by
  refine z_ofM (cc := cX10_throwing) (maxL := 2) (ret := (some .int)) (by decide +kernel) rfl (Nat.le_of_ble_eq_true rfl) ?_
  intro pg e s m args below meth c hC hr hlk hnm hK hP A hD hG hA hS ls hl Q hQ
  have hx := hC.1
  have hb := hC.2.1
  have hml := hC.2.2.1
  have hown := hC.2.2.2.1
  have hts := hC.2.2.2.2
  have hB : ∀ w ∈ W0, w ∈ wz_X10_throwing := fun _ h => List.mem_cons_of_mem _ h
  have hW0 : ∀ w ∈ W0, w.before args s = true := fun w h => hts w (hB w h)
  have hl : lv_has ls 2 [(0, .ref (β 0)), (1, .int (zI k9))] := hl
  refine lv_aload_n hx hb dX10_throwing_0 rfl (lv_at hl 0 rfl) ?_
  refine lv_iload_n hx hb dX10_throwing_1 rfl (lv_at hl 1 rfl) ?_
  refine va_put (D := D) (ci := 10) (v := .int (zI k9)) (ty := .int) (C := RX10) (T := TX10) (N := 17) hx hb hts (fun w h => List.mem_cons_of_mem _ (wx_X10 w h)) tyX10 tyX10_ok nmX10 hown hK hP hD hS 0 rfl rfl 7 (by decide) (hW0 _ wf_X10_44) (fun _ h9 => h9) rfl (by decide +kernel) rfl rfl (Nat.le_of_ble_eq_true rfl) dX10_throwing_2 (fun H locs hP hD hS => ?_)
  have hP : va_P D vwCl (wM β δ ms mb mo mp mf mn mi mc mq mr mw mk ml k9 ma mx mh) H := hP
  have hD : va_D A (wM β δ ms mb mo mp mf mn mi mc mq mr mw mk ml k9 ma mx mh) := hD
  refine lv_iconst (v := zI 0) hx hb dX10_throwing_5 rfl ?_
  exact z_iret hC hr hlk hQ hP hD hS ⟨k9, 0, (by first | assumption | rfl | omega), (by first | assumption | rfl | omega), rfl, rfl⟩ dX10_throwing_6

abbrev wz_X10_set : List Cond := .code yX10_set cX10_set 5 (some .int) :: W0
abbrev rm_X10_set : Room := { frames := 2, cells := 0, slots := 0, locals := 43 }
theorem hd_X10_set : yX10_set.cls = RX10 ∧ yX10_set.cls ≠ "java/lang/invoke/MethodHandle" ∧ yX10_set.cls ≠ "java/lang/invoke/VarHandle" ∧ (parseMethodDescriptor yX10_set.desc).map (fun d => d.parameters.length) = some 3 := by decide +kernel
set_option maxHeartbeats 4000000 in
set_option maxRecDepth 100000 in
theorem c_X10_set (l : Launch) (D : va_G) (τ : Nat → Nat) (β : Nat → Nat) (δ : Nat → ClassId) (ms : IA) (mb : IA) (mo : IA) (mp : BA) (mf : IA) (mn : IA) (mi : IA) (mc : IA) (mq : BA) (mr : IA) (mw : IA) (mk : Int) (ml : Int) (mt : Int) (ma : Int) (mx : Bool) (mh : Int64) (r9 : Int) (c9 : Int) (g9 : Int) (hr9 : -2147483648 ≤ r9 ∧ r9 < 2147483648) (hc9 : -2147483648 ≤ c9 ∧ c9 < 2147483648) (hg9 : -2147483648 ≤ g9 ∧ g9 < 2147483648) (hmk : 0 ≤ mk ∧ mk ≤ 6) : cM l yX10_set wz_X10_set rm_X10_set D τ (tyM δ) [.ref (β 0), .int (zI r9), .int (zI c9), .int (zI g9)] (wM β δ ms mb mo mp mf mn mi mc mq mr mw mk ml mt ma mx mh) (zQi (fun r w => ∃ (s2 : IA), ∃ (b2 : IA), ∃ (k2 : Int), ∃ (t2 : Int), ∃ (v : Int), (t2 = S_tset r9 c9 g9) ∧ (t2 = 0 → v = ms (7 * r9 + c9)) ∧ (s2 = (if S_tset r9 c9 g9 = 0 then zu ms (7 * r9 + c9) g9 else ms)) ∧ (b2 = (if S_tset r9 c9 g9 = 0 then S_sv mb ms mk else mb)) ∧ (k2 = (if S_tset r9 c9 g9 = 0 then S_svC mk else mk)) ∧ r = zI v ∧ wM β δ s2 b2 mo mp mf mn mi mc mq mr mw k2 ml t2 ma mx mh = w)) := by
  refine z_ofM (cc := cX10_set) (maxL := 5) (ret := (some .int)) (by decide +kernel) rfl (Nat.le_of_ble_eq_true rfl) ?_
  intro pg e s m args below meth c hC hr hlk hnm hK hP A hD hG hA hS ls hl Q hQ
  have hx := hC.1
  have hb := hC.2.1
  have hml := hC.2.2.1
  have hown := hC.2.2.2.1
  have hts := hC.2.2.2.2
  have hB : ∀ w ∈ W0, w ∈ wz_X10_set := fun _ h => List.mem_cons_of_mem _ h
  have hW0 : ∀ w ∈ W0, w.before args s = true := fun w h => hts w (hB w h)
  have hl : lv_has ls 5 [(0, .ref (β 0)), (1, .int (zI r9)), (2, .int (zI c9)), (3, .int (zI g9))] := hl
  refine lv_aload_n hx hb dX10_set_0 rfl (lv_at hl 0 rfl) ?_
  refine lv_iload_n hx hb dX10_set_1 rfl (lv_at hl 1 rfl) ?_
  refine lv_iload_n hx hb dX10_set_2 rfl (lv_at hl 2 rfl) ?_
  refine z_calli hP hD hS hA (va_runS (As := [.int (zI r9), .int (zI c9)]) (rest := [.ref (β 0)]) hC (c_X10_isPoint l D τ _ _ r9 c9 (by first | assumption | rfl | omega) (by first | assumption | rfl | omega) _) (va_cwS 2 hts (gS hB wl_X10_55 wt_X10_isPoint wi_X10 wc_X10_isPoint) rfl rfl rfl hd_X10_isPoint.2 ⟨Nat.le_of_ble_eq_true rfl, Nat.le_of_ble_eq_true rfl⟩) (zp_S hK hP hD hS hA hG) rfl rfl hl.1 rfl (lv_room (Nat.le_of_ble_eq_true rfl)) dX10_set_3 ⟨Nat.le_of_ble_eq_true rfl, Nat.le_of_ble_eq_true rfl⟩) (fun r w1 H locs hq9 hP hD hS => ?_)
  obtain ⟨v3_1, hv3_0, rfl, rfl⟩ := hq9
  refine z_ifneB (tgt := 13) hx hb dX10_set_6 (by decide) (fun c_6 => ?_) (fun c_6 => ?_)
  · have hb_6 := hv3_0.mp c_6
    refine lv_iload_n hx hb dX10_set_13 rfl (lv_at hl 3 rfl) ?_
    refine lv_iconst (v := zI 0) hx hb dX10_set_14 rfl ?_
    refine lv_bipush (v := zI 99) hx hb dX10_set_15 (zI_b8 (by decide)) ?_
    refine z_calli hP hD hS hA (va_runS (As := [.int (zI g9), .int (zI 0), .int (zI 99)]) (rest := [.ref (β 0)]) hC (c_X10_in l D τ _ _ g9 0 99 (by first | assumption | rfl | omega) (by first | assumption | rfl | omega) (by first | assumption | rfl | omega) _) (va_cwS 3 hts (gS hB wl_X10_48 wt_X10_in wi_X10 wc_X10_in) rfl rfl rfl hd_X10_in.2 ⟨Nat.le_of_ble_eq_true rfl, Nat.le_of_ble_eq_true rfl⟩) (zp_S hK hP hD hS hA hG) rfl rfl hl.1 rfl (lv_room (Nat.le_of_ble_eq_true rfl)) dX10_set_17 ⟨Nat.le_of_ble_eq_true rfl, Nat.le_of_ble_eq_true rfl⟩) (fun r w1 H locs hq9 hP hD hS => ?_)
    obtain ⟨v17_2, hv17_0, rfl, rfl⟩ := hq9
    refine z_ifeqB (tgt := 27) hx hb dX10_set_20 (by decide) (fun c_20 => ?_) (fun c_20 => ?_)
    · have hb_20 := zb_neg hv17_0 c_20
      refine lv_iconst (v := zI 2) hx hb dX10_set_27 rfl ?_
      have ht : S_tset r9 c9 g9 = 2 := by unfold S_tset; first | (rw [if_pos hb_6, if_pos hb_20]; done) | (rw [if_pos hb_6, if_neg hb_20]; done) | (rw [if_neg hb_6]; done)
      refine va_put (D := D) (ci := 10) (v := .int (zI 2)) (ty := .int) (C := RX10) (T := TX10) (N := 17) hx hb hts (fun w h => List.mem_cons_of_mem _ (wx_X10 w h)) tyX10 tyX10_ok nmX10 hown hK hP hD hS 0 rfl rfl 7 (by decide) (hW0 _ wf_X10_44) (fun _ h9 => h9) rfl (by decide +kernel) rfl rfl (Nat.le_of_ble_eq_true rfl) dX10_set_28 (fun H locs hP hD hS => ?_)
      have hP : va_P D vwCl (wM β δ ms mb mo mp mf mn mi mc mq mr mw mk ml 2 ma mx mh) H := hP
      have hD : va_D A (wM β δ ms mb mo mp mf mn mi mc mq mr mw mk ml 2 ma mx mh) := hD
      refine lv_aload_n hx hb dX10_set_31 rfl (lv_at hl 0 rfl) ?_
      refine va_get (D := D) (ci := 10) (v := .int (zI 2)) (C := RX10) (T := TX10) (N := 17) hx hb hts (fun w h => List.mem_cons_of_mem _ (wx_X10 w h)) hown hK hP 0 rfl rfl 7 (by decide) (hW0 _ wf_X10_44) (fun _ h9 => h9) rfl dX10_set_32 ?_
      refine z_ifle (tgt := 40) hx hb ⟨by omega, by omega⟩ dX10_set_35 (by decide) (fun c_35 => ?_) (fun c_35 => ?_)
      · exact absurd c_35 (by decide)
      · refine lv_iconst (v := zI 0) hx hb dX10_set_38 rfl ?_
        exact z_iret hC hr hlk hQ hP hD hS ⟨ms, mb, mk, 2, 0, (by exact ht.symm), (by first | exact fun _ => rfl | exact fun h9 => absurd h9 (by decide)), (by first | (rw [ht, if_pos rfl]; done) | (rw [ht, if_neg (by decide)]; done)), (by rw [ht]; first | (rw [if_pos rfl]; exact hv41_0) | (rw [if_neg (by decide)]; done)), (by rw [ht]; first | (rw [if_pos rfl]; exact hv41_1) | (rw [if_neg (by decide)]; done)), rfl, rfl⟩ dX10_set_39
    · have hb_20 := hv17_0.mp c_20
      refine lv_iconst (v := zI 0) hx hb dX10_set_23 rfl ?_
      refine lv_goto (tgt := 28) hx hb dX10_set_24 (by decide) ?_
      have ht : S_tset r9 c9 g9 = 0 := by unfold S_tset; first | (rw [if_pos hb_6, if_pos hb_20]; done) | (rw [if_pos hb_6, if_neg hb_20]; done) | (rw [if_neg hb_6]; done)
      refine va_put (D := D) (ci := 10) (v := .int (zI 0)) (ty := .int) (C := RX10) (T := TX10) (N := 17) hx hb hts (fun w h => List.mem_cons_of_mem _ (wx_X10 w h)) tyX10 tyX10_ok nmX10 hown hK hP hD hS 0 rfl rfl 7 (by decide) (hW0 _ wf_X10_44) (fun _ h9 => h9) rfl (by decide +kernel) rfl rfl (Nat.le_of_ble_eq_true rfl) dX10_set_28 (fun H locs hP hD hS => ?_)
      have hP : va_P D vwCl (wM β δ ms mb mo mp mf mn mi mc mq mr mw mk ml 0 ma mx mh) H := hP
      have hD : va_D A (wM β δ ms mb mo mp mf mn mi mc mq mr mw mk ml 0 ma mx mh) := hD
      refine lv_aload_n hx hb dX10_set_31 rfl (lv_at hl 0 rfl) ?_
      refine va_get (D := D) (ci := 10) (v := .int (zI 0)) (C := RX10) (T := TX10) (N := 17) hx hb hts (fun w h => List.mem_cons_of_mem _ (wx_X10 w h)) hown hK hP 0 rfl rfl 7 (by decide) (hW0 _ wf_X10_44) (fun _ h9 => h9) rfl dX10_set_32 ?_
      refine z_ifle (tgt := 40) hx hb ⟨by omega, by omega⟩ dX10_set_35 (by decide) (fun c_35 => ?_) (fun c_35 => ?_)
      · refine lv_aload_n hx hb dX10_set_40 rfl (lv_at hl 0 rfl) ?_
        refine z_callv hP hD hS hA (va_runV (As := []) (rest := []) hC (c_X10_save l D τ β δ ms mb mo mp mf mn mi mc mq mr mw mk ml 0 ma mx mh (by first | assumption | rfl | omega) _) (cwV 0 hts (gV hB wl_X10_80 wn_X10_save ws_X10_save wi_X10 wc_X10_save) rfl rfl rfl hd_X10_save ⟨Nat.le_of_ble_eq_true rfl, Nat.le_of_ble_eq_true rfl⟩) (zp_V hK hP hD hS hA hG (ci := 10) (q0 := 0) rfl rfl rfl) rfl rfl hl.1 rfl (lv_room (Nat.le_of_ble_eq_true rfl)) dX10_set_41 ⟨Nat.le_of_ble_eq_true rfl, Nat.le_of_ble_eq_true rfl⟩) (fun w1 H locs hq9 hP hD hS => ?_)
        obtain ⟨b41_3, k41_4, hv41_0, hv41_1, rfl⟩ := hq9
        have hP : va_P D vwCl (wM β δ ms b41_3 mo mp mf mn mi mc mq mr mw k41_4 ml 0 ma mx mh) H := hP
        have hD : va_D A (wM β δ ms b41_3 mo mp mf mn mi mc mq mr mw k41_4 ml 0 ma mx mh) := hD
        refine lv_aload_n hx hb dX10_set_44 rfl (lv_at hl 0 rfl) ?_
        refine va_get (D := D) (ci := 10) (v := .ref (β 1)) (C := RX10) (T := TX10) (N := 17) hx hb hts (fun w h => List.mem_cons_of_mem _ (wx_X10 w h)) hown hK hP 0 rfl rfl 0 (by decide) (hW0 _ wf_X10_7) (fun _ h9 => h9) rfl dX10_set_45 ?_
        refine lv_bipush (v := zI 7) hx hb dX10_set_48 (zI_b8 (by decide)) ?_
        refine lv_iload_n hx hb dX10_set_50 rfl (lv_at hl 1 rfl) ?_
        refine z_imul hx hb dX10_set_51 ?_
        refine lv_iload_n hx hb dX10_set_52 rfl (lv_at hl 2 rfl) ?_
        refine z_iadd hx hb dX10_set_53 ?_
        refine z_iald (f := ms) hx hb hK hP 1 0 rfl rfl ⟨⟨by omega, by omega⟩, by decide⟩ dX10_set_54 ?_
        refine lv_istore (lv' := [(4, .int (zI (ms ((7 * r9) + c9)))), (0, .ref (β 0)), (1, .int (zI r9)), (2, .int (zI c9)), (3, .int (zI g9))]) hx hb dX10_set_55 hl (by decide) rfl (fun ls hl => ?_)
        refine lv_aload_n hx hb dX10_set_57 rfl (lv_at hl 1 rfl) ?_
        refine va_get (D := D) (ci := 10) (v := .ref (β 1)) (C := RX10) (T := TX10) (N := 17) hx hb hts (fun w h => List.mem_cons_of_mem _ (wx_X10 w h)) hown hK hP 0 rfl rfl 0 (by decide) (hW0 _ wf_X10_7) (fun _ h9 => h9) rfl dX10_set_58 ?_
        refine lv_bipush (v := zI 7) hx hb dX10_set_61 (zI_b8 (by decide)) ?_
        refine lv_iload_n hx hb dX10_set_63 rfl (lv_at hl 2 rfl) ?_
        refine z_imul hx hb dX10_set_64 ?_
        refine lv_iload_n hx hb dX10_set_65 rfl (lv_at hl 3 rfl) ?_
        refine z_iadd hx hb dX10_set_66 ?_
        refine lv_iload_n hx hb dX10_set_67 rfl (lv_at hl 4 rfl) ?_
        refine z_iast (f := ms) (v := g9) hx hb hK hP hD hS 1 0 rfl rfl ⟨⟨by omega, by omega⟩, by decide⟩ dX10_set_68 (fun H locs hP hD hS => ?_)
        have hP : va_P D vwCl (wM β δ ((zu ms ((7 * r9) + c9) g9)) b41_3 mo mp mf mn mi mc mq mr mw k41_4 ml 0 ma mx mh) H := hP
        have hD : va_D A (wM β δ ((zu ms ((7 * r9) + c9) g9)) b41_3 mo mp mf mn mi mc mq mr mw k41_4 ml 0 ma mx mh) := hD
        refine lv_iload hx hb dX10_set_69 (lv_at hl 0 rfl) ?_
        exact z_iret hC hr hlk hQ hP hD hS ⟨zu ms ((7 * r9) + c9) g9, b41_3, k41_4, 0, ms ((7 * r9) + c9), (by exact ht.symm), (by first | exact fun _ => rfl | exact fun h9 => absurd h9 (by decide)), (by first | (rw [ht, if_pos rfl]; done) | (rw [ht, if_neg (by decide)]; done)), (by rw [ht]; first | (rw [if_pos rfl]; exact hv41_0) | (rw [if_neg (by decide)]; done)), (by rw [ht]; first | (rw [if_pos rfl]; exact hv41_1) | (rw [if_neg (by decide)]; done)), rfl, rfl⟩ dX10_set_71
      · exact absurd c_35 (by decide)
  · have hb_6 := zb_neg hv3_0 c_6
    refine lv_iconst (v := zI 1) hx hb dX10_set_9 rfl ?_
    refine lv_goto (tgt := 28) hx hb dX10_set_10 (by decide) ?_
    have ht : S_tset r9 c9 g9 = 1 := by unfold S_tset; first | (rw [if_pos hb_6, if_pos hb_20]; done) | (rw [if_pos hb_6, if_neg hb_20]; done) | (rw [if_neg hb_6]; done)
    refine va_put (D := D) (ci := 10) (v := .int (zI 1)) (ty := .int) (C := RX10) (T := TX10) (N := 17) hx hb hts (fun w h => List.mem_cons_of_mem _ (wx_X10 w h)) tyX10 tyX10_ok nmX10 hown hK hP hD hS 0 rfl rfl 7 (by decide) (hW0 _ wf_X10_44) (fun _ h9 => h9) rfl (by decide +kernel) rfl rfl (Nat.le_of_ble_eq_true rfl) dX10_set_28 (fun H locs hP hD hS => ?_)
    have hP : va_P D vwCl (wM β δ ms mb mo mp mf mn mi mc mq mr mw mk ml 1 ma mx mh) H := hP
    have hD : va_D A (wM β δ ms mb mo mp mf mn mi mc mq mr mw mk ml 1 ma mx mh) := hD
    refine lv_aload_n hx hb dX10_set_31 rfl (lv_at hl 0 rfl) ?_
    refine va_get (D := D) (ci := 10) (v := .int (zI 1)) (C := RX10) (T := TX10) (N := 17) hx hb hts (fun w h => List.mem_cons_of_mem _ (wx_X10 w h)) hown hK hP 0 rfl rfl 7 (by decide) (hW0 _ wf_X10_44) (fun _ h9 => h9) rfl dX10_set_32 ?_
    refine z_ifle (tgt := 40) hx hb ⟨by omega, by omega⟩ dX10_set_35 (by decide) (fun c_35 => ?_) (fun c_35 => ?_)
    · exact absurd c_35 (by decide)
    · refine lv_iconst (v := zI 0) hx hb dX10_set_38 rfl ?_
      exact z_iret hC hr hlk hQ hP hD hS ⟨ms, mb, mk, 1, 0, (by exact ht.symm), (by first | exact fun _ => rfl | exact fun h9 => absurd h9 (by decide)), (by first | (rw [ht, if_pos rfl]; done) | (rw [ht, if_neg (by decide)]; done)), (by rw [ht]; first | (rw [if_pos rfl]; exact hv41_0) | (rw [if_neg (by decide)]; done)), (by rw [ht]; first | (rw [if_pos rfl]; exact hv41_1) | (rw [if_neg (by decide)]; done)), rfl, rfl⟩ dX10_set_39

abbrev wz_X10_heap : List Cond := .code yX10_heap cX10_heap 4 (some .int) :: W0
abbrev rm_X10_heap : Room := { frames := 3, cells := 0, slots := 0, locals := 70 }
theorem hd_X10_heap : yX10_heap.cls = RX10 ∧ yX10_heap.cls ≠ "java/lang/invoke/MethodHandle" ∧ yX10_heap.cls ≠ "java/lang/invoke/VarHandle" ∧ (parseMethodDescriptor yX10_heap.desc).map (fun d => d.parameters.length) = some 3 := by decide +kernel
set_option maxHeartbeats 4000000 in
set_option maxRecDepth 100000 in
theorem c_X10_heap (l : Launch) (D : va_G) (τ : Nat → Nat) (β : Nat → Nat) (δ : Nat → ClassId) (ms : IA) (mb : IA) (mo : IA) (mp : BA) (mf : IA) (mn : IA) (mi : IA) (mc : IA) (mq : BA) (mr : IA) (mw : IA) (mk : Int) (ml : Int) (mt : Int) (ma : Int) (mx : Bool) (mh : Int64) (r9 : Int) (c9 : Int) (a : Int) (hr9 : -2147483648 ≤ r9 ∧ r9 < 2147483648) (hc9 : -2147483648 ≤ c9 ∧ c9 < 2147483648) (ham : -2147483648 ≤ a ∧ a < 2147483648) (hmk : 0 ≤ mk ∧ mk ≤ 6) (hms : ∀ k, 0 ≤ k → k < 49 → 0 ≤ ms k ∧ ms k ≤ 99) : cM l yX10_heap wz_X10_heap rm_X10_heap D τ (tyM δ) [.ref (β 0), .int (zI r9), .int (zI c9), .int (zI a)] (wM β δ ms mb mo mp mf mn mi mc mq mr mw mk ml mt ma mx mh) (zQi (fun r w => ∃ (s2 : IA), ∃ (n2 : IA), ∃ (b2 : IA), ∃ (k2 : Int), ∃ (t2 : Int), ∃ (v : Int), (t2 = S_theap r9 c9 a) ∧ (t2 = 0 → v = S_diff (S_heap ms (7 * r9 + c9) a) ms) ∧ (s2 = (if S_theap r9 c9 a = 0 then S_heap ms (7 * r9 + c9) a else ms)) ∧ (b2 = (if S_theap r9 c9 a = 0 then S_sv mb ms mk else mb)) ∧ (k2 = (if S_theap r9 c9 a = 0 then S_svC mk else mk)) ∧ r = zI v ∧ wM β δ s2 b2 mo mp mf n2 mi mc mq mr mw k2 ml t2 ma mx mh = w)) := by
  refine z_ofM (cc := cX10_heap) (maxL := 4) (ret := (some .int)) (by decide +kernel) rfl (Nat.le_of_ble_eq_true rfl) ?_
  intro pg e s m args below meth c hC hr hlk hnm hK hP A hD hG hA hS ls hl Q hQ
  have hx := hC.1
  have hb := hC.2.1
  have hml := hC.2.2.1
  have hown := hC.2.2.2.1
  have hts := hC.2.2.2.2
  have hB : ∀ w ∈ W0, w ∈ wz_X10_heap := fun _ h => List.mem_cons_of_mem _ h
  have hW0 : ∀ w ∈ W0, w.before args s = true := fun w h => hts w (hB w h)
  have hl : lv_has ls 4 [(0, .ref (β 0)), (1, .int (zI r9)), (2, .int (zI c9)), (3, .int (zI a))] := hl
  refine lv_aload_n hx hb dX10_heap_0 rfl (lv_at hl 0 rfl) ?_
  refine lv_iload_n hx hb dX10_heap_1 rfl (lv_at hl 1 rfl) ?_
  refine lv_iload_n hx hb dX10_heap_2 rfl (lv_at hl 2 rfl) ?_
  refine z_calli hP hD hS hA (va_runS (As := [.int (zI r9), .int (zI c9)]) (rest := [.ref (β 0)]) hC (c_X10_isPoint l D τ _ _ r9 c9 (by first | assumption | rfl | omega) (by first | assumption | rfl | omega) _) (va_cwS 2 hts (gS hB wl_X10_55 wt_X10_isPoint wi_X10 wc_X10_isPoint) rfl rfl rfl hd_X10_isPoint.2 ⟨Nat.le_of_ble_eq_true rfl, Nat.le_of_ble_eq_true rfl⟩) (zp_S hK hP hD hS hA hG) rfl rfl hl.1 rfl (lv_room (Nat.le_of_ble_eq_true rfl)) dX10_heap_3 ⟨Nat.le_of_ble_eq_true rfl, Nat.le_of_ble_eq_true rfl⟩) (fun r w1 H locs hq9 hP hD hS => ?_)
  obtain ⟨v3_1, hv3_0, rfl, rfl⟩ := hq9
  refine z_ifneB (tgt := 13) hx hb dX10_heap_6 (by decide) (fun c_6 => ?_) (fun c_6 => ?_)
  · have hb_6 := hv3_0.mp c_6
    refine lv_iload_n hx hb dX10_heap_13 rfl (lv_at hl 3 rfl) ?_
    refine lv_bipush (v := zI (-60)) hx hb dX10_heap_14 (zI_b8 (by decide)) ?_
    refine lv_bipush (v := zI 60) hx hb dX10_heap_16 (zI_b8 (by decide)) ?_
    refine z_calli hP hD hS hA (va_runS (As := [.int (zI a), .int (zI (-60)), .int (zI 60)]) (rest := [.ref (β 0)]) hC (c_X10_in l D τ _ _ a (-60) 60 (by first | assumption | rfl | omega) (by first | assumption | rfl | omega) (by first | assumption | rfl | omega) _) (va_cwS 3 hts (gS hB wl_X10_48 wt_X10_in wi_X10 wc_X10_in) rfl rfl rfl hd_X10_in.2 ⟨Nat.le_of_ble_eq_true rfl, Nat.le_of_ble_eq_true rfl⟩) (zp_S hK hP hD hS hA hG) rfl rfl hl.1 rfl (lv_room (Nat.le_of_ble_eq_true rfl)) dX10_heap_18 ⟨Nat.le_of_ble_eq_true rfl, Nat.le_of_ble_eq_true rfl⟩) (fun r w1 H locs hq9 hP hD hS => ?_)
    obtain ⟨v18_2, hv18_0, rfl, rfl⟩ := hq9
    refine z_ifeqB (tgt := 32) hx hb dX10_heap_21 (by decide) (fun c_21 => ?_) (fun c_21 => ?_)
    · have hb_21 := zb_neg hv18_0 c_21
      refine lv_iconst (v := zI 2) hx hb dX10_heap_32 rfl ?_
      have ht : S_theap r9 c9 a = 2 := by unfold S_theap; first | (rw [if_pos hb_6, if_pos ⟨hb_21, c_25⟩]; done) | (rw [if_pos hb_6, if_neg (fun h9 => h9.2 c_25)]; done) | (rw [if_pos hb_6, if_neg (fun h9 => hb_21 h9.1)]; done) | (rw [if_neg hb_6]; done)
      refine va_put (D := D) (ci := 10) (v := .int (zI 2)) (ty := .int) (C := RX10) (T := TX10) (N := 17) hx hb hts (fun w h => List.mem_cons_of_mem _ (wx_X10 w h)) tyX10 tyX10_ok nmX10 hown hK hP hD hS 0 rfl rfl 7 (by decide) (hW0 _ wf_X10_44) (fun _ h9 => h9) rfl (by decide +kernel) rfl rfl (Nat.le_of_ble_eq_true rfl) dX10_heap_33 (fun H locs hP hD hS => ?_)
      have hP : va_P D vwCl (wM β δ ms mb mo mp mf mn mi mc mq mr mw mk ml 2 ma mx mh) H := hP
      have hD : va_D A (wM β δ ms mb mo mp mf mn mi mc mq mr mw mk ml 2 ma mx mh) := hD
      refine lv_aload_n hx hb dX10_heap_36 rfl (lv_at hl 0 rfl) ?_
      refine va_get (D := D) (ci := 10) (v := .int (zI 2)) (C := RX10) (T := TX10) (N := 17) hx hb hts (fun w h => List.mem_cons_of_mem _ (wx_X10 w h)) hown hK hP 0 rfl rfl 7 (by decide) (hW0 _ wf_X10_44) (fun _ h9 => h9) rfl dX10_heap_37 ?_
      refine z_ifle (tgt := 45) hx hb ⟨by omega, by omega⟩ dX10_heap_40 (by decide) (fun c_40 => ?_) (fun c_40 => ?_)
      · exact absurd c_40 (by decide)
      · refine lv_iconst (v := zI 0) hx hb dX10_heap_43 rfl ?_
        exact z_iret hC hr hlk hQ hP hD hS ⟨ms, mn, mb, mk, 2, 0, (by exact ht.symm), (by first | exact fun _ => hv53_1 | exact fun h9 => absurd h9 (by decide)), (by rw [ht]; first | (rw [if_pos rfl]; exact hv53_0) | (rw [if_neg (by decide)]; done)), (by rw [ht]; first | (rw [if_pos rfl]; exact hv46_0) | (rw [if_neg (by decide)]; done)), (by rw [ht]; first | (rw [if_pos rfl]; exact hv46_1) | (rw [if_neg (by decide)]; done)), rfl, rfl⟩ dX10_heap_44
    · have hb_21 := hv18_0.mp c_21
      refine lv_iload_n hx hb dX10_heap_24 rfl (lv_at hl 3 rfl) ?_
      refine z_ifeq (tgt := 32) hx hb ⟨by omega, by omega⟩ dX10_heap_25 (by decide) (fun c_25 => ?_) (fun c_25 => ?_)
      · refine lv_iconst (v := zI 2) hx hb dX10_heap_32 rfl ?_
        have ht : S_theap r9 c9 a = 2 := by unfold S_theap; first | (rw [if_pos hb_6, if_pos ⟨hb_21, c_25⟩]; done) | (rw [if_pos hb_6, if_neg (fun h9 => h9.2 c_25)]; done) | (rw [if_pos hb_6, if_neg (fun h9 => hb_21 h9.1)]; done) | (rw [if_neg hb_6]; done)
        refine va_put (D := D) (ci := 10) (v := .int (zI 2)) (ty := .int) (C := RX10) (T := TX10) (N := 17) hx hb hts (fun w h => List.mem_cons_of_mem _ (wx_X10 w h)) tyX10 tyX10_ok nmX10 hown hK hP hD hS 0 rfl rfl 7 (by decide) (hW0 _ wf_X10_44) (fun _ h9 => h9) rfl (by decide +kernel) rfl rfl (Nat.le_of_ble_eq_true rfl) dX10_heap_33 (fun H locs hP hD hS => ?_)
        have hP : va_P D vwCl (wM β δ ms mb mo mp mf mn mi mc mq mr mw mk ml 2 ma mx mh) H := hP
        have hD : va_D A (wM β δ ms mb mo mp mf mn mi mc mq mr mw mk ml 2 ma mx mh) := hD
        refine lv_aload_n hx hb dX10_heap_36 rfl (lv_at hl 0 rfl) ?_
        refine va_get (D := D) (ci := 10) (v := .int (zI 2)) (C := RX10) (T := TX10) (N := 17) hx hb hts (fun w h => List.mem_cons_of_mem _ (wx_X10 w h)) hown hK hP 0 rfl rfl 7 (by decide) (hW0 _ wf_X10_44) (fun _ h9 => h9) rfl dX10_heap_37 ?_
        refine z_ifle (tgt := 45) hx hb ⟨by omega, by omega⟩ dX10_heap_40 (by decide) (fun c_40 => ?_) (fun c_40 => ?_)
        · exact absurd c_40 (by decide)
        · refine lv_iconst (v := zI 0) hx hb dX10_heap_43 rfl ?_
          exact z_iret hC hr hlk hQ hP hD hS ⟨ms, mn, mb, mk, 2, 0, (by exact ht.symm), (by first | exact fun _ => hv53_1 | exact fun h9 => absurd h9 (by decide)), (by rw [ht]; first | (rw [if_pos rfl]; exact hv53_0) | (rw [if_neg (by decide)]; done)), (by rw [ht]; first | (rw [if_pos rfl]; exact hv46_0) | (rw [if_neg (by decide)]; done)), (by rw [ht]; first | (rw [if_pos rfl]; exact hv46_1) | (rw [if_neg (by decide)]; done)), rfl, rfl⟩ dX10_heap_44
      · refine lv_iconst (v := zI 0) hx hb dX10_heap_28 rfl ?_
        refine lv_goto (tgt := 33) hx hb dX10_heap_29 (by decide) ?_
        have ht : S_theap r9 c9 a = 0 := by unfold S_theap; first | (rw [if_pos hb_6, if_pos ⟨hb_21, c_25⟩]; done) | (rw [if_pos hb_6, if_neg (fun h9 => h9.2 c_25)]; done) | (rw [if_pos hb_6, if_neg (fun h9 => hb_21 h9.1)]; done) | (rw [if_neg hb_6]; done)
        refine va_put (D := D) (ci := 10) (v := .int (zI 0)) (ty := .int) (C := RX10) (T := TX10) (N := 17) hx hb hts (fun w h => List.mem_cons_of_mem _ (wx_X10 w h)) tyX10 tyX10_ok nmX10 hown hK hP hD hS 0 rfl rfl 7 (by decide) (hW0 _ wf_X10_44) (fun _ h9 => h9) rfl (by decide +kernel) rfl rfl (Nat.le_of_ble_eq_true rfl) dX10_heap_33 (fun H locs hP hD hS => ?_)
        have hP : va_P D vwCl (wM β δ ms mb mo mp mf mn mi mc mq mr mw mk ml 0 ma mx mh) H := hP
        have hD : va_D A (wM β δ ms mb mo mp mf mn mi mc mq mr mw mk ml 0 ma mx mh) := hD
        refine lv_aload_n hx hb dX10_heap_36 rfl (lv_at hl 0 rfl) ?_
        refine va_get (D := D) (ci := 10) (v := .int (zI 0)) (C := RX10) (T := TX10) (N := 17) hx hb hts (fun w h => List.mem_cons_of_mem _ (wx_X10 w h)) hown hK hP 0 rfl rfl 7 (by decide) (hW0 _ wf_X10_44) (fun _ h9 => h9) rfl dX10_heap_37 ?_
        refine z_ifle (tgt := 45) hx hb ⟨by omega, by omega⟩ dX10_heap_40 (by decide) (fun c_40 => ?_) (fun c_40 => ?_)
        · refine lv_aload_n hx hb dX10_heap_45 rfl (lv_at hl 0 rfl) ?_
          refine z_callv hP hD hS hA (va_runV (As := []) (rest := []) hC (c_X10_save l D τ β δ ms mb mo mp mf mn mi mc mq mr mw mk ml 0 ma mx mh (by first | assumption | rfl | omega) _) (cwV 0 hts (gV hB wl_X10_80 wn_X10_save ws_X10_save wi_X10 wc_X10_save) rfl rfl rfl hd_X10_save ⟨Nat.le_of_ble_eq_true rfl, Nat.le_of_ble_eq_true rfl⟩) (zp_V hK hP hD hS hA hG (ci := 10) (q0 := 0) rfl rfl rfl) rfl rfl hl.1 rfl (lv_room (Nat.le_of_ble_eq_true rfl)) dX10_heap_46 ⟨Nat.le_of_ble_eq_true rfl, Nat.le_of_ble_eq_true rfl⟩) (fun w1 H locs hq9 hP hD hS => ?_)
          obtain ⟨b46_3, k46_4, hv46_0, hv46_1, rfl⟩ := hq9
          have hP : va_P D vwCl (wM β δ ms b46_3 mo mp mf mn mi mc mq mr mw k46_4 ml 0 ma mx mh) H := hP
          have hD : va_D A (wM β δ ms b46_3 mo mp mf mn mi mc mq mr mw k46_4 ml 0 ma mx mh) := hD
          refine lv_aload_n hx hb dX10_heap_49 rfl (lv_at hl 0 rfl) ?_
          refine lv_iload_n hx hb dX10_heap_50 rfl (lv_at hl 1 rfl) ?_
          refine lv_iload_n hx hb dX10_heap_51 rfl (lv_at hl 2 rfl) ?_
          refine lv_iload_n hx hb dX10_heap_52 rfl (lv_at hl 3 rfl) ?_
          refine z_calli hP hD hS hA (va_runV (As := [.int (zI r9), .int (zI c9), .int (zI a)]) (rest := []) hC (c_X10_heaps l D τ β δ ms b46_3 mo mp mf mn mi mc mq mr mw k46_4 ml 0 ma mx mh r9 c9 a (by first | assumption | rfl | omega) (by first | assumption | rfl | omega) (by first | assumption | rfl | omega) (by first | assumption | rfl | omega) _) (cwV 3 hts (gV hB wl_X10_83 wn_X10_heaps ws_X10_heaps wi_X10 wc_X10_heaps) rfl rfl rfl hd_X10_heaps ⟨Nat.le_of_ble_eq_true rfl, Nat.le_of_ble_eq_true rfl⟩) (zp_V hK hP hD hS hA hG (ci := 10) (q0 := 0) rfl rfl rfl) rfl rfl hl.1 rfl (lv_room (Nat.le_of_ble_eq_true rfl)) dX10_heap_53 ⟨Nat.le_of_ble_eq_true rfl, Nat.le_of_ble_eq_true rfl⟩) (fun r w1 H locs hq9 hP hD hS => ?_)
          obtain ⟨s53_5, n53_6, v53_7, hv53_0, hv53_1, hv53_2, rfl, rfl⟩ := hq9
          have hP : va_P D vwCl (wM β δ s53_5 b46_3 mo mp mf n53_6 mi mc mq mr mw k46_4 ml 0 ma mx mh) H := hP
          have hD : va_D A (wM β δ s53_5 b46_3 mo mp mf n53_6 mi mc mq mr mw k46_4 ml 0 ma mx mh) := hD
          exact z_iret hC hr hlk hQ hP hD hS ⟨s53_5, n53_6, b46_3, k46_4, 0, v53_7, (by exact ht.symm), (by first | exact fun _ => hv53_1 | exact fun h9 => absurd h9 (by decide)), (by rw [ht]; first | (rw [if_pos rfl]; exact hv53_0) | (rw [if_neg (by decide)]; done)), (by rw [ht]; first | (rw [if_pos rfl]; exact hv46_0) | (rw [if_neg (by decide)]; done)), (by rw [ht]; first | (rw [if_pos rfl]; exact hv46_1) | (rw [if_neg (by decide)]; done)), rfl, rfl⟩ dX10_heap_56
        · exact absurd c_40 (by decide)
  · have hb_6 := zb_neg hv3_0 c_6
    refine lv_iconst (v := zI 1) hx hb dX10_heap_9 rfl ?_
    refine lv_goto (tgt := 33) hx hb dX10_heap_10 (by decide) ?_
    have ht : S_theap r9 c9 a = 1 := by unfold S_theap; first | (rw [if_pos hb_6, if_pos ⟨hb_21, c_25⟩]; done) | (rw [if_pos hb_6, if_neg (fun h9 => h9.2 c_25)]; done) | (rw [if_pos hb_6, if_neg (fun h9 => hb_21 h9.1)]; done) | (rw [if_neg hb_6]; done)
    refine va_put (D := D) (ci := 10) (v := .int (zI 1)) (ty := .int) (C := RX10) (T := TX10) (N := 17) hx hb hts (fun w h => List.mem_cons_of_mem _ (wx_X10 w h)) tyX10 tyX10_ok nmX10 hown hK hP hD hS 0 rfl rfl 7 (by decide) (hW0 _ wf_X10_44) (fun _ h9 => h9) rfl (by decide +kernel) rfl rfl (Nat.le_of_ble_eq_true rfl) dX10_heap_33 (fun H locs hP hD hS => ?_)
    have hP : va_P D vwCl (wM β δ ms mb mo mp mf mn mi mc mq mr mw mk ml 1 ma mx mh) H := hP
    have hD : va_D A (wM β δ ms mb mo mp mf mn mi mc mq mr mw mk ml 1 ma mx mh) := hD
    refine lv_aload_n hx hb dX10_heap_36 rfl (lv_at hl 0 rfl) ?_
    refine va_get (D := D) (ci := 10) (v := .int (zI 1)) (C := RX10) (T := TX10) (N := 17) hx hb hts (fun w h => List.mem_cons_of_mem _ (wx_X10 w h)) hown hK hP 0 rfl rfl 7 (by decide) (hW0 _ wf_X10_44) (fun _ h9 => h9) rfl dX10_heap_37 ?_
    refine z_ifle (tgt := 45) hx hb ⟨by omega, by omega⟩ dX10_heap_40 (by decide) (fun c_40 => ?_) (fun c_40 => ?_)
    · exact absurd c_40 (by decide)
    · refine lv_iconst (v := zI 0) hx hb dX10_heap_43 rfl ?_
      exact z_iret hC hr hlk hQ hP hD hS ⟨ms, mn, mb, mk, 1, 0, (by exact ht.symm), (by first | exact fun _ => hv53_1 | exact fun h9 => absurd h9 (by decide)), (by rw [ht]; first | (rw [if_pos rfl]; exact hv53_0) | (rw [if_neg (by decide)]; done)), (by rw [ht]; first | (rw [if_pos rfl]; exact hv46_0) | (rw [if_neg (by decide)]; done)), (by rw [ht]; first | (rw [if_pos rfl]; exact hv46_1) | (rw [if_neg (by decide)]; done)), rfl, rfl⟩ dX10_heap_44

abbrev wz_X10_smooth : List Cond := .code yX10_smooth cX10_smooth 1 (some .int) :: W0
abbrev rm_X10_smooth : Room := { frames := 4, cells := 0, slots := 0, locals := 91 }
theorem hd_X10_smooth : yX10_smooth.cls = RX10 ∧ yX10_smooth.cls ≠ "java/lang/invoke/MethodHandle" ∧ yX10_smooth.cls ≠ "java/lang/invoke/VarHandle" ∧ (parseMethodDescriptor yX10_smooth.desc).map (fun d => d.parameters.length) = some 0 := by decide +kernel
set_option maxHeartbeats 4000000 in
set_option maxRecDepth 100000 in
theorem c_X10_smooth (l : Launch) (D : va_G) (τ : Nat → Nat) (β : Nat → Nat) (δ : Nat → ClassId) (ms : IA) (mb : IA) (mo : IA) (mp : BA) (mf : IA) (mn : IA) (mi : IA) (mc : IA) (mq : BA) (mr : IA) (mw : IA) (mk : Int) (ml : Int) (mt : Int) (ma : Int) (mx : Bool) (mh : Int64) (hmk : 0 ≤ mk ∧ mk ≤ 6) (hms : ∀ k, 0 ≤ k → k < 49 → 0 ≤ ms k ∧ ms k ≤ 99) : cM l yX10_smooth wz_X10_smooth rm_X10_smooth D τ (tyM δ) [.ref (β 0)] (wM β δ ms mb mo mp mf mn mi mc mq mr mw mk ml mt ma mx mh) (zQi (fun r w => ∃ (s2 : IA), ∃ (n2 : IA), ∃ (b2 : IA), ∃ (k2 : Int), ∃ (v : Int), (s2 = S_smooth ms) ∧ (v = S_diff (S_smooth ms) ms) ∧ (b2 = S_sv mb ms mk) ∧ (k2 = S_svC mk) ∧ r = zI v ∧ wM β δ s2 b2 mo mp mf n2 mi mc mq mr mw k2 ml 0 ma mx mh = w)) := by
  refine z_ofM (cc := cX10_smooth) (maxL := 1) (ret := (some .int)) (by decide +kernel) rfl (Nat.le_of_ble_eq_true rfl) ?_
  intro pg e s m args below meth c hC hr hlk hnm hK hP A hD hG hA hS ls hl Q hQ
  have hx := hC.1
  have hb := hC.2.1
  have hml := hC.2.2.1
  have hown := hC.2.2.2.1
  have hts := hC.2.2.2.2
  have hB : ∀ w ∈ W0, w ∈ wz_X10_smooth := fun _ h => List.mem_cons_of_mem _ h
  have hW0 : ∀ w ∈ W0, w.before args s = true := fun w h => hts w (hB w h)
  have hl : lv_has ls 1 [(0, .ref (β 0))] := hl
  refine lv_aload_n hx hb dX10_smooth_0 rfl (lv_at hl 0 rfl) ?_
  refine lv_iconst (v := zI 0) hx hb dX10_smooth_1 rfl ?_
  refine va_put (D := D) (ci := 10) (v := .int (zI 0)) (ty := .int) (C := RX10) (T := TX10) (N := 17) hx hb hts (fun w h => List.mem_cons_of_mem _ (wx_X10 w h)) tyX10 tyX10_ok nmX10 hown hK hP hD hS 0 rfl rfl 7 (by decide) (hW0 _ wf_X10_44) (fun _ h9 => h9) rfl (by decide +kernel) rfl rfl (Nat.le_of_ble_eq_true rfl) dX10_smooth_2 (fun H locs hP hD hS => ?_)
  have hP : va_P D vwCl (wM β δ ms mb mo mp mf mn mi mc mq mr mw mk ml 0 ma mx mh) H := hP
  have hD : va_D A (wM β δ ms mb mo mp mf mn mi mc mq mr mw mk ml 0 ma mx mh) := hD
  refine lv_aload_n hx hb dX10_smooth_5 rfl (lv_at hl 0 rfl) ?_
  refine z_callv hP hD hS hA (va_runV (As := []) (rest := []) hC (c_X10_save l D τ β δ ms mb mo mp mf mn mi mc mq mr mw mk ml 0 ma mx mh (by first | assumption | rfl | omega) _) (cwV 0 hts (gV hB wl_X10_80 wn_X10_save ws_X10_save wi_X10 wc_X10_save) rfl rfl rfl hd_X10_save ⟨Nat.le_of_ble_eq_true rfl, Nat.le_of_ble_eq_true rfl⟩) (zp_V hK hP hD hS hA hG (ci := 10) (q0 := 0) rfl rfl rfl) rfl rfl hl.1 rfl (lv_room (Nat.le_of_ble_eq_true rfl)) dX10_smooth_6 ⟨Nat.le_of_ble_eq_true rfl, Nat.le_of_ble_eq_true rfl⟩) (fun w1 H locs hq9 hP hD hS => ?_)
  obtain ⟨b6_1, k6_2, hv6_0, hv6_1, rfl⟩ := hq9
  have hP : va_P D vwCl (wM β δ ms b6_1 mo mp mf mn mi mc mq mr mw k6_2 ml 0 ma mx mh) H := hP
  have hD : va_D A (wM β δ ms b6_1 mo mp mf mn mi mc mq mr mw k6_2 ml 0 ma mx mh) := hD
  refine lv_aload_n hx hb dX10_smooth_9 rfl (lv_at hl 0 rfl) ?_
  refine z_calli hP hD hS hA (va_runV (As := []) (rest := []) hC (c_X10_smooths l D τ β δ ms b6_1 mo mp mf mn mi mc mq mr mw k6_2 ml 0 ma mx mh (by first | assumption | rfl | omega) _) (cwV 0 hts (gV hB wl_X10_87 wn_X10_smooths ws_X10_smooths wi_X10 wc_X10_smooths) rfl rfl rfl hd_X10_smooths ⟨Nat.le_of_ble_eq_true rfl, Nat.le_of_ble_eq_true rfl⟩) (zp_V hK hP hD hS hA hG (ci := 10) (q0 := 0) rfl rfl rfl) rfl rfl hl.1 rfl (lv_room (Nat.le_of_ble_eq_true rfl)) dX10_smooth_10 ⟨Nat.le_of_ble_eq_true rfl, Nat.le_of_ble_eq_true rfl⟩) (fun r w1 H locs hq9 hP hD hS => ?_)
  obtain ⟨s10_3, n10_4, v10_5, hv10_0, hv10_1, hv10_2, rfl, rfl⟩ := hq9
  have hP : va_P D vwCl (wM β δ s10_3 b6_1 mo mp mf n10_4 mi mc mq mr mw k6_2 ml 0 ma mx mh) H := hP
  have hD : va_D A (wM β δ s10_3 b6_1 mo mp mf n10_4 mi mc mq mr mw k6_2 ml 0 ma mx mh) := hD
  exact z_iret hC hr hlk hQ hP hD hS ⟨s10_3, n10_4, b6_1, k6_2, v10_5, (by exact hv10_0), (by exact hv10_1), (by exact hv6_0), (by exact hv6_1), rfl, rfl⟩ dX10_smooth_13

abbrev wz_X10_wash : List Cond := .code yX10_wash cX10_wash 4 (some .int) :: W0
abbrev rm_X10_wash : Room := { frames := 6, cells := 0, slots := 0, locals := 135 }
theorem hd_X10_wash : yX10_wash.cls = RX10 ∧ yX10_wash.cls ≠ "java/lang/invoke/MethodHandle" ∧ yX10_wash.cls ≠ "java/lang/invoke/VarHandle" ∧ (parseMethodDescriptor yX10_wash.desc).map (fun d => d.parameters.length) = some 1 := by decide +kernel
set_option maxHeartbeats 4000000 in
set_option maxRecDepth 100000 in
theorem c_X10_wash (l : Launch) (D : va_G) (τ : Nat → Nat) (β : Nat → Nat) (δ : Nat → ClassId) (ms : IA) (mb : IA) (mo : IA) (mp : BA) (mf : IA) (mn : IA) (mi : IA) (mc : IA) (mq : BA) (mr : IA) (mw : IA) (mk : Int) (ml : Int) (mt : Int) (ma : Int) (mx : Bool) (mh : Int64) (n9 : Int) (hn9 : -2147483648 ≤ n9 ∧ n9 < 2147483648) (hmk : 0 ≤ mk ∧ mk ≤ 6) (hms : ∀ k, 0 ≤ k → k < 49 → 0 ≤ ms k ∧ ms k ≤ 99) : cM l yX10_wash wz_X10_wash rm_X10_wash D τ (tyM δ) [.ref (β 0), .int (zI n9)] (wM β δ ms mb mo mp mf mn mi mc mq mr mw mk ml mt ma mx mh) (zQi (fun r w => ∃ (s2 : IA), ∃ (n2 : IA), ∃ (b2 : IA), ∃ (k2 : Int), ∃ (t2 : Int), ∃ (v : Int), (t2 = S_twash n9) ∧ (t2 = 0 → v = S_given ms n9) ∧ (s2 = (if S_twash n9 = 0 then S_wash ms n9 else ms)) ∧ (b2 = (if S_twash n9 = 0 then S_sv mb ms mk else mb)) ∧ (k2 = (if S_twash n9 = 0 then S_svC mk else mk)) ∧ r = zI v ∧ wM β δ s2 b2 mo mp mf n2 mi mc mq mr mw k2 ml t2 ma mx mh = w)) := by
  refine z_ofM (cc := cX10_wash) (maxL := 4) (ret := (some .int)) (by decide +kernel) rfl (Nat.le_of_ble_eq_true rfl) ?_
  intro pg e s m args below meth c hC hr hlk hnm hK hP A hD hG hA hS ls hl Q hQ
  have hx := hC.1
  have hb := hC.2.1
  have hml := hC.2.2.1
  have hown := hC.2.2.2.1
  have hts := hC.2.2.2.2
  have hB : ∀ w ∈ W0, w ∈ wz_X10_wash := fun _ h => List.mem_cons_of_mem _ h
  have hW0 : ∀ w ∈ W0, w.before args s = true := fun w h => hts w (hB w h)
  have hl : lv_has ls 4 [(0, .ref (β 0)), (1, .int (zI n9))] := hl
  refine lv_aload_n hx hb dX10_wash_0 rfl (lv_at hl 0 rfl) ?_
  refine lv_iconst (v := zI 0) hx hb dX10_wash_1 rfl ?_
  refine va_put (D := D) (ci := 10) (v := .int (zI 0)) (ty := .int) (C := RX10) (T := TX10) (N := 17) hx hb hts (fun w h => List.mem_cons_of_mem _ (wx_X10 w h)) tyX10 tyX10_ok nmX10 hown hK hP hD hS 0 rfl rfl 7 (by decide) (hW0 _ wf_X10_44) (fun _ h9 => h9) rfl (by decide +kernel) rfl rfl (Nat.le_of_ble_eq_true rfl) dX10_wash_2 (fun H locs hP hD hS => ?_)
  have hP : va_P D vwCl (wM β δ ms mb mo mp mf mn mi mc mq mr mw mk ml 0 ma mx mh) H := hP
  have hD : va_D A (wM β δ ms mb mo mp mf mn mi mc mq mr mw mk ml 0 ma mx mh) := hD
  refine lv_iload_n hx hb dX10_wash_5 rfl (lv_at hl 1 rfl) ?_
  refine lv_iconst (v := zI 1) hx hb dX10_wash_6 rfl ?_
  refine lv_bipush (v := zI 50) hx hb dX10_wash_7 (zI_b8 (by decide)) ?_
  refine z_calli hP hD hS hA (va_runS (As := [.int (zI n9), .int (zI 1), .int (zI 50)]) (rest := []) hC (c_X10_in l D τ _ _ n9 1 50 (by first | assumption | rfl | omega) (by first | assumption | rfl | omega) (by first | assumption | rfl | omega) _) (va_cwS 3 hts (gS hB wl_X10_48 wt_X10_in wi_X10 wc_X10_in) rfl rfl rfl hd_X10_in.2 ⟨Nat.le_of_ble_eq_true rfl, Nat.le_of_ble_eq_true rfl⟩) (zp_S hK hP hD hS hA hG) rfl rfl hl.1 rfl (lv_room (Nat.le_of_ble_eq_true rfl)) dX10_wash_9 ⟨Nat.le_of_ble_eq_true rfl, Nat.le_of_ble_eq_true rfl⟩) (fun r w1 H locs hq9 hP hD hS => ?_)
  obtain ⟨v9_1, hv9_0, rfl, rfl⟩ := hq9
  refine z_ifneB (tgt := 21) hx hb dX10_wash_12 (by decide) (fun c_12 => ?_) (fun c_12 => ?_)
  · have hb_12 := hv9_0.mp c_12
    have ht : S_twash n9 = 0 := if_pos hb_12
    refine lv_aload_n hx hb dX10_wash_21 rfl (lv_at hl 0 rfl) ?_
    refine z_callv hP hD hS hA (va_runV (As := []) (rest := []) hC (c_X10_save l D τ β δ ms mb mo mp mf mn mi mc mq mr mw mk ml 0 ma mx mh (by first | assumption | rfl | omega) _) (cwV 0 hts (gV hB wl_X10_80 wn_X10_save ws_X10_save wi_X10 wc_X10_save) rfl rfl rfl hd_X10_save ⟨Nat.le_of_ble_eq_true rfl, Nat.le_of_ble_eq_true rfl⟩) (zp_V hK hP hD hS hA hG (ci := 10) (q0 := 0) rfl rfl rfl) rfl rfl hl.1 rfl (lv_room (Nat.le_of_ble_eq_true rfl)) dX10_wash_22 ⟨Nat.le_of_ble_eq_true rfl, Nat.le_of_ble_eq_true rfl⟩) (fun w1 H locs hq9 hP hD hS => ?_)
    obtain ⟨b22_2, k22_3, hv22_0, hv22_1, rfl⟩ := hq9
    have hP : va_P D vwCl (wM β δ ms b22_2 mo mp mf mn mi mc mq mr mw k22_3 ml 0 ma mx mh) H := hP
    have hD : va_D A (wM β δ ms b22_2 mo mp mf mn mi mc mq mr mw k22_3 ml 0 ma mx mh) := hD
    refine lv_iconst (v := zI 0) hx hb dX10_wash_25 rfl ?_
    refine lv_istore_n (lv' := [(2, .int (zI 0)), (0, .ref (β 0)), (1, .int (zI n9))]) hx hb dX10_wash_26 rfl hl (by decide) rfl (fun ls hl => ?_)
    refine lv_iconst (v := zI 0) hx hb dX10_wash_27 rfl ?_
    refine lv_istore_n (lv' := [(3, .int (zI 0)), (2, .int (zI 0)), (0, .ref (β 0)), (1, .int (zI n9))]) hx hb dX10_wash_28 rfl hl (by decide) rfl (fun ls hl => ?_)
    suffices HL_29 : ∀ (n_29 : Nat), ∀ (s1 : IA) (n1 : IA) (g : Int) (i : Int) (H : Heap) (locs : List Loc) (hP : va_P D vwCl (wM β δ s1 b22_2 mo mp mf n1 mi mc mq mr mw k22_3 ml 0 ma mx mh) H) (hD : va_D A (wM β δ s1 b22_2 mo mp mf n1 mi mc mq mr mw k22_3 ml 0 ma mx mh)) (hS : va_S A s.heap H locs) (ls : Array Slot) (hl : lv_has ls 4 [(2, .int (zI g)), (3, .int (zI i)), (0, .ref (β 0)), (1, .int (zI n9))]) (hi : 0 ≤ i ∧ i ≤ n9) (hs1 : s1 = S_wash ms i) (hg : g = S_given ms i) (hsb : ∀ k, 0 ≤ k → k < 49 → 0 ≤ s1 k ∧ s1 k ≤ 99) (hm : (n9 - i).toNat < n_29), W pg l e rm_X10_wash s m args below meth c H locs 0 0 Q (F0 m 29 ls []) from HL_29 _ ms mn 0 0 _ _ hP hD hS _ (lv_sub hl [1, 0, 2, 3] rfl) (by first | assumption | rfl | omega) (by rfl) (by rfl) (by exact hms) (Nat.lt_succ_self _)
    intro n_29
    induction n_29 with
    | zero => intro s1 n1 g i H locs hP hD hS ls hl hi hs1 hg hsb hm; exact absurd hm (Nat.not_lt_zero _)
    | succ n_29 ih_29 =>
      intro s1 n1 g i H locs hP hD hS ls hl hi hs1 hg hsb hm
      refine lv_iload_n hx hb dX10_wash_29 rfl (lv_at hl 1 rfl) ?_
      refine lv_iload_n hx hb dX10_wash_30 rfl (lv_at hl 3 rfl) ?_
      refine z_icge (tgt := 47) hx hb ⟨by omega, by omega⟩ ⟨by omega, by omega⟩ dX10_wash_31 (by decide) (fun c_31 => ?_) (fun c_31 => ?_)
      · refine lv_iload_n hx hb dX10_wash_47 rfl (lv_at hl 0 rfl) ?_
        exact z_iret hC hr hlk hQ hP hD hS ⟨s1, n1, b22_2, k22_3, 0, g, (by first | exact hv17_1.trans ht.symm | exact ht.symm), (by first | (intro _; rw [hg, show i = n9 by omega]; done) | (intro h9; exfalso; omega)), (by rw [ht]; first | (rw [if_pos rfl, hs1, show i = n9 by omega]; done) | (rw [if_neg (by decide)]; done)), (by rw [ht]; first | (rw [if_pos rfl]; exact hv22_0) | (rw [if_neg (by decide)]; done)), (by rw [ht]; first | (rw [if_pos rfl]; exact hv22_1) | (rw [if_neg (by decide)]; done)), rfl, rfl⟩ dX10_wash_48
      · refine lv_iload_n hx hb dX10_wash_34 rfl (lv_at hl 0 rfl) ?_
        refine lv_aload_n hx hb dX10_wash_35 rfl (lv_at hl 2 rfl) ?_
        refine z_calli hP hD hS hA (va_runV (As := []) (rest := [.int (zI g)]) hC (c_X10_showers l D τ β δ s1 b22_2 mo mp mf n1 mi mc mq mr mw k22_3 ml 0 ma mx mh (by exact hsb) _) (cwV 0 hts (gV hB wl_X10_93 wn_X10_showers ws_X10_showers wi_X10 wc_X10_showers) rfl rfl rfl hd_X10_showers ⟨Nat.le_of_ble_eq_true rfl, Nat.le_of_ble_eq_true rfl⟩) (zp_V hK hP hD hS hA hG (ci := 10) (q0 := 0) rfl rfl rfl) rfl rfl hl.1 rfl (lv_room (Nat.le_of_ble_eq_true rfl)) dX10_wash_36 ⟨Nat.le_of_ble_eq_true rfl, Nat.le_of_ble_eq_true rfl⟩) (fun r w1 H locs hq9 hP hD hS => ?_)
        obtain ⟨s36_4, n36_5, v36_6, hv36_0, hv36_1, hv36_2, rfl, rfl⟩ := hq9
        have hP : va_P D vwCl (wM β δ s36_4 b22_2 mo mp mf n36_5 mi mc mq mr mw k22_3 ml 0 ma mx mh) H := hP
        have hD : va_D A (wM β δ s36_4 b22_2 mo mp mf n36_5 mi mc mq mr mw k22_3 ml 0 ma mx mh) := hD
        refine z_iadd hx hb dX10_wash_39 ?_
        refine lv_istore_n (lv' := [(2, .int (zI (g + v36_6))), (3, .int (zI i)), (0, .ref (β 0)), (1, .int (zI n9))]) hx hb dX10_wash_40 rfl hl (by decide) rfl (fun ls hl => ?_)
        refine z_iinc (k := 1) (v := i + 1) (lv' := [(3, .int (zI (i + 1))), (2, .int (zI (g + v36_6))), (0, .ref (β 0)), (1, .int (zI n9))]) hx hb dX10_wash_41 hl rfl rfl (by decide) rfl (fun ls hl => ?_)
        refine lv_goto (tgt := 29) hx hb dX10_wash_44 (by decide) ?_
        exact ih_29 s36_4 n36_5 (g + v36_6) (i + 1) _ _ hP hD hS _ (lv_sub hl [1, 0, 2, 3] rfl) (by first | assumption | rfl | omega) (by rw [S_wash_up hi.1, ← hs1]; exact hv36_0) (by rw [S_given_up hi.1, ← hg, ← hs1, hv36_1]) (by rw [hv36_0]; exact S_wash1_b hsb) (by omega)
  · have hb_12 := zb_neg hv9_0 c_12
    have ht : S_twash n9 = 1 := if_neg hb_12
    refine lv_aload_n hx hb dX10_wash_15 rfl (lv_at hl 0 rfl) ?_
    refine lv_iconst (v := zI 1) hx hb dX10_wash_16 rfl ?_
    refine z_calli hP hD hS hA (va_runV (As := [.int (zI 1)]) (rest := []) hC (c_X10_throwing l D τ β δ ms mb mo mp mf mn mi mc mq mr mw mk ml 0 ma mx mh 1 _) (cwV 1 hts (gV hB wl_X10_90 wn_X10_throwing ws_X10_throwing wi_X10 wc_X10_throwing) rfl rfl rfl hd_X10_throwing ⟨Nat.le_of_ble_eq_true rfl, Nat.le_of_ble_eq_true rfl⟩) (zp_V hK hP hD hS hA hG (ci := 10) (q0 := 0) rfl rfl rfl) rfl rfl hl.1 rfl (lv_room (Nat.le_of_ble_eq_true rfl)) dX10_wash_17 ⟨Nat.le_of_ble_eq_true rfl, Nat.le_of_ble_eq_true rfl⟩) (fun r w1 H locs hq9 hP hD hS => ?_)
    obtain ⟨t17_7, v17_8, hv17_0, hv17_1, rfl, rfl⟩ := hq9
    have hP : va_P D vwCl (wM β δ ms mb mo mp mf mn mi mc mq mr mw mk ml t17_7 ma mx mh) H := hP
    have hD : va_D A (wM β δ ms mb mo mp mf mn mi mc mq mr mw mk ml t17_7 ma mx mh) := hD
    exact z_iret hC hr hlk hQ hP hD hS ⟨ms, mn, mb, mk, t17_7, v17_8, (by first | exact hv17_1.trans ht.symm | exact ht.symm), (by first | (intro _; rw [hg, show i = n9 by omega]; done) | (intro h9; exfalso; omega)), (by rw [ht]; first | (rw [if_pos rfl, hs1, show i = n9 by omega]; done) | (rw [if_neg (by decide)]; done)), (by rw [ht]; first | (rw [if_pos rfl]; exact hv22_0) | (rw [if_neg (by decide)]; done)), (by rw [ht]; first | (rw [if_pos rfl]; exact hv22_1) | (rw [if_neg (by decide)]; done)), rfl, rfl⟩ dX10_wash_20

abbrev wz_X10_turnMap : List Cond := .code yX10_turnMap cX10_turnMap 2 (some .int) :: W0
abbrev rm_X10_turnMap : Room := { frames := 2, cells := 0, slots := 0, locals := 43 }
theorem hd_X10_turnMap : yX10_turnMap.cls = RX10 ∧ yX10_turnMap.cls ≠ "java/lang/invoke/MethodHandle" ∧ yX10_turnMap.cls ≠ "java/lang/invoke/VarHandle" ∧ (parseMethodDescriptor yX10_turnMap.desc).map (fun d => d.parameters.length) = some 0 := by decide +kernel
set_option maxHeartbeats 4000000 in
set_option maxRecDepth 100000 in
theorem c_X10_turnMap (l : Launch) (D : va_G) (τ : Nat → Nat) (β : Nat → Nat) (δ : Nat → ClassId) (ms : IA) (mb : IA) (mo : IA) (mp : BA) (mf : IA) (mn : IA) (mi : IA) (mc : IA) (mq : BA) (mr : IA) (mw : IA) (mk : Int) (ml : Int) (mt : Int) (ma : Int) (mx : Bool) (mh : Int64) (hmk : 0 ≤ mk ∧ mk ≤ 6) (hms : ∀ k, 0 ≤ k → k < 49 → 0 ≤ ms k ∧ ms k ≤ 99) : cM l yX10_turnMap wz_X10_turnMap rm_X10_turnMap D τ (tyM δ) [.ref (β 0)] (wM β δ ms mb mo mp mf mn mi mc mq mr mw mk ml mt ma mx mh) (zQi (fun r w => ∃ (s2 : IA), ∃ (n2 : IA), ∃ (b2 : IA), ∃ (k2 : Int), ∃ (v : Int), (s2 = S_turn ms) ∧ (v = S_diff (S_turn ms) ms) ∧ (b2 = S_sv mb ms mk) ∧ (k2 = S_svC mk) ∧ r = zI v ∧ wM β δ s2 b2 mo mp mf n2 mi mc mq mr mw k2 ml 0 ma mx mh = w)) := by
  refine z_ofM (cc := cX10_turnMap) (maxL := 2) (ret := (some .int)) (by decide +kernel) rfl (Nat.le_of_ble_eq_true rfl) ?_
  intro pg e s m args below meth c hC hr hlk hnm hK hP A hD hG hA hS ls hl Q hQ
  have hx := hC.1
  have hb := hC.2.1
  have hml := hC.2.2.1
  have hown := hC.2.2.2.1
  have hts := hC.2.2.2.2
  have hB : ∀ w ∈ W0, w ∈ wz_X10_turnMap := fun _ h => List.mem_cons_of_mem _ h
  have hW0 : ∀ w ∈ W0, w.before args s = true := fun w h => hts w (hB w h)
  have hl : lv_has ls 2 [(0, .ref (β 0))] := hl
  refine lv_aload_n hx hb dX10_turnMap_0 rfl (lv_at hl 0 rfl) ?_
  refine lv_iconst (v := zI 0) hx hb dX10_turnMap_1 rfl ?_
  refine va_put (D := D) (ci := 10) (v := .int (zI 0)) (ty := .int) (C := RX10) (T := TX10) (N := 17) hx hb hts (fun w h => List.mem_cons_of_mem _ (wx_X10 w h)) tyX10 tyX10_ok nmX10 hown hK hP hD hS 0 rfl rfl 7 (by decide) (hW0 _ wf_X10_44) (fun _ h9 => h9) rfl (by decide +kernel) rfl rfl (Nat.le_of_ble_eq_true rfl) dX10_turnMap_2 (fun H locs hP hD hS => ?_)
  have hP : va_P D vwCl (wM β δ ms mb mo mp mf mn mi mc mq mr mw mk ml 0 ma mx mh) H := hP
  have hD : va_D A (wM β δ ms mb mo mp mf mn mi mc mq mr mw mk ml 0 ma mx mh) := hD
  refine lv_aload_n hx hb dX10_turnMap_5 rfl (lv_at hl 0 rfl) ?_
  refine z_callv hP hD hS hA (va_runV (As := []) (rest := []) hC (c_X10_save l D τ β δ ms mb mo mp mf mn mi mc mq mr mw mk ml 0 ma mx mh (by first | assumption | rfl | omega) _) (cwV 0 hts (gV hB wl_X10_80 wn_X10_save ws_X10_save wi_X10 wc_X10_save) rfl rfl rfl hd_X10_save ⟨Nat.le_of_ble_eq_true rfl, Nat.le_of_ble_eq_true rfl⟩) (zp_V hK hP hD hS hA hG (ci := 10) (q0 := 0) rfl rfl rfl) rfl rfl hl.1 rfl (lv_room (Nat.le_of_ble_eq_true rfl)) dX10_turnMap_6 ⟨Nat.le_of_ble_eq_true rfl, Nat.le_of_ble_eq_true rfl⟩) (fun w1 H locs hq9 hP hD hS => ?_)
  obtain ⟨b6_1, k6_2, hv6_0, hv6_1, rfl⟩ := hq9
  have hP : va_P D vwCl (wM β δ ms b6_1 mo mp mf mn mi mc mq mr mw k6_2 ml 0 ma mx mh) H := hP
  have hD : va_D A (wM β δ ms b6_1 mo mp mf mn mi mc mq mr mw k6_2 ml 0 ma mx mh) := hD
  refine lv_iconst (v := zI 0) hx hb dX10_turnMap_9 rfl ?_
  refine lv_istore_n (lv' := [(1, .int (zI 0)), (0, .ref (β 0))]) hx hb dX10_turnMap_10 rfl hl (by decide) rfl (fun ls hl => ?_)
  suffices HL_11 : ∀ (n_11 : Nat), ∀ (n1 : IA) (i : Int) (H : Heap) (locs : List Loc) (hP : va_P D vwCl (wM β δ ms b6_1 mo mp mf n1 mi mc mq mr mw k6_2 ml 0 ma mx mh) H) (hD : va_D A (wM β δ ms b6_1 mo mp mf n1 mi mc mq mr mw k6_2 ml 0 ma mx mh)) (hS : va_S A s.heap H locs) (ls : Array Slot) (hl : lv_has ls 2 [(1, .int (zI i)), (0, .ref (β 0))]) (hi : 0 ≤ i ∧ i ≤ 49) (hn1 : ∀ k, 0 ≤ k → k < i → n1 k = ms (S_pointAt (6 - k % 7) (k / 7)) ∧ (0 ≤ n1 k ∧ n1 k ≤ 99)) (hm : (49 - i).toNat < n_11), W pg l e rm_X10_turnMap s m args below meth c H locs 0 0 Q (F0 m 11 ls []) from HL_11 _ mn 0 _ _ hP hD hS _ (lv_sub hl [0, 1] rfl) (by first | assumption | rfl | omega) (by intro k q1 q2; omega) (Nat.lt_succ_self _)
  intro n_11
  induction n_11 with
  | zero => intro n1 i H locs hP hD hS ls hl hi hn1 hm; exact absurd hm (Nat.not_lt_zero _)
  | succ n_11 ih_11 =>
    intro n1 i H locs hP hD hS ls hl hi hn1 hm
    refine lv_iload_n hx hb dX10_turnMap_11 rfl (lv_at hl 0 rfl) ?_
    refine lv_bipush (v := zI 49) hx hb dX10_turnMap_12 (zI_b8 (by decide)) ?_
    refine z_icge (tgt := 49) hx hb ⟨by omega, by omega⟩ ⟨by omega, by omega⟩ dX10_turnMap_14 (by decide) (fun c_14 => ?_) (fun c_14 => ?_)
    · refine lv_aload_n hx hb dX10_turnMap_49 rfl (lv_at hl 1 rfl) ?_
      refine z_calli hP hD hS hA (va_runV (As := []) (rest := []) hC (c_X10_takes l D τ β δ ms b6_1 mo mp mf n1 mi mc mq mr mw k6_2 ml 0 ma mx mh (by exact hms) (by intro k q1 q2; have z9 := (hn1 k q1 (by omega)).2; omega) _) (cwV 0 hts (gV hB wl_X10_66 wn_X10_takes ws_X10_takes wi_X10 wc_X10_takes) rfl rfl rfl hd_X10_takes ⟨Nat.le_of_ble_eq_true rfl, Nat.le_of_ble_eq_true rfl⟩) (zp_V hK hP hD hS hA hG (ci := 10) (q0 := 0) rfl rfl rfl) rfl rfl hl.1 rfl (lv_room (Nat.le_of_ble_eq_true rfl)) dX10_turnMap_50 ⟨Nat.le_of_ble_eq_true rfl, Nat.le_of_ble_eq_true rfl⟩) (fun r w1 H locs hq9 hP hD hS => ?_)
      obtain ⟨s50_3, v50_4, hv50_0, hv50_1, hv50_2, rfl, rfl⟩ := hq9
      have hP : va_P D vwCl (wM β δ s50_3 b6_1 mo mp mf n1 mi mc mq mr mw k6_2 ml 0 ma mx mh) H := hP
      have hD : va_D A (wM β δ s50_3 b6_1 mo mp mf n1 mi mc mq mr mw k6_2 ml 0 ma mx mh) := hD
      have hze : zmix 49 (fun k => clip (n1 k)) ms = S_turn ms := zmix_cg (fun k q1 q2 => by show clip (n1 k) = clip (ms (S_pointAt (6 - k % 7) (k / 7))); rw [(hn1 k q1 (by omega)).1])
      exact z_iret hC hr hlk hQ hP hD hS ⟨s50_3, n1, b6_1, k6_2, v50_4, (by rw [hv50_0]; exact hze), (by rw [hv50_1, hv50_0, hze]), (by exact hv6_0), (by exact hv6_1), rfl, rfl⟩ dX10_turnMap_53
    · refine lv_aload_n hx hb dX10_turnMap_17 rfl (lv_at hl 1 rfl) ?_
      refine va_get (D := D) (ci := 10) (v := .ref (β 6)) (C := RX10) (T := TX10) (N := 17) hx hb hts (fun w h => List.mem_cons_of_mem _ (wx_X10 w h)) hown hK hP 0 rfl rfl 8 (by decide) (hW0 _ wf_X10_26) (fun _ h9 => h9) rfl dX10_turnMap_18 ?_
      refine lv_iload_n hx hb dX10_turnMap_21 rfl (lv_at hl 0 rfl) ?_
      refine lv_aload_n hx hb dX10_turnMap_22 rfl (lv_at hl 1 rfl) ?_
      refine va_get (D := D) (ci := 10) (v := .ref (β 1)) (C := RX10) (T := TX10) (N := 17) hx hb hts (fun w h => List.mem_cons_of_mem _ (wx_X10 w h)) hown hK hP 0 rfl rfl 0 (by decide) (hW0 _ wf_X10_7) (fun _ h9 => h9) rfl dX10_turnMap_23 ?_
      refine lv_bipush (v := zI 7) hx hb dX10_turnMap_26 (zI_b8 (by decide)) ?_
      refine lv_bipush (v := zI 6) hx hb dX10_turnMap_28 (zI_b8 (by decide)) ?_
      refine lv_iload_n hx hb dX10_turnMap_30 rfl (lv_at hl 0 rfl) ?_
      refine lv_bipush (v := zI 7) hx hb dX10_turnMap_31 (zI_b8 (by decide)) ?_
      refine z_irem hx hb ⟨⟨by omega, by omega⟩, by omega, by omega⟩ dX10_turnMap_33 ?_
      refine z_isub hx hb dX10_turnMap_34 ?_
      refine z_imul hx hb dX10_turnMap_35 ?_
      refine lv_iload_n hx hb dX10_turnMap_36 rfl (lv_at hl 0 rfl) ?_
      refine lv_bipush (v := zI 7) hx hb dX10_turnMap_37 (zI_b8 (by decide)) ?_
      refine z_idiv hx hb ⟨⟨by omega, by omega⟩, by omega, by omega⟩ dX10_turnMap_39 ?_
      refine z_iadd hx hb dX10_turnMap_40 ?_
      refine z_iald (f := ms) hx hb hK hP 1 0 rfl rfl ⟨⟨by omega, by omega⟩, by decide⟩ dX10_turnMap_41 ?_
      have hb_41 := hms ((7 * (6 - (i % 7))) + (i / 7)) (by omega) (by omega)
      refine z_iast (f := n1) (v := ms ((7 * (6 - (i % 7))) + (i / 7))) hx hb hK hP hD hS 6 5 rfl rfl ⟨⟨by omega, by omega⟩, by decide⟩ dX10_turnMap_42 (fun H locs hP hD hS => ?_)
      have hP : va_P D vwCl (wM β δ ms b6_1 mo mp mf ((zu n1 i (ms ((7 * (6 - (i % 7))) + (i / 7))))) mi mc mq mr mw k6_2 ml 0 ma mx mh) H := hP
      have hD : va_D A (wM β δ ms b6_1 mo mp mf ((zu n1 i (ms ((7 * (6 - (i % 7))) + (i / 7))))) mi mc mq mr mw k6_2 ml 0 ma mx mh) := hD
      refine z_iinc (k := 0) (v := i + 1) (lv' := [(1, .int (zI (i + 1))), (0, .ref (β 0))]) hx hb dX10_turnMap_43 hl rfl rfl (by decide) rfl (fun ls hl => ?_)
      refine lv_goto (tgt := 11) hx hb dX10_turnMap_46 (by decide) ?_
      exact ih_11 (zu n1 i (ms ((7 * (6 - (i % 7))) + (i / 7)))) (i + 1) _ _ hP hD hS _ (lv_sub hl [0, 1] rfl) (by first | assumption | rfl | omega) (by intro k q1 q2; by_cases e9 : k = i; (focus (rw [e9, zu_s, S_pointAt_in (by omega) (by omega)]; exact ⟨congrArg ms (by omega), hb_41⟩)); (rw [zu_n e9]; exact hn1 k q1 (by omega))) (by omega)

abbrev wz_X10_append : List Cond := .code yX10_append cX10_append 2 (some .int) :: W0
abbrev rm_X10_append : Room := { frames := 1, cells := 0, slots := 0, locals := 22 }
theorem hd_X10_append : yX10_append.cls = RX10 ∧ yX10_append.cls ≠ "java/lang/invoke/MethodHandle" ∧ yX10_append.cls ≠ "java/lang/invoke/VarHandle" ∧ (parseMethodDescriptor yX10_append.desc).map (fun d => d.parameters.length) = some 1 := by decide +kernel
set_option maxHeartbeats 4000000 in
set_option maxRecDepth 100000 in
theorem c_X10_append (l : Launch) (D : va_G) (τ : Nat → Nat) (β : Nat → Nat) (δ : Nat → ClassId) (ms : IA) (mb : IA) (mo : IA) (mp : BA) (mf : IA) (mn : IA) (mi : IA) (mc : IA) (mq : BA) (mr : IA) (mw : IA) (mk : Int) (ml : Int) (mt : Int) (ma : Int) (mx : Bool) (mh : Int64) (a : Int) (ha : -2147483648 ≤ a ∧ a < 2147483648) (hml9 : 0 ≤ ml ∧ ml ≤ 60) : cM l yX10_append wz_X10_append rm_X10_append D τ (tyM δ) [.ref (β 0), .int (zI a)] (wM β δ ms mb mo mp mf mn mi mc mq mr mw mk ml mt ma mx mh) (zQi (fun r w => ∃ (f2 : IA), ∃ (l2 : Int), ∃ (t2 : Int), ∃ (v : Int), (t2 = S_tapp a ml) ∧ (t2 = 0 → v = ml + 1) ∧ (f2 = (if S_tapp a ml = 0 then zu mf ml a else mf)) ∧ (l2 = (if S_tapp a ml = 0 then ml + 1 else ml)) ∧ r = zI v ∧ wM β δ ms mb mo mp f2 mn mi mc mq mr mw mk l2 t2 ma mx mh = w)) := by
  refine z_ofM (cc := cX10_append) (maxL := 2) (ret := (some .int)) (by decide +kernel) rfl (Nat.le_of_ble_eq_true rfl) ?_
  intro pg e s m args below meth c hC hr hlk hnm hK hP A hD hG hA hS ls hl Q hQ
  have hx := hC.1
  have hb := hC.2.1
  have hml := hC.2.2.1
  have hown := hC.2.2.2.1
  have hts := hC.2.2.2.2
  have hB : ∀ w ∈ W0, w ∈ wz_X10_append := fun _ h => List.mem_cons_of_mem _ h
  have hW0 : ∀ w ∈ W0, w.before args s = true := fun w h => hts w (hB w h)
  have hl : lv_has ls 2 [(0, .ref (β 0)), (1, .int (zI a))] := hl
  refine lv_aload_n hx hb dX10_append_0 rfl (lv_at hl 0 rfl) ?_
  refine lv_iconst (v := zI 0) hx hb dX10_append_1 rfl ?_
  refine va_put (D := D) (ci := 10) (v := .int (zI 0)) (ty := .int) (C := RX10) (T := TX10) (N := 17) hx hb hts (fun w h => List.mem_cons_of_mem _ (wx_X10 w h)) tyX10 tyX10_ok nmX10 hown hK hP hD hS 0 rfl rfl 7 (by decide) (hW0 _ wf_X10_44) (fun _ h9 => h9) rfl (by decide +kernel) rfl rfl (Nat.le_of_ble_eq_true rfl) dX10_append_2 (fun H locs hP hD hS => ?_)
  have hP : va_P D vwCl (wM β δ ms mb mo mp mf mn mi mc mq mr mw mk ml 0 ma mx mh) H := hP
  have hD : va_D A (wM β δ ms mb mo mp mf mn mi mc mq mr mw mk ml 0 ma mx mh) := hD
  refine lv_iload_n hx hb dX10_append_5 rfl (lv_at hl 1 rfl) ?_
  refine lv_bipush (v := zI 33) hx hb dX10_append_6 (zI_b8 (by decide)) ?_
  refine lv_bipush (v := zI 126) hx hb dX10_append_8 (zI_b8 (by decide)) ?_
  refine z_calli hP hD hS hA (va_runS (As := [.int (zI a), .int (zI 33), .int (zI 126)]) (rest := []) hC (c_X10_in l D τ _ _ a 33 126 (by first | assumption | rfl | omega) (by first | assumption | rfl | omega) (by first | assumption | rfl | omega) _) (va_cwS 3 hts (gS hB wl_X10_48 wt_X10_in wi_X10 wc_X10_in) rfl rfl rfl hd_X10_in.2 ⟨Nat.le_of_ble_eq_true rfl, Nat.le_of_ble_eq_true rfl⟩) (zp_S hK hP hD hS hA hG) rfl rfl hl.1 rfl (lv_room (Nat.le_of_ble_eq_true rfl)) dX10_append_10 ⟨Nat.le_of_ble_eq_true rfl, Nat.le_of_ble_eq_true rfl⟩) (fun r w1 H locs hq9 hP hD hS => ?_)
  obtain ⟨v10_1, hv10_0, rfl, rfl⟩ := hq9
  refine z_ifneB (tgt := 22) hx hb dX10_append_13 (by decide) (fun c_13 => ?_) (fun c_13 => ?_)
  · have hb_13 := hv10_0.mp c_13
    refine lv_aload_n hx hb dX10_append_22 rfl (lv_at hl 0 rfl) ?_
    refine va_get (D := D) (ci := 10) (v := .int (zI ml)) (C := RX10) (T := TX10) (N := 17) hx hb hts (fun w h => List.mem_cons_of_mem _ (wx_X10 w h)) hown hK hP 0 rfl rfl 6 (by decide) (hW0 _ wf_X10_96) (fun _ h9 => h9) rfl dX10_append_23 ?_
    refine lv_bipush (v := zI 60) hx hb dX10_append_26 (zI_b8 (by decide)) ?_
    refine z_icne (tgt := 37) hx hb ⟨by omega, by omega⟩ ⟨by omega, by omega⟩ dX10_append_28 (by decide) (fun c_28 => ?_) (fun c_28 => ?_)
    · have ht : S_tapp a ml = 0 := by unfold S_tapp; rw [if_pos hb_13, if_neg c_28]
      refine lv_aload_n hx hb dX10_append_37 rfl (lv_at hl 0 rfl) ?_
      refine va_get (D := D) (ci := 10) (v := .ref (β 5)) (C := RX10) (T := TX10) (N := 17) hx hb hts (fun w h => List.mem_cons_of_mem _ (wx_X10 w h)) hown hK hP 0 rfl rfl 5 (by decide) (hW0 _ wf_X10_23) (fun _ h9 => h9) rfl dX10_append_38 ?_
      refine lv_aload_n hx hb dX10_append_41 rfl (lv_at hl 0 rfl) ?_
      refine va_get (D := D) (ci := 10) (v := .int (zI ml)) (C := RX10) (T := TX10) (N := 17) hx hb hts (fun w h => List.mem_cons_of_mem _ (wx_X10 w h)) hown hK hP 0 rfl rfl 6 (by decide) (hW0 _ wf_X10_96) (fun _ h9 => h9) rfl dX10_append_42 ?_
      refine lv_iload_n hx hb dX10_append_45 rfl (lv_at hl 1 rfl) ?_
      refine z_iast (f := mf) (v := a) hx hb hK hP hD hS 5 4 rfl rfl ⟨⟨by omega, by omega⟩, by decide⟩ dX10_append_46 (fun H locs hP hD hS => ?_)
      have hP : va_P D vwCl (wM β δ ms mb mo mp (zu mf ml a) mn mi mc mq mr mw mk ml 0 ma mx mh) H := hP
      have hD : va_D A (wM β δ ms mb mo mp (zu mf ml a) mn mi mc mq mr mw mk ml 0 ma mx mh) := hD
      refine lv_aload_n hx hb dX10_append_47 rfl (lv_at hl 0 rfl) ?_
      refine lv_dup hx hb dX10_append_48 rfl ?_
      refine va_get (D := D) (ci := 10) (v := .int (zI ml)) (C := RX10) (T := TX10) (N := 17) hx hb hts (fun w h => List.mem_cons_of_mem _ (wx_X10 w h)) hown hK hP 0 rfl rfl 6 (by decide) (hW0 _ wf_X10_96) (fun _ h9 => h9) rfl dX10_append_49 ?_
      refine lv_iconst (v := zI 1) hx hb dX10_append_52 rfl ?_
      refine z_iadd hx hb dX10_append_53 ?_
      refine va_put (D := D) (ci := 10) (v := .int (zI (ml + 1))) (ty := .int) (C := RX10) (T := TX10) (N := 17) hx hb hts (fun w h => List.mem_cons_of_mem _ (wx_X10 w h)) tyX10 tyX10_ok nmX10 hown hK hP hD hS 0 rfl rfl 6 (by decide) (hW0 _ wf_X10_96) (fun _ h9 => h9) rfl (by decide +kernel) rfl rfl (Nat.le_of_ble_eq_true rfl) dX10_append_54 (fun H locs hP hD hS => ?_)
      have hP : va_P D vwCl (wM β δ ms mb mo mp (zu mf ml a) mn mi mc mq mr mw mk (ml + 1) 0 ma mx mh) H := hP
      have hD : va_D A (wM β δ ms mb mo mp (zu mf ml a) mn mi mc mq mr mw mk (ml + 1) 0 ma mx mh) := hD
      refine lv_aload_n hx hb dX10_append_57 rfl (lv_at hl 0 rfl) ?_
      refine va_get (D := D) (ci := 10) (v := .int (zI (ml + 1))) (C := RX10) (T := TX10) (N := 17) hx hb hts (fun w h => List.mem_cons_of_mem _ (wx_X10 w h)) hown hK hP 0 rfl rfl 6 (by decide) (hW0 _ wf_X10_96) (fun _ h9 => h9) rfl dX10_append_58 ?_
      exact z_iret hC hr hlk hQ hP hD hS ⟨zu mf ml a, ml + 1, 0, ml + 1, (by first | exact hv18_1.trans ht.symm | exact hv33_1.trans ht.symm | exact ht.symm), (by first | exact fun _ => rfl | (intro h9; exfalso; omega)), (by first | (rw [ht, if_pos rfl]; done) | (rw [ht, if_neg (by decide)]; done)), (by first | (rw [ht, if_pos rfl]; done) | (rw [ht, if_neg (by decide)]; done)), rfl, rfl⟩ dX10_append_61
    · have ht : S_tapp a ml = 2 := by unfold S_tapp; rw [if_pos hb_13, if_pos c_28]
      refine lv_aload_n hx hb dX10_append_31 rfl (lv_at hl 0 rfl) ?_
      refine lv_iconst (v := zI 2) hx hb dX10_append_32 rfl ?_
      refine z_calli hP hD hS hA (va_runV (As := [.int (zI 2)]) (rest := []) hC (c_X10_throwing l D τ β δ ms mb mo mp mf mn mi mc mq mr mw mk ml 0 ma mx mh 2 _) (cwV 1 hts (gV hB wl_X10_90 wn_X10_throwing ws_X10_throwing wi_X10 wc_X10_throwing) rfl rfl rfl hd_X10_throwing ⟨Nat.le_of_ble_eq_true rfl, Nat.le_of_ble_eq_true rfl⟩) (zp_V hK hP hD hS hA hG (ci := 10) (q0 := 0) rfl rfl rfl) rfl rfl hl.1 rfl (lv_room (Nat.le_of_ble_eq_true rfl)) dX10_append_33 ⟨Nat.le_of_ble_eq_true rfl, Nat.le_of_ble_eq_true rfl⟩) (fun r w1 H locs hq9 hP hD hS => ?_)
      obtain ⟨t33_2, v33_3, hv33_0, hv33_1, rfl, rfl⟩ := hq9
      have hP : va_P D vwCl (wM β δ ms mb mo mp mf mn mi mc mq mr mw mk ml t33_2 ma mx mh) H := hP
      have hD : va_D A (wM β δ ms mb mo mp mf mn mi mc mq mr mw mk ml t33_2 ma mx mh) := hD
      exact z_iret hC hr hlk hQ hP hD hS ⟨mf, ml, t33_2, v33_3, (by first | exact hv18_1.trans ht.symm | exact hv33_1.trans ht.symm | exact ht.symm), (by first | exact fun _ => rfl | (intro h9; exfalso; omega)), (by first | (rw [ht, if_pos rfl]; done) | (rw [ht, if_neg (by decide)]; done)), (by first | (rw [ht, if_pos rfl]; done) | (rw [ht, if_neg (by decide)]; done)), rfl, rfl⟩ dX10_append_36
  · have hb_13 := zb_neg hv10_0 c_13
    have ht : S_tapp a ml = 1 := if_neg hb_13
    refine lv_aload_n hx hb dX10_append_16 rfl (lv_at hl 0 rfl) ?_
    refine lv_iconst (v := zI 1) hx hb dX10_append_17 rfl ?_
    refine z_calli hP hD hS hA (va_runV (As := [.int (zI 1)]) (rest := []) hC (c_X10_throwing l D τ β δ ms mb mo mp mf mn mi mc mq mr mw mk ml 0 ma mx mh 1 _) (cwV 1 hts (gV hB wl_X10_90 wn_X10_throwing ws_X10_throwing wi_X10 wc_X10_throwing) rfl rfl rfl hd_X10_throwing ⟨Nat.le_of_ble_eq_true rfl, Nat.le_of_ble_eq_true rfl⟩) (zp_V hK hP hD hS hA hG (ci := 10) (q0 := 0) rfl rfl rfl) rfl rfl hl.1 rfl (lv_room (Nat.le_of_ble_eq_true rfl)) dX10_append_18 ⟨Nat.le_of_ble_eq_true rfl, Nat.le_of_ble_eq_true rfl⟩) (fun r w1 H locs hq9 hP hD hS => ?_)
    obtain ⟨t18_4, v18_5, hv18_0, hv18_1, rfl, rfl⟩ := hq9
    have hP : va_P D vwCl (wM β δ ms mb mo mp mf mn mi mc mq mr mw mk ml t18_4 ma mx mh) H := hP
    have hD : va_D A (wM β δ ms mb mo mp mf mn mi mc mq mr mw mk ml t18_4 ma mx mh) := hD
    exact z_iret hC hr hlk hQ hP hD hS ⟨mf, ml, t18_4, v18_5, (by first | exact hv18_1.trans ht.symm | exact hv33_1.trans ht.symm | exact ht.symm), (by first | exact fun _ => rfl | (intro h9; exfalso; omega)), (by first | (rw [ht, if_pos rfl]; done) | (rw [ht, if_neg (by decide)]; done)), (by first | (rw [ht, if_pos rfl]; done) | (rw [ht, if_neg (by decide)]; done)), rfl, rfl⟩ dX10_append_21

abbrev wz_X10_clearBuffer : List Cond := .code yX10_clearBuffer cX10_clearBuffer 2 (some .int) :: W0
abbrev rm_X10_clearBuffer : Room := { frames := 0, cells := 0, slots := 0, locals := 0 }
theorem hd_X10_clearBuffer : yX10_clearBuffer.cls = RX10 ∧ yX10_clearBuffer.cls ≠ "java/lang/invoke/MethodHandle" ∧ yX10_clearBuffer.cls ≠ "java/lang/invoke/VarHandle" ∧ (parseMethodDescriptor yX10_clearBuffer.desc).map (fun d => d.parameters.length) = some 0 := by decide +kernel
set_option maxHeartbeats 4000000 in
set_option maxRecDepth 100000 in
theorem c_X10_clearBuffer (l : Launch) (D : va_G) (τ : Nat → Nat) (β : Nat → Nat) (δ : Nat → ClassId) (ms : IA) (mb : IA) (mo : IA) (mp : BA) (mf : IA) (mn : IA) (mi : IA) (mc : IA) (mq : BA) (mr : IA) (mw : IA) (mk : Int) (ml : Int) (mt : Int) (ma : Int) (mx : Bool) (mh : Int64) : cM l yX10_clearBuffer wz_X10_clearBuffer rm_X10_clearBuffer D τ (tyM δ) [.ref (β 0)] (wM β δ ms mb mo mp mf mn mi mc mq mr mw mk ml mt ma mx mh) (zQi (fun r w => ∃ (v : Int), (v = ml) ∧ r = zI v ∧ wM β δ ms mb mo mp mf mn mi mc mq mr mw mk 0 0 ma mx mh = w)) := by
  refine z_ofM (cc := cX10_clearBuffer) (maxL := 2) (ret := (some .int)) (by decide +kernel) rfl (Nat.le_of_ble_eq_true rfl) ?_
  intro pg e s m args below meth c hC hr hlk hnm hK hP A hD hG hA hS ls hl Q hQ
  have hx := hC.1
  have hb := hC.2.1
  have hml := hC.2.2.1
  have hown := hC.2.2.2.1
  have hts := hC.2.2.2.2
  have hB : ∀ w ∈ W0, w ∈ wz_X10_clearBuffer := fun _ h => List.mem_cons_of_mem _ h
  have hW0 : ∀ w ∈ W0, w.before args s = true := fun w h => hts w (hB w h)
  have hl : lv_has ls 2 [(0, .ref (β 0))] := hl
  refine lv_aload_n hx hb dX10_clearBuffer_0 rfl (lv_at hl 0 rfl) ?_
  refine lv_iconst (v := zI 0) hx hb dX10_clearBuffer_1 rfl ?_
  refine va_put (D := D) (ci := 10) (v := .int (zI 0)) (ty := .int) (C := RX10) (T := TX10) (N := 17) hx hb hts (fun w h => List.mem_cons_of_mem _ (wx_X10 w h)) tyX10 tyX10_ok nmX10 hown hK hP hD hS 0 rfl rfl 7 (by decide) (hW0 _ wf_X10_44) (fun _ h9 => h9) rfl (by decide +kernel) rfl rfl (Nat.le_of_ble_eq_true rfl) dX10_clearBuffer_2 (fun H locs hP hD hS => ?_)
  have hP : va_P D vwCl (wM β δ ms mb mo mp mf mn mi mc mq mr mw mk ml 0 ma mx mh) H := hP
  have hD : va_D A (wM β δ ms mb mo mp mf mn mi mc mq mr mw mk ml 0 ma mx mh) := hD
  refine lv_aload_n hx hb dX10_clearBuffer_5 rfl (lv_at hl 0 rfl) ?_
  refine va_get (D := D) (ci := 10) (v := .int (zI ml)) (C := RX10) (T := TX10) (N := 17) hx hb hts (fun w h => List.mem_cons_of_mem _ (wx_X10 w h)) hown hK hP 0 rfl rfl 6 (by decide) (hW0 _ wf_X10_96) (fun _ h9 => h9) rfl dX10_clearBuffer_6 ?_
  refine lv_istore_n (lv' := [(1, .int (zI ml)), (0, .ref (β 0))]) hx hb dX10_clearBuffer_9 rfl hl (by decide) rfl (fun ls hl => ?_)
  refine lv_aload_n hx hb dX10_clearBuffer_10 rfl (lv_at hl 1 rfl) ?_
  refine lv_iconst (v := zI 0) hx hb dX10_clearBuffer_11 rfl ?_
  refine va_put (D := D) (ci := 10) (v := .int (zI 0)) (ty := .int) (C := RX10) (T := TX10) (N := 17) hx hb hts (fun w h => List.mem_cons_of_mem _ (wx_X10 w h)) tyX10 tyX10_ok nmX10 hown hK hP hD hS 0 rfl rfl 6 (by decide) (hW0 _ wf_X10_96) (fun _ h9 => h9) rfl (by decide +kernel) rfl rfl (Nat.le_of_ble_eq_true rfl) dX10_clearBuffer_12 (fun H locs hP hD hS => ?_)
  have hP : va_P D vwCl (wM β δ ms mb mo mp mf mn mi mc mq mr mw mk 0 0 ma mx mh) H := hP
  have hD : va_D A (wM β δ ms mb mo mp mf mn mi mc mq mr mw mk 0 0 ma mx mh) := hD
  refine lv_iload_n hx hb dX10_clearBuffer_15 rfl (lv_at hl 0 rfl) ?_
  exact z_iret hC hr hlk hQ hP hD hS ⟨ml, (by first | assumption | rfl | omega), rfl, rfl⟩ dX10_clearBuffer_16

abbrev wz_X10_keep : List Cond := .code yX10_keep cX10_keep 3 none :: W0
abbrev rm_X10_keep : Room := { frames := 1, cells := 0, slots := 0, locals := 22 }
theorem hd_X10_keep : yX10_keep.cls = RX10 ∧ yX10_keep.cls ≠ "java/lang/invoke/MethodHandle" ∧ yX10_keep.cls ≠ "java/lang/invoke/VarHandle" ∧ (parseMethodDescriptor yX10_keep.desc).map (fun d => d.parameters.length) = some 1 := by decide +kernel
set_option maxHeartbeats 4000000 in
set_option maxRecDepth 100000 in
theorem c_X10_keep (l : Launch) (D : va_G) (τ : Nat → Nat) (β : Nat → Nat) (δ : Nat → ClassId) (ms : IA) (mb : IA) (mo : IA) (mp : BA) (mf : IA) (mn : IA) (mi : IA) (mc : IA) (mq : BA) (mr : IA) (mw : IA) (mk : Int) (ml : Int) (mt : Int) (ma : Int) (mx : Bool) (mh : Int64) (k9 : Int) (hk9 : -2147483648 ≤ k9 ∧ k9 < 2147483648) : cM l yX10_keep wz_X10_keep rm_X10_keep D τ (tyM δ) [.ref (β 0), .int (zI k9)] (wM β δ ms mb mo mp mf mn mi mc mq mr mw mk ml mt ma mx mh) (zQv (fun w => ∃ (o2 : IA), ∃ (p2 : BA), ∃ (t2 : Int), (t2 = S_tslot k9) ∧ (o2 = (if S_tslot k9 = 0 then zcpy ms mo 0 (49 * k9) 49 else mo)) ∧ (p2 = (if S_tslot k9 = 0 then bu mp k9 true else mp)) ∧ wM β δ ms mb o2 p2 mf mn mi mc mq mr mw mk ml t2 ma mx mh = w)) := by
  refine z_ofM (cc := cX10_keep) (maxL := 3) (ret := none) (by decide +kernel) rfl (Nat.le_of_ble_eq_true rfl) ?_
  intro pg e s m args below meth c hC hr hlk hnm hK hP A hD hG hA hS ls hl Q hQ
  have hx := hC.1
  have hb := hC.2.1
  have hml := hC.2.2.1
  have hown := hC.2.2.2.1
  have hts := hC.2.2.2.2
  have hB : ∀ w ∈ W0, w ∈ wz_X10_keep := fun _ h => List.mem_cons_of_mem _ h
  have hW0 : ∀ w ∈ W0, w.before args s = true := fun w h => hts w (hB w h)
  have hl : lv_has ls 3 [(0, .ref (β 0)), (1, .int (zI k9))] := hl
  refine lv_aload_n hx hb dX10_keep_0 rfl (lv_at hl 0 rfl) ?_
  refine lv_iload_n hx hb dX10_keep_1 rfl (lv_at hl 1 rfl) ?_
  refine lv_iconst (v := zI 0) hx hb dX10_keep_2 rfl ?_
  refine lv_iconst (v := zI 1) hx hb dX10_keep_3 rfl ?_
  refine z_calli hP hD hS hA (va_runS (As := [.int (zI k9), .int (zI 0), .int (zI 1)]) (rest := [.ref (β 0)]) hC (c_X10_in l D τ _ _ k9 0 1 (by first | assumption | rfl | omega) (by first | assumption | rfl | omega) (by first | assumption | rfl | omega) _) (va_cwS 3 hts (gS hB wl_X10_48 wt_X10_in wi_X10 wc_X10_in) rfl rfl rfl hd_X10_in.2 ⟨Nat.le_of_ble_eq_true rfl, Nat.le_of_ble_eq_true rfl⟩) (zp_S hK hP hD hS hA hG) rfl rfl hl.1 rfl (lv_room (Nat.le_of_ble_eq_true rfl)) dX10_keep_4 ⟨Nat.le_of_ble_eq_true rfl, Nat.le_of_ble_eq_true rfl⟩) (fun r w1 H locs hq9 hP hD hS => ?_)
  obtain ⟨v4_1, hv4_0, rfl, rfl⟩ := hq9
  refine z_ifeqB (tgt := 14) hx hb dX10_keep_7 (by decide) (fun c_7 => ?_) (fun c_7 => ?_)
  · have hb_7 := zb_neg hv4_0 c_7
    refine lv_iconst (v := zI 1) hx hb dX10_keep_14 rfl ?_
    have ht : S_tslot k9 = 1 := by unfold S_tslot; first | (rw [if_pos hb_7]; done) | (rw [if_neg hb_7]; done)
    refine va_put (D := D) (ci := 10) (v := .int (zI 1)) (ty := .int) (C := RX10) (T := TX10) (N := 17) hx hb hts (fun w h => List.mem_cons_of_mem _ (wx_X10 w h)) tyX10 tyX10_ok nmX10 hown hK hP hD hS 0 rfl rfl 7 (by decide) (hW0 _ wf_X10_44) (fun _ h9 => h9) rfl (by decide +kernel) rfl rfl (Nat.le_of_ble_eq_true rfl) dX10_keep_15 (fun H locs hP hD hS => ?_)
    have hP : va_P D vwCl (wM β δ ms mb mo mp mf mn mi mc mq mr mw mk ml 1 ma mx mh) H := hP
    have hD : va_D A (wM β δ ms mb mo mp mf mn mi mc mq mr mw mk ml 1 ma mx mh) := hD
    refine lv_iconst (v := zI 0) hx hb dX10_keep_18 rfl ?_
    refine lv_istore_n (lv' := [(2, .int (zI 0)), (0, .ref (β 0)), (1, .int (zI k9))]) hx hb dX10_keep_19 rfl hl (by decide) rfl (fun ls hl => ?_)
    suffices HL_20 : ∀ (n_20 : Nat), ∀ (o1 : IA) (i : Int) (H : Heap) (locs : List Loc) (hP : va_P D vwCl (wM β δ ms mb o1 mp mf mn mi mc mq mr mw mk ml 1 ma mx mh) H) (hD : va_D A (wM β δ ms mb o1 mp mf mn mi mc mq mr mw mk ml 1 ma mx mh)) (hS : va_S A s.heap H locs) (ls : Array Slot) (hl : lv_has ls 3 [(2, .int (zI i)), (0, .ref (β 0)), (1, .int (zI k9))]) (hi : 0 ≤ i ∧ i ≤ 49) (ho1 : o1 = zcpy ms mo 0 (49 * k9) i) (hz : (0 ≤ k9 ∧ k9 ≤ 1) ∨ i = 0) (hm : (49 - i).toNat < n_20), W pg l e rm_X10_keep s m args below meth c H locs 0 0 Q (F0 m 20 ls []) from HL_20 _ mo 0 _ _ hP hD hS _ (lv_sub hl [0, 1, 2] rfl) (by first | assumption | rfl | omega) (by exact (zcpy_0 _ _ _ _).symm) (by first | assumption | rfl | omega) (Nat.lt_succ_self _)
    intro n_20
    induction n_20 with
    | zero => intro o1 i H locs hP hD hS ls hl hi ho1 hz hm; exact absurd hm (Nat.not_lt_zero _)
    | succ n_20 ih_20 =>
      intro o1 i H locs hP hD hS ls hl hi ho1 hz hm
      refine lv_iload_n hx hb dX10_keep_20 rfl (lv_at hl 0 rfl) ?_
      refine lv_bipush (v := zI 49) hx hb dX10_keep_21 (zI_b8 (by decide)) ?_
      refine z_icge (tgt := 56) hx hb ⟨by omega, by omega⟩ ⟨by omega, by omega⟩ dX10_keep_23 (by decide) (fun c_23 => ?_) (fun c_23 => ?_)
      · refine lv_aload_n hx hb dX10_keep_56 rfl (lv_at hl 1 rfl) ?_
        refine va_get (D := D) (ci := 10) (v := .int (zI 1)) (C := RX10) (T := TX10) (N := 17) hx hb hts (fun w h => List.mem_cons_of_mem _ (wx_X10 w h)) hown hK hP 0 rfl rfl 7 (by decide) (hW0 _ wf_X10_44) (fun _ h9 => h9) rfl dX10_keep_57 ?_
        refine z_ifne (tgt := 70) hx hb ⟨by omega, by omega⟩ dX10_keep_60 (by decide) (fun c_60 => ?_) (fun c_60 => ?_)
        · exact z_vret hC hr hlk hQ hP hD hS ⟨o1, mp, 1, (by exact ht.symm), (by rw [ht]; first | (rw [if_pos rfl, ho1, show i = 49 by omega]; done) | (rw [if_neg (by decide), ho1, show i = 0 by omega]; exact zcpy_0 _ _ _ _)), (by first | (rw [ht, if_pos rfl]; done) | (rw [ht, if_neg (by decide)]; done)), rfl⟩ dX10_keep_70
        · exact absurd c_60 (by decide)
      · refine lv_aload_n hx hb dX10_keep_26 rfl (lv_at hl 1 rfl) ?_
        refine va_get (D := D) (ci := 10) (v := .int (zI 1)) (C := RX10) (T := TX10) (N := 17) hx hb hts (fun w h => List.mem_cons_of_mem _ (wx_X10 w h)) hown hK hP 0 rfl rfl 7 (by decide) (hW0 _ wf_X10_44) (fun _ h9 => h9) rfl dX10_keep_27 ?_
        refine z_ifne (tgt := 56) hx hb ⟨by omega, by omega⟩ dX10_keep_30 (by decide) (fun c_30 => ?_) (fun c_30 => ?_)
        · refine lv_aload_n hx hb dX10_keep_56 rfl (lv_at hl 1 rfl) ?_
          refine va_get (D := D) (ci := 10) (v := .int (zI 1)) (C := RX10) (T := TX10) (N := 17) hx hb hts (fun w h => List.mem_cons_of_mem _ (wx_X10 w h)) hown hK hP 0 rfl rfl 7 (by decide) (hW0 _ wf_X10_44) (fun _ h9 => h9) rfl dX10_keep_57 ?_
          refine z_ifne (tgt := 70) hx hb ⟨by omega, by omega⟩ dX10_keep_60 (by decide) (fun c_60 => ?_) (fun c_60 => ?_)
          · exact z_vret hC hr hlk hQ hP hD hS ⟨o1, mp, 1, (by exact ht.symm), (by rw [ht]; first | (rw [if_pos rfl, ho1, show i = 49 by omega]; done) | (rw [if_neg (by decide), ho1, show i = 0 by omega]; exact zcpy_0 _ _ _ _)), (by first | (rw [ht, if_pos rfl]; done) | (rw [ht, if_neg (by decide)]; done)), rfl⟩ dX10_keep_70
          · exact absurd c_60 (by decide)
        · exact absurd c_30 (by decide)
  · have hb_7 := hv4_0.mp c_7
    refine lv_iconst (v := zI 0) hx hb dX10_keep_10 rfl ?_
    refine lv_goto (tgt := 15) hx hb dX10_keep_11 (by decide) ?_
    have ht : S_tslot k9 = 0 := by unfold S_tslot; first | (rw [if_pos hb_7]; done) | (rw [if_neg hb_7]; done)
    refine va_put (D := D) (ci := 10) (v := .int (zI 0)) (ty := .int) (C := RX10) (T := TX10) (N := 17) hx hb hts (fun w h => List.mem_cons_of_mem _ (wx_X10 w h)) tyX10 tyX10_ok nmX10 hown hK hP hD hS 0 rfl rfl 7 (by decide) (hW0 _ wf_X10_44) (fun _ h9 => h9) rfl (by decide +kernel) rfl rfl (Nat.le_of_ble_eq_true rfl) dX10_keep_15 (fun H locs hP hD hS => ?_)
    have hP : va_P D vwCl (wM β δ ms mb mo mp mf mn mi mc mq mr mw mk ml 0 ma mx mh) H := hP
    have hD : va_D A (wM β δ ms mb mo mp mf mn mi mc mq mr mw mk ml 0 ma mx mh) := hD
    refine lv_iconst (v := zI 0) hx hb dX10_keep_18 rfl ?_
    refine lv_istore_n (lv' := [(2, .int (zI 0)), (0, .ref (β 0)), (1, .int (zI k9))]) hx hb dX10_keep_19 rfl hl (by decide) rfl (fun ls hl => ?_)
    suffices HL_20 : ∀ (n_20 : Nat), ∀ (o1 : IA) (i : Int) (H : Heap) (locs : List Loc) (hP : va_P D vwCl (wM β δ ms mb o1 mp mf mn mi mc mq mr mw mk ml 0 ma mx mh) H) (hD : va_D A (wM β δ ms mb o1 mp mf mn mi mc mq mr mw mk ml 0 ma mx mh)) (hS : va_S A s.heap H locs) (ls : Array Slot) (hl : lv_has ls 3 [(2, .int (zI i)), (0, .ref (β 0)), (1, .int (zI k9))]) (hi : 0 ≤ i ∧ i ≤ 49) (ho1 : o1 = zcpy ms mo 0 (49 * k9) i) (hz : (0 ≤ k9 ∧ k9 ≤ 1) ∨ i = 0) (hm : (49 - i).toNat < n_20), W pg l e rm_X10_keep s m args below meth c H locs 0 0 Q (F0 m 20 ls []) from HL_20 _ mo 0 _ _ hP hD hS _ (lv_sub hl [0, 1, 2] rfl) (by first | assumption | rfl | omega) (by exact (zcpy_0 _ _ _ _).symm) (by first | assumption | rfl | omega) (Nat.lt_succ_self _)
    intro n_20
    induction n_20 with
    | zero => intro o1 i H locs hP hD hS ls hl hi ho1 hz hm; exact absurd hm (Nat.not_lt_zero _)
    | succ n_20 ih_20 =>
      intro o1 i H locs hP hD hS ls hl hi ho1 hz hm
      refine lv_iload_n hx hb dX10_keep_20 rfl (lv_at hl 0 rfl) ?_
      refine lv_bipush (v := zI 49) hx hb dX10_keep_21 (zI_b8 (by decide)) ?_
      refine z_icge (tgt := 56) hx hb ⟨by omega, by omega⟩ ⟨by omega, by omega⟩ dX10_keep_23 (by decide) (fun c_23 => ?_) (fun c_23 => ?_)
      · refine lv_aload_n hx hb dX10_keep_56 rfl (lv_at hl 1 rfl) ?_
        refine va_get (D := D) (ci := 10) (v := .int (zI 0)) (C := RX10) (T := TX10) (N := 17) hx hb hts (fun w h => List.mem_cons_of_mem _ (wx_X10 w h)) hown hK hP 0 rfl rfl 7 (by decide) (hW0 _ wf_X10_44) (fun _ h9 => h9) rfl dX10_keep_57 ?_
        refine z_ifne (tgt := 70) hx hb ⟨by omega, by omega⟩ dX10_keep_60 (by decide) (fun c_60 => ?_) (fun c_60 => ?_)
        · exact absurd c_60 (by decide)
        · refine lv_aload_n hx hb dX10_keep_63 rfl (lv_at hl 1 rfl) ?_
          refine va_get (D := D) (ci := 10) (v := .ref (β 4)) (C := RX10) (T := TX10) (N := 17) hx hb hts (fun w h => List.mem_cons_of_mem _ (wx_X10 w h)) hown hK hP 0 rfl rfl 4 (by decide) (hW0 _ wf_X10_19) (fun _ h9 => h9) rfl dX10_keep_64 ?_
          refine lv_iload_n hx hb dX10_keep_67 rfl (lv_at hl 2 rfl) ?_
          refine lv_iconst (v := zI 1) hx hb dX10_keep_68 rfl ?_
          refine z_zast (f := mp) (v := true) hx hb hK hP hD hS 4 3 rfl rfl ⟨⟨by omega, by omega⟩, by decide⟩ dX10_keep_69 (fun H locs hP hD hS => ?_)
          have hP : va_P D vwCl (wM β δ ms mb o1 (bu mp k9 true) mf mn mi mc mq mr mw mk ml 0 ma mx mh) H := hP
          have hD : va_D A (wM β δ ms mb o1 (bu mp k9 true) mf mn mi mc mq mr mw mk ml 0 ma mx mh) := hD
          exact z_vret hC hr hlk hQ hP hD hS ⟨o1, bu mp k9 true, 0, (by exact ht.symm), (by rw [ht]; first | (rw [if_pos rfl, ho1, show i = 49 by omega]; done) | (rw [if_neg (by decide), ho1, show i = 0 by omega]; exact zcpy_0 _ _ _ _)), (by first | (rw [ht, if_pos rfl]; done) | (rw [ht, if_neg (by decide)]; done)), rfl⟩ dX10_keep_70
      · refine lv_aload_n hx hb dX10_keep_26 rfl (lv_at hl 1 rfl) ?_
        refine va_get (D := D) (ci := 10) (v := .int (zI 0)) (C := RX10) (T := TX10) (N := 17) hx hb hts (fun w h => List.mem_cons_of_mem _ (wx_X10 w h)) hown hK hP 0 rfl rfl 7 (by decide) (hW0 _ wf_X10_44) (fun _ h9 => h9) rfl dX10_keep_27 ?_
        refine z_ifne (tgt := 56) hx hb ⟨by omega, by omega⟩ dX10_keep_30 (by decide) (fun c_30 => ?_) (fun c_30 => ?_)
        · exact absurd c_30 (by decide)
        · refine lv_aload_n hx hb dX10_keep_33 rfl (lv_at hl 1 rfl) ?_
          refine va_get (D := D) (ci := 10) (v := .ref (β 3)) (C := RX10) (T := TX10) (N := 17) hx hb hts (fun w h => List.mem_cons_of_mem _ (wx_X10 w h)) hown hK hP 0 rfl rfl 3 (by decide) (hW0 _ wf_X10_16) (fun _ h9 => h9) rfl dX10_keep_34 ?_
          refine lv_bipush (v := zI 49) hx hb dX10_keep_37 (zI_b8 (by decide)) ?_
          refine lv_iload_n hx hb dX10_keep_39 rfl (lv_at hl 2 rfl) ?_
          refine z_imul hx hb dX10_keep_40 ?_
          refine lv_iload_n hx hb dX10_keep_41 rfl (lv_at hl 0 rfl) ?_
          refine z_iadd hx hb dX10_keep_42 ?_
          refine lv_aload_n hx hb dX10_keep_43 rfl (lv_at hl 1 rfl) ?_
          refine va_get (D := D) (ci := 10) (v := .ref (β 1)) (C := RX10) (T := TX10) (N := 17) hx hb hts (fun w h => List.mem_cons_of_mem _ (wx_X10 w h)) hown hK hP 0 rfl rfl 0 (by decide) (hW0 _ wf_X10_7) (fun _ h9 => h9) rfl dX10_keep_44 ?_
          refine lv_iload_n hx hb dX10_keep_47 rfl (lv_at hl 0 rfl) ?_
          refine z_iald (f := ms) hx hb hK hP 1 0 rfl rfl ⟨⟨by omega, by omega⟩, by decide⟩ dX10_keep_48 ?_
          refine z_iast (f := o1) (v := ms i) hx hb hK hP hD hS 3 2 rfl rfl ⟨⟨by omega, by omega⟩, by decide⟩ dX10_keep_49 (fun H locs hP hD hS => ?_)
          have hP : va_P D vwCl (wM β δ ms mb ((zu o1 ((49 * k9) + i) (ms i))) mp mf mn mi mc mq mr mw mk ml 0 ma mx mh) H := hP
          have hD : va_D A (wM β δ ms mb ((zu o1 ((49 * k9) + i) (ms i))) mp mf mn mi mc mq mr mw mk ml 0 ma mx mh) := hD
          refine z_iinc (k := 0) (v := i + 1) (lv' := [(2, .int (zI (i + 1))), (0, .ref (β 0)), (1, .int (zI k9))]) hx hb dX10_keep_50 hl rfl rfl (by decide) rfl (fun ls hl => ?_)
          refine lv_goto (tgt := 20) hx hb dX10_keep_53 (by decide) ?_
          exact ih_20 (zu o1 ((49 * k9) + i) (ms i)) (i + 1) _ _ hP hD hS _ (lv_sub hl [0, 1, 2] rfl) (by first | assumption | rfl | omega) (by rw [ho1]; exact zcpy_up hi.1 rfl (by rw [Int.zero_add])) (by exact Or.inl hb_7) (by omega)

abbrev wz_X10_goBack : List Cond := .code yX10_goBack cX10_goBack 3 none :: W0
abbrev rm_X10_goBack : Room := { frames := 1, cells := 0, slots := 0, locals := 22 }
theorem hd_X10_goBack : yX10_goBack.cls = RX10 ∧ yX10_goBack.cls ≠ "java/lang/invoke/MethodHandle" ∧ yX10_goBack.cls ≠ "java/lang/invoke/VarHandle" ∧ (parseMethodDescriptor yX10_goBack.desc).map (fun d => d.parameters.length) = some 1 := by decide +kernel
set_option maxHeartbeats 4000000 in
set_option maxRecDepth 100000 in
theorem c_X10_goBack (l : Launch) (D : va_G) (τ : Nat → Nat) (β : Nat → Nat) (δ : Nat → ClassId) (ms : IA) (mb : IA) (mo : IA) (mp : BA) (mf : IA) (mn : IA) (mi : IA) (mc : IA) (mq : BA) (mr : IA) (mw : IA) (mk : Int) (ml : Int) (mt : Int) (ma : Int) (mx : Bool) (mh : Int64) (k9 : Int) (hk9 : -2147483648 ≤ k9 ∧ k9 < 2147483648) (hmk : 0 ≤ mk ∧ mk ≤ 6) : cM l yX10_goBack wz_X10_goBack rm_X10_goBack D τ (tyM δ) [.ref (β 0), .int (zI k9)] (wM β δ ms mb mo mp mf mn mi mc mq mr mw mk ml mt ma mx mh) (zQv (fun w => ∃ (s2 : IA), ∃ (b2 : IA), ∃ (k2 : Int), ∃ (t2 : Int), (t2 = S_tback k9 mp) ∧ (s2 = (if S_tback k9 mp = 0 then zcpy mo ms (49 * k9) 0 49 else ms)) ∧ (b2 = (if S_tback k9 mp = 0 then S_sv mb ms mk else mb)) ∧ (k2 = (if S_tback k9 mp = 0 then S_svC mk else mk)) ∧ wM β δ s2 b2 mo mp mf mn mi mc mq mr mw k2 ml t2 ma mx mh = w)) := by
  refine z_ofM (cc := cX10_goBack) (maxL := 3) (ret := none) (by decide +kernel) rfl (Nat.le_of_ble_eq_true rfl) ?_
  intro pg e s m args below meth c hC hr hlk hnm hK hP A hD hG hA hS ls hl Q hQ
  have hx := hC.1
  have hb := hC.2.1
  have hml := hC.2.2.1
  have hown := hC.2.2.2.1
  have hts := hC.2.2.2.2
  have hB : ∀ w ∈ W0, w ∈ wz_X10_goBack := fun _ h => List.mem_cons_of_mem _ h
  have hW0 : ∀ w ∈ W0, w.before args s = true := fun w h => hts w (hB w h)
  have hl : lv_has ls 3 [(0, .ref (β 0)), (1, .int (zI k9))] := hl
  refine lv_aload_n hx hb dX10_goBack_0 rfl (lv_at hl 0 rfl) ?_
  refine lv_iload_n hx hb dX10_goBack_1 rfl (lv_at hl 1 rfl) ?_
  refine lv_iconst (v := zI 0) hx hb dX10_goBack_2 rfl ?_
  refine lv_iconst (v := zI 1) hx hb dX10_goBack_3 rfl ?_
  refine z_calli hP hD hS hA (va_runS (As := [.int (zI k9), .int (zI 0), .int (zI 1)]) (rest := [.ref (β 0)]) hC (c_X10_in l D τ _ _ k9 0 1 (by first | assumption | rfl | omega) (by first | assumption | rfl | omega) (by first | assumption | rfl | omega) _) (va_cwS 3 hts (gS hB wl_X10_48 wt_X10_in wi_X10 wc_X10_in) rfl rfl rfl hd_X10_in.2 ⟨Nat.le_of_ble_eq_true rfl, Nat.le_of_ble_eq_true rfl⟩) (zp_S hK hP hD hS hA hG) rfl rfl hl.1 rfl (lv_room (Nat.le_of_ble_eq_true rfl)) dX10_goBack_4 ⟨Nat.le_of_ble_eq_true rfl, Nat.le_of_ble_eq_true rfl⟩) (fun r w1 H locs hq9 hP hD hS => ?_)
  obtain ⟨v4_1, hv4_0, rfl, rfl⟩ := hq9
  refine z_ifneB (tgt := 14) hx hb dX10_goBack_7 (by decide) (fun c_7 => ?_) (fun c_7 => ?_)
  · have hb_7 := hv4_0.mp c_7
    refine lv_aload_n hx hb dX10_goBack_14 rfl (lv_at hl 0 rfl) ?_
    refine va_get (D := D) (ci := 10) (v := .ref (β 4)) (C := RX10) (T := TX10) (N := 17) hx hb hts (fun w h => List.mem_cons_of_mem _ (wx_X10 w h)) hown hK hP 0 rfl rfl 4 (by decide) (hW0 _ wf_X10_19) (fun _ h9 => h9) rfl dX10_goBack_15 ?_
    refine lv_iload_n hx hb dX10_goBack_18 rfl (lv_at hl 1 rfl) ?_
    refine z_zald (f := mp) hx hb hK hP 4 3 rfl rfl ⟨⟨by omega, by omega⟩, by decide⟩ dX10_goBack_19 ?_
    refine z_ifeqB (tgt := 27) hx hb dX10_goBack_20 (by decide) (fun c_20 => ?_) (fun c_20 => ?_)
    · refine lv_iconst (v := zI 2) hx hb dX10_goBack_27 rfl ?_
      have ht : S_tback k9 mp = 2 := by unfold S_tback; first | (rw [if_pos hb_7, if_pos c_20]; done) | (rw [if_pos hb_7, if_neg (by rw [c_20]; decide)]; done) | (rw [if_neg hb_7]; done)
      refine va_put (D := D) (ci := 10) (v := .int (zI 2)) (ty := .int) (C := RX10) (T := TX10) (N := 17) hx hb hts (fun w h => List.mem_cons_of_mem _ (wx_X10 w h)) tyX10 tyX10_ok nmX10 hown hK hP hD hS 0 rfl rfl 7 (by decide) (hW0 _ wf_X10_44) (fun _ h9 => h9) rfl (by decide +kernel) rfl rfl (Nat.le_of_ble_eq_true rfl) dX10_goBack_28 (fun H locs hP hD hS => ?_)
      have hP : va_P D vwCl (wM β δ ms mb mo mp mf mn mi mc mq mr mw mk ml 2 ma mx mh) H := hP
      have hD : va_D A (wM β δ ms mb mo mp mf mn mi mc mq mr mw mk ml 2 ma mx mh) := hD
      refine lv_aload_n hx hb dX10_goBack_31 rfl (lv_at hl 0 rfl) ?_
      refine va_get (D := D) (ci := 10) (v := .int (zI 2)) (C := RX10) (T := TX10) (N := 17) hx hb hts (fun w h => List.mem_cons_of_mem _ (wx_X10 w h)) hown hK hP 0 rfl rfl 7 (by decide) (hW0 _ wf_X10_44) (fun _ h9 => h9) rfl dX10_goBack_32 ?_
      refine z_ifne (tgt := 73) hx hb ⟨by omega, by omega⟩ dX10_goBack_35 (by decide) (fun c_35 => ?_) (fun c_35 => ?_)
      · exact z_vret hC hr hlk hQ hP hD hS ⟨ms, mb, mk, 2, (by exact ht.symm), (by rw [ht]; first | (rw [if_pos rfl, hs1, show i = 49 by omega]; done) | (rw [if_neg (by decide)]; done)), (by rw [ht]; first | (rw [if_pos rfl]; exact hv39_0) | (rw [if_neg (by decide)]; done)), (by rw [ht]; first | (rw [if_pos rfl]; exact hv39_1) | (rw [if_neg (by decide)]; done)), rfl⟩ dX10_goBack_73
      · exact absurd c_35 (by decide)
    · refine lv_iconst (v := zI 0) hx hb dX10_goBack_23 rfl ?_
      refine lv_goto (tgt := 28) hx hb dX10_goBack_24 (by decide) ?_
      have ht : S_tback k9 mp = 0 := by unfold S_tback; first | (rw [if_pos hb_7, if_pos c_20]; done) | (rw [if_pos hb_7, if_neg (by rw [c_20]; decide)]; done) | (rw [if_neg hb_7]; done)
      refine va_put (D := D) (ci := 10) (v := .int (zI 0)) (ty := .int) (C := RX10) (T := TX10) (N := 17) hx hb hts (fun w h => List.mem_cons_of_mem _ (wx_X10 w h)) tyX10 tyX10_ok nmX10 hown hK hP hD hS 0 rfl rfl 7 (by decide) (hW0 _ wf_X10_44) (fun _ h9 => h9) rfl (by decide +kernel) rfl rfl (Nat.le_of_ble_eq_true rfl) dX10_goBack_28 (fun H locs hP hD hS => ?_)
      have hP : va_P D vwCl (wM β δ ms mb mo mp mf mn mi mc mq mr mw mk ml 0 ma mx mh) H := hP
      have hD : va_D A (wM β δ ms mb mo mp mf mn mi mc mq mr mw mk ml 0 ma mx mh) := hD
      refine lv_aload_n hx hb dX10_goBack_31 rfl (lv_at hl 0 rfl) ?_
      refine va_get (D := D) (ci := 10) (v := .int (zI 0)) (C := RX10) (T := TX10) (N := 17) hx hb hts (fun w h => List.mem_cons_of_mem _ (wx_X10 w h)) hown hK hP 0 rfl rfl 7 (by decide) (hW0 _ wf_X10_44) (fun _ h9 => h9) rfl dX10_goBack_32 ?_
      refine z_ifne (tgt := 73) hx hb ⟨by omega, by omega⟩ dX10_goBack_35 (by decide) (fun c_35 => ?_) (fun c_35 => ?_)
      · exact absurd c_35 (by decide)
      · refine lv_aload_n hx hb dX10_goBack_38 rfl (lv_at hl 0 rfl) ?_
        refine z_callv hP hD hS hA (va_runV (As := []) (rest := []) hC (c_X10_save l D τ β δ ms mb mo mp mf mn mi mc mq mr mw mk ml 0 ma mx mh (by first | assumption | rfl | omega) _) (cwV 0 hts (gV hB wl_X10_80 wn_X10_save ws_X10_save wi_X10 wc_X10_save) rfl rfl rfl hd_X10_save ⟨Nat.le_of_ble_eq_true rfl, Nat.le_of_ble_eq_true rfl⟩) (zp_V hK hP hD hS hA hG (ci := 10) (q0 := 0) rfl rfl rfl) rfl rfl hl.1 rfl (lv_room (Nat.le_of_ble_eq_true rfl)) dX10_goBack_39 ⟨Nat.le_of_ble_eq_true rfl, Nat.le_of_ble_eq_true rfl⟩) (fun w1 H locs hq9 hP hD hS => ?_)
        obtain ⟨b39_2, k39_3, hv39_0, hv39_1, rfl⟩ := hq9
        have hP : va_P D vwCl (wM β δ ms b39_2 mo mp mf mn mi mc mq mr mw k39_3 ml 0 ma mx mh) H := hP
        have hD : va_D A (wM β δ ms b39_2 mo mp mf mn mi mc mq mr mw k39_3 ml 0 ma mx mh) := hD
        refine lv_iconst (v := zI 0) hx hb dX10_goBack_42 rfl ?_
        refine lv_istore_n (lv' := [(2, .int (zI 0)), (0, .ref (β 0)), (1, .int (zI k9))]) hx hb dX10_goBack_43 rfl hl (by decide) rfl (fun ls hl => ?_)
        suffices HL_44 : ∀ (n_44 : Nat), ∀ (s1 : IA) (i : Int) (H : Heap) (locs : List Loc) (hP : va_P D vwCl (wM β δ s1 b39_2 mo mp mf mn mi mc mq mr mw k39_3 ml 0 ma mx mh) H) (hD : va_D A (wM β δ s1 b39_2 mo mp mf mn mi mc mq mr mw k39_3 ml 0 ma mx mh)) (hS : va_S A s.heap H locs) (ls : Array Slot) (hl : lv_has ls 3 [(2, .int (zI i)), (0, .ref (β 0)), (1, .int (zI k9))]) (hi : 0 ≤ i ∧ i ≤ 49) (hs1 : s1 = zcpy mo ms (49 * k9) 0 i) (hm : (49 - i).toNat < n_44), W pg l e rm_X10_goBack s m args below meth c H locs 0 0 Q (F0 m 44 ls []) from HL_44 _ ms 0 _ _ hP hD hS _ (lv_sub hl [0, 1, 2] rfl) (by first | assumption | rfl | omega) (by exact (zcpy_0 _ _ _ _).symm) (Nat.lt_succ_self _)
        intro n_44
        induction n_44 with
        | zero => intro s1 i H locs hP hD hS ls hl hi hs1 hm; exact absurd hm (Nat.not_lt_zero _)
        | succ n_44 ih_44 =>
          intro s1 i H locs hP hD hS ls hl hi hs1 hm
          refine lv_iload_n hx hb dX10_goBack_44 rfl (lv_at hl 0 rfl) ?_
          refine lv_bipush (v := zI 49) hx hb dX10_goBack_45 (zI_b8 (by decide)) ?_
          refine z_icge (tgt := 73) hx hb ⟨by omega, by omega⟩ ⟨by omega, by omega⟩ dX10_goBack_47 (by decide) (fun c_47 => ?_) (fun c_47 => ?_)
          · exact z_vret hC hr hlk hQ hP hD hS ⟨s1, b39_2, k39_3, 0, (by exact ht.symm), (by rw [ht]; first | (rw [if_pos rfl, hs1, show i = 49 by omega]; done) | (rw [if_neg (by decide)]; done)), (by rw [ht]; first | (rw [if_pos rfl]; exact hv39_0) | (rw [if_neg (by decide)]; done)), (by rw [ht]; first | (rw [if_pos rfl]; exact hv39_1) | (rw [if_neg (by decide)]; done)), rfl⟩ dX10_goBack_73
          · refine lv_aload_n hx hb dX10_goBack_50 rfl (lv_at hl 1 rfl) ?_
            refine va_get (D := D) (ci := 10) (v := .ref (β 1)) (C := RX10) (T := TX10) (N := 17) hx hb hts (fun w h => List.mem_cons_of_mem _ (wx_X10 w h)) hown hK hP 0 rfl rfl 0 (by decide) (hW0 _ wf_X10_7) (fun _ h9 => h9) rfl dX10_goBack_51 ?_
            refine lv_iload_n hx hb dX10_goBack_54 rfl (lv_at hl 0 rfl) ?_
            refine lv_aload_n hx hb dX10_goBack_55 rfl (lv_at hl 1 rfl) ?_
            refine va_get (D := D) (ci := 10) (v := .ref (β 3)) (C := RX10) (T := TX10) (N := 17) hx hb hts (fun w h => List.mem_cons_of_mem _ (wx_X10 w h)) hown hK hP 0 rfl rfl 3 (by decide) (hW0 _ wf_X10_16) (fun _ h9 => h9) rfl dX10_goBack_56 ?_
            refine lv_bipush (v := zI 49) hx hb dX10_goBack_59 (zI_b8 (by decide)) ?_
            refine lv_iload_n hx hb dX10_goBack_61 rfl (lv_at hl 2 rfl) ?_
            refine z_imul hx hb dX10_goBack_62 ?_
            refine lv_iload_n hx hb dX10_goBack_63 rfl (lv_at hl 0 rfl) ?_
            refine z_iadd hx hb dX10_goBack_64 ?_
            refine z_iald (f := mo) hx hb hK hP 3 2 rfl rfl ⟨⟨by omega, by omega⟩, by decide⟩ dX10_goBack_65 ?_
            refine z_iast (f := s1) (v := mo ((49 * k9) + i)) hx hb hK hP hD hS 1 0 rfl rfl ⟨⟨by omega, by omega⟩, by decide⟩ dX10_goBack_66 (fun H locs hP hD hS => ?_)
            have hP : va_P D vwCl (wM β δ ((zu s1 i (mo ((49 * k9) + i)))) b39_2 mo mp mf mn mi mc mq mr mw k39_3 ml 0 ma mx mh) H := hP
            have hD : va_D A (wM β δ ((zu s1 i (mo ((49 * k9) + i)))) b39_2 mo mp mf mn mi mc mq mr mw k39_3 ml 0 ma mx mh) := hD
            refine z_iinc (k := 0) (v := i + 1) (lv' := [(2, .int (zI (i + 1))), (0, .ref (β 0)), (1, .int (zI k9))]) hx hb dX10_goBack_67 hl rfl rfl (by decide) rfl (fun ls hl => ?_)
            refine lv_goto (tgt := 44) hx hb dX10_goBack_70 (by decide) ?_
            exact ih_44 (zu s1 i (mo ((49 * k9) + i))) (i + 1) _ _ hP hD hS _ (lv_sub hl [0, 1, 2] rfl) (by first | assumption | rfl | omega) (by rw [hs1]; exact zcpy_up hi.1 (by omega) rfl) (by omega)
  · have hb_7 := zb_neg hv4_0 c_7
    refine lv_iconst (v := zI 1) hx hb dX10_goBack_10 rfl ?_
    refine lv_goto (tgt := 28) hx hb dX10_goBack_11 (by decide) ?_
    have ht : S_tback k9 mp = 1 := by unfold S_tback; first | (rw [if_pos hb_7, if_pos c_20]; done) | (rw [if_pos hb_7, if_neg (by rw [c_20]; decide)]; done) | (rw [if_neg hb_7]; done)
    refine va_put (D := D) (ci := 10) (v := .int (zI 1)) (ty := .int) (C := RX10) (T := TX10) (N := 17) hx hb hts (fun w h => List.mem_cons_of_mem _ (wx_X10 w h)) tyX10 tyX10_ok nmX10 hown hK hP hD hS 0 rfl rfl 7 (by decide) (hW0 _ wf_X10_44) (fun _ h9 => h9) rfl (by decide +kernel) rfl rfl (Nat.le_of_ble_eq_true rfl) dX10_goBack_28 (fun H locs hP hD hS => ?_)
    have hP : va_P D vwCl (wM β δ ms mb mo mp mf mn mi mc mq mr mw mk ml 1 ma mx mh) H := hP
    have hD : va_D A (wM β δ ms mb mo mp mf mn mi mc mq mr mw mk ml 1 ma mx mh) := hD
    refine lv_aload_n hx hb dX10_goBack_31 rfl (lv_at hl 0 rfl) ?_
    refine va_get (D := D) (ci := 10) (v := .int (zI 1)) (C := RX10) (T := TX10) (N := 17) hx hb hts (fun w h => List.mem_cons_of_mem _ (wx_X10 w h)) hown hK hP 0 rfl rfl 7 (by decide) (hW0 _ wf_X10_44) (fun _ h9 => h9) rfl dX10_goBack_32 ?_
    refine z_ifne (tgt := 73) hx hb ⟨by omega, by omega⟩ dX10_goBack_35 (by decide) (fun c_35 => ?_) (fun c_35 => ?_)
    · exact z_vret hC hr hlk hQ hP hD hS ⟨ms, mb, mk, 1, (by exact ht.symm), (by rw [ht]; first | (rw [if_pos rfl, hs1, show i = 49 by omega]; done) | (rw [if_neg (by decide)]; done)), (by rw [ht]; first | (rw [if_pos rfl]; exact hv39_0) | (rw [if_neg (by decide)]; done)), (by rw [ht]; first | (rw [if_pos rfl]; exact hv39_1) | (rw [if_neg (by decide)]; done)), rfl⟩ dX10_goBack_73
    · exact absurd c_35 (by decide)

abbrev wz_X10_undo : List Cond := .code yX10_undo cX10_undo 2 none :: W0
abbrev rm_X10_undo : Room := { frames := 0, cells := 0, slots := 0, locals := 0 }
theorem hd_X10_undo : yX10_undo.cls = RX10 ∧ yX10_undo.cls ≠ "java/lang/invoke/MethodHandle" ∧ yX10_undo.cls ≠ "java/lang/invoke/VarHandle" ∧ (parseMethodDescriptor yX10_undo.desc).map (fun d => d.parameters.length) = some 0 := by decide +kernel
set_option maxHeartbeats 4000000 in
set_option maxRecDepth 100000 in
theorem c_X10_undo (l : Launch) (D : va_G) (τ : Nat → Nat) (β : Nat → Nat) (δ : Nat → ClassId) (ms : IA) (mb : IA) (mo : IA) (mp : BA) (mf : IA) (mn : IA) (mi : IA) (mc : IA) (mq : BA) (mr : IA) (mw : IA) (mk : Int) (ml : Int) (mt : Int) (ma : Int) (mx : Bool) (mh : Int64) (hmk : 0 ≤ mk ∧ mk ≤ 6) : cM l yX10_undo wz_X10_undo rm_X10_undo D τ (tyM δ) [.ref (β 0)] (wM β δ ms mb mo mp mf mn mi mc mq mr mw mk ml mt ma mx mh) (zQv (fun w => ∃ (s2 : IA), ∃ (k2 : Int), ∃ (t2 : Int), (t2 = S_tundo mk) ∧ (s2 = (if S_tundo mk = 0 then zcpy mb ms (49 * (mk - 1)) 0 49 else ms)) ∧ (k2 = (if S_tundo mk = 0 then mk - 1 else mk)) ∧ wM β δ s2 mb mo mp mf mn mi mc mq mr mw k2 ml t2 ma mx mh = w)) := by
  refine z_ofM (cc := cX10_undo) (maxL := 2) (ret := none) (by decide +kernel) rfl (Nat.le_of_ble_eq_true rfl) ?_
  intro pg e s m args below meth c hC hr hlk hnm hK hP A hD hG hA hS ls hl Q hQ
  have hx := hC.1
  have hb := hC.2.1
  have hml := hC.2.2.1
  have hown := hC.2.2.2.1
  have hts := hC.2.2.2.2
  have hB : ∀ w ∈ W0, w ∈ wz_X10_undo := fun _ h => List.mem_cons_of_mem _ h
  have hW0 : ∀ w ∈ W0, w.before args s = true := fun w h => hts w (hB w h)
  have hl : lv_has ls 2 [(0, .ref (β 0))] := hl
  refine lv_aload_n hx hb dX10_undo_0 rfl (lv_at hl 0 rfl) ?_
  refine lv_aload_n hx hb dX10_undo_1 rfl (lv_at hl 0 rfl) ?_
  refine va_get (D := D) (ci := 10) (v := .int (zI mk)) (C := RX10) (T := TX10) (N := 17) hx hb hts (fun w h => List.mem_cons_of_mem _ (wx_X10 w h)) hown hK hP 0 rfl rfl 2 (by decide) (hW0 _ wf_X10_52) (fun _ h9 => h9) rfl dX10_undo_2 ?_
  refine z_ifne (tgt := 12) hx hb ⟨by omega, by omega⟩ dX10_undo_5 (by decide) (fun c_5 => ?_) (fun c_5 => ?_)
  · refine lv_iconst (v := zI 0) hx hb dX10_undo_12 rfl ?_
    have ht : S_tundo mk = 0 := by unfold S_tundo; first | (rw [if_pos c_5]; done) | (rw [if_neg c_5]; done)
    refine va_put (D := D) (ci := 10) (v := .int (zI 0)) (ty := .int) (C := RX10) (T := TX10) (N := 17) hx hb hts (fun w h => List.mem_cons_of_mem _ (wx_X10 w h)) tyX10 tyX10_ok nmX10 hown hK hP hD hS 0 rfl rfl 7 (by decide) (hW0 _ wf_X10_44) (fun _ h9 => h9) rfl (by decide +kernel) rfl rfl (Nat.le_of_ble_eq_true rfl) dX10_undo_13 (fun H locs hP hD hS => ?_)
    have hP : va_P D vwCl (wM β δ ms mb mo mp mf mn mi mc mq mr mw mk ml 0 ma mx mh) H := hP
    have hD : va_D A (wM β δ ms mb mo mp mf mn mi mc mq mr mw mk ml 0 ma mx mh) := hD
    refine lv_aload_n hx hb dX10_undo_16 rfl (lv_at hl 0 rfl) ?_
    refine va_get (D := D) (ci := 10) (v := .int (zI 0)) (C := RX10) (T := TX10) (N := 17) hx hb hts (fun w h => List.mem_cons_of_mem _ (wx_X10 w h)) hown hK hP 0 rfl rfl 7 (by decide) (hW0 _ wf_X10_44) (fun _ h9 => h9) rfl dX10_undo_17 ?_
    refine z_ifne (tgt := 67) hx hb ⟨by omega, by omega⟩ dX10_undo_20 (by decide) (fun c_20 => ?_) (fun c_20 => ?_)
    · exact absurd c_20 (by decide)
    · refine lv_aload_n hx hb dX10_undo_23 rfl (lv_at hl 0 rfl) ?_
      refine lv_dup hx hb dX10_undo_24 rfl ?_
      refine va_get (D := D) (ci := 10) (v := .int (zI mk)) (C := RX10) (T := TX10) (N := 17) hx hb hts (fun w h => List.mem_cons_of_mem _ (wx_X10 w h)) hown hK hP 0 rfl rfl 2 (by decide) (hW0 _ wf_X10_52) (fun _ h9 => h9) rfl dX10_undo_25 ?_
      refine lv_iconst (v := zI 1) hx hb dX10_undo_28 rfl ?_
      refine z_isub hx hb dX10_undo_29 ?_
      refine va_put (D := D) (ci := 10) (v := .int (zI (mk - 1))) (ty := .int) (C := RX10) (T := TX10) (N := 17) hx hb hts (fun w h => List.mem_cons_of_mem _ (wx_X10 w h)) tyX10 tyX10_ok nmX10 hown hK hP hD hS 0 rfl rfl 2 (by decide) (hW0 _ wf_X10_52) (fun _ h9 => h9) rfl (by decide +kernel) rfl rfl (Nat.le_of_ble_eq_true rfl) dX10_undo_30 (fun H locs hP hD hS => ?_)
      have hP : va_P D vwCl (wM β δ ms mb mo mp mf mn mi mc mq mr mw (mk - 1) ml 0 ma mx mh) H := hP
      have hD : va_D A (wM β δ ms mb mo mp mf mn mi mc mq mr mw (mk - 1) ml 0 ma mx mh) := hD
      refine lv_iconst (v := zI 0) hx hb dX10_undo_33 rfl ?_
      refine lv_istore_n (lv' := [(1, .int (zI 0)), (0, .ref (β 0))]) hx hb dX10_undo_34 rfl hl (by decide) rfl (fun ls hl => ?_)
      suffices HL_35 : ∀ (n_35 : Nat), ∀ (s1 : IA) (i : Int) (H : Heap) (locs : List Loc) (hP : va_P D vwCl (wM β δ s1 mb mo mp mf mn mi mc mq mr mw (mk - 1) ml 0 ma mx mh) H) (hD : va_D A (wM β δ s1 mb mo mp mf mn mi mc mq mr mw (mk - 1) ml 0 ma mx mh)) (hS : va_S A s.heap H locs) (ls : Array Slot) (hl : lv_has ls 2 [(1, .int (zI i)), (0, .ref (β 0))]) (hi : 0 ≤ i ∧ i ≤ 49) (hs1 : s1 = zcpy mb ms (49 * (mk - 1)) 0 i) (hm : (49 - i).toNat < n_35), W pg l e rm_X10_undo s m args below meth c H locs 0 0 Q (F0 m 35 ls []) from HL_35 _ ms 0 _ _ hP hD hS _ (lv_sub hl [0, 1] rfl) (by first | assumption | rfl | omega) (by exact (zcpy_0 _ _ _ _).symm) (Nat.lt_succ_self _)
      intro n_35
      induction n_35 with
      | zero => intro s1 i H locs hP hD hS ls hl hi hs1 hm; exact absurd hm (Nat.not_lt_zero _)
      | succ n_35 ih_35 =>
        intro s1 i H locs hP hD hS ls hl hi hs1 hm
        refine lv_iload_n hx hb dX10_undo_35 rfl (lv_at hl 0 rfl) ?_
        refine lv_bipush (v := zI 49) hx hb dX10_undo_36 (zI_b8 (by decide)) ?_
        refine z_icge (tgt := 67) hx hb ⟨by omega, by omega⟩ ⟨by omega, by omega⟩ dX10_undo_38 (by decide) (fun c_38 => ?_) (fun c_38 => ?_)
        · exact z_vret hC hr hlk hQ hP hD hS ⟨s1, mk - 1, 0, (by exact ht.symm), (by rw [ht]; first | (rw [if_pos rfl, hs1, show i = 49 by omega]; done) | (rw [if_neg (by decide)]; done)), (by first | (rw [ht, if_pos rfl]; done) | (rw [ht, if_neg (by decide)]; done)), rfl⟩ dX10_undo_67
        · refine lv_aload_n hx hb dX10_undo_41 rfl (lv_at hl 1 rfl) ?_
          refine va_get (D := D) (ci := 10) (v := .ref (β 1)) (C := RX10) (T := TX10) (N := 17) hx hb hts (fun w h => List.mem_cons_of_mem _ (wx_X10 w h)) hown hK hP 0 rfl rfl 0 (by decide) (hW0 _ wf_X10_7) (fun _ h9 => h9) rfl dX10_undo_42 ?_
          refine lv_iload_n hx hb dX10_undo_45 rfl (lv_at hl 0 rfl) ?_
          refine lv_aload_n hx hb dX10_undo_46 rfl (lv_at hl 1 rfl) ?_
          refine va_get (D := D) (ci := 10) (v := .ref (β 2)) (C := RX10) (T := TX10) (N := 17) hx hb hts (fun w h => List.mem_cons_of_mem _ (wx_X10 w h)) hown hK hP 0 rfl rfl 1 (by decide) (hW0 _ wf_X10_13) (fun _ h9 => h9) rfl dX10_undo_47 ?_
          refine lv_bipush (v := zI 49) hx hb dX10_undo_50 (zI_b8 (by decide)) ?_
          refine lv_aload_n hx hb dX10_undo_52 rfl (lv_at hl 1 rfl) ?_
          refine va_get (D := D) (ci := 10) (v := .int (zI (mk - 1))) (C := RX10) (T := TX10) (N := 17) hx hb hts (fun w h => List.mem_cons_of_mem _ (wx_X10 w h)) hown hK hP 0 rfl rfl 2 (by decide) (hW0 _ wf_X10_52) (fun _ h9 => h9) rfl dX10_undo_53 ?_
          refine z_imul hx hb dX10_undo_56 ?_
          refine lv_iload_n hx hb dX10_undo_57 rfl (lv_at hl 0 rfl) ?_
          refine z_iadd hx hb dX10_undo_58 ?_
          refine z_iald (f := mb) hx hb hK hP 2 1 rfl rfl ⟨⟨by omega, by omega⟩, by decide⟩ dX10_undo_59 ?_
          refine z_iast (f := s1) (v := mb ((49 * (mk - 1)) + i)) hx hb hK hP hD hS 1 0 rfl rfl ⟨⟨by omega, by omega⟩, by decide⟩ dX10_undo_60 (fun H locs hP hD hS => ?_)
          have hP : va_P D vwCl (wM β δ ((zu s1 i (mb ((49 * (mk - 1)) + i)))) mb mo mp mf mn mi mc mq mr mw (mk - 1) ml 0 ma mx mh) H := hP
          have hD : va_D A (wM β δ ((zu s1 i (mb ((49 * (mk - 1)) + i)))) mb mo mp mf mn mi mc mq mr mw (mk - 1) ml 0 ma mx mh) := hD
          refine z_iinc (k := 0) (v := i + 1) (lv' := [(1, .int (zI (i + 1))), (0, .ref (β 0))]) hx hb dX10_undo_61 hl rfl rfl (by decide) rfl (fun ls hl => ?_)
          refine lv_goto (tgt := 35) hx hb dX10_undo_64 (by decide) ?_
          exact ih_35 (zu s1 i (mb ((49 * (mk - 1)) + i))) (i + 1) _ _ hP hD hS _ (lv_sub hl [0, 1] rfl) (by first | assumption | rfl | omega) (by rw [hs1]; exact zcpy_up hi.1 (by omega) rfl) (by omega)
  · refine lv_iconst (v := zI 1) hx hb dX10_undo_8 rfl ?_
    refine lv_goto (tgt := 13) hx hb dX10_undo_9 (by decide) ?_
    have ht : S_tundo mk = 1 := by unfold S_tundo; first | (rw [if_pos c_5]; done) | (rw [if_neg c_5]; done)
    refine va_put (D := D) (ci := 10) (v := .int (zI 1)) (ty := .int) (C := RX10) (T := TX10) (N := 17) hx hb hts (fun w h => List.mem_cons_of_mem _ (wx_X10 w h)) tyX10 tyX10_ok nmX10 hown hK hP hD hS 0 rfl rfl 7 (by decide) (hW0 _ wf_X10_44) (fun _ h9 => h9) rfl (by decide +kernel) rfl rfl (Nat.le_of_ble_eq_true rfl) dX10_undo_13 (fun H locs hP hD hS => ?_)
    have hP : va_P D vwCl (wM β δ ms mb mo mp mf mn mi mc mq mr mw mk ml 1 ma mx mh) H := hP
    have hD : va_D A (wM β δ ms mb mo mp mf mn mi mc mq mr mw mk ml 1 ma mx mh) := hD
    refine lv_aload_n hx hb dX10_undo_16 rfl (lv_at hl 0 rfl) ?_
    refine va_get (D := D) (ci := 10) (v := .int (zI 1)) (C := RX10) (T := TX10) (N := 17) hx hb hts (fun w h => List.mem_cons_of_mem _ (wx_X10 w h)) hown hK hP 0 rfl rfl 7 (by decide) (hW0 _ wf_X10_44) (fun _ h9 => h9) rfl dX10_undo_17 ?_
    refine z_ifne (tgt := 67) hx hb ⟨by omega, by omega⟩ dX10_undo_20 (by decide) (fun c_20 => ?_) (fun c_20 => ?_)
    · exact z_vret hC hr hlk hQ hP hD hS ⟨ms, mk, 1, (by exact ht.symm), (by rw [ht]; first | (rw [if_pos rfl, hs1, show i = 49 by omega]; done) | (rw [if_neg (by decide)]; done)), (by first | (rw [ht, if_pos rfl]; done) | (rw [ht, if_neg (by decide)]; done)), rfl⟩ dX10_undo_67
    · exact absurd c_20 (by decide)

abbrev wz_X10_savedStates : List Cond := .code yX10_savedStates cX10_savedStates 1 (some .int) :: W0
abbrev rm_X10_savedStates : Room := { frames := 0, cells := 0, slots := 0, locals := 0 }
theorem hd_X10_savedStates : yX10_savedStates.cls = RX10 ∧ yX10_savedStates.cls ≠ "java/lang/invoke/MethodHandle" ∧ yX10_savedStates.cls ≠ "java/lang/invoke/VarHandle" ∧ (parseMethodDescriptor yX10_savedStates.desc).map (fun d => d.parameters.length) = some 0 := by decide +kernel
set_option maxHeartbeats 4000000 in
set_option maxRecDepth 100000 in
theorem c_X10_savedStates (l : Launch) (D : va_G) (τ : Nat → Nat) (β : Nat → Nat) (δ : Nat → ClassId) (ms : IA) (mb : IA) (mo : IA) (mp : BA) (mf : IA) (mn : IA) (mi : IA) (mc : IA) (mq : BA) (mr : IA) (mw : IA) (mk : Int) (ml : Int) (mt : Int) (ma : Int) (mx : Bool) (mh : Int64) : cM l yX10_savedStates wz_X10_savedStates rm_X10_savedStates D τ (tyM δ) [.ref (β 0)] (wM β δ ms mb mo mp mf mn mi mc mq mr mw mk ml mt ma mx mh) (zQi (fun r w => ∃ (v : Int), (v = mk) ∧ r = zI v ∧ wM β δ ms mb mo mp mf mn mi mc mq mr mw mk ml 0 ma mx mh = w)) := by
  refine z_ofM (cc := cX10_savedStates) (maxL := 1) (ret := (some .int)) (by decide +kernel) rfl (Nat.le_of_ble_eq_true rfl) ?_
  intro pg e s m args below meth c hC hr hlk hnm hK hP A hD hG hA hS ls hl Q hQ
  have hx := hC.1
  have hb := hC.2.1
  have hml := hC.2.2.1
  have hown := hC.2.2.2.1
  have hts := hC.2.2.2.2
  have hB : ∀ w ∈ W0, w ∈ wz_X10_savedStates := fun _ h => List.mem_cons_of_mem _ h
  have hW0 : ∀ w ∈ W0, w.before args s = true := fun w h => hts w (hB w h)
  have hl : lv_has ls 1 [(0, .ref (β 0))] := hl
  refine lv_aload_n hx hb dX10_savedStates_0 rfl (lv_at hl 0 rfl) ?_
  refine lv_iconst (v := zI 0) hx hb dX10_savedStates_1 rfl ?_
  refine va_put (D := D) (ci := 10) (v := .int (zI 0)) (ty := .int) (C := RX10) (T := TX10) (N := 17) hx hb hts (fun w h => List.mem_cons_of_mem _ (wx_X10 w h)) tyX10 tyX10_ok nmX10 hown hK hP hD hS 0 rfl rfl 7 (by decide) (hW0 _ wf_X10_44) (fun _ h9 => h9) rfl (by decide +kernel) rfl rfl (Nat.le_of_ble_eq_true rfl) dX10_savedStates_2 (fun H locs hP hD hS => ?_)
  have hP : va_P D vwCl (wM β δ ms mb mo mp mf mn mi mc mq mr mw mk ml 0 ma mx mh) H := hP
  have hD : va_D A (wM β δ ms mb mo mp mf mn mi mc mq mr mw mk ml 0 ma mx mh) := hD
  refine lv_aload_n hx hb dX10_savedStates_5 rfl (lv_at hl 0 rfl) ?_
  refine va_get (D := D) (ci := 10) (v := .int (zI mk)) (C := RX10) (T := TX10) (N := 17) hx hb hts (fun w h => List.mem_cons_of_mem _ (wx_X10 w h)) hown hK hP 0 rfl rfl 2 (by decide) (hW0 _ wf_X10_52) (fun _ h9 => h9) rfl dX10_savedStates_6 ?_
  exact z_iret hC hr hlk hQ hP hD hS ⟨mk, (by first | assumption | rfl | omega), rfl, rfl⟩ dX10_savedStates_9

abbrev wz_X10_isThere : List Cond := .code yX10_isThere cX10_isThere 3 (some .boolean) :: W0
abbrev rm_X10_isThere : Room := { frames := 2, cells := 0, slots := 0, locals := 43 }
theorem hd_X10_isThere : yX10_isThere.cls = RX10 ∧ yX10_isThere.cls ≠ "java/lang/invoke/MethodHandle" ∧ yX10_isThere.cls ≠ "java/lang/invoke/VarHandle" ∧ (parseMethodDescriptor yX10_isThere.desc).map (fun d => d.parameters.length) = some 2 := by decide +kernel
set_option maxHeartbeats 4000000 in
set_option maxRecDepth 100000 in
theorem c_X10_isThere (l : Launch) (D : va_G) (τ : Nat → Nat) (β : Nat → Nat) (δ : Nat → ClassId) (ms : IA) (mb : IA) (mo : IA) (mp : BA) (mf : IA) (mn : IA) (mi : IA) (mc : IA) (mq : BA) (mr : IA) (mw : IA) (mk : Int) (ml : Int) (mt : Int) (ma : Int) (mx : Bool) (mh : Int64) (r9 : Int) (c9 : Int) (hr9 : -2147483648 ≤ r9 ∧ r9 < 2147483648) (hc9 : -2147483648 ≤ c9 ∧ c9 < 2147483648) : cM l yX10_isThere wz_X10_isThere rm_X10_isThere D τ (tyM δ) [.ref (β 0), .int (zI r9), .int (zI c9)] (wM β δ ms mb mo mp mf mn mi mc mq mr mw mk ml mt ma mx mh) (zQi (fun r w => ∃ (t2 : Int), ∃ (v : Bool), (v = true ↔ ((0 ≤ r9 ∧ r9 ≤ 6) ∧ (0 ≤ c9 ∧ c9 ≤ 6))) ∧ (t2 = S_tpt r9 c9) ∧ r = bI v ∧ wM β δ ms mb mo mp mf mn mi mc mq mr mw mk ml t2 ma mx mh = w)) := by
  refine z_ofM (cc := cX10_isThere) (maxL := 3) (ret := (some .boolean)) (by decide +kernel) rfl (Nat.le_of_ble_eq_true rfl) ?_
  intro pg e s m args below meth c hC hr hlk hnm hK hP A hD hG hA hS ls hl Q hQ
  have hx := hC.1
  have hb := hC.2.1
  have hml := hC.2.2.1
  have hown := hC.2.2.2.1
  have hts := hC.2.2.2.2
  have hB : ∀ w ∈ W0, w ∈ wz_X10_isThere := fun _ h => List.mem_cons_of_mem _ h
  have hW0 : ∀ w ∈ W0, w.before args s = true := fun w h => hts w (hB w h)
  have hl : lv_has ls 3 [(0, .ref (β 0)), (1, .int (zI r9)), (2, .int (zI c9))] := hl
  refine lv_aload_n hx hb dX10_isThere_0 rfl (lv_at hl 0 rfl) ?_
  refine lv_iload_n hx hb dX10_isThere_1 rfl (lv_at hl 1 rfl) ?_
  refine lv_iload_n hx hb dX10_isThere_2 rfl (lv_at hl 2 rfl) ?_
  refine z_calli hP hD hS hA (va_runS (As := [.int (zI r9), .int (zI c9)]) (rest := [.ref (β 0)]) hC (c_X10_isPoint l D τ _ _ r9 c9 (by first | assumption | rfl | omega) (by first | assumption | rfl | omega) _) (va_cwS 2 hts (gS hB wl_X10_55 wt_X10_isPoint wi_X10 wc_X10_isPoint) rfl rfl rfl hd_X10_isPoint.2 ⟨Nat.le_of_ble_eq_true rfl, Nat.le_of_ble_eq_true rfl⟩) (zp_S hK hP hD hS hA hG) rfl rfl hl.1 rfl (lv_room (Nat.le_of_ble_eq_true rfl)) dX10_isThere_3 ⟨Nat.le_of_ble_eq_true rfl, Nat.le_of_ble_eq_true rfl⟩) (fun r w1 H locs hq9 hP hD hS => ?_)
  obtain ⟨v3_1, hv3_0, rfl, rfl⟩ := hq9
  refine z_ifeqB (tgt := 13) hx hb dX10_isThere_6 (by decide) (fun c_6 => ?_) (fun c_6 => ?_)
  · have hb_6 := zb_neg hv3_0 c_6
    refine lv_iconst (v := zI 1) hx hb dX10_isThere_13 rfl ?_
    refine va_put (D := D) (ci := 10) (v := .int (zI 1)) (ty := .int) (C := RX10) (T := TX10) (N := 17) hx hb hts (fun w h => List.mem_cons_of_mem _ (wx_X10 w h)) tyX10 tyX10_ok nmX10 hown hK hP hD hS 0 rfl rfl 7 (by decide) (hW0 _ wf_X10_44) (fun _ h9 => h9) rfl (by decide +kernel) rfl rfl (Nat.le_of_ble_eq_true rfl) dX10_isThere_14 (fun H locs hP hD hS => ?_)
    have hP : va_P D vwCl (wM β δ ms mb mo mp mf mn mi mc mq mr mw mk ml 1 ma mx mh) H := hP
    have hD : va_D A (wM β δ ms mb mo mp mf mn mi mc mq mr mw mk ml 1 ma mx mh) := hD
    refine lv_aload_n hx hb dX10_isThere_17 rfl (lv_at hl 0 rfl) ?_
    refine va_get (D := D) (ci := 10) (v := .int (zI 1)) (C := RX10) (T := TX10) (N := 17) hx hb hts (fun w h => List.mem_cons_of_mem _ (wx_X10 w h)) hown hK hP 0 rfl rfl 7 (by decide) (hW0 _ wf_X10_44) (fun _ h9 => h9) rfl dX10_isThere_18 ?_
    refine z_ifne (tgt := 28) hx hb ⟨by omega, by omega⟩ dX10_isThere_21 (by decide) (fun c_21 => ?_) (fun c_21 => ?_)
    · refine lv_iconst (v := zI 0) hx hb dX10_isThere_28 rfl ?_
      refine W.eq (g2 := F0 m 29 ls [.int (bI false)]) rfl ?_
      exact z_zret hC hr hlk hQ hP hD hS ⟨1, false, (by first | exact zb_T hb_6 | exact zb_F hb_6), (by unfold S_tpt; first | (rw [if_pos hb_6]; done) | (rw [if_neg hb_6]; done)), rfl, rfl⟩ dX10_isThere_29
    · exact absurd c_21 (by decide)
  · have hb_6 := hv3_0.mp c_6
    refine lv_iconst (v := zI 0) hx hb dX10_isThere_9 rfl ?_
    refine lv_goto (tgt := 14) hx hb dX10_isThere_10 (by decide) ?_
    refine va_put (D := D) (ci := 10) (v := .int (zI 0)) (ty := .int) (C := RX10) (T := TX10) (N := 17) hx hb hts (fun w h => List.mem_cons_of_mem _ (wx_X10 w h)) tyX10 tyX10_ok nmX10 hown hK hP hD hS 0 rfl rfl 7 (by decide) (hW0 _ wf_X10_44) (fun _ h9 => h9) rfl (by decide +kernel) rfl rfl (Nat.le_of_ble_eq_true rfl) dX10_isThere_14 (fun H locs hP hD hS => ?_)
    have hP : va_P D vwCl (wM β δ ms mb mo mp mf mn mi mc mq mr mw mk ml 0 ma mx mh) H := hP
    have hD : va_D A (wM β δ ms mb mo mp mf mn mi mc mq mr mw mk ml 0 ma mx mh) := hD
    refine lv_aload_n hx hb dX10_isThere_17 rfl (lv_at hl 0 rfl) ?_
    refine va_get (D := D) (ci := 10) (v := .int (zI 0)) (C := RX10) (T := TX10) (N := 17) hx hb hts (fun w h => List.mem_cons_of_mem _ (wx_X10 w h)) hown hK hP 0 rfl rfl 7 (by decide) (hW0 _ wf_X10_44) (fun _ h9 => h9) rfl dX10_isThere_18 ?_
    refine z_ifne (tgt := 28) hx hb ⟨by omega, by omega⟩ dX10_isThere_21 (by decide) (fun c_21 => ?_) (fun c_21 => ?_)
    · exact absurd c_21 (by decide)
    · refine lv_iconst (v := zI 1) hx hb dX10_isThere_24 rfl ?_
      refine lv_goto (tgt := 29) hx hb dX10_isThere_25 (by decide) ?_
      refine W.eq (g2 := F0 m 29 ls [.int (bI true)]) rfl ?_
      exact z_zret hC hr hlk hQ hP hD hS ⟨0, true, (by first | exact zb_T hb_6 | exact zb_F hb_6), (by unfold S_tpt; first | (rw [if_pos hb_6]; done) | (rw [if_neg hb_6]; done)), rfl, rfl⟩ dX10_isThere_29

abbrev wz_X10_isLevel : List Cond := .code yX10_isLevel cX10_isLevel 2 (some .boolean) :: W0
abbrev rm_X10_isLevel : Room := { frames := 1, cells := 0, slots := 0, locals := 22 }
theorem hd_X10_isLevel : yX10_isLevel.cls = RX10 ∧ yX10_isLevel.cls ≠ "java/lang/invoke/MethodHandle" ∧ yX10_isLevel.cls ≠ "java/lang/invoke/VarHandle" ∧ (parseMethodDescriptor yX10_isLevel.desc).map (fun d => d.parameters.length) = some 1 := by decide +kernel
set_option maxHeartbeats 4000000 in
set_option maxRecDepth 100000 in
theorem c_X10_isLevel (l : Launch) (D : va_G) (τ : Nat → Nat) (β : Nat → Nat) (δ : Nat → ClassId) (ms : IA) (mb : IA) (mo : IA) (mp : BA) (mf : IA) (mn : IA) (mi : IA) (mc : IA) (mq : BA) (mr : IA) (mw : IA) (mk : Int) (ml : Int) (mt : Int) (ma : Int) (mx : Bool) (mh : Int64) (lv9 : Int) (hlv : -2147483648 ≤ lv9 ∧ lv9 < 2147483648) : cM l yX10_isLevel wz_X10_isLevel rm_X10_isLevel D τ (tyM δ) [.ref (β 0), .int (zI lv9)] (wM β δ ms mb mo mp mf mn mi mc mq mr mw mk ml mt ma mx mh) (zQi (fun r w => ∃ (t2 : Int), ∃ (v : Bool), (v = true ↔ (0 ≤ lv9 ∧ lv9 ≤ 98)) ∧ (t2 = S_tlev lv9) ∧ r = bI v ∧ wM β δ ms mb mo mp mf mn mi mc mq mr mw mk ml t2 ma mx mh = w)) := by
  refine z_ofM (cc := cX10_isLevel) (maxL := 2) (ret := (some .boolean)) (by decide +kernel) rfl (Nat.le_of_ble_eq_true rfl) ?_
  intro pg e s m args below meth c hC hr hlk hnm hK hP A hD hG hA hS ls hl Q hQ
  have hx := hC.1
  have hb := hC.2.1
  have hml := hC.2.2.1
  have hown := hC.2.2.2.1
  have hts := hC.2.2.2.2
  have hB : ∀ w ∈ W0, w ∈ wz_X10_isLevel := fun _ h => List.mem_cons_of_mem _ h
  have hW0 : ∀ w ∈ W0, w.before args s = true := fun w h => hts w (hB w h)
  have hl : lv_has ls 2 [(0, .ref (β 0)), (1, .int (zI lv9))] := hl
  refine lv_aload_n hx hb dX10_isLevel_0 rfl (lv_at hl 0 rfl) ?_
  refine lv_iload_n hx hb dX10_isLevel_1 rfl (lv_at hl 1 rfl) ?_
  refine lv_iconst (v := zI 0) hx hb dX10_isLevel_2 rfl ?_
  refine lv_bipush (v := zI 98) hx hb dX10_isLevel_3 (zI_b8 (by decide)) ?_
  refine z_calli hP hD hS hA (va_runS (As := [.int (zI lv9), .int (zI 0), .int (zI 98)]) (rest := [.ref (β 0)]) hC (c_X10_in l D τ _ _ lv9 0 98 (by first | assumption | rfl | omega) (by first | assumption | rfl | omega) (by first | assumption | rfl | omega) _) (va_cwS 3 hts (gS hB wl_X10_48 wt_X10_in wi_X10 wc_X10_in) rfl rfl rfl hd_X10_in.2 ⟨Nat.le_of_ble_eq_true rfl, Nat.le_of_ble_eq_true rfl⟩) (zp_S hK hP hD hS hA hG) rfl rfl hl.1 rfl (lv_room (Nat.le_of_ble_eq_true rfl)) dX10_isLevel_5 ⟨Nat.le_of_ble_eq_true rfl, Nat.le_of_ble_eq_true rfl⟩) (fun r w1 H locs hq9 hP hD hS => ?_)
  obtain ⟨v5_1, hv5_0, rfl, rfl⟩ := hq9
  refine z_ifeqB (tgt := 15) hx hb dX10_isLevel_8 (by decide) (fun c_8 => ?_) (fun c_8 => ?_)
  · have hb_8 := zb_neg hv5_0 c_8
    refine lv_iconst (v := zI 1) hx hb dX10_isLevel_15 rfl ?_
    refine va_put (D := D) (ci := 10) (v := .int (zI 1)) (ty := .int) (C := RX10) (T := TX10) (N := 17) hx hb hts (fun w h => List.mem_cons_of_mem _ (wx_X10 w h)) tyX10 tyX10_ok nmX10 hown hK hP hD hS 0 rfl rfl 7 (by decide) (hW0 _ wf_X10_44) (fun _ h9 => h9) rfl (by decide +kernel) rfl rfl (Nat.le_of_ble_eq_true rfl) dX10_isLevel_16 (fun H locs hP hD hS => ?_)
    have hP : va_P D vwCl (wM β δ ms mb mo mp mf mn mi mc mq mr mw mk ml 1 ma mx mh) H := hP
    have hD : va_D A (wM β δ ms mb mo mp mf mn mi mc mq mr mw mk ml 1 ma mx mh) := hD
    refine lv_aload_n hx hb dX10_isLevel_19 rfl (lv_at hl 0 rfl) ?_
    refine va_get (D := D) (ci := 10) (v := .int (zI 1)) (C := RX10) (T := TX10) (N := 17) hx hb hts (fun w h => List.mem_cons_of_mem _ (wx_X10 w h)) hown hK hP 0 rfl rfl 7 (by decide) (hW0 _ wf_X10_44) (fun _ h9 => h9) rfl dX10_isLevel_20 ?_
    refine z_ifne (tgt := 30) hx hb ⟨by omega, by omega⟩ dX10_isLevel_23 (by decide) (fun c_23 => ?_) (fun c_23 => ?_)
    · refine lv_iconst (v := zI 0) hx hb dX10_isLevel_30 rfl ?_
      refine W.eq (g2 := F0 m 31 ls [.int (bI false)]) rfl ?_
      exact z_zret hC hr hlk hQ hP hD hS ⟨1, false, (by first | exact zb_T hb_8 | exact zb_F hb_8), (by unfold S_tlev; first | (rw [if_pos hb_8]; done) | (rw [if_neg hb_8]; done)), rfl, rfl⟩ dX10_isLevel_31
    · exact absurd c_23 (by decide)
  · have hb_8 := hv5_0.mp c_8
    refine lv_iconst (v := zI 0) hx hb dX10_isLevel_11 rfl ?_
    refine lv_goto (tgt := 16) hx hb dX10_isLevel_12 (by decide) ?_
    refine va_put (D := D) (ci := 10) (v := .int (zI 0)) (ty := .int) (C := RX10) (T := TX10) (N := 17) hx hb hts (fun w h => List.mem_cons_of_mem _ (wx_X10 w h)) tyX10 tyX10_ok nmX10 hown hK hP hD hS 0 rfl rfl 7 (by decide) (hW0 _ wf_X10_44) (fun _ h9 => h9) rfl (by decide +kernel) rfl rfl (Nat.le_of_ble_eq_true rfl) dX10_isLevel_16 (fun H locs hP hD hS => ?_)
    have hP : va_P D vwCl (wM β δ ms mb mo mp mf mn mi mc mq mr mw mk ml 0 ma mx mh) H := hP
    have hD : va_D A (wM β δ ms mb mo mp mf mn mi mc mq mr mw mk ml 0 ma mx mh) := hD
    refine lv_aload_n hx hb dX10_isLevel_19 rfl (lv_at hl 0 rfl) ?_
    refine va_get (D := D) (ci := 10) (v := .int (zI 0)) (C := RX10) (T := TX10) (N := 17) hx hb hts (fun w h => List.mem_cons_of_mem _ (wx_X10 w h)) hown hK hP 0 rfl rfl 7 (by decide) (hW0 _ wf_X10_44) (fun _ h9 => h9) rfl dX10_isLevel_20 ?_
    refine z_ifne (tgt := 30) hx hb ⟨by omega, by omega⟩ dX10_isLevel_23 (by decide) (fun c_23 => ?_) (fun c_23 => ?_)
    · exact absurd c_23 (by decide)
    · refine lv_iconst (v := zI 1) hx hb dX10_isLevel_26 rfl ?_
      refine lv_goto (tgt := 31) hx hb dX10_isLevel_27 (by decide) ?_
      refine W.eq (g2 := F0 m 31 ls [.int (bI true)]) rfl ?_
      exact z_zret hC hr hlk hQ hP hD hS ⟨0, true, (by first | exact zb_T hb_8 | exact zb_F hb_8), (by unfold S_tlev; first | (rw [if_pos hb_8]; done) | (rw [if_neg hb_8]; done)), rfl, rfl⟩ dX10_isLevel_31

abbrev wz_X10_heightOf : List Cond := .code yX10_heightOf cX10_heightOf 3 (some .int) :: W0
abbrev rm_X10_heightOf : Room := { frames := 3, cells := 0, slots := 0, locals := 65 }
theorem hd_X10_heightOf : yX10_heightOf.cls = RX10 ∧ yX10_heightOf.cls ≠ "java/lang/invoke/MethodHandle" ∧ yX10_heightOf.cls ≠ "java/lang/invoke/VarHandle" ∧ (parseMethodDescriptor yX10_heightOf.desc).map (fun d => d.parameters.length) = some 2 := by decide +kernel
set_option maxHeartbeats 4000000 in
set_option maxRecDepth 100000 in
theorem c_X10_heightOf (l : Launch) (D : va_G) (τ : Nat → Nat) (β : Nat → Nat) (δ : Nat → ClassId) (ms : IA) (mb : IA) (mo : IA) (mp : BA) (mf : IA) (mn : IA) (mi : IA) (mc : IA) (mq : BA) (mr : IA) (mw : IA) (mk : Int) (ml : Int) (mt : Int) (ma : Int) (mx : Bool) (mh : Int64) (r9 : Int) (c9 : Int) (hr9 : -2147483648 ≤ r9 ∧ r9 < 2147483648) (hc9 : -2147483648 ≤ c9 ∧ c9 < 2147483648) : cM l yX10_heightOf wz_X10_heightOf rm_X10_heightOf D τ (tyM δ) [.ref (β 0), .int (zI r9), .int (zI c9)] (wM β δ ms mb mo mp mf mn mi mc mq mr mw mk ml mt ma mx mh) (zQi (fun r w => ∃ (t2 : Int), ∃ (v : Int), (t2 = S_tpt r9 c9) ∧ (t2 = 0 → v = ms (7 * r9 + c9)) ∧ r = zI v ∧ wM β δ ms mb mo mp mf mn mi mc mq mr mw mk ml t2 ma mx mh = w)) := by
  refine z_ofM (cc := cX10_heightOf) (maxL := 3) (ret := (some .int)) (by decide +kernel) rfl (Nat.le_of_ble_eq_true rfl) ?_
  intro pg e s m args below meth c hC hr hlk hnm hK hP A hD hG hA hS ls hl Q hQ
  have hx := hC.1
  have hb := hC.2.1
  have hml := hC.2.2.1
  have hown := hC.2.2.2.1
  have hts := hC.2.2.2.2
  have hB : ∀ w ∈ W0, w ∈ wz_X10_heightOf := fun _ h => List.mem_cons_of_mem _ h
  have hW0 : ∀ w ∈ W0, w.before args s = true := fun w h => hts w (hB w h)
  have hl : lv_has ls 3 [(0, .ref (β 0)), (1, .int (zI r9)), (2, .int (zI c9))] := hl
  refine lv_aload_n hx hb dX10_heightOf_0 rfl (lv_at hl 0 rfl) ?_
  refine lv_iload_n hx hb dX10_heightOf_1 rfl (lv_at hl 1 rfl) ?_
  refine lv_iload_n hx hb dX10_heightOf_2 rfl (lv_at hl 2 rfl) ?_
  refine z_calli hP hD hS hA (va_runV (As := [.int (zI r9), .int (zI c9)]) (rest := []) hC (c_X10_isThere l D τ β δ ms mb mo mp mf mn mi mc mq mr mw mk ml mt ma mx mh r9 c9 (by first | assumption | rfl | omega) (by first | assumption | rfl | omega) _) (cwV 2 hts (gV hB wl_X10_120 wn_X10_isThere ws_X10_isThere wi_X10 wc_X10_isThere) rfl rfl rfl hd_X10_isThere ⟨Nat.le_of_ble_eq_true rfl, Nat.le_of_ble_eq_true rfl⟩) (zp_V hK hP hD hS hA hG (ci := 10) (q0 := 0) rfl rfl rfl) rfl rfl hl.1 rfl (lv_room (Nat.le_of_ble_eq_true rfl)) dX10_heightOf_3 ⟨Nat.le_of_ble_eq_true rfl, Nat.le_of_ble_eq_true rfl⟩) (fun r w1 H locs hq9 hP hD hS => ?_)
  obtain ⟨t3_1, v3_2, hv3_0, hv3_1, rfl, rfl⟩ := hq9
  have hP : va_P D vwCl (wM β δ ms mb mo mp mf mn mi mc mq mr mw mk ml t3_1 ma mx mh) H := hP
  have hD : va_D A (wM β δ ms mb mo mp mf mn mi mc mq mr mw mk ml t3_1 ma mx mh) := hD
  refine z_ifeqB (tgt := 23) hx hb dX10_heightOf_6 (by decide) (fun c_6 => ?_) (fun c_6 => ?_)
  · have hb_6 := zb_neg hv3_0 c_6
    refine lv_iconst (v := zI 0) hx hb dX10_heightOf_23 rfl ?_
    exact z_iret hC hr hlk hQ hP hD hS ⟨t3_1, 0, (by exact hv3_1), (by first | exact fun _ => rfl | (intro h9; rw [hv3_1] at h9; unfold S_tpt at h9; rw [if_neg hb_6] at h9; exact absurd h9 (by decide))), rfl, rfl⟩ dX10_heightOf_24
  · have hb_6 := hv3_0.mp c_6
    refine lv_aload_n hx hb dX10_heightOf_9 rfl (lv_at hl 0 rfl) ?_
    refine va_get (D := D) (ci := 10) (v := .ref (β 1)) (C := RX10) (T := TX10) (N := 17) hx hb hts (fun w h => List.mem_cons_of_mem _ (wx_X10 w h)) hown hK hP 0 rfl rfl 0 (by decide) (hW0 _ wf_X10_7) (fun _ h9 => h9) rfl dX10_heightOf_10 ?_
    refine lv_bipush (v := zI 7) hx hb dX10_heightOf_13 (zI_b8 (by decide)) ?_
    refine lv_iload_n hx hb dX10_heightOf_15 rfl (lv_at hl 1 rfl) ?_
    refine z_imul hx hb dX10_heightOf_16 ?_
    refine lv_iload_n hx hb dX10_heightOf_17 rfl (lv_at hl 2 rfl) ?_
    refine z_iadd hx hb dX10_heightOf_18 ?_
    refine z_iald (f := ms) hx hb hK hP 1 0 rfl rfl ⟨⟨by omega, by omega⟩, by decide⟩ dX10_heightOf_19 ?_
    refine lv_goto (tgt := 24) hx hb dX10_heightOf_20 (by decide) ?_
    exact z_iret hC hr hlk hQ hP hD hS ⟨t3_1, ms ((7 * r9) + c9), (by exact hv3_1), (by first | exact fun _ => rfl | (intro h9; rw [hv3_1] at h9; unfold S_tpt at h9; rw [if_neg hb_6] at h9; exact absurd h9 (by decide))), rfl, rfl⟩ dX10_heightOf_24

