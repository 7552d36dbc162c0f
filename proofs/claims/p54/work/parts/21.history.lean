abbrev wz_X6_writeTo : List Cond := .code yX6_writeTo cX6_writeTo 4 none :: W0
abbrev rm_X6_writeTo : Room := { frames := 1, cells := 0, slots := 0, locals := 32 }
theorem hd_X6_writeTo : yX6_writeTo.cls = RX6 ∧ yX6_writeTo.cls ≠ "java/lang/invoke/MethodHandle" ∧ yX6_writeTo.cls ≠ "java/lang/invoke/VarHandle" ∧ (parseMethodDescriptor yX6_writeTo.desc).map (fun d => d.parameters.length) = some 2 := by decide +kernel
set_option maxHeartbeats 4000000 in
set_option maxRecDepth 100000 in
theorem c_X6_writeTo__sv (l : Launch) (D : va_G) (τ : Nat → Nat) (α : Nat → Nat) (γ : Nat → ClassId) (h : IA) (old : IA) (ch : IA) (rg : TRg) (ln : TLn) (sl : TSl) (pd : TPd) (ct : TCt) (sg : TSg) (od : TOd) (sv : IA) (sl9 : IA) (tk : BA) (ct9 : Int) (k : Int) (hk : 0 ≤ k ∧ k ≤ 5) : cM l yX6_writeTo wz_X6_writeTo rm_X6_writeTo D τ (tyH γ) [.ref (α 1), .ref (α 29), .int (zI k)] (wH α γ (h, old, ch) rg ln sl pd ct sg od (sv, sl9, tk, ct9)) (zQv (fun w => ∃ (s2 : IA), (s2 = zcpy h sv 0 (49 * k) 49) ∧ wH α γ (h, old, ch) rg ln sl pd ct sg od (s2, sl9, tk, ct9) = w)) := by
  refine z_ofM (cc := cX6_writeTo) (maxL := 4) (ret := none) (by decide +kernel) rfl (Nat.le_of_ble_eq_true rfl) ?_
  intro pg e s m args below meth c hC hr hlk hnm hK hP A hD hG hA hS ls hl Q hQ
  have hx := hC.1
  have hb := hC.2.1
  have hml := hC.2.2.1
  have hown := hC.2.2.2.1
  have hts := hC.2.2.2.2
  have hB : ∀ w ∈ W0, w ∈ wz_X6_writeTo := fun _ h => List.mem_cons_of_mem _ h
  have hW0 : ∀ w ∈ W0, w.before args s = true := fun w h => hts w (hB w h)
  have hl : lv_has ls 4 [(0, .ref (α 1)), (1, .ref (α 29)), (2, .int (zI k))] := hl
  refine lv_iload_n hx hb dX6_writeTo_0 rfl (lv_at hl 2 rfl) ?_
  refine lv_bipush (v := zI 49) hx hb dX6_writeTo_1 (zI_b8 (by decide)) ?_
  refine z_imul hx hb dX6_writeTo_3 ?_
  refine lv_istore_n (lv' := [(3, .int (zI (k * 49))), (0, .ref (α 1)), (1, .ref (α 29)), (2, .int (zI k))]) hx hb dX6_writeTo_4 rfl hl (by decide) rfl (fun ls hl => ?_)
  refine lv_iload_n hx hb dX6_writeTo_5 rfl (lv_at hl 3 rfl) ?_
  refine z_iflt (tgt := 34) hx hb ⟨by omega, by omega⟩ dX6_writeTo_6 (by decide) (fun c_6 => ?_) (fun c_6 => ?_)
  · exact absurd c_6 (by omega)
  · refine lv_iload_n hx hb dX6_writeTo_9 rfl (lv_at hl 0 rfl) ?_
    refine z_iflt (tgt := 34) hx hb ⟨by omega, by omega⟩ dX6_writeTo_10 (by decide) (fun c_10 => ?_) (fun c_10 => ?_)
    · exact absurd c_10 (by omega)
    · refine lv_iload_n hx hb dX6_writeTo_13 rfl (lv_at hl 0 rfl) ?_
      refine lv_aload_n hx hb dX6_writeTo_14 rfl (lv_at hl 2 rfl) ?_
      refine va_alen (v := zI 294) hx hb hK hP 29 19 rfl rfl rfl dX6_writeTo_15 ?_
      refine lv_bipush (v := zI 49) hx hb dX6_writeTo_16 (zI_b8 (by decide)) ?_
      refine z_isub hx hb dX6_writeTo_18 ?_
      refine z_icgt (tgt := 34) hx hb ⟨by omega, by omega⟩ ⟨by omega, by omega⟩ dX6_writeTo_19 (by decide) (fun c_19 => ?_) (fun c_19 => ?_)
      · exact absurd c_19 (by omega)
      · refine lv_aload_n hx hb dX6_writeTo_22 rfl (lv_at hl 1 rfl) ?_
        refine va_get (D := D) (ci := 6) (v := .ref (α 10)) (C := RX6) (T := TX6) (N := 3) hx hb hts (fun w h => List.mem_cons_of_mem _ (wx_X6 w h)) hown hK hP 1 rfl rfl 0 (by decide) (hW0 _ wf_X6_9) (fun _ h9 => h9) rfl dX6_writeTo_23 ?_
        refine lv_iconst (v := zI 0) hx hb dX6_writeTo_26 rfl ?_
        refine lv_aload_n hx hb dX6_writeTo_27 rfl (lv_at hl 2 rfl) ?_
        refine lv_iload_n hx hb dX6_writeTo_28 rfl (lv_at hl 0 rfl) ?_
        refine lv_bipush (v := zI 49) hx hb dX6_writeTo_29 (zI_b8 (by decide)) ?_
        refine z_copyi hx hb (hml.trans hl.1.symm) hown (hW0 _ wl_X6_69) (hW0 _ wna_arraycopyName) (hW0 _ wt_arraycopyName) (hW0 _ wi_System) hK hP hD hS 10 29 0 19 rfl rfl rfl rfl ⟨by omega, by omega, by omega, by omega, by omega⟩ (Nat.le_of_ble_eq_true rfl) (Nat.le_of_ble_eq_true rfl) dX6_writeTo_31 (fun H locs hP hD hS => ?_)
        have hP : va_P D vwCl (wH α γ (h, old, ch) rg ln sl pd ct sg od (zcpy h sv 0 (k * 49) 49, sl9, tk, ct9)) H := hP
        have hD : va_D A (wH α γ (h, old, ch) rg ln sl pd ct sg od (zcpy h sv 0 (k * 49) 49, sl9, tk, ct9)) := hD
        exact z_vret hC hr hlk hQ hP hD hS ⟨zcpy h sv 0 (k * 49) 49, (by rw [Int.mul_comm]), rfl⟩ dX6_writeTo_34

abbrev wz_X1_save : List Cond := .code yX1_save cX1_save 2 none :: W0
abbrev rm_X1_save : Room := { frames := 2, cells := 0, slots := 0, locals := 55 }
theorem hd_X1_save : yX1_save.cls = RX1 ∧ yX1_save.cls ≠ "java/lang/invoke/MethodHandle" ∧ yX1_save.cls ≠ "java/lang/invoke/VarHandle" ∧ (parseMethodDescriptor yX1_save.desc).map (fun d => d.parameters.length) = some 1 := by decide +kernel
set_option maxHeartbeats 4000000 in
set_option maxRecDepth 100000 in
theorem c_X1_save (l : Launch) (D : va_G) (τ : Nat → Nat) (α : Nat → Nat) (γ : Nat → ClassId) (h : IA) (old : IA) (ch : IA) (rg : TRg) (ln : TLn) (sl : TSl) (pd : TPd) (ct : TCt) (sg : TSg) (od : TOd) (sv : IA) (sl9 : IA) (tk : BA) (ct9 : Int) (hct : 0 ≤ ct9 ∧ ct9 ≤ 6) : cM l yX1_save wz_X1_save rm_X1_save D τ (tyH γ) [.ref (α 9), .ref (α 1)] (wH α γ (h, old, ch) rg ln sl pd ct sg od (sv, sl9, tk, ct9)) (zQv (fun w => ∃ (s2 : IA), ∃ (c2 : Int), (s2 = S_sv sv h ct9) ∧ (c2 = S_svC ct9) ∧ wH α γ (h, old, ch) rg ln sl pd ct sg od (s2, sl9, tk, c2) = w)) := by
  refine z_ofM (cc := cX1_save) (maxL := 2) (ret := none) (by decide +kernel) rfl (Nat.le_of_ble_eq_true rfl) ?_
  intro pg e s m args below meth c hC hr hlk hnm hK hP A hD hG hA hS ls hl Q hQ
  have hx := hC.1
  have hb := hC.2.1
  have hml := hC.2.2.1
  have hown := hC.2.2.2.1
  have hts := hC.2.2.2.2
  have hB : ∀ w ∈ W0, w ∈ wz_X1_save := fun _ h => List.mem_cons_of_mem _ h
  have hW0 : ∀ w ∈ W0, w.before args s = true := fun w h => hts w (hB w h)
  have hl : lv_has ls 2 [(0, .ref (α 9)), (1, .ref (α 1))] := hl
  refine lv_aload_n hx hb dX1_save_0 rfl (lv_at hl 0 rfl) ?_
  refine va_get (D := D) (ci := 1) (v := .int (zI ct9)) (C := RX1) (T := TX1) (N := 4) hx hb hts (fun w h => List.mem_cons_of_mem _ (wx_X1 w h)) hown hK hP 9 rfl rfl 3 (by decide) (hW0 _ wf_X1_22) (fun _ h9 => h9) rfl dX1_save_1 ?_
  refine lv_bipush (v := zI 6) hx hb dX1_save_4 (zI_b8 (by decide)) ?_
  refine z_iclt (tgt := 31) hx hb ⟨by omega, by omega⟩ ⟨by omega, by omega⟩ dX1_save_6 (by decide) (fun c_6 => ?_) (fun c_6 => ?_)
  · refine lv_aload_n hx hb dX1_save_31 rfl (lv_at hl 1 rfl) ?_
    refine lv_aload_n hx hb dX1_save_32 rfl (lv_at hl 0 rfl) ?_
    refine va_get (D := D) (ci := 1) (v := .ref (α 29)) (C := RX1) (T := TX1) (N := 4) hx hb hts (fun w h => List.mem_cons_of_mem _ (wx_X1 w h)) hown hK hP 9 rfl rfl 0 (by decide) (hW0 _ wf_X1_9) (fun _ h9 => h9) rfl dX1_save_33 ?_
    refine lv_aload_n hx hb dX1_save_36 rfl (lv_at hl 0 rfl) ?_
    refine va_get (D := D) (ci := 1) (v := .int (zI ct9)) (C := RX1) (T := TX1) (N := 4) hx hb hts (fun w h => List.mem_cons_of_mem _ (wx_X1 w h)) hown hK hP 9 rfl rfl 3 (by decide) (hW0 _ wf_X1_22) (fun _ h9 => h9) rfl dX1_save_37 ?_
    refine z_callv hP hD hS hA (va_runV (As := [.ref (α 29), .int (zI ct9)]) (rest := []) hC (c_X6_writeTo__sv l D τ α γ h old ch rg ln sl pd ct sg od sv sl9 tk ct9 ct9 (by first | assumption | rfl | omega) _) (cwV 2 hts (gV hB wl_X1_32 wn_X6_writeTo ws_X6_writeTo wi_X6 wc_X6_writeTo) rfl rfl rfl hd_X6_writeTo ⟨Nat.le_of_ble_eq_true rfl, Nat.le_of_ble_eq_true rfl⟩) (zp_V hK hP hD hS hA hG (ci := 6) (q0 := 1) rfl rfl rfl) rfl rfl hl.1 rfl (lv_room (Nat.le_of_ble_eq_true rfl)) dX1_save_40 ⟨Nat.le_of_ble_eq_true rfl, Nat.le_of_ble_eq_true rfl⟩) (fun w1 H locs hq9 hP hD hS => ?_)
    obtain ⟨s40_1, hv40_0, rfl⟩ := hq9
    have hP : va_P D vwCl (wH α γ (h, old, ch) rg ln sl pd ct sg od (s40_1, sl9, tk, ct9)) H := hP
    have hD : va_D A (wH α γ (h, old, ch) rg ln sl pd ct sg od (s40_1, sl9, tk, ct9)) := hD
    refine lv_aload_n hx hb dX1_save_43 rfl (lv_at hl 0 rfl) ?_
    refine lv_dup hx hb dX1_save_44 rfl ?_
    refine va_get (D := D) (ci := 1) (v := .int (zI ct9)) (C := RX1) (T := TX1) (N := 4) hx hb hts (fun w h => List.mem_cons_of_mem _ (wx_X1 w h)) hown hK hP 9 rfl rfl 3 (by decide) (hW0 _ wf_X1_22) (fun _ h9 => h9) rfl dX1_save_45 ?_
    refine lv_iconst (v := zI 1) hx hb dX1_save_48 rfl ?_
    refine z_iadd hx hb dX1_save_49 ?_
    refine va_put (D := D) (ci := 1) (v := .int (zI (ct9 + 1))) (ty := .int) (C := RX1) (T := TX1) (N := 4) hx hb hts (fun w h => List.mem_cons_of_mem _ (wx_X1 w h)) tyX1 tyX1_ok nmX1 hown hK hP hD hS 9 rfl rfl 3 (by decide) (hW0 _ wf_X1_22) (fun _ h9 => h9) rfl (by decide +kernel) rfl rfl (Nat.le_of_ble_eq_true rfl) dX1_save_50 (fun H locs hP hD hS => ?_)
    have hP : va_P D vwCl (wH α γ (h, old, ch) rg ln sl pd ct sg od (s40_1, sl9, tk, ct9 + 1)) H := hP
    have hD : va_D A (wH α γ (h, old, ch) rg ln sl pd ct sg od (s40_1, sl9, tk, ct9 + 1)) := hD
    exact z_vret hC hr hlk hQ hP hD hS ⟨s40_1, ct9 + 1, (by rw [hv40_0]; unfold S_sv; first | (rw [if_neg (by omega)]; done) | (rw [if_pos (by omega)]; rfl)), (by unfold S_svC; first | (rw [if_neg (by omega)]; done) | (rw [if_pos (by omega)]; rfl)), rfl⟩ dX1_save_53
  · refine lv_aload_n hx hb dX1_save_9 rfl (lv_at hl 0 rfl) ?_
    refine va_get (D := D) (ci := 1) (v := .ref (α 29)) (C := RX1) (T := TX1) (N := 4) hx hb hts (fun w h => List.mem_cons_of_mem _ (wx_X1 w h)) hown hK hP 9 rfl rfl 0 (by decide) (hW0 _ wf_X1_9) (fun _ h9 => h9) rfl dX1_save_10 ?_
    refine lv_bipush (v := zI 49) hx hb dX1_save_13 (zI_b8 (by decide)) ?_
    refine lv_aload_n hx hb dX1_save_15 rfl (lv_at hl 0 rfl) ?_
    refine va_get (D := D) (ci := 1) (v := .ref (α 29)) (C := RX1) (T := TX1) (N := 4) hx hb hts (fun w h => List.mem_cons_of_mem _ (wx_X1 w h)) hown hK hP 9 rfl rfl 0 (by decide) (hW0 _ wf_X1_9) (fun _ h9 => h9) rfl dX1_save_16 ?_
    refine lv_iconst (v := zI 0) hx hb dX1_save_19 rfl ?_
    refine lv_sipush (v := zI 245) hx hb dX1_save_20 (zI_b16 (by decide)) ?_
    refine z_copyi hx hb (hml.trans hl.1.symm) hown (hW0 _ wl_X1_26) (hW0 _ wna_arraycopyName) (hW0 _ wt_arraycopyName) (hW0 _ wi_System) hK hP hD hS 29 29 19 19 rfl rfl rfl rfl ⟨by omega, by omega, by omega, by omega, by omega⟩ (Nat.le_of_ble_eq_true rfl) (Nat.le_of_ble_eq_true rfl) dX1_save_23 (fun H locs hP hD hS => ?_)
    have hP : va_P D vwCl (wH α γ (h, old, ch) rg ln sl pd ct sg od (zcpy sv sv 49 0 245, sl9, tk, ct9)) H := hP
    have hD : va_D A (wH α γ (h, old, ch) rg ln sl pd ct sg od (zcpy sv sv 49 0 245, sl9, tk, ct9)) := hD
    refine lv_aload_n hx hb dX1_save_26 rfl (lv_at hl 0 rfl) ?_
    refine lv_iconst (v := zI 5) hx hb dX1_save_27 rfl ?_
    refine va_put (D := D) (ci := 1) (v := .int (zI 5)) (ty := .int) (C := RX1) (T := TX1) (N := 4) hx hb hts (fun w h => List.mem_cons_of_mem _ (wx_X1 w h)) tyX1 tyX1_ok nmX1 hown hK hP hD hS 9 rfl rfl 3 (by decide) (hW0 _ wf_X1_22) (fun _ h9 => h9) rfl (by decide +kernel) rfl rfl (Nat.le_of_ble_eq_true rfl) dX1_save_28 (fun H locs hP hD hS => ?_)
    have hP : va_P D vwCl (wH α γ (h, old, ch) rg ln sl pd ct sg od (zcpy sv sv 49 0 245, sl9, tk, 5)) H := hP
    have hD : va_D A (wH α γ (h, old, ch) rg ln sl pd ct sg od (zcpy sv sv 49 0 245, sl9, tk, 5)) := hD
    refine lv_aload_n hx hb dX1_save_31 rfl (lv_at hl 1 rfl) ?_
    refine lv_aload_n hx hb dX1_save_32 rfl (lv_at hl 0 rfl) ?_
    refine va_get (D := D) (ci := 1) (v := .ref (α 29)) (C := RX1) (T := TX1) (N := 4) hx hb hts (fun w h => List.mem_cons_of_mem _ (wx_X1 w h)) hown hK hP 9 rfl rfl 0 (by decide) (hW0 _ wf_X1_9) (fun _ h9 => h9) rfl dX1_save_33 ?_
    refine lv_aload_n hx hb dX1_save_36 rfl (lv_at hl 0 rfl) ?_
    refine va_get (D := D) (ci := 1) (v := .int (zI 5)) (C := RX1) (T := TX1) (N := 4) hx hb hts (fun w h => List.mem_cons_of_mem _ (wx_X1 w h)) hown hK hP 9 rfl rfl 3 (by decide) (hW0 _ wf_X1_22) (fun _ h9 => h9) rfl dX1_save_37 ?_
    refine z_callv hP hD hS hA (va_runV (As := [.ref (α 29), .int (zI 5)]) (rest := []) hC (c_X6_writeTo__sv l D τ α γ h old ch rg ln sl pd ct sg od (zcpy sv sv 49 0 245) sl9 tk 5 5 (by first | assumption | rfl | omega) _) (cwV 2 hts (gV hB wl_X1_32 wn_X6_writeTo ws_X6_writeTo wi_X6 wc_X6_writeTo) rfl rfl rfl hd_X6_writeTo ⟨Nat.le_of_ble_eq_true rfl, Nat.le_of_ble_eq_true rfl⟩) (zp_V hK hP hD hS hA hG (ci := 6) (q0 := 1) rfl rfl rfl) rfl rfl hl.1 rfl (lv_room (Nat.le_of_ble_eq_true rfl)) dX1_save_40 ⟨Nat.le_of_ble_eq_true rfl, Nat.le_of_ble_eq_true rfl⟩) (fun w1 H locs hq9 hP hD hS => ?_)
    obtain ⟨s40_2, hv40_0, rfl⟩ := hq9
    have hP : va_P D vwCl (wH α γ (h, old, ch) rg ln sl pd ct sg od (s40_2, sl9, tk, 5)) H := hP
    have hD : va_D A (wH α γ (h, old, ch) rg ln sl pd ct sg od (s40_2, sl9, tk, 5)) := hD
    refine lv_aload_n hx hb dX1_save_43 rfl (lv_at hl 0 rfl) ?_
    refine lv_dup hx hb dX1_save_44 rfl ?_
    refine va_get (D := D) (ci := 1) (v := .int (zI 5)) (C := RX1) (T := TX1) (N := 4) hx hb hts (fun w h => List.mem_cons_of_mem _ (wx_X1 w h)) hown hK hP 9 rfl rfl 3 (by decide) (hW0 _ wf_X1_22) (fun _ h9 => h9) rfl dX1_save_45 ?_
    refine lv_iconst (v := zI 1) hx hb dX1_save_48 rfl ?_
    refine z_iadd hx hb dX1_save_49 ?_
    refine va_put (D := D) (ci := 1) (v := .int (zI (5 + 1))) (ty := .int) (C := RX1) (T := TX1) (N := 4) hx hb hts (fun w h => List.mem_cons_of_mem _ (wx_X1 w h)) tyX1 tyX1_ok nmX1 hown hK hP hD hS 9 rfl rfl 3 (by decide) (hW0 _ wf_X1_22) (fun _ h9 => h9) rfl (by decide +kernel) rfl rfl (Nat.le_of_ble_eq_true rfl) dX1_save_50 (fun H locs hP hD hS => ?_)
    have hP : va_P D vwCl (wH α γ (h, old, ch) rg ln sl pd ct sg od (s40_2, sl9, tk, 5 + 1)) H := hP
    have hD : va_D A (wH α γ (h, old, ch) rg ln sl pd ct sg od (s40_2, sl9, tk, 5 + 1)) := hD
    exact z_vret hC hr hlk hQ hP hD hS ⟨s40_2, 5 + 1, (by rw [hv40_0]; unfold S_sv; first | (rw [if_neg (by omega)]; done) | (rw [if_pos (by omega)]; rfl)), (by unfold S_svC; first | (rw [if_neg (by omega)]; done) | (rw [if_pos (by omega)]; rfl)), rfl⟩ dX1_save_53
