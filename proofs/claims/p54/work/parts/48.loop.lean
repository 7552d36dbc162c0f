/-! THE LAW: its loop -/
set_option maxHeartbeats 8000000 in
set_option maxRecDepth 100000 in
theorem law_loop {pg : Program} {l : Launch} {e : Env} {s : State} {m : MethodId} {args : Array Value} {below : List Frame} {meth : Method} {c : Code} {Q : State → Prop} {D : va_G} {τ : Nat → Nat} {A : Nat → Prop} {α : Nat → Nat} {γ : Nat → ClassId} {b L : Nat} {xs : Nat → Int32} (hC : CallFix pg m c cL_law 5 s args W0 RL) (hK : va_K D vwCl (tyH γ) s) (hG : GS τ A s s.heap) (hA : ∀ q, s.heap.size ≤ q → A q) (hXs : va_X b L xs s s.heap) (hbl : b < s.heap.size) (hbA : ¬ A b) (hL9 : L ≤ 260)
    (hend : ∀ (H : Heap) (locs : List Loc) (ls : Array Slot), va_S A s.heap H locs → W pg l e room_1 s m args below meth c H locs 32 1476 Q (F0 m 138 ls []))
     (h : IA) (old : IA) (ch : IA) (wt : BA) (qu5 : IA) (hi8 : BA) (fe : IA) (se : IA) (gn : BA) (fp : IA) (sp : IA) (np : Int) (tot : Int) (clo : Int) (lon : Int) (nx : IA) (dr : IA) (qu : IA) (wy : IA) (lv : IA) (hg9 : IA) (la9 : Int) (sg : TSg) (od : TOd) (sv : IA) (sl9 : IA) (tk : BA) (ct9 : Int) (hh : ∀ k, 0 ≤ k → k < 49 → 0 ≤ h k ∧ h k ≤ 99) (hct : 0 ≤ ct9 ∧ ct9 ≤ 6) (H : Heap) (locs : List Loc) (hP : va_P D vwCl (wH α γ (h, old, ch) (wt, qu5) (hi8, fe, se, gn, fp, sp, np, tot, clo, lon) (nx, dr, qu) (wy, lv) (hg9, la9) sg od (sv, sl9, tk, ct9)) H) (hD : va_D A (wH α γ (h, old, ch) (wt, qu5) (hi8, fe, se, gn, fp, sp, np, tot, clo, lon) (nx, dr, qu) (wy, lv) (hg9, la9) sg od (sv, sl9, tk, ct9))) (hS : va_S A s.heap H locs) (ls : Array Slot) (hl : lv_has ls 5 [(2, .int (zI 0)), (1, .ref (α 0)), (0, .ref b)]) : W pg l e room_1 s m args below meth c H locs 32 1476 Q (F0 m 10 ls []) := by
  have hx := hC.1
  have hb := hC.2.1
  have hml := hC.2.2.1
  have hown := hC.2.2.2.1
  have hts := hC.2.2.2.2
  have hB : ∀ w ∈ W0, w ∈ W0 := fun _ h => h
  have hW0 : ∀ w ∈ W0, w.before args s = true := hts
  suffices HL_10 : ∀ (n_10 : Nat), ∀ (h_l : IA) (old_l : IA) (ch_l : IA) (wt_l : BA) (qu5_l : IA) (hi8_l : BA) (fe_l : IA) (se_l : IA) (gn_l : BA) (fp_l : IA) (sp_l : IA) (np_l : Int) (tot_l : Int) (clo_l : Int) (lon_l : Int) (nx_l : IA) (dr_l : IA) (qu_l : IA) (wy_l : IA) (lv_l : IA) (hg9_l : IA) (la9_l : Int) (sv_l : IA) (sl9_l : IA) (tk_l : BA) (ct9_l : Int) (i : Int) (H : Heap) (locs : List Loc) (hP : va_P D vwCl (wH α γ (h_l, old_l, ch_l) (wt_l, qu5_l) (hi8_l, fe_l, se_l, gn_l, fp_l, sp_l, np_l, tot_l, clo_l, lon_l) (nx_l, dr_l, qu_l) (wy_l, lv_l) (hg9_l, la9_l) sg od (sv_l, sl9_l, tk_l, ct9_l)) H) (hD : va_D A (wH α γ (h_l, old_l, ch_l) (wt_l, qu5_l) (hi8_l, fe_l, se_l, gn_l, fp_l, sp_l, np_l, tot_l, clo_l, lon_l) (nx_l, dr_l, qu_l) (wy_l, lv_l) (hg9_l, la9_l) sg od (sv_l, sl9_l, tk_l, ct9_l))) (hS : va_S A s.heap H locs) (ls : Array Slot) (hl : lv_has ls 5 [(2, .int (zI i)), (1, .ref (α 0)), (0, .ref b)]) (hi : 0 ≤ i ∧ i ≤ 30) (hh1 : ∀ k, 0 ≤ k → k < 49 → 0 ≤ h_l k ∧ h_l k ≤ 99) (hct1 : 0 ≤ ct9_l ∧ ct9_l ≤ 6) (hm : (30 - i).toNat < n_10), W pg l e room_1 s m args below meth c H locs 32 1476 Q (F0 m 10 ls []) from HL_10 _ h old ch wt qu5 hi8 fe se gn fp sp np tot clo lon nx dr qu wy lv hg9 la9 sv sl9 tk ct9 0 _ _ hP hD hS _ (lv_sub hl [0, 1, 2] rfl) (by first | assumption | rfl | omega) (by exact hh) (by exact hct) (Nat.lt_succ_self _)
  intro n_10
  induction n_10 with
  | zero => intro h_l old_l ch_l wt_l qu5_l hi8_l fe_l se_l gn_l fp_l sp_l np_l tot_l clo_l lon_l nx_l dr_l qu_l wy_l lv_l hg9_l la9_l sv_l sl9_l tk_l ct9_l i H locs hP hD hS ls hl hi hh1 hct1 hm; exact absurd hm (Nat.not_lt_zero _)
  | succ n_10 ih_10 =>
    intro h_l old_l ch_l wt_l qu5_l hi8_l fe_l se_l gn_l fp_l sp_l np_l tot_l clo_l lon_l nx_l dr_l qu_l wy_l lv_l hg9_l la9_l sv_l sl9_l tk_l ct9_l i H locs hP hD hS ls hl hi hh1 hct1 hm
    refine lv_iload_n hx hb dL_law_10 rfl (lv_at hl 0 rfl) ?_
    refine lv_bipush (v := zI 30) hx hb dL_law_11 (zI_b8 (by decide)) ?_
    refine z_icge (tgt := 138) hx hb ⟨by omega, by omega⟩ ⟨by omega, by omega⟩ dL_law_13 (by decide) (fun c_13 => ?_) (fun c_13 => ?_)
    · exact hend H locs ls hS
    · refine lv_aload_n hx hb dL_law_16 rfl (lv_at hl 2 rfl) ?_
      refine lv_iload_n hx hb dL_law_17 rfl (lv_at hl 0 rfl) ?_
      refine zc_call hP hD hS hA (c_L_cell l b L xs i ⟨by omega, by omega⟩ hL9 _) hXs hbl hbA hC hW0 hl.1 dL_law_18 (Nat.le_of_ble_eq_true rfl) ⟨Nat.le_of_ble_eq_true rfl, Nat.le_of_ble_eq_true rfl⟩ (fun x18_1 H locs hx18_1 hP hD hS => ?_)
      have hP : va_P D vwCl (wH α γ (h_l, old_l, ch_l) (wt_l, qu5_l) (hi8_l, fe_l, se_l, gn_l, fp_l, sp_l, np_l, tot_l, clo_l, lon_l) (nx_l, dr_l, qu_l) (wy_l, lv_l) (hg9_l, la9_l) sg od (sv_l, sl9_l, tk_l, ct9_l)) H := hP
      have hD : va_D A (wH α γ (h_l, old_l, ch_l) (wt_l, qu5_l) (hi8_l, fe_l, se_l, gn_l, fp_l, sp_l, np_l, tot_l, clo_l, lon_l) (nx_l, dr_l, qu_l) (wy_l, lv_l) (hg9_l, la9_l) sg od (sv_l, sl9_l, tk_l, ct9_l)) := hD
      refine lv_istore_n (lv' := [(3, .int (zI x18_1)), (2, .int (zI i)), (1, .ref (α 0)), (0, .ref b)]) hx hb dL_law_21 rfl hl (by decide) rfl (fun ls hl => ?_)
      refine lv_aload_n hx hb dL_law_22 rfl (lv_at hl 3 rfl) ?_
      refine lv_iload_n hx hb dL_law_23 rfl (lv_at hl 1 rfl) ?_
      refine lv_bipush (v := zI 30) hx hb dL_law_24 (zI_b8 (by decide)) ?_
      refine z_iadd hx hb dL_law_26 ?_
      refine zc_call hP hD hS hA (c_L_cell l b L xs (i + 30) ⟨by omega, by omega⟩ hL9 _) hXs hbl hbA hC hW0 hl.1 dL_law_27 (Nat.le_of_ble_eq_true rfl) ⟨Nat.le_of_ble_eq_true rfl, Nat.le_of_ble_eq_true rfl⟩ (fun x27_2 H locs hx27_2 hP hD hS => ?_)
      have hP : va_P D vwCl (wH α γ (h_l, old_l, ch_l) (wt_l, qu5_l) (hi8_l, fe_l, se_l, gn_l, fp_l, sp_l, np_l, tot_l, clo_l, lon_l) (nx_l, dr_l, qu_l) (wy_l, lv_l) (hg9_l, la9_l) sg od (sv_l, sl9_l, tk_l, ct9_l)) H := hP
      have hD : va_D A (wH α γ (h_l, old_l, ch_l) (wt_l, qu5_l) (hi8_l, fe_l, se_l, gn_l, fp_l, sp_l, np_l, tot_l, clo_l, lon_l) (nx_l, dr_l, qu_l) (wy_l, lv_l) (hg9_l, la9_l) sg od (sv_l, sl9_l, tk_l, ct9_l)) := hD
      refine lv_istore (lv' := [(4, .int (zI x27_2)), (3, .int (zI x18_1)), (2, .int (zI i)), (1, .ref (α 0)), (0, .ref b)]) hx hb dL_law_30 hl (by decide) rfl (fun ls hl => ?_)
      refine lv_aload_n hx hb dL_law_32 rfl (lv_at hl 3 rfl) ?_
      refine lv_iload_n hx hb dL_law_33 rfl (lv_at hl 1 rfl) ?_
      refine lv_iload hx hb dL_law_34 (lv_at hl 0 rfl) ?_
      refine z_calli hP hD hS hA (va_runS (As := [.ref (α 0), .int (zI x18_1), .int (zI x27_2)]) (rest := []) hC (c_L_does l D τ α γ h_l old_l ch_l wt_l qu5_l hi8_l fe_l se_l gn_l fp_l sp_l np_l tot_l clo_l lon_l nx_l dr_l qu_l wy_l lv_l (hg9_l, la9_l) sg od sv_l sl9_l tk_l ct9_l x18_1 x27_2 (by first | assumption | rfl | omega) (by first | assumption | rfl | omega) (by exact hh1) (by exact hct1) _) (va_cwS 3 hts (gS hB wl_L_173 wt_L_does wi_L wc_L_does) rfl rfl rfl hd_L_does.2 ⟨Nat.le_of_ble_eq_true rfl, Nat.le_of_ble_eq_true rfl⟩) (zp_S hK hP hD hS hA hG) rfl rfl hl.1 rfl (lv_room (Nat.le_of_ble_eq_true rfl)) dL_law_36 ⟨Nat.le_of_ble_eq_true rfl, Nat.le_of_ble_eq_true rfl⟩) (fun r w1 H locs hq9 hP hD hS => ?_)
      obtain ⟨h_p36_3, old_p36_4, ch_p36_5, sv_p36_6, sl9_p36_7, tk_p36_8, ct9_p36_9, nx_p36_10, dr_p36_11, qu_p36_12, wt_p36_13, qu5_p36_14, hi8_p36_15, fe_p36_16, se_p36_17, gn_p36_18, fp_p36_19, sp_p36_20, np_p36_21, tot_p36_22, clo_p36_23, lon_p36_24, wy_p36_25, lv_p36_26, v36_27, hv36_0, hv36_1, hv36_2, rfl, rfl⟩ := hq9
      have hP : va_P D vwCl (wH α γ (h_p36_3, old_p36_4, ch_p36_5) (wt_p36_13, qu5_p36_14) (hi8_p36_15, fe_p36_16, se_p36_17, gn_p36_18, fp_p36_19, sp_p36_20, np_p36_21, tot_p36_22, clo_p36_23, lon_p36_24) (nx_p36_10, dr_p36_11, qu_p36_12) (wy_p36_25, lv_p36_26) (hg9_l, la9_l) sg od (sv_p36_6, sl9_p36_7, tk_p36_8, ct9_p36_9)) H := hP
      have hD : va_D A (wH α γ (h_p36_3, old_p36_4, ch_p36_5) (wt_p36_13, qu5_p36_14) (hi8_p36_15, fe_p36_16, se_p36_17, gn_p36_18, fp_p36_19, sp_p36_20, np_p36_21, tot_p36_22, clo_p36_23, lon_p36_24) (nx_p36_10, dr_p36_11, qu_p36_12) (wy_p36_25, lv_p36_26) (hg9_l, la9_l) sg od (sv_p36_6, sl9_p36_7, tk_p36_8, ct9_p36_9)) := hD
      refine z_ifeqB (tgt := 130) hx hb dL_law_39 (by decide) (fun c_39 => ?_) (fun c_39 => ?_)
      · cases (hv36_0.symm.trans c_39)
      · have HJ_70 : ∀ (lvv : Int) (H : Heap) (locs : List Loc) (hP : va_P D vwCl (wH α γ (h_p36_3, old_p36_4, ch_p36_5) (wt_p36_13, qu5_p36_14) (hi8_p36_15, fe_p36_16, se_p36_17, gn_p36_18, fp_p36_19, sp_p36_20, np_p36_21, tot_p36_22, clo_p36_23, lon_p36_24) (nx_p36_10, dr_p36_11, qu_p36_12) (wy_p36_25, lv_p36_26) (hg9_l, la9_l) sg od (sv_p36_6, sl9_p36_7, tk_p36_8, ct9_p36_9)) H) (hD : va_D A (wH α γ (h_p36_3, old_p36_4, ch_p36_5) (wt_p36_13, qu5_p36_14) (hi8_p36_15, fe_p36_16, se_p36_17, gn_p36_18, fp_p36_19, sp_p36_20, np_p36_21, tot_p36_22, clo_p36_23, lon_p36_24) (nx_p36_10, dr_p36_11, qu_p36_12) (wy_p36_25, lv_p36_26) (hg9_l, la9_l) sg od (sv_p36_6, sl9_p36_7, tk_p36_8, ct9_p36_9))) (hS : va_S A s.heap H locs) (ls : Array Slot) (hl : lv_has ls 5 [(4, .int (zI x27_2)), (3, .int (zI x18_1)), (2, .int (zI i)), (1, .ref (α 0)), (0, .ref b)]) (hlv : 0 ≤ lvv ∧ lvv ≤ 98), W pg l e room_1 s m args below meth c H locs 32 1476 Q (F0 m 70 ls [.int (zI lvv), .ref (α 0)]) := by
          intro lvv H locs hP hD hS ls hl hlv
          refine z_calli hP hD hS hA (va_runS (As := [.ref (α 0), .int (zI lvv)]) (rest := []) hC (c_L_areLinesSo l D τ α γ h_p36_3 old_p36_4 ch_p36_5 wt_p36_13 qu5_p36_14 hi8_p36_15 fe_p36_16 se_p36_17 gn_p36_18 fp_p36_19 sp_p36_20 np_p36_21 tot_p36_22 clo_p36_23 lon_p36_24 (nx_p36_10, dr_p36_11, qu_p36_12) (wy_p36_25, lv_p36_26) (hg9_l, la9_l) sg od (sv_p36_6, sl9_p36_7, tk_p36_8, ct9_p36_9) lvv (by first | assumption | rfl | omega) (by exact hv36_1) _) (va_cwS 2 hts (gS hB wl_L_177 wt_L_areLinesSo wi_L wc_L_areLinesSo) rfl rfl rfl hd_L_areLinesSo.2 ⟨Nat.le_of_ble_eq_true rfl, Nat.le_of_ble_eq_true rfl⟩) (zp_S hK hP hD hS hA hG) rfl rfl hl.1 rfl (lv_room (Nat.le_of_ble_eq_true rfl)) dL_law_70 ⟨Nat.le_of_ble_eq_true rfl, Nat.le_of_ble_eq_true rfl⟩) (fun r w1 H locs hq9 hP hD hS => ?_)
          obtain ⟨wt_p70_28, qu5_p70_29, hi8_p70_30, fe_p70_31, se_p70_32, gn_p70_33, fp_p70_34, sp_p70_35, np_p70_36, tot_p70_37, clo_p70_38, lon_p70_39, v70_40, hv70_0, rfl, rfl⟩ := hq9
          have hP : va_P D vwCl (wH α γ (h_p36_3, old_p36_4, ch_p36_5) (wt_p70_28, qu5_p70_29) (hi8_p70_30, fe_p70_31, se_p70_32, gn_p70_33, fp_p70_34, sp_p70_35, np_p70_36, tot_p70_37, clo_p70_38, lon_p70_39) (nx_p36_10, dr_p36_11, qu_p36_12) (wy_p36_25, lv_p36_26) (hg9_l, la9_l) sg od (sv_p36_6, sl9_p36_7, tk_p36_8, ct9_p36_9)) H := hP
          have hD : va_D A (wH α γ (h_p36_3, old_p36_4, ch_p36_5) (wt_p70_28, qu5_p70_29) (hi8_p70_30, fe_p70_31, se_p70_32, gn_p70_33, fp_p70_34, sp_p70_35, np_p70_36, tot_p70_37, clo_p70_38, lon_p70_39) (nx_p36_10, dr_p36_11, qu_p36_12) (wy_p36_25, lv_p36_26) (hg9_l, la9_l) sg od (sv_p36_6, sl9_p36_7, tk_p36_8, ct9_p36_9)) := hD
          refine z_ifeqB (tgt := 130) hx hb dL_law_73 (by decide) (fun c_73 => ?_) (fun c_73 => ?_)
          · cases (hv70_0.symm.trans c_73)
          · refine lv_aload_n hx hb dL_law_76 rfl (lv_at hl 3 rfl) ?_
            refine lv_iload_n hx hb dL_law_77 rfl (lv_at hl 1 rfl) ?_
            refine lv_iconst (v := zI 3) hx hb dL_law_78 rfl ?_
            refine z_ishrA hx hb dL_law_79 (fun x79_41 hx79_41 => ?_)
            refine lv_bipush (v := zI 49) hx hb dL_law_80 (zI_b8 (by decide)) ?_
            refine z_calli hP hD hS hA (va_runS (As := [.int (zI x79_41), .int (zI 49)]) (rest := [.ref (α 0)]) hC (c_L_low l D τ _ _ x79_41 49 (by first | assumption | rfl | omega) _) (va_cwS 2 hts (gS hB wl_L_14 wt_L_low wi_L wc_L_low) rfl rfl rfl hd_L_low.2 ⟨Nat.le_of_ble_eq_true rfl, Nat.le_of_ble_eq_true rfl⟩) (zp_S hK hP hD hS hA hG) rfl rfl hl.1 rfl (lv_room (Nat.le_of_ble_eq_true rfl)) dL_law_82 ⟨Nat.le_of_ble_eq_true rfl, Nat.le_of_ble_eq_true rfl⟩) (fun r w1 H locs hq9 hP hD hS => ?_)
            obtain ⟨v82_42, hv82_0, rfl, rfl⟩ := hq9
            refine z_calli hP hD hS hA (va_runS (As := [.ref (α 0), .int (zI v82_42)]) (rest := []) hC (c_L_isPointSo l D τ α γ h_p36_3 old_p36_4 ch_p36_5 wt_p70_28 qu5_p70_29 (hi8_p70_30, fe_p70_31, se_p70_32, gn_p70_33, fp_p70_34, sp_p70_35, np_p70_36, tot_p70_37, clo_p70_38, lon_p70_39) nx_p36_10 dr_p36_11 qu_p36_12 wy_p36_25 lv_p36_26 (hg9_l, la9_l) sg od (sv_p36_6, sl9_p36_7, tk_p36_8, ct9_p36_9) v82_42 (by first | assumption | rfl | omega) (by exact hv36_1) _) (va_cwS 2 hts (gS hB wl_L_180 wt_L_isPointSo wi_L wc_L_isPointSo) rfl rfl rfl hd_L_isPointSo.2 ⟨Nat.le_of_ble_eq_true rfl, Nat.le_of_ble_eq_true rfl⟩) (zp_S hK hP hD hS hA hG) rfl rfl hl.1 rfl (lv_room (Nat.le_of_ble_eq_true rfl)) dL_law_85 ⟨Nat.le_of_ble_eq_true rfl, Nat.le_of_ble_eq_true rfl⟩) (fun r w1 H locs hq9 hP hD hS => ?_)
            obtain ⟨nx_p85_43, dr_p85_44, qu_p85_45, wy_p85_46, lv_p85_47, wt_p85_48, qu5_p85_49, v85_50, hv85_0, rfl, rfl⟩ := hq9
            have hP : va_P D vwCl (wH α γ (h_p36_3, old_p36_4, ch_p36_5) (wt_p85_48, qu5_p85_49) (hi8_p70_30, fe_p70_31, se_p70_32, gn_p70_33, fp_p70_34, sp_p70_35, np_p70_36, tot_p70_37, clo_p70_38, lon_p70_39) (nx_p85_43, dr_p85_44, qu_p85_45) (wy_p85_46, lv_p85_47) (hg9_l, la9_l) sg od (sv_p36_6, sl9_p36_7, tk_p36_8, ct9_p36_9)) H := hP
            have hD : va_D A (wH α γ (h_p36_3, old_p36_4, ch_p36_5) (wt_p85_48, qu5_p85_49) (hi8_p70_30, fe_p70_31, se_p70_32, gn_p70_33, fp_p70_34, sp_p70_35, np_p70_36, tot_p70_37, clo_p70_38, lon_p70_39) (nx_p85_43, dr_p85_44, qu_p85_45) (wy_p85_46, lv_p85_47) (hg9_l, la9_l) sg od (sv_p36_6, sl9_p36_7, tk_p36_8, ct9_p36_9)) := hD
            refine z_ifeqB (tgt := 130) hx hb dL_law_88 (by decide) (fun c_88 => ?_) (fun c_88 => ?_)
            · cases (hv85_0.symm.trans c_88)
            · refine lv_aload_n hx hb dL_law_91 rfl (lv_at hl 3 rfl) ?_
              refine lv_iload hx hb dL_law_92 (lv_at hl 0 rfl) ?_
              refine lv_iconst (v := zI 1) hx hb dL_law_94 rfl ?_
              refine z_ishrA hx hb dL_law_95 (fun x95_51 hx95_51 => ?_)
              refine lv_bipush (v := zI 49) hx hb dL_law_96 (zI_b8 (by decide)) ?_
              refine z_calli hP hD hS hA (va_runS (As := [.int (zI x95_51), .int (zI 49)]) (rest := [.ref (α 0)]) hC (c_L_low l D τ _ _ x95_51 49 (by first | assumption | rfl | omega) _) (va_cwS 2 hts (gS hB wl_L_14 wt_L_low wi_L wc_L_low) rfl rfl rfl hd_L_low.2 ⟨Nat.le_of_ble_eq_true rfl, Nat.le_of_ble_eq_true rfl⟩) (zp_S hK hP hD hS hA hG) rfl rfl hl.1 rfl (lv_room (Nat.le_of_ble_eq_true rfl)) dL_law_98 ⟨Nat.le_of_ble_eq_true rfl, Nat.le_of_ble_eq_true rfl⟩) (fun r w1 H locs hq9 hP hD hS => ?_)
              obtain ⟨v98_52, hv98_0, rfl, rfl⟩ := hq9
              refine lv_iload_n hx hb dL_law_101 rfl (lv_at hl 1 rfl) ?_
              refine lv_iconst (v := zI 2) hx hb dL_law_102 rfl ?_
              refine z_ishrA hx hb dL_law_103 (fun x103_53 hx103_53 => ?_)
              refine lv_bipush (v := zI 49) hx hb dL_law_104 (zI_b8 (by decide)) ?_
              refine z_calli hP hD hS hA (va_runS (As := [.int (zI x103_53), .int (zI 49)]) (rest := [.int (zI v98_52), .ref (α 0)]) hC (c_L_low l D τ _ _ x103_53 49 (by first | assumption | rfl | omega) _) (va_cwS 2 hts (gS hB wl_L_14 wt_L_low wi_L wc_L_low) rfl rfl rfl hd_L_low.2 ⟨Nat.le_of_ble_eq_true rfl, Nat.le_of_ble_eq_true rfl⟩) (zp_S hK hP hD hS hA hG) rfl rfl hl.1 rfl (lv_room (Nat.le_of_ble_eq_true rfl)) dL_law_106 ⟨Nat.le_of_ble_eq_true rfl, Nat.le_of_ble_eq_true rfl⟩) (fun r w1 H locs hq9 hP hD hS => ?_)
              obtain ⟨v106_54, hv106_0, rfl, rfl⟩ := hq9
              refine z_calli hP hD hS hA (va_runS (As := [.ref (α 0), .int (zI v98_52), .int (zI v106_54)]) (rest := []) hC (c_L_isCutSo l D τ α γ h_p36_3 old_p36_4 ch_p36_5 (wt_p85_48, qu5_p85_49) (hi8_p70_30, fe_p70_31, se_p70_32, gn_p70_33, fp_p70_34, sp_p70_35, np_p70_36, tot_p70_37, clo_p70_38, lon_p70_39) (nx_p85_43, dr_p85_44, qu_p85_45) (wy_p85_46, lv_p85_47) hg9_l la9_l sg od (sv_p36_6, sl9_p36_7, tk_p36_8, ct9_p36_9) v98_52 v106_54 (by first | assumption | rfl | omega) (by first | assumption | rfl | omega) (by exact hv36_1) _) (va_cwS 3 hts (gS hB wl_L_183 wt_L_isCutSo wi_L wc_L_isCutSo) rfl rfl rfl hd_L_isCutSo.2 ⟨Nat.le_of_ble_eq_true rfl, Nat.le_of_ble_eq_true rfl⟩) (zp_S hK hP hD hS hA hG) rfl rfl hl.1 rfl (lv_room (Nat.le_of_ble_eq_true rfl)) dL_law_109 ⟨Nat.le_of_ble_eq_true rfl, Nat.le_of_ble_eq_true rfl⟩) (fun r w1 H locs hq9 hP hD hS => ?_)
              obtain ⟨hg9_p109_55, la9_p109_56, v109_57, hv109_0, rfl, rfl⟩ := hq9
              have hP : va_P D vwCl (wH α γ (h_p36_3, old_p36_4, ch_p36_5) (wt_p85_48, qu5_p85_49) (hi8_p70_30, fe_p70_31, se_p70_32, gn_p70_33, fp_p70_34, sp_p70_35, np_p70_36, tot_p70_37, clo_p70_38, lon_p70_39) (nx_p85_43, dr_p85_44, qu_p85_45) (wy_p85_46, lv_p85_47) (hg9_p109_55, la9_p109_56) sg od (sv_p36_6, sl9_p36_7, tk_p36_8, ct9_p36_9)) H := hP
              have hD : va_D A (wH α γ (h_p36_3, old_p36_4, ch_p36_5) (wt_p85_48, qu5_p85_49) (hi8_p70_30, fe_p70_31, se_p70_32, gn_p70_33, fp_p70_34, sp_p70_35, np_p70_36, tot_p70_37, clo_p70_38, lon_p70_39) (nx_p85_43, dr_p85_44, qu_p85_45) (wy_p85_46, lv_p85_47) (hg9_p109_55, la9_p109_56) sg od (sv_p36_6, sl9_p36_7, tk_p36_8, ct9_p36_9)) := hD
              refine z_ifeqB (tgt := 130) hx hb dL_law_112 (by decide) (fun c_112 => ?_) (fun c_112 => ?_)
              · cases (hv109_0.symm.trans c_112)
              · refine lv_iload_n hx hb dL_law_115 rfl (lv_at hl 2 rfl) ?_
                refine lv_bipush (v := zI 6) hx hb dL_law_116 (zI_b8 (by decide)) ?_
                refine z_irem hx hb ⟨⟨by omega, by omega⟩, by omega, by omega⟩ dL_law_118 ?_
                refine lv_iconst (v := zI 5) hx hb dL_law_119 rfl ?_
                refine z_icne (tgt := 132) hx hb ⟨by omega, by omega⟩ ⟨by omega, by omega⟩ dL_law_120 (by decide) (fun c_120 => ?_) (fun c_120 => ?_)
                · refine z_iinc (k := 2) (v := i + 1) (lv' := [(2, .int (zI (i + 1))), (4, .int (zI x27_2)), (3, .int (zI x18_1)), (1, .ref (α 0)), (0, .ref b)]) hx hb dL_law_132 hl rfl rfl (by decide) rfl (fun ls hl => ?_)
                  refine lv_goto (tgt := 10) hx hb dL_law_135 (by decide) ?_
                  exact ih_10 h_p36_3 old_p36_4 ch_p36_5 wt_p85_48 qu5_p85_49 hi8_p70_30 fe_p70_31 se_p70_32 gn_p70_33 fp_p70_34 sp_p70_35 np_p70_36 tot_p70_37 clo_p70_38 lon_p70_39 nx_p85_43 dr_p85_44 qu_p85_45 wy_p85_46 lv_p85_47 hg9_p109_55 la9_p109_56 sv_p36_6 sl9_p36_7 tk_p36_8 ct9_p36_9 (i + 1) _ _ hP hD hS _ (lv_sub hl [0, 3, 4] rfl) (by first | assumption | rfl | omega) (by exact hv36_1) (by exact hv36_2) (by omega)
                · refine lv_aload_n hx hb dL_law_123 rfl (lv_at hl 3 rfl) ?_
                  refine z_calli hP hD hS hA (va_runS (As := [.ref (α 0)]) (rest := []) hC (c_L_areAllSo l D τ α γ h_p36_3 old_p36_4 ch_p36_5 wt_p85_48 qu5_p85_49 (hi8_p70_30, fe_p70_31, se_p70_32, gn_p70_33, fp_p70_34, sp_p70_35, np_p70_36, tot_p70_37, clo_p70_38, lon_p70_39) nx_p85_43 dr_p85_44 qu_p85_45 wy_p85_46 lv_p85_47 (hg9_p109_55, la9_p109_56) sg od (sv_p36_6, sl9_p36_7, tk_p36_8, ct9_p36_9) (by exact hv36_1) _) (va_cwS 1 hts (gS hB wl_L_186 wt_L_areAllSo wi_L wc_L_areAllSo) rfl rfl rfl hd_L_areAllSo.2 ⟨Nat.le_of_ble_eq_true rfl, Nat.le_of_ble_eq_true rfl⟩) (zp_S hK hP hD hS hA hG) rfl rfl hl.1 rfl (lv_room (Nat.le_of_ble_eq_true rfl)) dL_law_124 ⟨Nat.le_of_ble_eq_true rfl, Nat.le_of_ble_eq_true rfl⟩) (fun r w1 H locs hq9 hP hD hS => ?_)
                  obtain ⟨nx_p124_58, dr_p124_59, qu_p124_60, wy_p124_61, lv_p124_62, wt_p124_63, qu5_p124_64, v124_65, hv124_0, rfl, rfl⟩ := hq9
                  have hP : va_P D vwCl (wH α γ (h_p36_3, old_p36_4, ch_p36_5) (wt_p124_63, qu5_p124_64) (hi8_p70_30, fe_p70_31, se_p70_32, gn_p70_33, fp_p70_34, sp_p70_35, np_p70_36, tot_p70_37, clo_p70_38, lon_p70_39) (nx_p124_58, dr_p124_59, qu_p124_60) (wy_p124_61, lv_p124_62) (hg9_p109_55, la9_p109_56) sg od (sv_p36_6, sl9_p36_7, tk_p36_8, ct9_p36_9)) H := hP
                  have hD : va_D A (wH α γ (h_p36_3, old_p36_4, ch_p36_5) (wt_p124_63, qu5_p124_64) (hi8_p70_30, fe_p70_31, se_p70_32, gn_p70_33, fp_p70_34, sp_p70_35, np_p70_36, tot_p70_37, clo_p70_38, lon_p70_39) (nx_p124_58, dr_p124_59, qu_p124_60) (wy_p124_61, lv_p124_62) (hg9_p109_55, la9_p109_56) sg od (sv_p36_6, sl9_p36_7, tk_p36_8, ct9_p36_9)) := hD
                  refine z_ifneB (tgt := 132) hx hb dL_law_127 (by decide) (fun c_127 => ?_) (fun c_127 => ?_)
                  · refine z_iinc (k := 2) (v := i + 1) (lv' := [(2, .int (zI (i + 1))), (4, .int (zI x27_2)), (3, .int (zI x18_1)), (1, .ref (α 0)), (0, .ref b)]) hx hb dL_law_132 hl rfl rfl (by decide) rfl (fun ls hl => ?_)
                    refine lv_goto (tgt := 10) hx hb dL_law_135 (by decide) ?_
                    exact ih_10 h_p36_3 old_p36_4 ch_p36_5 wt_p124_63 qu5_p124_64 hi8_p70_30 fe_p70_31 se_p70_32 gn_p70_33 fp_p70_34 sp_p70_35 np_p70_36 tot_p70_37 clo_p70_38 lon_p70_39 nx_p124_58 dr_p124_59 qu_p124_60 wy_p124_61 lv_p124_62 hg9_p109_55 la9_p109_56 sv_p36_6 sl9_p36_7 tk_p36_8 ct9_p36_9 (i + 1) _ _ hP hD hS _ (lv_sub hl [0, 3, 4] rfl) (by first | assumption | rfl | omega) (by exact hv36_1) (by exact hv36_2) (by omega)
                  · cases (hv124_0.symm.trans c_127)
        refine lv_aload_n hx hb dL_law_42 rfl (lv_at hl 3 rfl) ?_
        refine lv_iload_n hx hb dL_law_43 rfl (lv_at hl 2 rfl) ?_
        refine lv_iconst (v := zI 3) hx hb dL_law_44 rfl ?_
        refine z_irem hx hb ⟨⟨by omega, by omega⟩, by omega, by omega⟩ dL_law_45 ?_
        refine z_ifne (tgt := 61) hx hb ⟨by omega, by omega⟩ dL_law_46 (by decide) (fun c_46 => ?_) (fun c_46 => ?_)
        · refine lv_iload hx hb dL_law_61 (lv_at hl 0 rfl) ?_
          refine lv_iconst (v := zI 3) hx hb dL_law_63 rfl ?_
          refine z_ishrA hx hb dL_law_64 (fun x64_66 hx64_66 => ?_)
          refine lv_bipush (v := zI 30) hx hb dL_law_65 (zI_b8 (by decide)) ?_
          refine z_calli hP hD hS hA (va_runS (As := [.int (zI x64_66), .int (zI 30)]) (rest := [.ref (α 0)]) hC (c_L_low l D τ _ _ x64_66 30 (by first | assumption | rfl | omega) _) (va_cwS 2 hts (gS hB wl_L_14 wt_L_low wi_L wc_L_low) rfl rfl rfl hd_L_low.2 ⟨Nat.le_of_ble_eq_true rfl, Nat.le_of_ble_eq_true rfl⟩) (zp_S hK hP hD hS hA hG) rfl rfl hl.1 rfl (lv_room (Nat.le_of_ble_eq_true rfl)) dL_law_67 ⟨Nat.le_of_ble_eq_true rfl, Nat.le_of_ble_eq_true rfl⟩) (fun r w1 H locs hq9 hP hD hS => ?_)
          obtain ⟨v67_67, hv67_0, rfl, rfl⟩ := hq9
          exact HJ_70 v67_67 _ _ hP hD hS _ (lv_sub hl [0, 1, 2, 3, 4] rfl) (by first | assumption | rfl | omega)
        · refine lv_iload hx hb dL_law_49 (lv_at hl 0 rfl) ?_
          refine lv_iconst (v := zI 2) hx hb dL_law_51 rfl ?_
          refine z_ishrA hx hb dL_law_52 (fun x52_68 hx52_68 => ?_)
          refine lv_bipush (v := zI 99) hx hb dL_law_53 (zI_b8 (by decide)) ?_
          refine z_calli hP hD hS hA (va_runS (As := [.int (zI x52_68), .int (zI 99)]) (rest := [.ref (α 0)]) hC (c_L_low l D τ _ _ x52_68 99 (by first | assumption | rfl | omega) _) (va_cwS 2 hts (gS hB wl_L_14 wt_L_low wi_L wc_L_low) rfl rfl rfl hd_L_low.2 ⟨Nat.le_of_ble_eq_true rfl, Nat.le_of_ble_eq_true rfl⟩) (zp_S hK hP hD hS hA hG) rfl rfl hl.1 rfl (lv_room (Nat.le_of_ble_eq_true rfl)) dL_law_55 ⟨Nat.le_of_ble_eq_true rfl, Nat.le_of_ble_eq_true rfl⟩) (fun r w1 H locs hq9 hP hD hS => ?_)
          obtain ⟨v55_69, hv55_0, rfl, rfl⟩ := hq9
          refine lv_goto (tgt := 70) hx hb dL_law_58 (by decide) ?_
          exact HJ_70 v55_69 _ _ hP hD hS _ (lv_sub hl [0, 1, 2, 3, 4] rfl) (by first | assumption | rfl | omega)

