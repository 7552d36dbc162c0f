theorem bne_f9 {a b : Bool} (h : a = b) : false = (a != b) := by subst h; cases a <;> rfl
theorem bne_t9 {a b : Bool} (h : ¬ a = b) : true = (a != b) := by revert h; cases a <;> cases b <;> decide
theorem bd_iff9 {fp sp : IA} {k : Int} : (decide (fp k ≠ -1) && decide (sp k = -1)) = true ↔ (¬ fp k = -1 ∧ sp k = -1) := by simp
theorem bt9 {x : Bool} {P Q : Prop} (h : ¬ (P ∧ Q ∧ x = false)) (p : P) (q : Q) : x = true := by cases x; exact absurd ⟨p, q, rfl⟩ h; rfl
abbrev wz_X2_isHigh : List Cond := .code yX2_isHigh cX2_isHigh 5 (some .boolean) :: W0
abbrev rm_X2_isHigh : Room := { frames := 1, cells := 0, slots := 0, locals := 21 }
theorem hd_X2_isHigh : yX2_isHigh.cls = RX2 ∧ yX2_isHigh.cls ≠ "java/lang/invoke/MethodHandle" ∧ yX2_isHigh.cls ≠ "java/lang/invoke/VarHandle" ∧ (parseMethodDescriptor yX2_isHigh.desc).map (fun d => d.parameters.length) = some 3 := by decide +kernel
set_option maxHeartbeats 4000000 in
set_option maxRecDepth 100000 in
theorem c_X2_isHigh (l : Launch) (D : va_G) (τ : Nat → Nat) (α : Nat → Nat) (γ : Nat → ClassId) (rl : TRl) (rg : TRg) (hi8 : BA) (fe : IA) (se : IA) (gn : BA) (fp : IA) (sp : IA) (np : Int) (tot : Int) (clo : Int) (lon : Int) (sl : TSl) (pd : TPd) (ct : TCt) (sg : TSg) (od : TOd) (hs : THs) (rw9 : Int) (cl9 : Int) (sd9 : Int) (hrw : 0 ≤ rw9 ∧ rw9 < 6) (hcl9 : 0 ≤ cl9 ∧ cl9 < 6) (hsd : 0 ≤ sd9 ∧ sd9 < 4) : cM l yX2_isHigh wz_X2_isHigh rm_X2_isHigh D τ (tyH γ) [.ref (α 3), .int (zI rw9), .int (zI cl9), .int (zI sd9)] (wH α γ rl rg (hi8, fe, se, gn, fp, sp, np, tot, clo, lon) sl pd ct sg od hs) (zQi (fun r w => ∃ (v : Bool), (v = hi8 (S_cn (rw9 * 6 + cl9) sd9)) ∧ r = bI v ∧ wH α γ rl rg (hi8, fe, se, gn, fp, sp, np, tot, clo, lon) sl pd ct sg od hs = w)) := by
  refine z_ofM (cc := cX2_isHigh) (maxL := 5) (ret := (some .boolean)) (by decide +kernel) rfl (Nat.le_of_ble_eq_true rfl) ?_
  intro pg e s m args below meth c hC hr hlk hnm hK hP A hD hG hA hS ls hl Q hQ
  have hx := hC.1
  have hb := hC.2.1
  have hml := hC.2.2.1
  have hown := hC.2.2.2.1
  have hts := hC.2.2.2.2
  have hB : ∀ w ∈ W0, w ∈ wz_X2_isHigh := fun _ h => List.mem_cons_of_mem _ h
  have hW0 : ∀ w ∈ W0, w.before args s = true := fun w h => hts w (hB w h)
  have hl : lv_has ls 5 [(0, .ref (α 3)), (1, .int (zI rw9)), (2, .int (zI cl9)), (3, .int (zI sd9))] := hl
  refine lv_iload_n hx hb dX2_isHigh_0 rfl (lv_at hl 3 rfl) ?_
  refine z_iflt (tgt := 20) hx hb ⟨by omega, by omega⟩ dX2_isHigh_1 (by decide) (fun c_1 => ?_) (fun c_1 => ?_)
  · exact absurd c_1 (by omega)
  · refine lv_iload_n hx hb dX2_isHigh_4 rfl (lv_at hl 3 rfl) ?_
    refine va_gets hx hb hG.2.2.2.1.1 hS hown (hW0 _ wf_X2_78) (fun _ h9 => h9) dX2_isHigh_5 ?_
    refine va_tlen (v := zI 4) hx hb hG.2.2.2.1.2 hS rfl dX2_isHigh_8 ?_
    refine z_icge (tgt := 20) hx hb ⟨by omega, by omega⟩ ⟨by omega, by omega⟩ dX2_isHigh_9 (by decide) (fun c_9 => ?_) (fun c_9 => ?_)
    · exact absurd c_9 (by omega)
    · refine lv_iload_n hx hb dX2_isHigh_12 rfl (lv_at hl 3 rfl) ?_
      refine va_gets hx hb hG.2.2.2.2.1.1 hS hown (hW0 _ wf_X2_81) (fun _ h9 => h9) dX2_isHigh_13 ?_
      refine va_tlen (v := zI 4) hx hb hG.2.2.2.2.1.2 hS rfl dX2_isHigh_16 ?_
      refine z_iclt (tgt := 22) hx hb ⟨by omega, by omega⟩ ⟨by omega, by omega⟩ dX2_isHigh_17 (by decide) (fun c_17 => ?_) (fun c_17 => ?_)
      · refine lv_iload_n hx hb dX2_isHigh_22 rfl (lv_at hl 1 rfl) ?_
        refine va_gets hx hb hG.2.2.2.1.1 hS hown (hW0 _ wf_X2_78) (fun _ h9 => h9) dX2_isHigh_23 ?_
        refine lv_iload_n hx hb dX2_isHigh_26 rfl (lv_at hl 3 rfl) ?_
        refine z_ti hx hb hG.2.2.2.1.2 hS ⟨⟨by omega, by omega⟩, by decide⟩ dX2_isHigh_27 ?_
        have hs_27 := CROW_b sd9
        refine z_iadd hx hb dX2_isHigh_28 ?_
        refine lv_iload_n hx hb dX2_isHigh_29 rfl (lv_at hl 2 rfl) ?_
        refine va_gets hx hb hG.2.2.2.2.1.1 hS hown (hW0 _ wf_X2_81) (fun _ h9 => h9) dX2_isHigh_30 ?_
        refine lv_iload_n hx hb dX2_isHigh_33 rfl (lv_at hl 3 rfl) ?_
        refine z_ti hx hb hG.2.2.2.2.1.2 hS ⟨⟨by omega, by omega⟩, by decide⟩ dX2_isHigh_34 ?_
        have hs_34 := CCOL_b sd9
        refine z_iadd hx hb dX2_isHigh_35 ?_
        refine z_calli hP hD hS hA (va_runSN (As := [.int (zI (rw9 + (CROW sd9))), .int (zI (cl9 + (CCOL sd9)))]) (rest := []) hC (c_X9_pointAt l D τ _ _ (rw9 + (CROW sd9)) (cl9 + (CCOL sd9)) (by first | assumption | rfl | omega) (by first | assumption | rfl | omega) _) ⟨va_cnB 2 hts (gC hB wc_X9_pointAt) rfl rfl rfl (hG.2.2.2.2.2.2.2 _ (List.mem_of_getElem? (i := 1) rfl)) (hW0 _ wi_X9) hd_X9_pointAt.2 ⟨Nat.le_of_ble_eq_true rfl, Nat.le_of_ble_eq_true rfl⟩, (hW0 _ wt_X9_pointAt), trivial⟩ (zp_S hK hP hD hS hA hG) rfl rfl hl.1 rfl (lv_room (Nat.le_of_ble_eq_true rfl)) dX2_isHigh_36 ⟨Nat.le_of_ble_eq_true rfl, Nat.le_of_ble_eq_true rfl⟩) (fun r w1 H locs hq9 hP hD hS => ?_)
        obtain ⟨v36_1, hv36_0, hv36_1, rfl, rfl⟩ := hq9
        have e38 := S_corner hrw hcl9 hsd
        have e39 := hv36_0.trans e38.1
        rw [← e39] at e38
        refine lv_istore (lv' := [(4, .int (zI v36_1)), (0, .ref (α 3)), (1, .int (zI rw9)), (2, .int (zI cl9)), (3, .int (zI sd9))]) hx hb dX2_isHigh_39 hl (by decide) rfl (fun ls hl => ?_)
        refine lv_iload hx hb dX2_isHigh_41 (lv_at hl 0 rfl) ?_
        refine z_calli hP hD hS hA (va_runSN (As := [.int (zI v36_1)]) (rest := []) hC (c_X9_isPoint l D τ _ _ v36_1 (by first | assumption | rfl | omega) _) ⟨va_cnB 1 hts (gC hB wc_X9_isPoint) rfl rfl rfl (hG.2.2.2.2.2.2.2 _ (List.mem_of_getElem? (i := 2) rfl)) (hW0 _ wi_X9) hd_X9_isPoint.2 ⟨Nat.le_of_ble_eq_true rfl, Nat.le_of_ble_eq_true rfl⟩, (hW0 _ wt_X9_isPoint), trivial⟩ (zp_S hK hP hD hS hA hG) rfl rfl hl.1 rfl (lv_room (Nat.le_of_ble_eq_true rfl)) dX2_isHigh_43 ⟨Nat.le_of_ble_eq_true rfl, Nat.le_of_ble_eq_true rfl⟩) (fun r w1 H locs hq9 hP hD hS => ?_)
        obtain ⟨v43_2, hv43_0, rfl, rfl⟩ := hq9
        refine z_ifeqB (tgt := 63) hx hb dX2_isHigh_46 (by decide) (fun c_46 => ?_) (fun c_46 => ?_)
        · have hb_46 := zb_neg hv43_0 c_46
          exact absurd (by omega) hb_46
        · have hb_46 := hv43_0.mp c_46
          refine lv_aload_n hx hb dX2_isHigh_49 rfl (lv_at hl 1 rfl) ?_
          refine va_get (D := D) (ci := 2) (v := .ref (α 15)) (C := RX2) (T := TX2) (N := 10) hx hb hts (fun w h => List.mem_cons_of_mem _ (wx_X2 w h)) hown hK hP 3 rfl rfl 0 (by decide) (hW0 _ wf_X2_9) (fun _ h9 => h9) rfl dX2_isHigh_50 ?_
          refine lv_iload hx hb dX2_isHigh_53 (lv_at hl 0 rfl) ?_
          refine z_zald (f := hi8) hx hb hK hP 15 5 rfl rfl ⟨⟨by omega, by omega⟩, by decide⟩ dX2_isHigh_55 ?_
          refine z_ifeqB (tgt := 63) hx hb dX2_isHigh_56 (by decide) (fun c_56 => ?_) (fun c_56 => ?_)
          · refine lv_iconst (v := zI 0) hx hb dX2_isHigh_63 rfl ?_
            refine W.eq (g2 := F0 m 64 ls [.int (bI false)]) rfl ?_
            exact z_zret hC hr hlk hQ hP hD hS ⟨false, (by rw [← e39]; exact c_56.symm), rfl, rfl⟩ dX2_isHigh_64
          · refine lv_iconst (v := zI 1) hx hb dX2_isHigh_59 rfl ?_
            refine lv_goto (tgt := 64) hx hb dX2_isHigh_60 (by decide) ?_
            refine W.eq (g2 := F0 m 64 ls [.int (bI true)]) rfl ?_
            exact z_zret hC hr hlk hQ hP hD hS ⟨true, (by rw [← e39]; exact c_56.symm), rfl, rfl⟩ dX2_isHigh_64
      · exact absurd c_17 (by omega)

abbrev wz_X2_isCrossed : List Cond := .code yX2_isCrossed cX2_isCrossed 4 (some .boolean) :: W0
abbrev rm_X2_isCrossed : Room := { frames := 2, cells := 0, slots := 0, locals := 45 }
theorem hd_X2_isCrossed : yX2_isCrossed.cls = RX2 ∧ yX2_isCrossed.cls ≠ "java/lang/invoke/MethodHandle" ∧ yX2_isCrossed.cls ≠ "java/lang/invoke/VarHandle" ∧ (parseMethodDescriptor yX2_isCrossed.desc).map (fun d => d.parameters.length) = some 3 := by decide +kernel
set_option maxHeartbeats 4000000 in
set_option maxRecDepth 100000 in
theorem c_X2_isCrossed (l : Launch) (D : va_G) (τ : Nat → Nat) (α : Nat → Nat) (γ : Nat → ClassId) (rl : TRl) (rg : TRg) (hi8 : BA) (fe : IA) (se : IA) (gn : BA) (fp : IA) (sp : IA) (np : Int) (tot : Int) (clo : Int) (lon : Int) (sl : TSl) (pd : TPd) (ct : TCt) (sg : TSg) (od : TOd) (hs : THs) (rw9 : Int) (cl9 : Int) (sd9 : Int) (hrw : 0 ≤ rw9 ∧ rw9 < 6) (hcl9 : 0 ≤ cl9 ∧ cl9 < 6) (hsd : 0 ≤ sd9 ∧ sd9 < 4) : cM l yX2_isCrossed wz_X2_isCrossed rm_X2_isCrossed D τ (tyH γ) [.ref (α 3), .int (zI rw9), .int (zI cl9), .int (zI sd9)] (wH α γ rl rg (hi8, fe, se, gn, fp, sp, np, tot, clo, lon) sl pd ct sg od hs) (zQi (fun r w => ∃ (v : Bool), (v = S_xk hi8 (rw9 * 6 + cl9) sd9) ∧ r = bI v ∧ wH α γ rl rg (hi8, fe, se, gn, fp, sp, np, tot, clo, lon) sl pd ct sg od hs = w)) := by
  refine z_ofM (cc := cX2_isCrossed) (maxL := 4) (ret := (some .boolean)) (by decide +kernel) rfl (Nat.le_of_ble_eq_true rfl) ?_
  intro pg e s m args below meth c hC hr hlk hnm hK hP A hD hG hA hS ls hl Q hQ
  have hx := hC.1
  have hb := hC.2.1
  have hml := hC.2.2.1
  have hown := hC.2.2.2.1
  have hts := hC.2.2.2.2
  have hB : ∀ w ∈ W0, w ∈ wz_X2_isCrossed := fun _ h => List.mem_cons_of_mem _ h
  have hW0 : ∀ w ∈ W0, w.before args s = true := fun w h => hts w (hB w h)
  have hl : lv_has ls 4 [(0, .ref (α 3)), (1, .int (zI rw9)), (2, .int (zI cl9)), (3, .int (zI sd9))] := hl
  refine lv_aload_n hx hb dX2_isCrossed_0 rfl (lv_at hl 0 rfl) ?_
  refine lv_iload_n hx hb dX2_isCrossed_1 rfl (lv_at hl 1 rfl) ?_
  refine lv_iload_n hx hb dX2_isCrossed_2 rfl (lv_at hl 2 rfl) ?_
  refine lv_iload_n hx hb dX2_isCrossed_3 rfl (lv_at hl 3 rfl) ?_
  refine z_calli hP hD hS hA (va_runV (As := [.int (zI rw9), .int (zI cl9), .int (zI sd9)]) (rest := []) hC (c_X2_isHigh l D τ α γ rl rg hi8 fe se gn fp sp np tot clo lon sl pd ct sg od hs rw9 cl9 sd9 (by first | assumption | rfl | omega) (by first | assumption | rfl | omega) (by first | assumption | rfl | omega) _) (cwV 3 hts (gV hB wl_X2_64 wn_X2_isHigh ws_X2_isHigh wi_X2 wc_X2_isHigh) rfl rfl rfl hd_X2_isHigh ⟨Nat.le_of_ble_eq_true rfl, Nat.le_of_ble_eq_true rfl⟩) (zp_V hK hP hD hS hA hG (ci := 2) (q0 := 3) rfl rfl rfl) rfl rfl hl.1 rfl (lv_room (Nat.le_of_ble_eq_true rfl)) dX2_isCrossed_4 ⟨Nat.le_of_ble_eq_true rfl, Nat.le_of_ble_eq_true rfl⟩) (fun r w1 H locs hq9 hP hD hS => ?_)
  obtain ⟨v4_1, hv4_0, rfl, rfl⟩ := hq9
  have hP : va_P D vwCl (wH α γ rl rg (hi8, fe, se, gn, fp, sp, np, tot, clo, lon) sl pd ct sg od hs) H := hP
  have hD : va_D A (wH α γ rl rg (hi8, fe, se, gn, fp, sp, np, tot, clo, lon) sl pd ct sg od hs) := hD
  refine lv_aload_n hx hb dX2_isCrossed_7 rfl (lv_at hl 0 rfl) ?_
  refine lv_iload_n hx hb dX2_isCrossed_8 rfl (lv_at hl 1 rfl) ?_
  refine lv_iload_n hx hb dX2_isCrossed_9 rfl (lv_at hl 2 rfl) ?_
  refine lv_iload_n hx hb dX2_isCrossed_10 rfl (lv_at hl 3 rfl) ?_
  refine lv_iconst (v := zI 1) hx hb dX2_isCrossed_11 rfl ?_
  refine z_iadd hx hb dX2_isCrossed_12 ?_
  refine lv_iconst (v := zI 4) hx hb dX2_isCrossed_13 rfl ?_
  refine z_irem hx hb ⟨⟨by omega, by omega⟩, by omega, by omega⟩ dX2_isCrossed_14 ?_
  refine z_calli hP hD hS hA (va_runV (As := [.int (zI rw9), .int (zI cl9), .int (zI ((sd9 + 1) % 4))]) (rest := [.int (bI v4_1)]) hC (c_X2_isHigh l D τ α γ rl rg hi8 fe se gn fp sp np tot clo lon sl pd ct sg od hs rw9 cl9 ((sd9 + 1) % 4) (by first | assumption | rfl | omega) (by first | assumption | rfl | omega) (by first | assumption | rfl | omega) _) (cwV 3 hts (gV hB wl_X2_64 wn_X2_isHigh ws_X2_isHigh wi_X2 wc_X2_isHigh) rfl rfl rfl hd_X2_isHigh ⟨Nat.le_of_ble_eq_true rfl, Nat.le_of_ble_eq_true rfl⟩) (zp_V hK hP hD hS hA hG (ci := 2) (q0 := 3) rfl rfl rfl) rfl rfl hl.1 rfl (lv_room (Nat.le_of_ble_eq_true rfl)) dX2_isCrossed_15 ⟨Nat.le_of_ble_eq_true rfl, Nat.le_of_ble_eq_true rfl⟩) (fun r w1 H locs hq9 hP hD hS => ?_)
  obtain ⟨v15_2, hv15_0, rfl, rfl⟩ := hq9
  have hP : va_P D vwCl (wH α γ rl rg (hi8, fe, se, gn, fp, sp, np, tot, clo, lon) sl pd ct sg od hs) H := hP
  have hD : va_D A (wH α γ rl rg (hi8, fe, se, gn, fp, sp, np, tot, clo, lon) sl pd ct sg od hs) := hD
  refine z_iceqB (tgt := 25) hx hb dX2_isCrossed_18 (by decide) (fun c_18 => ?_) (fun c_18 => ?_)
  · refine lv_iconst (v := zI 0) hx hb dX2_isCrossed_25 rfl ?_
    refine W.eq (g2 := F0 m 26 ls [.int (bI false)]) rfl ?_
    exact z_zret hC hr hlk hQ hP hD hS ⟨false, (by unfold S_xk; rw [← hv4_0, ← hv15_0]; first | exact bne_f9 c_18 | exact bne_t9 c_18), rfl, rfl⟩ dX2_isCrossed_26
  · refine lv_iconst (v := zI 1) hx hb dX2_isCrossed_21 rfl ?_
    refine lv_goto (tgt := 26) hx hb dX2_isCrossed_22 (by decide) ?_
    refine W.eq (g2 := F0 m 26 ls [.int (bI true)]) rfl ?_
    exact z_zret hC hr hlk hQ hP hD hS ⟨true, (by unfold S_xk; rw [← hv4_0, ← hv15_0]; first | exact bne_f9 c_18 | exact bne_t9 c_18), rfl, rfl⟩ dX2_isCrossed_26

abbrev wz_X2_crossedSides : List Cond := .code yX2_crossedSides cX2_crossedSides 5 (some .int) :: W0
abbrev rm_X2_crossedSides : Room := { frames := 3, cells := 0, slots := 0, locals := 68 }
theorem hd_X2_crossedSides : yX2_crossedSides.cls = RX2 ∧ yX2_crossedSides.cls ≠ "java/lang/invoke/MethodHandle" ∧ yX2_crossedSides.cls ≠ "java/lang/invoke/VarHandle" ∧ (parseMethodDescriptor yX2_crossedSides.desc).map (fun d => d.parameters.length) = some 2 := by decide +kernel
set_option maxHeartbeats 4000000 in
set_option maxRecDepth 100000 in
theorem c_X2_crossedSides (l : Launch) (D : va_G) (τ : Nat → Nat) (α : Nat → Nat) (γ : Nat → ClassId) (rl : TRl) (rg : TRg) (hi8 : BA) (fe : IA) (se : IA) (gn : BA) (fp : IA) (sp : IA) (np : Int) (tot : Int) (clo : Int) (lon : Int) (sl : TSl) (pd : TPd) (ct : TCt) (sg : TSg) (od : TOd) (hs : THs) (rw9 : Int) (cl9 : Int) (hrw : 0 ≤ rw9 ∧ rw9 < 6) (hcl9 : 0 ≤ cl9 ∧ cl9 < 6) : cM l yX2_crossedSides wz_X2_crossedSides rm_X2_crossedSides D τ (tyH γ) [.ref (α 3), .int (zI rw9), .int (zI cl9)] (wH α γ rl rg (hi8, fe, se, gn, fp, sp, np, tot, clo, lon) sl pd ct sg od hs) (zQi (fun r w => ∃ (v : Int), (v = zC (S_xk hi8 (rw9 * 6 + cl9)) 4) ∧ (0 ≤ v ∧ v ≤ 4) ∧ r = zI v ∧ wH α γ rl rg (hi8, fe, se, gn, fp, sp, np, tot, clo, lon) sl pd ct sg od hs = w)) := by
  refine z_ofM (cc := cX2_crossedSides) (maxL := 5) (ret := (some .int)) (by decide +kernel) rfl (Nat.le_of_ble_eq_true rfl) ?_
  intro pg e s m args below meth c hC hr hlk hnm hK hP A hD hG hA hS ls hl Q hQ
  have hx := hC.1
  have hb := hC.2.1
  have hml := hC.2.2.1
  have hown := hC.2.2.2.1
  have hts := hC.2.2.2.2
  have hB : ∀ w ∈ W0, w ∈ wz_X2_crossedSides := fun _ h => List.mem_cons_of_mem _ h
  have hW0 : ∀ w ∈ W0, w.before args s = true := fun w h => hts w (hB w h)
  have hl : lv_has ls 5 [(0, .ref (α 3)), (1, .int (zI rw9)), (2, .int (zI cl9))] := hl
  refine lv_iconst (v := zI 0) hx hb dX2_crossedSides_0 rfl ?_
  refine lv_istore_n (lv' := [(3, .int (zI 0)), (0, .ref (α 3)), (1, .int (zI rw9)), (2, .int (zI cl9))]) hx hb dX2_crossedSides_1 rfl hl (by decide) rfl (fun ls hl => ?_)
  refine lv_iconst (v := zI 0) hx hb dX2_crossedSides_2 rfl ?_
  refine lv_istore (lv' := [(4, .int (zI 0)), (3, .int (zI 0)), (0, .ref (α 3)), (1, .int (zI rw9)), (2, .int (zI cl9))]) hx hb dX2_crossedSides_3 hl (by decide) rfl (fun ls hl => ?_)
  suffices HL_5 : ∀ (n_5 : Nat), ∀ (g : Int) (i : Int) (H : Heap) (locs : List Loc) (hP : va_P D vwCl (wH α γ rl rg (hi8, fe, se, gn, fp, sp, np, tot, clo, lon) sl pd ct sg od hs) H) (hD : va_D A (wH α γ rl rg (hi8, fe, se, gn, fp, sp, np, tot, clo, lon) sl pd ct sg od hs)) (hS : va_S A s.heap H locs) (ls : Array Slot) (hl : lv_has ls 5 [(3, .int (zI g)), (4, .int (zI i)), (0, .ref (α 3)), (1, .int (zI rw9)), (2, .int (zI cl9))]) (hi : 0 ≤ i ∧ i ≤ 4) (hg : g = zC (S_xk hi8 (rw9 * 6 + cl9)) i) (hgb : 0 ≤ g ∧ g ≤ i) (hm : (4 - i).toNat < n_5), W pg l e rm_X2_crossedSides s m args below meth c H locs 0 0 Q (F0 m 5 ls []) from HL_5 _ 0 0 _ _ hP hD hS _ (lv_sub hl [1, 0, 2, 3, 4] rfl) (by first | assumption | rfl | omega) (by exact (zC_0 _).symm) (by first | assumption | rfl | omega) (Nat.lt_succ_self _)
  intro n_5
  induction n_5 with
  | zero => intro g i H locs hP hD hS ls hl hi hg hgb hm; exact absurd hm (Nat.not_lt_zero _)
  | succ n_5 ih_5 =>
    intro g i H locs hP hD hS ls hl hi hg hgb hm
    refine lv_iload hx hb dX2_crossedSides_5 (lv_at hl 1 rfl) ?_
    refine lv_iconst (v := zI 4) hx hb dX2_crossedSides_7 rfl ?_
    refine z_icge (tgt := 31) hx hb ⟨by omega, by omega⟩ ⟨by omega, by omega⟩ dX2_crossedSides_8 (by decide) (fun c_8 => ?_) (fun c_8 => ?_)
    · refine lv_iload_n hx hb dX2_crossedSides_31 rfl (lv_at hl 0 rfl) ?_
      exact z_iret hC hr hlk hQ hP hD hS ⟨g, (by rw [hg, show i = 4 by omega]), (by first | assumption | rfl | omega), rfl, rfl⟩ dX2_crossedSides_32
    · refine lv_aload_n hx hb dX2_crossedSides_11 rfl (lv_at hl 2 rfl) ?_
      refine lv_iload_n hx hb dX2_crossedSides_12 rfl (lv_at hl 3 rfl) ?_
      refine lv_iload_n hx hb dX2_crossedSides_13 rfl (lv_at hl 4 rfl) ?_
      refine lv_iload hx hb dX2_crossedSides_14 (lv_at hl 1 rfl) ?_
      refine z_calli hP hD hS hA (va_runV (As := [.int (zI rw9), .int (zI cl9), .int (zI i)]) (rest := []) hC (c_X2_isCrossed l D τ α γ rl rg hi8 fe se gn fp sp np tot clo lon sl pd ct sg od hs rw9 cl9 i (by first | assumption | rfl | omega) (by first | assumption | rfl | omega) (by first | assumption | rfl | omega) _) (cwV 3 hts (gV hB wl_X2_75 wn_X2_isCrossed ws_X2_isCrossed wi_X2 wc_X2_isCrossed) rfl rfl rfl hd_X2_isCrossed ⟨Nat.le_of_ble_eq_true rfl, Nat.le_of_ble_eq_true rfl⟩) (zp_V hK hP hD hS hA hG (ci := 2) (q0 := 3) rfl rfl rfl) rfl rfl hl.1 rfl (lv_room (Nat.le_of_ble_eq_true rfl)) dX2_crossedSides_16 ⟨Nat.le_of_ble_eq_true rfl, Nat.le_of_ble_eq_true rfl⟩) (fun r w1 H locs hq9 hP hD hS => ?_)
      obtain ⟨v16_1, hv16_0, rfl, rfl⟩ := hq9
      have hP : va_P D vwCl (wH α γ rl rg (hi8, fe, se, gn, fp, sp, np, tot, clo, lon) sl pd ct sg od hs) H := hP
      have hD : va_D A (wH α γ rl rg (hi8, fe, se, gn, fp, sp, np, tot, clo, lon) sl pd ct sg od hs) := hD
      refine z_ifeqB (tgt := 25) hx hb dX2_crossedSides_19 (by decide) (fun c_19 => ?_) (fun c_19 => ?_)
      · refine z_iinc (k := 1) (v := i + 1) (lv' := [(4, .int (zI (i + 1))), (3, .int (zI g)), (0, .ref (α 3)), (1, .int (zI rw9)), (2, .int (zI cl9))]) hx hb dX2_crossedSides_25 hl rfl rfl (by decide) rfl (fun ls hl => ?_)
        refine lv_goto (tgt := 5) hx hb dX2_crossedSides_28 (by decide) ?_
        exact ih_5 g (i + 1) _ _ hP hD hS _ (lv_sub hl [1, 0, 2, 3, 4] rfl) (by first | assumption | rfl | omega) (by rw [zC_up hi.1, ← hg]; first | (rw [z1_t (hv16_0.symm.trans c_19)]; done) | (rw [z1_f (hv16_0.symm.trans c_19)]; omega)) (by first | assumption | rfl | omega) (by omega)
      · refine z_iinc (k := 0) (v := g + 1) (lv' := [(3, .int (zI (g + 1))), (4, .int (zI i)), (0, .ref (α 3)), (1, .int (zI rw9)), (2, .int (zI cl9))]) hx hb dX2_crossedSides_22 hl rfl rfl (by decide) rfl (fun ls hl => ?_)
        refine z_iinc (k := 1) (v := i + 1) (lv' := [(4, .int (zI (i + 1))), (3, .int (zI (g + 1))), (0, .ref (α 3)), (1, .int (zI rw9)), (2, .int (zI cl9))]) hx hb dX2_crossedSides_25 hl rfl rfl (by decide) rfl (fun ls hl => ?_)
        refine lv_goto (tgt := 5) hx hb dX2_crossedSides_28 (by decide) ?_
        exact ih_5 (g + 1) (i + 1) _ _ hP hD hS _ (lv_sub hl [1, 0, 2, 3, 4] rfl) (by first | assumption | rfl | omega) (by rw [zC_up hi.1, ← hg]; first | (rw [z1_t (hv16_0.symm.trans c_19)]; done) | (rw [z1_f (hv16_0.symm.trans c_19)]; omega)) (by first | assumption | rfl | omega) (by omega)

abbrev wz_X2_edgeOf : List Cond := .code yX2_edgeOf cX2_edgeOf 3 (some .int) :: W0
abbrev rm_X2_edgeOf : Room := { frames := 0, cells := 0, slots := 0, locals := 0 }
theorem hd_X2_edgeOf : yX2_edgeOf.cls = RX2 ∧ yX2_edgeOf.cls ≠ "java/lang/invoke/MethodHandle" ∧ yX2_edgeOf.cls ≠ "java/lang/invoke/VarHandle" ∧ (parseMethodDescriptor yX2_edgeOf.desc).map (fun d => d.parameters.length) = some 3 := by decide +kernel
set_option maxHeartbeats 4000000 in
set_option maxRecDepth 100000 in
theorem c_X2_edgeOf (l : Launch) (D : va_G) (τ : Nat → Nat) (ws : va_W) (tys : List (ClassId × FieldType)) (a : Int) (b : Int) (z9 : Int) (ha : 0 ≤ a ∧ a < 6) (hb2 : 0 ≤ b ∧ b < 6) (hz : 0 ≤ z9 ∧ z9 < 4) : cM l yX2_edgeOf wz_X2_edgeOf rm_X2_edgeOf D τ tys [.int (zI a), .int (zI b), .int (zI z9)] (ws) (zQi (fun r w => ∃ (v : Int), (v = S_sd (a * 6 + b) z9) ∧ (0 ≤ v ∧ v < 84) ∧ r = zI v ∧ ws = w)) := by
  refine z_ofM (cc := cX2_edgeOf) (maxL := 3) (ret := (some .int)) (by decide +kernel) rfl (Nat.le_of_ble_eq_true rfl) ?_
  intro pg e s m args below meth c hC hr hlk hnm hK hP A hD hG hA hS ls hl Q hQ
  have hx := hC.1
  have hb := hC.2.1
  have hml := hC.2.2.1
  have hown := hC.2.2.2.1
  have hts := hC.2.2.2.2
  have hB : ∀ w ∈ W0, w ∈ wz_X2_edgeOf := fun _ h => List.mem_cons_of_mem _ h
  have hW0 : ∀ w ∈ W0, w.before args s = true := fun w h => hts w (hB w h)
  have hl : lv_has ls 3 [(0, .int (zI a)), (1, .int (zI b)), (2, .int (zI z9))] := hl
  refine lv_iload_n hx hb dX2_edgeOf_0 rfl (lv_at hl 2 rfl) ?_
  by_cases c_1_0 : z9 = 0
  · refine z_tabIn (off := 27) (tgt := 28) hx hb ⟨by omega, by omega⟩ dX2_edgeOf_1 (by omega) (by rw [c_1_0]; rfl) (by decide) ?_
    refine lv_iload_n hx hb dX2_edgeOf_28 rfl (lv_at hl 0 rfl) ?_
    refine lv_bipush (v := zI 6) hx hb dX2_edgeOf_29 (zI_b8 (by decide)) ?_
    refine z_imul hx hb dX2_edgeOf_31 ?_
    refine lv_iload_n hx hb dX2_edgeOf_32 rfl (lv_at hl 1 rfl) ?_
    refine z_iadd hx hb dX2_edgeOf_33 ?_
    exact z_iret hC hr hlk hQ hP hD hS ⟨(a * 6) + b, (by rw [S_sd_of ha hb2 hz]; (repeat' split) <;> omega), (by omega), rfl, rfl⟩ dX2_edgeOf_34
  by_cases c_1_1 : z9 = 1
  · refine z_tabIn (off := 34) (tgt := 35) hx hb ⟨by omega, by omega⟩ dX2_edgeOf_1 (by omega) (by rw [c_1_1]; rfl) (by decide) ?_
    refine lv_bipush (v := zI 42) hx hb dX2_edgeOf_35 (zI_b8 (by decide)) ?_
    refine lv_iload_n hx hb dX2_edgeOf_37 rfl (lv_at hl 0 rfl) ?_
    refine lv_bipush (v := zI 7) hx hb dX2_edgeOf_38 (zI_b8 (by decide)) ?_
    refine z_imul hx hb dX2_edgeOf_40 ?_
    refine z_iadd hx hb dX2_edgeOf_41 ?_
    refine lv_iload_n hx hb dX2_edgeOf_42 rfl (lv_at hl 1 rfl) ?_
    refine z_iadd hx hb dX2_edgeOf_43 ?_
    refine lv_iconst (v := zI 1) hx hb dX2_edgeOf_44 rfl ?_
    refine z_iadd hx hb dX2_edgeOf_45 ?_
    exact z_iret hC hr hlk hQ hP hD hS ⟨((42 + (a * 7)) + b) + 1, (by rw [S_sd_of ha hb2 hz]; (repeat' split) <;> omega), (by omega), rfl, rfl⟩ dX2_edgeOf_46
  by_cases c_1_2 : z9 = 2
  · refine z_tabIn (off := 46) (tgt := 47) hx hb ⟨by omega, by omega⟩ dX2_edgeOf_1 (by omega) (by rw [c_1_2]; rfl) (by decide) ?_
    refine lv_iload_n hx hb dX2_edgeOf_47 rfl (lv_at hl 0 rfl) ?_
    refine lv_iconst (v := zI 1) hx hb dX2_edgeOf_48 rfl ?_
    refine z_iadd hx hb dX2_edgeOf_49 ?_
    refine lv_bipush (v := zI 6) hx hb dX2_edgeOf_50 (zI_b8 (by decide)) ?_
    refine z_imul hx hb dX2_edgeOf_52 ?_
    refine lv_iload_n hx hb dX2_edgeOf_53 rfl (lv_at hl 1 rfl) ?_
    refine z_iadd hx hb dX2_edgeOf_54 ?_
    exact z_iret hC hr hlk hQ hP hD hS ⟨((a + 1) * 6) + b, (by rw [S_sd_of ha hb2 hz]; (repeat' split) <;> omega), (by omega), rfl, rfl⟩ dX2_edgeOf_55
  refine z_tabOut (tgt := 56) hx hb ⟨by omega, by omega⟩ dX2_edgeOf_1 (by omega) (by decide) ?_
  refine lv_bipush (v := zI 42) hx hb dX2_edgeOf_56 (zI_b8 (by decide)) ?_
  refine lv_iload_n hx hb dX2_edgeOf_58 rfl (lv_at hl 0 rfl) ?_
  refine lv_bipush (v := zI 7) hx hb dX2_edgeOf_59 (zI_b8 (by decide)) ?_
  refine z_imul hx hb dX2_edgeOf_61 ?_
  refine z_iadd hx hb dX2_edgeOf_62 ?_
  refine lv_iload_n hx hb dX2_edgeOf_63 rfl (lv_at hl 1 rfl) ?_
  refine z_iadd hx hb dX2_edgeOf_64 ?_
  exact z_iret hC hr hlk hQ hP hD hS ⟨(42 + (a * 7)) + b, (by rw [S_sd_of ha hb2 hz]; (repeat' split) <;> omega), (by omega), rfl, rfl⟩ dX2_edgeOf_65

abbrev wz_X2_endPiece : List Cond := .code yX2_endPiece cX2_endPiece 3 none :: W0
abbrev rm_X2_endPiece : Room := { frames := 0, cells := 0, slots := 0, locals := 0 }
theorem hd_X2_endPiece : yX2_endPiece.cls = RX2 ∧ yX2_endPiece.cls ≠ "java/lang/invoke/MethodHandle" ∧ yX2_endPiece.cls ≠ "java/lang/invoke/VarHandle" ∧ (parseMethodDescriptor yX2_endPiece.desc).map (fun d => d.parameters.length) = some 2 := by decide +kernel
set_option maxHeartbeats 4000000 in
set_option maxRecDepth 100000 in
theorem c_X2_endPiece (l : Launch) (D : va_G) (τ : Nat → Nat) (α : Nat → Nat) (γ : Nat → ClassId) (rl : TRl) (rg : TRg) (hi8 : BA) (fe : IA) (se : IA) (gn : BA) (fp : IA) (sp : IA) (np : Int) (tot : Int) (clo : Int) (lon : Int) (sl : TSl) (pd : TPd) (ct : TCt) (sg : TSg) (od : TOd) (hs : THs) (e1 : Int) (p1 : Int) (he : 0 ≤ e1 ∧ e1 < 84) (hp : 0 ≤ p1 ∧ p1 ≤ 72) (hfp : ∀ k, 0 ≤ k → k < 84 → -1 ≤ fp k ∧ fp k ≤ 72) : cM l yX2_endPiece wz_X2_endPiece rm_X2_endPiece D τ (tyH γ) [.ref (α 3), .int (zI e1), .int (zI p1)] (wH α γ rl rg (hi8, fe, se, gn, fp, sp, np, tot, clo, lon) sl pd ct sg od hs) (zQv (fun w => ∃ (f2 : IA), ∃ (s2 : IA), (f2 = A_fp fp e1 p1) ∧ (s2 = A_sp fp sp e1 p1) ∧ wH α γ rl rg (hi8, fe, se, gn, f2, s2, np, tot, clo, lon) sl pd ct sg od hs = w)) := by
  refine z_ofM (cc := cX2_endPiece) (maxL := 3) (ret := none) (by decide +kernel) rfl (Nat.le_of_ble_eq_true rfl) ?_
  intro pg e s m args below meth c hC hr hlk hnm hK hP A hD hG hA hS ls hl Q hQ
  have hx := hC.1
  have hb := hC.2.1
  have hml := hC.2.2.1
  have hown := hC.2.2.2.1
  have hts := hC.2.2.2.2
  have hB : ∀ w ∈ W0, w ∈ wz_X2_endPiece := fun _ h => List.mem_cons_of_mem _ h
  have hW0 : ∀ w ∈ W0, w.before args s = true := fun w h => hts w (hB w h)
  have hl : lv_has ls 3 [(0, .ref (α 3)), (1, .int (zI e1)), (2, .int (zI p1))] := hl
  refine lv_iload_n hx hb dX2_endPiece_0 rfl (lv_at hl 1 rfl) ?_
  refine z_iflt (tgt := 10) hx hb ⟨by omega, by omega⟩ dX2_endPiece_1 (by decide) (fun c_1 => ?_) (fun c_1 => ?_)
  · exact absurd c_1 (by omega)
  · refine lv_iload_n hx hb dX2_endPiece_4 rfl (lv_at hl 1 rfl) ?_
    refine lv_bipush (v := zI 84) hx hb dX2_endPiece_5 (zI_b8 (by decide)) ?_
    refine z_iclt (tgt := 11) hx hb ⟨by omega, by omega⟩ ⟨by omega, by omega⟩ dX2_endPiece_7 (by decide) (fun c_7 => ?_) (fun c_7 => ?_)
    · refine lv_aload_n hx hb dX2_endPiece_11 rfl (lv_at hl 0 rfl) ?_
      refine va_get (D := D) (ci := 2) (v := .ref (α 19)) (C := RX2) (T := TX2) (N := 10) hx hb hts (fun w h => List.mem_cons_of_mem _ (wx_X2 w h)) hown hK hP 3 rfl rfl 4 (by decide) (hW0 _ wf_X2_25) (fun _ h9 => h9) rfl dX2_endPiece_12 ?_
      refine lv_iload_n hx hb dX2_endPiece_15 rfl (lv_at hl 1 rfl) ?_
      refine z_iald (f := fp) hx hb hK hP 19 9 rfl rfl ⟨⟨by omega, by omega⟩, by decide⟩ dX2_endPiece_16 ?_
      have hb_16 := hfp e1 (by omega) (by omega)
      refine lv_iconst (v := zI (-1)) hx hb dX2_endPiece_17 rfl ?_
      refine z_icne (tgt := 31) hx hb ⟨by omega, by omega⟩ ⟨by omega, by omega⟩ dX2_endPiece_18 (by decide) (fun c_18 => ?_) (fun c_18 => ?_)
      · refine lv_aload_n hx hb dX2_endPiece_31 rfl (lv_at hl 0 rfl) ?_
        refine va_get (D := D) (ci := 2) (v := .ref (α 20)) (C := RX2) (T := TX2) (N := 10) hx hb hts (fun w h => List.mem_cons_of_mem _ (wx_X2 w h)) hown hK hP 3 rfl rfl 5 (by decide) (hW0 _ wf_X2_28) (fun _ h9 => h9) rfl dX2_endPiece_32 ?_
        refine lv_iload_n hx hb dX2_endPiece_35 rfl (lv_at hl 1 rfl) ?_
        refine lv_iload_n hx hb dX2_endPiece_36 rfl (lv_at hl 2 rfl) ?_
        refine z_iast (f := sp) (v := p1) hx hb hK hP hD hS 20 10 rfl rfl ⟨⟨by omega, by omega⟩, by decide⟩ dX2_endPiece_37 (fun H locs hP hD hS => ?_)
        have hP : va_P D vwCl (wH α γ rl rg (hi8, fe, se, gn, fp, zu sp e1 p1, np, tot, clo, lon) sl pd ct sg od hs) H := hP
        have hD : va_D A (wH α γ rl rg (hi8, fe, se, gn, fp, zu sp e1 p1, np, tot, clo, lon) sl pd ct sg od hs) := hD
        exact z_vret hC hr hlk hQ hP hD hS ⟨fp, zu sp e1 p1, (by unfold A_fp; first | (rw [if_pos c_18]; done) | (rw [if_neg c_18]; done)), (by unfold A_sp; first | (rw [if_pos c_18]; done) | (rw [if_neg c_18]; done)), rfl⟩ dX2_endPiece_38
      · refine lv_aload_n hx hb dX2_endPiece_21 rfl (lv_at hl 0 rfl) ?_
        refine va_get (D := D) (ci := 2) (v := .ref (α 19)) (C := RX2) (T := TX2) (N := 10) hx hb hts (fun w h => List.mem_cons_of_mem _ (wx_X2 w h)) hown hK hP 3 rfl rfl 4 (by decide) (hW0 _ wf_X2_25) (fun _ h9 => h9) rfl dX2_endPiece_22 ?_
        refine lv_iload_n hx hb dX2_endPiece_25 rfl (lv_at hl 1 rfl) ?_
        refine lv_iload_n hx hb dX2_endPiece_26 rfl (lv_at hl 2 rfl) ?_
        refine z_iast (f := fp) (v := p1) hx hb hK hP hD hS 19 9 rfl rfl ⟨⟨by omega, by omega⟩, by decide⟩ dX2_endPiece_27 (fun H locs hP hD hS => ?_)
        have hP : va_P D vwCl (wH α γ rl rg (hi8, fe, se, gn, zu fp e1 p1, sp, np, tot, clo, lon) sl pd ct sg od hs) H := hP
        have hD : va_D A (wH α γ rl rg (hi8, fe, se, gn, zu fp e1 p1, sp, np, tot, clo, lon) sl pd ct sg od hs) := hD
        refine lv_goto (tgt := 38) hx hb dX2_endPiece_28 (by decide) ?_
        exact z_vret hC hr hlk hQ hP hD hS ⟨zu fp e1 p1, sp, (by unfold A_fp; first | (rw [if_pos c_18]; done) | (rw [if_neg c_18]; done)), (by unfold A_sp; first | (rw [if_pos c_18]; done) | (rw [if_neg c_18]; done)), rfl⟩ dX2_endPiece_38
    · exact absurd c_7 (by omega)

abbrev wz_X2_addPiece : List Cond := .code yX2_addPiece cX2_addPiece 3 none :: W0
abbrev rm_X2_addPiece : Room := { frames := 1, cells := 0, slots := 0, locals := 22 }
theorem hd_X2_addPiece : yX2_addPiece.cls = RX2 ∧ yX2_addPiece.cls ≠ "java/lang/invoke/MethodHandle" ∧ yX2_addPiece.cls ≠ "java/lang/invoke/VarHandle" ∧ (parseMethodDescriptor yX2_addPiece.desc).map (fun d => d.parameters.length) = some 2 := by decide +kernel
set_option maxHeartbeats 4000000 in
set_option maxRecDepth 100000 in
theorem c_X2_addPiece (l : Launch) (D : va_G) (τ : Nat → Nat) (α : Nat → Nat) (γ : Nat → ClassId) (rl : TRl) (rg : TRg) (hi8 : BA) (fe : IA) (se : IA) (gn : BA) (fp : IA) (sp : IA) (np : Int) (tot : Int) (clo : Int) (lon : Int) (sl : TSl) (pd : TPd) (ct : TCt) (sg : TSg) (od : TOd) (hs : THs) (a1 : Int) (b1 : Int) (ha : 0 ≤ a1 ∧ a1 < 84) (hb2 : 0 ≤ b1 ∧ b1 < 84) (hnp : 0 ≤ np ∧ np < 72) (hfp : ∀ k, 0 ≤ k → k < 84 → -1 ≤ fp k ∧ fp k ≤ 72) : cM l yX2_addPiece wz_X2_addPiece rm_X2_addPiece D τ (tyH γ) [.ref (α 3), .int (zI a1), .int (zI b1)] (wH α γ rl rg (hi8, fe, se, gn, fp, sp, np, tot, clo, lon) sl pd ct sg od hs) (zQv (fun w => ∃ (f2 : IA), ∃ (s2 : IA), ∃ (p2 : IA), ∃ (q2 : IA), ∃ (n2 : Int), ((f2, s2, p2, q2, n2) = A_add fe se fp sp np a1 b1) ∧ (n2 = np + 1) ∧ (∀ k, 0 ≤ k → k < 84 → -1 ≤ p2 k ∧ p2 k ≤ 72) ∧ wH α γ rl rg (hi8, f2, s2, gn, p2, q2, n2, tot, clo, lon) sl pd ct sg od hs = w)) := by
  refine z_ofM (cc := cX2_addPiece) (maxL := 3) (ret := none) (by decide +kernel) rfl (Nat.le_of_ble_eq_true rfl) ?_
  intro pg e s m args below meth c hC hr hlk hnm hK hP A hD hG hA hS ls hl Q hQ
  have hx := hC.1
  have hb := hC.2.1
  have hml := hC.2.2.1
  have hown := hC.2.2.2.1
  have hts := hC.2.2.2.2
  have hB : ∀ w ∈ W0, w ∈ wz_X2_addPiece := fun _ h => List.mem_cons_of_mem _ h
  have hW0 : ∀ w ∈ W0, w.before args s = true := fun w h => hts w (hB w h)
  have hl : lv_has ls 3 [(0, .ref (α 3)), (1, .int (zI a1)), (2, .int (zI b1))] := hl
  refine lv_aload_n hx hb dX2_addPiece_0 rfl (lv_at hl 0 rfl) ?_
  refine va_get (D := D) (ci := 2) (v := .int (zI np)) (C := RX2) (T := TX2) (N := 10) hx hb hts (fun w h => List.mem_cons_of_mem _ (wx_X2 w h)) hown hK hP 3 rfl rfl 6 (by decide) (hW0 _ wf_X2_31) (fun _ h9 => h9) rfl dX2_addPiece_1 ?_
  refine z_iflt (tgt := 64) hx hb ⟨by omega, by omega⟩ dX2_addPiece_4 (by decide) (fun c_4 => ?_) (fun c_4 => ?_)
  · exact absurd c_4 (by omega)
  · refine lv_aload_n hx hb dX2_addPiece_7 rfl (lv_at hl 0 rfl) ?_
    refine va_get (D := D) (ci := 2) (v := .int (zI np)) (C := RX2) (T := TX2) (N := 10) hx hb hts (fun w h => List.mem_cons_of_mem _ (wx_X2 w h)) hown hK hP 3 rfl rfl 6 (by decide) (hW0 _ wf_X2_31) (fun _ h9 => h9) rfl dX2_addPiece_8 ?_
    refine lv_bipush (v := zI 72) hx hb dX2_addPiece_11 (zI_b8 (by decide)) ?_
    refine z_icge (tgt := 64) hx hb ⟨by omega, by omega⟩ ⟨by omega, by omega⟩ dX2_addPiece_13 (by decide) (fun c_13 => ?_) (fun c_13 => ?_)
    · exact absurd c_13 (by omega)
    · refine lv_aload_n hx hb dX2_addPiece_16 rfl (lv_at hl 0 rfl) ?_
      refine va_get (D := D) (ci := 2) (v := .ref (α 16)) (C := RX2) (T := TX2) (N := 10) hx hb hts (fun w h => List.mem_cons_of_mem _ (wx_X2 w h)) hown hK hP 3 rfl rfl 1 (by decide) (hW0 _ wf_X2_15) (fun _ h9 => h9) rfl dX2_addPiece_17 ?_
      refine lv_aload_n hx hb dX2_addPiece_20 rfl (lv_at hl 0 rfl) ?_
      refine va_get (D := D) (ci := 2) (v := .int (zI np)) (C := RX2) (T := TX2) (N := 10) hx hb hts (fun w h => List.mem_cons_of_mem _ (wx_X2 w h)) hown hK hP 3 rfl rfl 6 (by decide) (hW0 _ wf_X2_31) (fun _ h9 => h9) rfl dX2_addPiece_21 ?_
      refine lv_iload_n hx hb dX2_addPiece_24 rfl (lv_at hl 1 rfl) ?_
      refine z_iast (f := fe) (v := a1) hx hb hK hP hD hS 16 6 rfl rfl ⟨⟨by omega, by omega⟩, by decide⟩ dX2_addPiece_25 (fun H locs hP hD hS => ?_)
      have hP : va_P D vwCl (wH α γ rl rg (hi8, zu fe np a1, se, gn, fp, sp, np, tot, clo, lon) sl pd ct sg od hs) H := hP
      have hD : va_D A (wH α γ rl rg (hi8, zu fe np a1, se, gn, fp, sp, np, tot, clo, lon) sl pd ct sg od hs) := hD
      refine lv_aload_n hx hb dX2_addPiece_26 rfl (lv_at hl 0 rfl) ?_
      refine va_get (D := D) (ci := 2) (v := .ref (α 17)) (C := RX2) (T := TX2) (N := 10) hx hb hts (fun w h => List.mem_cons_of_mem _ (wx_X2 w h)) hown hK hP 3 rfl rfl 2 (by decide) (hW0 _ wf_X2_19) (fun _ h9 => h9) rfl dX2_addPiece_27 ?_
      refine lv_aload_n hx hb dX2_addPiece_30 rfl (lv_at hl 0 rfl) ?_
      refine va_get (D := D) (ci := 2) (v := .int (zI np)) (C := RX2) (T := TX2) (N := 10) hx hb hts (fun w h => List.mem_cons_of_mem _ (wx_X2 w h)) hown hK hP 3 rfl rfl 6 (by decide) (hW0 _ wf_X2_31) (fun _ h9 => h9) rfl dX2_addPiece_31 ?_
      refine lv_iload_n hx hb dX2_addPiece_34 rfl (lv_at hl 2 rfl) ?_
      refine z_iast (f := se) (v := b1) hx hb hK hP hD hS 17 7 rfl rfl ⟨⟨by omega, by omega⟩, by decide⟩ dX2_addPiece_35 (fun H locs hP hD hS => ?_)
      have hP : va_P D vwCl (wH α γ rl rg (hi8, zu fe np a1, zu se np b1, gn, fp, sp, np, tot, clo, lon) sl pd ct sg od hs) H := hP
      have hD : va_D A (wH α γ rl rg (hi8, zu fe np a1, zu se np b1, gn, fp, sp, np, tot, clo, lon) sl pd ct sg od hs) := hD
      refine lv_aload_n hx hb dX2_addPiece_36 rfl (lv_at hl 0 rfl) ?_
      refine lv_iload_n hx hb dX2_addPiece_37 rfl (lv_at hl 1 rfl) ?_
      refine lv_aload_n hx hb dX2_addPiece_38 rfl (lv_at hl 0 rfl) ?_
      refine va_get (D := D) (ci := 2) (v := .int (zI np)) (C := RX2) (T := TX2) (N := 10) hx hb hts (fun w h => List.mem_cons_of_mem _ (wx_X2 w h)) hown hK hP 3 rfl rfl 6 (by decide) (hW0 _ wf_X2_31) (fun _ h9 => h9) rfl dX2_addPiece_39 ?_
      refine z_callv hP hD hS hA (va_runV (As := [.int (zI a1), .int (zI np)]) (rest := []) hC (c_X2_endPiece l D τ α γ rl rg hi8 (zu fe np a1) (zu se np b1) gn fp sp np tot clo lon sl pd ct sg od hs a1 np (by first | assumption | rfl | omega) (by first | assumption | rfl | omega) (by first | assumption | rfl | omega) _) (cwV 2 hts (gV hB wl_X2_91 wn_X2_endPiece ws_X2_endPiece wi_X2 wc_X2_endPiece) rfl rfl rfl hd_X2_endPiece ⟨Nat.le_of_ble_eq_true rfl, Nat.le_of_ble_eq_true rfl⟩) (zp_V hK hP hD hS hA hG (ci := 2) (q0 := 3) rfl rfl rfl) rfl rfl hl.1 rfl (lv_room (Nat.le_of_ble_eq_true rfl)) dX2_addPiece_42 ⟨Nat.le_of_ble_eq_true rfl, Nat.le_of_ble_eq_true rfl⟩) (fun w1 H locs hq9 hP hD hS => ?_)
      obtain ⟨f42_1, s42_2, hv42_0, hv42_1, rfl⟩ := hq9
      have hP : va_P D vwCl (wH α γ rl rg (hi8, zu fe np a1, zu se np b1, gn, f42_1, s42_2, np, tot, clo, lon) sl pd ct sg od hs) H := hP
      have hD : va_D A (wH α γ rl rg (hi8, zu fe np a1, zu se np b1, gn, f42_1, s42_2, np, tot, clo, lon) sl pd ct sg od hs) := hD
      have hfp1 := A_fp_b (a := a1) (p := np) (by omega) hfp
      rw [← hv42_0] at hfp1
      refine lv_aload_n hx hb dX2_addPiece_45 rfl (lv_at hl 0 rfl) ?_
      refine lv_iload_n hx hb dX2_addPiece_46 rfl (lv_at hl 2 rfl) ?_
      refine lv_aload_n hx hb dX2_addPiece_47 rfl (lv_at hl 0 rfl) ?_
      refine va_get (D := D) (ci := 2) (v := .int (zI np)) (C := RX2) (T := TX2) (N := 10) hx hb hts (fun w h => List.mem_cons_of_mem _ (wx_X2 w h)) hown hK hP 3 rfl rfl 6 (by decide) (hW0 _ wf_X2_31) (fun _ h9 => h9) rfl dX2_addPiece_48 ?_
      refine z_callv hP hD hS hA (va_runV (As := [.int (zI b1), .int (zI np)]) (rest := []) hC (c_X2_endPiece l D τ α γ rl rg hi8 (zu fe np a1) (zu se np b1) gn f42_1 s42_2 np tot clo lon sl pd ct sg od hs b1 np (by first | assumption | rfl | omega) (by first | assumption | rfl | omega) (by exact hfp1) _) (cwV 2 hts (gV hB wl_X2_91 wn_X2_endPiece ws_X2_endPiece wi_X2 wc_X2_endPiece) rfl rfl rfl hd_X2_endPiece ⟨Nat.le_of_ble_eq_true rfl, Nat.le_of_ble_eq_true rfl⟩) (zp_V hK hP hD hS hA hG (ci := 2) (q0 := 3) rfl rfl rfl) rfl rfl hl.1 rfl (lv_room (Nat.le_of_ble_eq_true rfl)) dX2_addPiece_51 ⟨Nat.le_of_ble_eq_true rfl, Nat.le_of_ble_eq_true rfl⟩) (fun w1 H locs hq9 hP hD hS => ?_)
      obtain ⟨f51_3, s51_4, hv51_0, hv51_1, rfl⟩ := hq9
      have hP : va_P D vwCl (wH α γ rl rg (hi8, zu fe np a1, zu se np b1, gn, f51_3, s51_4, np, tot, clo, lon) sl pd ct sg od hs) H := hP
      have hD : va_D A (wH α γ rl rg (hi8, zu fe np a1, zu se np b1, gn, f51_3, s51_4, np, tot, clo, lon) sl pd ct sg od hs) := hD
      have hfp2 := A_fp_b (a := b1) (p := np) (by omega) hfp1
      rw [← hv51_0] at hfp2
      refine lv_aload_n hx hb dX2_addPiece_54 rfl (lv_at hl 0 rfl) ?_
      refine lv_dup hx hb dX2_addPiece_55 rfl ?_
      refine va_get (D := D) (ci := 2) (v := .int (zI np)) (C := RX2) (T := TX2) (N := 10) hx hb hts (fun w h => List.mem_cons_of_mem _ (wx_X2 w h)) hown hK hP 3 rfl rfl 6 (by decide) (hW0 _ wf_X2_31) (fun _ h9 => h9) rfl dX2_addPiece_56 ?_
      refine lv_iconst (v := zI 1) hx hb dX2_addPiece_59 rfl ?_
      refine z_iadd hx hb dX2_addPiece_60 ?_
      refine va_put (D := D) (ci := 2) (v := .int (zI (np + 1))) (ty := .int) (C := RX2) (T := TX2) (N := 10) hx hb hts (fun w h => List.mem_cons_of_mem _ (wx_X2 w h)) tyX2 tyX2_ok nmX2 hown hK hP hD hS 3 rfl rfl 6 (by decide) (hW0 _ wf_X2_31) (fun _ h9 => h9) rfl (by decide +kernel) rfl rfl (Nat.le_of_ble_eq_true rfl) dX2_addPiece_61 (fun H locs hP hD hS => ?_)
      have hP : va_P D vwCl (wH α γ rl rg (hi8, zu fe np a1, zu se np b1, gn, f51_3, s51_4, np + 1, tot, clo, lon) sl pd ct sg od hs) H := hP
      have hD : va_D A (wH α γ rl rg (hi8, zu fe np a1, zu se np b1, gn, f51_3, s51_4, np + 1, tot, clo, lon) sl pd ct sg od hs) := hD
      exact z_vret hC hr hlk hQ hP hD hS ⟨zu fe np a1, zu se np b1, f51_3, s51_4, np + 1, (by rw [hv51_0, hv51_1, hv42_0, hv42_1]; rfl), (by rfl), (by exact hfp2), rfl⟩ dX2_addPiece_64

abbrev wz_X2_readSquare : List Cond := .code yX2_readSquare cX2_readSquare 6 none :: W0
abbrev rm_X2_readSquare : Room := { frames := 4, cells := 0, slots := 0, locals := 92 }
theorem hd_X2_readSquare : yX2_readSquare.cls = RX2 ∧ yX2_readSquare.cls ≠ "java/lang/invoke/MethodHandle" ∧ yX2_readSquare.cls ≠ "java/lang/invoke/VarHandle" ∧ (parseMethodDescriptor yX2_readSquare.desc).map (fun d => d.parameters.length) = some 2 := by decide +kernel
set_option maxHeartbeats 4000000 in
set_option maxRecDepth 100000 in
theorem c_X2_readSquare (l : Launch) (D : va_G) (τ : Nat → Nat) (α : Nat → Nat) (γ : Nat → ClassId) (rl : TRl) (rg : TRg) (hi8 : BA) (fe : IA) (se : IA) (gn : BA) (fp : IA) (sp : IA) (np : Int) (tot : Int) (clo : Int) (lon : Int) (sl : TSl) (pd : TPd) (ct : TCt) (sg : TSg) (od : TOd) (hs : THs) (rw9 : Int) (cl9 : Int) (hrw : 0 ≤ rw9 ∧ rw9 < 6) (hcl9 : 0 ≤ cl9 ∧ cl9 < 6) (hLI : LI hi8 (rw9 * 6 + cl9) (fe, se, fp, sp, np)) : cM l yX2_readSquare wz_X2_readSquare rm_X2_readSquare D τ (tyH γ) [.ref (α 3), .int (zI rw9), .int (zI cl9)] (wH α γ rl rg (hi8, fe, se, gn, fp, sp, np, tot, clo, lon) sl pd ct sg od hs) (zQv (fun w => ∃ (f2 : IA), ∃ (s2 : IA), ∃ (p2 : IA), ∃ (q2 : IA), ∃ (n2 : Int), ((f2, s2, p2, q2, n2) = S_sq hi8 (rw9 * 6 + cl9) (fe, se, fp, sp, np)) ∧ wH α γ rl rg (hi8, f2, s2, gn, p2, q2, n2, tot, clo, lon) sl pd ct sg od hs = w)) := by
  refine z_ofM (cc := cX2_readSquare) (maxL := 6) (ret := none) (by decide +kernel) rfl (Nat.le_of_ble_eq_true rfl) ?_
  intro pg e s m args below meth c hC hr hlk hnm hK hP A hD hG hA hS ls hl Q hQ
  have hx := hC.1
  have hb := hC.2.1
  have hml := hC.2.2.1
  have hown := hC.2.2.2.1
  have hts := hC.2.2.2.2
  have hB : ∀ w ∈ W0, w ∈ wz_X2_readSquare := fun _ h => List.mem_cons_of_mem _ h
  have hW0 : ∀ w ∈ W0, w.before args s = true := fun w h => hts w (hB w h)
  have hl : lv_has ls 6 [(0, .ref (α 3)), (1, .int (zI rw9)), (2, .int (zI cl9))] := hl
  have hq9 : 0 ≤ rw9 * 6 + cl9 ∧ rw9 * 6 + cl9 < 36 := by omega
  have hlb := LI_b (by omega) hLI
  have hfp0 := hlb.2
  refine lv_aload_n hx hb dX2_readSquare_0 rfl (lv_at hl 0 rfl) ?_
  refine lv_iload_n hx hb dX2_readSquare_1 rfl (lv_at hl 1 rfl) ?_
  refine lv_iload_n hx hb dX2_readSquare_2 rfl (lv_at hl 2 rfl) ?_
  refine z_calli hP hD hS hA (va_runV (As := [.int (zI rw9), .int (zI cl9)]) (rest := []) hC (c_X2_crossedSides l D τ α γ rl rg hi8 fe se gn fp sp np tot clo lon sl pd ct sg od hs rw9 cl9 (by first | assumption | rfl | omega) (by first | assumption | rfl | omega) _) (cwV 2 hts (gV hB wl_X2_60 wn_X2_crossedSides ws_X2_crossedSides wi_X2 wc_X2_crossedSides) rfl rfl rfl hd_X2_crossedSides ⟨Nat.le_of_ble_eq_true rfl, Nat.le_of_ble_eq_true rfl⟩) (zp_V hK hP hD hS hA hG (ci := 2) (q0 := 3) rfl rfl rfl) rfl rfl hl.1 rfl (lv_room (Nat.le_of_ble_eq_true rfl)) dX2_readSquare_3 ⟨Nat.le_of_ble_eq_true rfl, Nat.le_of_ble_eq_true rfl⟩) (fun r w1 H locs hq9 hP hD hS => ?_)
  obtain ⟨v3_1, hv3_0, hv3_1, rfl, rfl⟩ := hq9
  have hP : va_P D vwCl (wH α γ rl rg (hi8, fe, se, gn, fp, sp, np, tot, clo, lon) sl pd ct sg od hs) H := hP
  have hD : va_D A (wH α γ rl rg (hi8, fe, se, gn, fp, sp, np, tot, clo, lon) sl pd ct sg od hs) := hD
  refine lv_istore_n (lv' := [(3, .int (zI v3_1)), (0, .ref (α 3)), (1, .int (zI rw9)), (2, .int (zI cl9))]) hx hb dX2_readSquare_6 rfl hl (by decide) rfl (fun ls hl => ?_)
  refine lv_iload_n hx hb dX2_readSquare_7 rfl (lv_at hl 0 rfl) ?_
  refine lv_iconst (v := zI 4) hx hb dX2_readSquare_8 rfl ?_
  refine z_icne (tgt := 65) hx hb ⟨by omega, by omega⟩ ⟨by omega, by omega⟩ dX2_readSquare_9 (by decide) (fun c_9 => ?_) (fun c_9 => ?_)
  · have h4n : ¬ zC (S_xk hi8 (rw9 * 6 + cl9)) 4 = 4 := fun h9 => c_9 (hv3_0.trans h9)
    refine lv_iload_n hx hb dX2_readSquare_65 rfl (lv_at hl 0 rfl) ?_
    refine z_ifle (tgt := 129) hx hb ⟨by omega, by omega⟩ dX2_readSquare_66 (by decide) (fun c_66 => ?_) (fun c_66 => ?_)
    · exact z_vret hC hr hlk hQ hP hD hS ⟨fe, se, fp, sp, np, (by first | (rw [hT, show i = 4 by omega]; exact F_s_4 h4) | exact (S_sq_none (by rw [← hv3_0]; exact c_66)).symm | exact (congrArg Prod.fst hX).trans (by rw [show i = 4 by omega]; exact F_x_4 hq9 h4n)), rfl⟩ dX2_readSquare_129
    · refine lv_iconst (v := zI (-1)) hx hb dX2_readSquare_69 rfl ?_
      refine lv_istore (lv' := [(4, .int (zI (-1))), (3, .int (zI v3_1)), (0, .ref (α 3)), (1, .int (zI rw9)), (2, .int (zI cl9))]) hx hb dX2_readSquare_70 hl (by decide) rfl (fun ls hl => ?_)
      refine lv_iconst (v := zI 0) hx hb dX2_readSquare_72 rfl ?_
      refine lv_istore (lv' := [(5, .int (zI 0)), (4, .int (zI (-1))), (3, .int (zI v3_1)), (0, .ref (α 3)), (1, .int (zI rw9)), (2, .int (zI cl9))]) hx hb dX2_readSquare_73 hl (by decide) rfl (fun ls hl => ?_)
      suffices HL_75 : ∀ (n_75 : Nat), ∀ (f1 : IA) (s1 : IA) (p1 : IA) (q1 : IA) (n1 : Int) (fi : Int) (i : Int) (H : Heap) (locs : List Loc) (hP : va_P D vwCl (wH α γ rl rg (hi8, f1, s1, gn, p1, q1, n1, tot, clo, lon) sl pd ct sg od hs) H) (hD : va_D A (wH α γ rl rg (hi8, f1, s1, gn, p1, q1, n1, tot, clo, lon) sl pd ct sg od hs)) (hS : va_S A s.heap H locs) (ls : Array Slot) (hl : lv_has ls 6 [(4, .int (zI fi)), (5, .int (zI i)), (3, .int (zI v3_1)), (0, .ref (α 3)), (1, .int (zI rw9)), (2, .int (zI cl9))]) (hi : 0 ≤ i ∧ i ≤ 4) (hfi : -1 ≤ fi ∧ fi < 84) (hX : ((f1, s1, p1, q1, n1), fi) = F_x hi8 (rw9 * 6 + cl9) (fe, se, fp, sp, np) i) (hb1 : ∀ k, 0 ≤ k → k < 84 → -1 ≤ p1 k ∧ p1 k ≤ 72) (hm : (4 - i).toNat < n_75), W pg l e rm_X2_readSquare s m args below meth c H locs 0 0 Q (F0 m 75 ls []) from HL_75 _ fe se fp sp np (-1) 0 _ _ hP hD hS _ (lv_sub hl [1, 0, 2, 3, 4, 5] rfl) (by first | assumption | rfl | omega) (by first | assumption | rfl | omega) (by rfl) (by exact hfp0) (Nat.lt_succ_self _)
      intro n_75
      induction n_75 with
      | zero => intro f1 s1 p1 q1 n1 fi i H locs hP hD hS ls hl hi hfi hX hb1 hm; exact absurd hm (Nat.not_lt_zero _)
      | succ n_75 ih_75 =>
        intro f1 s1 p1 q1 n1 fi i H locs hP hD hS ls hl hi hfi hX hb1 hm
        refine lv_iload hx hb dX2_readSquare_75 (lv_at hl 1 rfl) ?_
        refine lv_iconst (v := zI 4) hx hb dX2_readSquare_77 rfl ?_
        refine z_icge (tgt := 129) hx hb ⟨by omega, by omega⟩ ⟨by omega, by omega⟩ dX2_readSquare_78 (by decide) (fun c_78 => ?_) (fun c_78 => ?_)
        · exact z_vret hC hr hlk hQ hP hD hS ⟨f1, s1, p1, q1, n1, (by first | (rw [hT, show i = 4 by omega]; exact F_s_4 h4) | exact (S_sq_none (by rw [← hv3_0]; exact c_66)).symm | exact (congrArg Prod.fst hX).trans (by rw [show i = 4 by omega]; exact F_x_4 hq9 h4n)), rfl⟩ dX2_readSquare_129
        · refine lv_aload_n hx hb dX2_readSquare_81 rfl (lv_at hl 3 rfl) ?_
          refine lv_iload_n hx hb dX2_readSquare_82 rfl (lv_at hl 4 rfl) ?_
          refine lv_iload_n hx hb dX2_readSquare_83 rfl (lv_at hl 5 rfl) ?_
          refine lv_iload hx hb dX2_readSquare_84 (lv_at hl 1 rfl) ?_
          refine z_calli hP hD hS hA (va_runV (As := [.int (zI rw9), .int (zI cl9), .int (zI i)]) (rest := []) hC (c_X2_isCrossed l D τ α γ rl rg hi8 f1 s1 gn p1 q1 n1 tot clo lon sl pd ct sg od hs rw9 cl9 i (by first | assumption | rfl | omega) (by first | assumption | rfl | omega) (by first | assumption | rfl | omega) _) (cwV 3 hts (gV hB wl_X2_75 wn_X2_isCrossed ws_X2_isCrossed wi_X2 wc_X2_isCrossed) rfl rfl rfl hd_X2_isCrossed ⟨Nat.le_of_ble_eq_true rfl, Nat.le_of_ble_eq_true rfl⟩) (zp_V hK hP hD hS hA hG (ci := 2) (q0 := 3) rfl rfl rfl) rfl rfl hl.1 rfl (lv_room (Nat.le_of_ble_eq_true rfl)) dX2_readSquare_86 ⟨Nat.le_of_ble_eq_true rfl, Nat.le_of_ble_eq_true rfl⟩) (fun r w1 H locs hq9 hP hD hS => ?_)
          obtain ⟨v86_2, hv86_0, rfl, rfl⟩ := hq9
          have hP : va_P D vwCl (wH α γ rl rg (hi8, f1, s1, gn, p1, q1, n1, tot, clo, lon) sl pd ct sg od hs) H := hP
          have hD : va_D A (wH α γ rl rg (hi8, f1, s1, gn, p1, q1, n1, tot, clo, lon) sl pd ct sg od hs) := hD
          refine z_ifeqB (tgt := 123) hx hb dX2_readSquare_89 (by decide) (fun c_89 => ?_) (fun c_89 => ?_)
          · refine z_iinc (k := 1) (v := i + 1) (lv' := [(5, .int (zI (i + 1))), (4, .int (zI fi)), (3, .int (zI v3_1)), (0, .ref (α 3)), (1, .int (zI rw9)), (2, .int (zI cl9))]) hx hb dX2_readSquare_123 hl rfl rfl (by decide) rfl (fun ls hl => ?_)
            refine lv_goto (tgt := 75) hx hb dX2_readSquare_126 (by decide) ?_
            exact ih_75 f1 s1 p1 q1 n1 fi (i + 1) _ _ hP hD hS _ (lv_sub hl [1, 0, 2, 3, 4, 5] rfl) (by first | assumption | rfl | omega) (by first | assumption | rfl | omega) (by rw [F_x_up hi.1, ← hX]; unfold F_x1; dsimp only; first | (rw [if_neg (fun h9 => by rw [← hv86_0, c_89] at h9; cases h9)]; done) | (rw [if_pos (hv86_0.symm.trans c_89), if_pos c_95, hv102_0]; done) | (rw [if_pos (hv86_0.symm.trans c_89), if_neg c_95, hv120_0, hv117_0]; rfl)) (by first | exact hv120_2 | exact hb1) (by omega)
          · refine lv_iload hx hb dX2_readSquare_92 (lv_at hl 0 rfl) ?_
            refine lv_iconst (v := zI (-1)) hx hb dX2_readSquare_94 rfl ?_
            refine z_icne (tgt := 110) hx hb ⟨by omega, by omega⟩ ⟨by omega, by omega⟩ dX2_readSquare_95 (by decide) (fun c_95 => ?_) (fun c_95 => ?_)
            · have hxn := F_x_np (T := (fe, se, fp, sp, np)) hq9 h4n (i := i) (by omega) (hv86_0.symm.trans c_89) (by rw [← hX]; exact c_95)
              rw [← hX] at hxn
              simp only at hxn
              refine lv_aload_n hx hb dX2_readSquare_110 rfl (lv_at hl 3 rfl) ?_
              refine lv_iload hx hb dX2_readSquare_111 (lv_at hl 0 rfl) ?_
              refine lv_iload_n hx hb dX2_readSquare_113 rfl (lv_at hl 4 rfl) ?_
              refine lv_iload_n hx hb dX2_readSquare_114 rfl (lv_at hl 5 rfl) ?_
              refine lv_iload hx hb dX2_readSquare_115 (lv_at hl 1 rfl) ?_
              refine z_calli hP hD hS hA (va_runS (As := [.int (zI rw9), .int (zI cl9), .int (zI i)]) (rest := [.int (zI fi), .ref (α 3)]) hC (c_X2_edgeOf l D τ _ _ rw9 cl9 i (by first | assumption | rfl | omega) (by first | assumption | rfl | omega) (by first | assumption | rfl | omega) _) (va_cwS 3 hts (gS hB wl_X2_68 wt_X2_edgeOf wi_X2 wc_X2_edgeOf) rfl rfl rfl hd_X2_edgeOf.2 ⟨Nat.le_of_ble_eq_true rfl, Nat.le_of_ble_eq_true rfl⟩) (zp_S hK hP hD hS hA hG) rfl rfl hl.1 rfl (lv_room (Nat.le_of_ble_eq_true rfl)) dX2_readSquare_117 ⟨Nat.le_of_ble_eq_true rfl, Nat.le_of_ble_eq_true rfl⟩) (fun r w1 H locs hq9 hP hD hS => ?_)
              obtain ⟨v117_3, hv117_0, hv117_1, rfl, rfl⟩ := hq9
              refine z_callv hP hD hS hA (va_runV (As := [.int (zI fi), .int (zI v117_3)]) (rest := []) hC (c_X2_addPiece l D τ α γ rl rg hi8 f1 s1 gn p1 q1 n1 tot clo lon sl pd ct sg od hs fi v117_3 (by first | assumption | rfl | omega) (by first | assumption | rfl | omega) (by first | assumption | rfl | omega) (by exact hb1) _) (cwV 2 hts (gV hB wl_X2_72 wn_X2_addPiece ws_X2_addPiece wi_X2 wc_X2_addPiece) rfl rfl rfl hd_X2_addPiece ⟨Nat.le_of_ble_eq_true rfl, Nat.le_of_ble_eq_true rfl⟩) (zp_V hK hP hD hS hA hG (ci := 2) (q0 := 3) rfl rfl rfl) rfl rfl hl.1 rfl (lv_room (Nat.le_of_ble_eq_true rfl)) dX2_readSquare_120 ⟨Nat.le_of_ble_eq_true rfl, Nat.le_of_ble_eq_true rfl⟩) (fun w1 H locs hq9 hP hD hS => ?_)
              obtain ⟨f120_4, s120_5, p120_6, q120_7, n120_8, hv120_0, hv120_1, hv120_2, rfl⟩ := hq9
              have hP : va_P D vwCl (wH α γ rl rg (hi8, f120_4, s120_5, gn, p120_6, q120_7, n120_8, tot, clo, lon) sl pd ct sg od hs) H := hP
              have hD : va_D A (wH α γ rl rg (hi8, f120_4, s120_5, gn, p120_6, q120_7, n120_8, tot, clo, lon) sl pd ct sg od hs) := hD
              refine z_iinc (k := 1) (v := i + 1) (lv' := [(5, .int (zI (i + 1))), (4, .int (zI fi)), (3, .int (zI v3_1)), (0, .ref (α 3)), (1, .int (zI rw9)), (2, .int (zI cl9))]) hx hb dX2_readSquare_123 hl rfl rfl (by decide) rfl (fun ls hl => ?_)
              refine lv_goto (tgt := 75) hx hb dX2_readSquare_126 (by decide) ?_
              exact ih_75 f120_4 s120_5 p120_6 q120_7 n120_8 fi (i + 1) _ _ hP hD hS _ (lv_sub hl [1, 0, 2, 3, 4, 5] rfl) (by first | assumption | rfl | omega) (by first | assumption | rfl | omega) (by rw [F_x_up hi.1, ← hX]; unfold F_x1; dsimp only; first | (rw [if_neg (fun h9 => by rw [← hv86_0, c_89] at h9; cases h9)]; done) | (rw [if_pos (hv86_0.symm.trans c_89), if_pos c_95, hv102_0]; done) | (rw [if_pos (hv86_0.symm.trans c_89), if_neg c_95, hv120_0, hv117_0]; rfl)) (by first | exact hv120_2 | exact hb1) (by omega)
            · refine lv_iload_n hx hb dX2_readSquare_98 rfl (lv_at hl 4 rfl) ?_
              refine lv_iload_n hx hb dX2_readSquare_99 rfl (lv_at hl 5 rfl) ?_
              refine lv_iload hx hb dX2_readSquare_100 (lv_at hl 1 rfl) ?_
              refine z_calli hP hD hS hA (va_runS (As := [.int (zI rw9), .int (zI cl9), .int (zI i)]) (rest := []) hC (c_X2_edgeOf l D τ _ _ rw9 cl9 i (by first | assumption | rfl | omega) (by first | assumption | rfl | omega) (by first | assumption | rfl | omega) _) (va_cwS 3 hts (gS hB wl_X2_68 wt_X2_edgeOf wi_X2 wc_X2_edgeOf) rfl rfl rfl hd_X2_edgeOf.2 ⟨Nat.le_of_ble_eq_true rfl, Nat.le_of_ble_eq_true rfl⟩) (zp_S hK hP hD hS hA hG) rfl rfl hl.1 rfl (lv_room (Nat.le_of_ble_eq_true rfl)) dX2_readSquare_102 ⟨Nat.le_of_ble_eq_true rfl, Nat.le_of_ble_eq_true rfl⟩) (fun r w1 H locs hq9 hP hD hS => ?_)
              obtain ⟨v102_9, hv102_0, hv102_1, rfl, rfl⟩ := hq9
              refine lv_istore (lv' := [(4, .int (zI v102_9)), (5, .int (zI i)), (3, .int (zI v3_1)), (0, .ref (α 3)), (1, .int (zI rw9)), (2, .int (zI cl9))]) hx hb dX2_readSquare_105 hl (by decide) rfl (fun ls hl => ?_)
              refine lv_goto (tgt := 123) hx hb dX2_readSquare_107 (by decide) ?_
              refine z_iinc (k := 1) (v := i + 1) (lv' := [(5, .int (zI (i + 1))), (4, .int (zI v102_9)), (3, .int (zI v3_1)), (0, .ref (α 3)), (1, .int (zI rw9)), (2, .int (zI cl9))]) hx hb dX2_readSquare_123 hl rfl rfl (by decide) rfl (fun ls hl => ?_)
              refine lv_goto (tgt := 75) hx hb dX2_readSquare_126 (by decide) ?_
              exact ih_75 f1 s1 p1 q1 n1 v102_9 (i + 1) _ _ hP hD hS _ (lv_sub hl [1, 0, 2, 3, 4, 5] rfl) (by first | assumption | rfl | omega) (by first | assumption | rfl | omega) (by rw [F_x_up hi.1, ← hX]; unfold F_x1; dsimp only; first | (rw [if_neg (fun h9 => by rw [← hv86_0, c_89] at h9; cases h9)]; done) | (rw [if_pos (hv86_0.symm.trans c_89), if_pos c_95, hv102_0]; done) | (rw [if_pos (hv86_0.symm.trans c_89), if_neg c_95, hv120_0, hv117_0]; rfl)) (by first | exact hv120_2 | exact hb1) (by omega)
  · have h4 : zC (S_xk hi8 (rw9 * 6 + cl9)) 4 = 4 := hv3_0.symm.trans c_9
    refine lv_iconst (v := zI 0) hx hb dX2_readSquare_12 rfl ?_
    refine lv_istore (lv' := [(4, .int (zI 0)), (3, .int (zI v3_1)), (0, .ref (α 3)), (1, .int (zI rw9)), (2, .int (zI cl9))]) hx hb dX2_readSquare_13 hl (by decide) rfl (fun ls hl => ?_)
    suffices HL_15 : ∀ (n_15 : Nat), ∀ (f1 : IA) (s1 : IA) (p1 : IA) (q1 : IA) (n1 : Int) (i : Int) (H : Heap) (locs : List Loc) (hP : va_P D vwCl (wH α γ rl rg (hi8, f1, s1, gn, p1, q1, n1, tot, clo, lon) sl pd ct sg od hs) H) (hD : va_D A (wH α γ rl rg (hi8, f1, s1, gn, p1, q1, n1, tot, clo, lon) sl pd ct sg od hs)) (hS : va_S A s.heap H locs) (ls : Array Slot) (hl : lv_has ls 6 [(4, .int (zI i)), (3, .int (zI v3_1)), (0, .ref (α 3)), (1, .int (zI rw9)), (2, .int (zI cl9))]) (hi : 0 ≤ i ∧ i ≤ 4) (hT : (f1, s1, p1, q1, n1) = F_s hi8 (rw9 * 6 + cl9) (fe, se, fp, sp, np) i) (hb1 : ∀ k, 0 ≤ k → k < 84 → -1 ≤ p1 k ∧ p1 k ≤ 72) (hm : (4 - i).toNat < n_15), W pg l e rm_X2_readSquare s m args below meth c H locs 0 0 Q (F0 m 15 ls []) from HL_15 _ fe se fp sp np 0 _ _ hP hD hS _ (lv_sub hl [0, 1, 2, 3, 4] rfl) (by first | assumption | rfl | omega) (by rfl) (by exact hfp0) (Nat.lt_succ_self _)
    intro n_15
    induction n_15 with
    | zero => intro f1 s1 p1 q1 n1 i H locs hP hD hS ls hl hi hT hb1 hm; exact absurd hm (Nat.not_lt_zero _)
    | succ n_15 ih_15 =>
      intro f1 s1 p1 q1 n1 i H locs hP hD hS ls hl hi hT hb1 hm
      refine lv_iload hx hb dX2_readSquare_15 (lv_at hl 0 rfl) ?_
      refine lv_iconst (v := zI 4) hx hb dX2_readSquare_17 rfl ?_
      refine z_icge (tgt := 62) hx hb ⟨by omega, by omega⟩ ⟨by omega, by omega⟩ dX2_readSquare_18 (by decide) (fun c_18 => ?_) (fun c_18 => ?_)
      · refine lv_goto (tgt := 129) hx hb dX2_readSquare_62 (by decide) ?_
        exact z_vret hC hr hlk hQ hP hD hS ⟨f1, s1, p1, q1, n1, (by first | (rw [hT, show i = 4 by omega]; exact F_s_4 h4) | exact (S_sq_none (by rw [← hv3_0]; exact c_66)).symm | exact (congrArg Prod.fst hX).trans (by rw [show i = 4 by omega]; exact F_x_4 hq9 h4n)), rfl⟩ dX2_readSquare_129
      · refine lv_aload_n hx hb dX2_readSquare_21 rfl (lv_at hl 2 rfl) ?_
        refine lv_iload_n hx hb dX2_readSquare_22 rfl (lv_at hl 3 rfl) ?_
        refine lv_iload_n hx hb dX2_readSquare_23 rfl (lv_at hl 4 rfl) ?_
        refine lv_iload hx hb dX2_readSquare_24 (lv_at hl 0 rfl) ?_
        refine z_calli hP hD hS hA (va_runV (As := [.int (zI rw9), .int (zI cl9), .int (zI i)]) (rest := []) hC (c_X2_isHigh l D τ α γ rl rg hi8 f1 s1 gn p1 q1 n1 tot clo lon sl pd ct sg od hs rw9 cl9 i (by first | assumption | rfl | omega) (by first | assumption | rfl | omega) (by first | assumption | rfl | omega) _) (cwV 3 hts (gV hB wl_X2_64 wn_X2_isHigh ws_X2_isHigh wi_X2 wc_X2_isHigh) rfl rfl rfl hd_X2_isHigh ⟨Nat.le_of_ble_eq_true rfl, Nat.le_of_ble_eq_true rfl⟩) (zp_V hK hP hD hS hA hG (ci := 2) (q0 := 3) rfl rfl rfl) rfl rfl hl.1 rfl (lv_room (Nat.le_of_ble_eq_true rfl)) dX2_readSquare_26 ⟨Nat.le_of_ble_eq_true rfl, Nat.le_of_ble_eq_true rfl⟩) (fun r w1 H locs hq9 hP hD hS => ?_)
        obtain ⟨v26_10, hv26_0, rfl, rfl⟩ := hq9
        have hP : va_P D vwCl (wH α γ rl rg (hi8, f1, s1, gn, p1, q1, n1, tot, clo, lon) sl pd ct sg od hs) H := hP
        have hD : va_D A (wH α γ rl rg (hi8, f1, s1, gn, p1, q1, n1, tot, clo, lon) sl pd ct sg od hs) := hD
        refine z_ifeqB (tgt := 56) hx hb dX2_readSquare_29 (by decide) (fun c_29 => ?_) (fun c_29 => ?_)
        · refine z_iinc (k := 0) (v := i + 1) (lv' := [(4, .int (zI (i + 1))), (3, .int (zI v3_1)), (0, .ref (α 3)), (1, .int (zI rw9)), (2, .int (zI cl9))]) hx hb dX2_readSquare_56 hl rfl rfl (by decide) rfl (fun ls hl => ?_)
          refine lv_goto (tgt := 15) hx hb dX2_readSquare_59 (by decide) ?_
          exact ih_15 f1 s1 p1 q1 n1 (i + 1) _ _ hP hD hS _ (lv_sub hl [0, 1, 2, 3, 4] rfl) (by first | assumption | rfl | omega) (by rw [F_s_up hi.1, ← hT]; unfold F_s1; first | (rw [if_pos (hv26_0.symm.trans c_29), hv53_0, hv43_0, hv50_0, show i + 4 - 1 = i + 3 by omega]; rfl) | (rw [if_neg (fun h9 => by rw [← hv26_0, c_29] at h9; cases h9)]; done)) (by first | exact hv53_2 | exact hb1) (by omega)
        · have hxn := F_s_np (T := (fe, se, fp, sp, np)) h4 (i := i) (by omega) (hv26_0.symm.trans c_29)
          rw [← hT] at hxn
          simp only at hxn
          refine lv_aload_n hx hb dX2_readSquare_32 rfl (lv_at hl 2 rfl) ?_
          refine lv_iload_n hx hb dX2_readSquare_33 rfl (lv_at hl 3 rfl) ?_
          refine lv_iload_n hx hb dX2_readSquare_34 rfl (lv_at hl 4 rfl) ?_
          refine lv_iload hx hb dX2_readSquare_35 (lv_at hl 0 rfl) ?_
          refine lv_iconst (v := zI 4) hx hb dX2_readSquare_37 rfl ?_
          refine z_iadd hx hb dX2_readSquare_38 ?_
          refine lv_iconst (v := zI 1) hx hb dX2_readSquare_39 rfl ?_
          refine z_isub hx hb dX2_readSquare_40 ?_
          refine lv_iconst (v := zI 4) hx hb dX2_readSquare_41 rfl ?_
          refine z_irem hx hb ⟨⟨by omega, by omega⟩, by omega, by omega⟩ dX2_readSquare_42 ?_
          refine z_calli hP hD hS hA (va_runS (As := [.int (zI rw9), .int (zI cl9), .int (zI (((i + 4) - 1) % 4))]) (rest := [.ref (α 3)]) hC (c_X2_edgeOf l D τ _ _ rw9 cl9 (((i + 4) - 1) % 4) (by first | assumption | rfl | omega) (by first | assumption | rfl | omega) (by first | assumption | rfl | omega) _) (va_cwS 3 hts (gS hB wl_X2_68 wt_X2_edgeOf wi_X2 wc_X2_edgeOf) rfl rfl rfl hd_X2_edgeOf.2 ⟨Nat.le_of_ble_eq_true rfl, Nat.le_of_ble_eq_true rfl⟩) (zp_S hK hP hD hS hA hG) rfl rfl hl.1 rfl (lv_room (Nat.le_of_ble_eq_true rfl)) dX2_readSquare_43 ⟨Nat.le_of_ble_eq_true rfl, Nat.le_of_ble_eq_true rfl⟩) (fun r w1 H locs hq9 hP hD hS => ?_)
          obtain ⟨v43_11, hv43_0, hv43_1, rfl, rfl⟩ := hq9
          refine lv_iload_n hx hb dX2_readSquare_46 rfl (lv_at hl 3 rfl) ?_
          refine lv_iload_n hx hb dX2_readSquare_47 rfl (lv_at hl 4 rfl) ?_
          refine lv_iload hx hb dX2_readSquare_48 (lv_at hl 0 rfl) ?_
          refine z_calli hP hD hS hA (va_runS (As := [.int (zI rw9), .int (zI cl9), .int (zI i)]) (rest := [.int (zI v43_11), .ref (α 3)]) hC (c_X2_edgeOf l D τ _ _ rw9 cl9 i (by first | assumption | rfl | omega) (by first | assumption | rfl | omega) (by first | assumption | rfl | omega) _) (va_cwS 3 hts (gS hB wl_X2_68 wt_X2_edgeOf wi_X2 wc_X2_edgeOf) rfl rfl rfl hd_X2_edgeOf.2 ⟨Nat.le_of_ble_eq_true rfl, Nat.le_of_ble_eq_true rfl⟩) (zp_S hK hP hD hS hA hG) rfl rfl hl.1 rfl (lv_room (Nat.le_of_ble_eq_true rfl)) dX2_readSquare_50 ⟨Nat.le_of_ble_eq_true rfl, Nat.le_of_ble_eq_true rfl⟩) (fun r w1 H locs hq9 hP hD hS => ?_)
          obtain ⟨v50_12, hv50_0, hv50_1, rfl, rfl⟩ := hq9
          refine z_callv hP hD hS hA (va_runV (As := [.int (zI v43_11), .int (zI v50_12)]) (rest := []) hC (c_X2_addPiece l D τ α γ rl rg hi8 f1 s1 gn p1 q1 n1 tot clo lon sl pd ct sg od hs v43_11 v50_12 (by first | assumption | rfl | omega) (by first | assumption | rfl | omega) (by first | assumption | rfl | omega) (by exact hb1) _) (cwV 2 hts (gV hB wl_X2_72 wn_X2_addPiece ws_X2_addPiece wi_X2 wc_X2_addPiece) rfl rfl rfl hd_X2_addPiece ⟨Nat.le_of_ble_eq_true rfl, Nat.le_of_ble_eq_true rfl⟩) (zp_V hK hP hD hS hA hG (ci := 2) (q0 := 3) rfl rfl rfl) rfl rfl hl.1 rfl (lv_room (Nat.le_of_ble_eq_true rfl)) dX2_readSquare_53 ⟨Nat.le_of_ble_eq_true rfl, Nat.le_of_ble_eq_true rfl⟩) (fun w1 H locs hq9 hP hD hS => ?_)
          obtain ⟨f53_13, s53_14, p53_15, q53_16, n53_17, hv53_0, hv53_1, hv53_2, rfl⟩ := hq9
          have hP : va_P D vwCl (wH α γ rl rg (hi8, f53_13, s53_14, gn, p53_15, q53_16, n53_17, tot, clo, lon) sl pd ct sg od hs) H := hP
          have hD : va_D A (wH α γ rl rg (hi8, f53_13, s53_14, gn, p53_15, q53_16, n53_17, tot, clo, lon) sl pd ct sg od hs) := hD
          refine z_iinc (k := 0) (v := i + 1) (lv' := [(4, .int (zI (i + 1))), (3, .int (zI v3_1)), (0, .ref (α 3)), (1, .int (zI rw9)), (2, .int (zI cl9))]) hx hb dX2_readSquare_56 hl rfl rfl (by decide) rfl (fun ls hl => ?_)
          refine lv_goto (tgt := 15) hx hb dX2_readSquare_59 (by decide) ?_
          exact ih_15 f53_13 s53_14 p53_15 q53_16 n53_17 (i + 1) _ _ hP hD hS _ (lv_sub hl [0, 1, 2, 3, 4] rfl) (by first | assumption | rfl | omega) (by rw [F_s_up hi.1, ← hT]; unfold F_s1; first | (rw [if_pos (hv26_0.symm.trans c_29), hv53_0, hv43_0, hv50_0, show i + 4 - 1 = i + 3 by omega]; rfl) | (rw [if_neg (fun h9 => by rw [← hv26_0, c_29] at h9; cases h9)]; done)) (by first | exact hv53_2 | exact hb1) (by omega)

abbrev wz_X2_read : List Cond := .code yX2_read cX2_read 5 none :: W0
abbrev rm_X2_read : Room := { frames := 5, cells := 0, slots := 0, locals := 117 }
theorem hd_X2_read : yX2_read.cls = RX2 ∧ yX2_read.cls ≠ "java/lang/invoke/MethodHandle" ∧ yX2_read.cls ≠ "java/lang/invoke/VarHandle" ∧ (parseMethodDescriptor yX2_read.desc).map (fun d => d.parameters.length) = some 2 := by decide +kernel
set_option maxHeartbeats 4000000 in
set_option maxRecDepth 100000 in
theorem c_X2_read (l : Launch) (D : va_G) (τ : Nat → Nat) (α : Nat → Nat) (γ : Nat → ClassId) (h : IA) (old : IA) (ch : IA) (rg : TRg) (hi8 : BA) (fe : IA) (se : IA) (gn : BA) (fp : IA) (sp : IA) (np : Int) (tot : Int) (clo : Int) (lon : Int) (sl : TSl) (pd : TPd) (ct : TCt) (sg : TSg) (od : TOd) (hs : THs) (lv9 : Int) (hh : ∀ k, 0 ≤ k → k < 49 → 0 ≤ h k ∧ h k ≤ 99) (hlv : -2147483648 ≤ lv9 ∧ lv9 < 2147483648) : cM l yX2_read wz_X2_read rm_X2_read D τ (tyH γ) [.ref (α 3), .ref (α 1), .int (zI lv9)] (wH α γ (h, old, ch) rg (hi8, fe, se, gn, fp, sp, np, tot, clo, lon) sl pd ct sg od hs) (zQv (fun w => ∃ (m2 : BA), ∃ (f2 : IA), ∃ (s2 : IA), ∃ (p2 : IA), ∃ (q2 : IA), ∃ (n2 : Int), (m2 = bmix 49 (S_hi h lv9) hi8) ∧ (LF m2 f2 s2 p2 q2 n2) ∧ wH α γ (h, old, ch) rg (m2, f2, s2, gn, p2, q2, n2, tot, clo, lon) sl pd ct sg od hs = w)) := by
  refine z_ofM (cc := cX2_read) (maxL := 5) (ret := none) (by decide +kernel) rfl (Nat.le_of_ble_eq_true rfl) ?_
  intro pg e s m args below meth c hC hr hlk hnm hK hP A hD hG hA hS ls hl Q hQ
  have hx := hC.1
  have hb := hC.2.1
  have hml := hC.2.2.1
  have hown := hC.2.2.2.1
  have hts := hC.2.2.2.2
  have hB : ∀ w ∈ W0, w ∈ wz_X2_read := fun _ h => List.mem_cons_of_mem _ h
  have hW0 : ∀ w ∈ W0, w.before args s = true := fun w h => hts w (hB w h)
  have hl : lv_has ls 5 [(0, .ref (α 3)), (1, .ref (α 1)), (2, .int (zI lv9))] := hl
  refine lv_iconst (v := zI 0) hx hb dX2_read_0 rfl ?_
  refine lv_istore_n (lv' := [(3, .int (zI 0)), (0, .ref (α 3)), (1, .ref (α 1)), (2, .int (zI lv9))]) hx hb dX2_read_1 rfl hl (by decide) rfl (fun ls hl => ?_)
  suffices HL_2 : ∀ (n_2 : Nat), ∀ (m1 : BA) (i : Int) (H : Heap) (locs : List Loc) (hP : va_P D vwCl (wH α γ (h, old, ch) rg (m1, fe, se, gn, fp, sp, np, tot, clo, lon) sl pd ct sg od hs) H) (hD : va_D A (wH α γ (h, old, ch) rg (m1, fe, se, gn, fp, sp, np, tot, clo, lon) sl pd ct sg od hs)) (hS : va_S A s.heap H locs) (ls : Array Slot) (hl : lv_has ls 5 [(3, .int (zI i)), (0, .ref (α 3)), (1, .ref (α 1)), (2, .int (zI lv9))]) (hi : 0 ≤ i ∧ i ≤ 49) (hm1 : m1 = bmix i (S_hi h lv9) hi8) (hm : (49 - i).toNat < n_2), W pg l e rm_X2_read s m args below meth c H locs 0 0 Q (F0 m 2 ls []) from HL_2 _ hi8 0 _ _ hP hD hS _ (lv_sub hl [0, 1, 2, 3] rfl) (by first | assumption | rfl | omega) (by exact (bmix_0 _ _).symm) (Nat.lt_succ_self _)
  intro n_2
  induction n_2 with
  | zero => intro m1 i H locs hP hD hS ls hl hi hm1 hm; exact absurd hm (Nat.not_lt_zero _)
  | succ n_2 ih_2 =>
    intro m1 i H locs hP hD hS ls hl hi hm1 hm
    refine lv_iload_n hx hb dX2_read_2 rfl (lv_at hl 0 rfl) ?_
    refine lv_bipush (v := zI 49) hx hb dX2_read_3 (zI_b8 (by decide)) ?_
    refine z_icge (tgt := 34) hx hb ⟨by omega, by omega⟩ ⟨by omega, by omega⟩ dX2_read_5 (by decide) (fun c_5 => ?_) (fun c_5 => ?_)
    · have hm49 : m1 = bmix 49 (S_hi h lv9) hi8 := by rw [hm1, show i = 49 by omega]
      refine lv_aload_n hx hb dX2_read_34 rfl (lv_at hl 1 rfl) ?_
      refine va_get (D := D) (ci := 2) (v := .ref (α 19)) (C := RX2) (T := TX2) (N := 10) hx hb hts (fun w h => List.mem_cons_of_mem _ (wx_X2 w h)) hown hK hP 3 rfl rfl 4 (by decide) (hW0 _ wf_X2_25) (fun _ h9 => h9) rfl dX2_read_35 ?_
      refine lv_iconst (v := zI (-1)) hx hb dX2_read_38 rfl ?_
      refine z_callv hP hD hS hA (va_runS (As := [.ref (α 19), .int (zI (-1))]) (rest := []) hC (c_J7_fill_53178__fp l D τ α γ (h, old, ch) rg m1 fe se gn fp sp np tot clo lon sl pd ct sg od hs (-1) (by first | assumption | rfl | omega) _) (va_cwS 2 hts (gS hB wl_X2_50 wt_J7_fill_53178 wi_J7 wc_J7_fill_53178) rfl rfl rfl hd_J7_fill_53178.2 ⟨Nat.le_of_ble_eq_true rfl, Nat.le_of_ble_eq_true rfl⟩) (zp_S hK hP hD hS hA hG) rfl rfl hl.1 rfl (lv_room (Nat.le_of_ble_eq_true rfl)) dX2_read_39 ⟨Nat.le_of_ble_eq_true rfl, Nat.le_of_ble_eq_true rfl⟩) (fun w1 H locs hq9 hP hD hS => ?_)
      obtain ⟨f39_1, hv39_0, rfl⟩ := hq9
      have hP : va_P D vwCl (wH α γ (h, old, ch) rg (m1, fe, se, gn, f39_1, sp, np, tot, clo, lon) sl pd ct sg od hs) H := hP
      have hD : va_D A (wH α γ (h, old, ch) rg (m1, fe, se, gn, f39_1, sp, np, tot, clo, lon) sl pd ct sg od hs) := hD
      refine lv_aload_n hx hb dX2_read_42 rfl (lv_at hl 1 rfl) ?_
      refine va_get (D := D) (ci := 2) (v := .ref (α 20)) (C := RX2) (T := TX2) (N := 10) hx hb hts (fun w h => List.mem_cons_of_mem _ (wx_X2 w h)) hown hK hP 3 rfl rfl 5 (by decide) (hW0 _ wf_X2_28) (fun _ h9 => h9) rfl dX2_read_43 ?_
      refine lv_iconst (v := zI (-1)) hx hb dX2_read_46 rfl ?_
      refine z_callv hP hD hS hA (va_runS (As := [.ref (α 20), .int (zI (-1))]) (rest := []) hC (c_J7_fill_53178__sp l D τ α γ (h, old, ch) rg m1 fe se gn f39_1 sp np tot clo lon sl pd ct sg od hs (-1) (by first | assumption | rfl | omega) _) (va_cwS 2 hts (gS hB wl_X2_50 wt_J7_fill_53178 wi_J7 wc_J7_fill_53178) rfl rfl rfl hd_J7_fill_53178.2 ⟨Nat.le_of_ble_eq_true rfl, Nat.le_of_ble_eq_true rfl⟩) (zp_S hK hP hD hS hA hG) rfl rfl hl.1 rfl (lv_room (Nat.le_of_ble_eq_true rfl)) dX2_read_47 ⟨Nat.le_of_ble_eq_true rfl, Nat.le_of_ble_eq_true rfl⟩) (fun w1 H locs hq9 hP hD hS => ?_)
      obtain ⟨f47_2, hv47_0, rfl⟩ := hq9
      have hP : va_P D vwCl (wH α γ (h, old, ch) rg (m1, fe, se, gn, f39_1, f47_2, np, tot, clo, lon) sl pd ct sg od hs) H := hP
      have hD : va_D A (wH α γ (h, old, ch) rg (m1, fe, se, gn, f39_1, f47_2, np, tot, clo, lon) sl pd ct sg od hs) := hD
      refine lv_aload_n hx hb dX2_read_50 rfl (lv_at hl 1 rfl) ?_
      refine lv_iconst (v := zI 0) hx hb dX2_read_51 rfl ?_
      refine va_put (D := D) (ci := 2) (v := .int (zI 0)) (ty := .int) (C := RX2) (T := TX2) (N := 10) hx hb hts (fun w h => List.mem_cons_of_mem _ (wx_X2 w h)) tyX2 tyX2_ok nmX2 hown hK hP hD hS 3 rfl rfl 6 (by decide) (hW0 _ wf_X2_31) (fun _ h9 => h9) rfl (by decide +kernel) rfl rfl (Nat.le_of_ble_eq_true rfl) dX2_read_52 (fun H locs hP hD hS => ?_)
      have hP : va_P D vwCl (wH α γ (h, old, ch) rg (m1, fe, se, gn, f39_1, f47_2, 0, tot, clo, lon) sl pd ct sg od hs) H := hP
      have hD : va_D A (wH α γ (h, old, ch) rg (m1, fe, se, gn, f39_1, f47_2, 0, tot, clo, lon) sl pd ct sg od hs) := hD
      refine lv_iconst (v := zI 0) hx hb dX2_read_55 rfl ?_
      refine lv_istore_n (lv' := [(3, .int (zI 0)), (0, .ref (α 3)), (1, .ref (α 1)), (2, .int (zI lv9))]) hx hb dX2_read_56 rfl hl (by decide) rfl (fun ls hl => ?_)
      suffices HL_57 : ∀ (n_57 : Nat), ∀ (f1 : IA) (s1 : IA) (p1 : IA) (q1 : IA) (n1 : Int) (r9 : Int) (H : Heap) (locs : List Loc) (hP : va_P D vwCl (wH α γ (h, old, ch) rg (m1, f1, s1, gn, p1, q1, n1, tot, clo, lon) sl pd ct sg od hs) H) (hD : va_D A (wH α γ (h, old, ch) rg (m1, f1, s1, gn, p1, q1, n1, tot, clo, lon) sl pd ct sg od hs)) (hS : va_S A s.heap H locs) (ls : Array Slot) (hl : lv_has ls 5 [(3, .int (zI r9)), (0, .ref (α 3)), (1, .ref (α 1)), (2, .int (zI lv9))]) (hr6 : 0 ≤ r9 ∧ r9 ≤ 6) (hLI : LI m1 (r9 * 6) (f1, s1, p1, q1, n1)) (hm : (6 - r9).toNat < n_57), W pg l e rm_X2_read s m args below meth c H locs 0 0 Q (F0 m 57 ls []) from HL_57 _ fe se f39_1 f47_2 0 0 _ _ hP hD hS _ (lv_sub hl [0, 1, 2, 3] rfl) (by first | assumption | rfl | omega) (by rw [show (0:Int) * 6 = 0 from rfl]; exact LI_0 (fun e9 a9 b9 => by rw [hv39_0, zmix_at ⟨a9, b9⟩]) (fun e9 a9 b9 => by rw [hv47_0, zmix_at ⟨a9, b9⟩])) (Nat.lt_succ_self _)
      intro n_57
      induction n_57 with
      | zero => intro f1 s1 p1 q1 n1 r9 H locs hP hD hS ls hl hr6 hLI hm; exact absurd hm (Nat.not_lt_zero _)
      | succ n_57 ih_57 =>
        intro f1 s1 p1 q1 n1 r9 H locs hP hD hS ls hl hr6 hLI hm
        refine lv_iload_n hx hb dX2_read_57 rfl (lv_at hl 0 rfl) ?_
        refine lv_bipush (v := zI 6) hx hb dX2_read_58 (zI_b8 (by decide)) ?_
        refine z_icge (tgt := 92) hx hb ⟨by omega, by omega⟩ ⟨by omega, by omega⟩ dX2_read_60 (by decide) (fun c_60 => ?_) (fun c_60 => ?_)
        · exact z_vret hC hr hlk hQ hP hD hS ⟨m1, f1, s1, p1, q1, n1, (by exact hm49), (by exact LF_of (by have z9 := hLI; rw [show r9 * 6 = 36 by omega] at z9; exact z9)), rfl⟩ dX2_read_92
        · refine lv_iconst (v := zI 0) hx hb dX2_read_63 rfl ?_
          refine lv_istore (lv' := [(4, .int (zI 0)), (3, .int (zI r9)), (0, .ref (α 3)), (1, .ref (α 1)), (2, .int (zI lv9))]) hx hb dX2_read_64 hl (by decide) rfl (fun ls hl => ?_)
          suffices HL_66 : ∀ (n_66 : Nat), ∀ (f3 : IA) (s3 : IA) (p3 : IA) (q3 : IA) (n3 : Int) (cc : Int) (H : Heap) (locs : List Loc) (hP : va_P D vwCl (wH α γ (h, old, ch) rg (m1, f3, s3, gn, p3, q3, n3, tot, clo, lon) sl pd ct sg od hs) H) (hD : va_D A (wH α γ (h, old, ch) rg (m1, f3, s3, gn, p3, q3, n3, tot, clo, lon) sl pd ct sg od hs)) (hS : va_S A s.heap H locs) (ls : Array Slot) (hl : lv_has ls 5 [(4, .int (zI cc)), (3, .int (zI r9)), (0, .ref (α 3)), (1, .ref (α 1)), (2, .int (zI lv9))]) (hcc : 0 ≤ cc ∧ cc ≤ 6) (hLI3 : LI m1 (r9 * 6 + cc) (f3, s3, p3, q3, n3)) (hm : (6 - cc).toNat < n_66), W pg l e rm_X2_read s m args below meth c H locs 0 0 Q (F0 m 66 ls []) from HL_66 _ f1 s1 p1 q1 n1 0 _ _ hP hD hS _ (lv_sub hl [0, 1, 2, 3, 4] rfl) (by first | assumption | rfl | omega) (by rw [show r9 * 6 + 0 = r9 * 6 by omega]; exact hLI) (Nat.lt_succ_self _)
          intro n_66
          induction n_66 with
          | zero => intro f3 s3 p3 q3 n3 cc H locs hP hD hS ls hl hcc hLI3 hm; exact absurd hm (Nat.not_lt_zero _)
          | succ n_66 ih_66 =>
            intro f3 s3 p3 q3 n3 cc H locs hP hD hS ls hl hcc hLI3 hm
            refine lv_iload hx hb dX2_read_66 (lv_at hl 0 rfl) ?_
            refine lv_bipush (v := zI 6) hx hb dX2_read_68 (zI_b8 (by decide)) ?_
            refine z_icge (tgt := 86) hx hb ⟨by omega, by omega⟩ ⟨by omega, by omega⟩ dX2_read_70 (by decide) (fun c_70 => ?_) (fun c_70 => ?_)
            · refine z_iinc (k := 1) (v := r9 + 1) (lv' := [(3, .int (zI (r9 + 1))), (4, .int (zI cc)), (0, .ref (α 3)), (1, .ref (α 1)), (2, .int (zI lv9))]) hx hb dX2_read_86 hl rfl rfl (by decide) rfl (fun ls hl => ?_)
              refine lv_goto (tgt := 57) hx hb dX2_read_89 (by decide) ?_
              exact ih_57 f3 s3 p3 q3 n3 (r9 + 1) _ _ hP hD hS _ (lv_sub hl [0, 2, 3, 4] rfl) (by first | assumption | rfl | omega) (by rw [show (r9 + 1) * 6 = r9 * 6 + cc by omega]; exact hLI3) (by omega)
            · refine lv_aload_n hx hb dX2_read_73 rfl (lv_at hl 2 rfl) ?_
              refine lv_iload_n hx hb dX2_read_74 rfl (lv_at hl 1 rfl) ?_
              refine lv_iload hx hb dX2_read_75 (lv_at hl 0 rfl) ?_
              refine z_callv hP hD hS hA (va_runV (As := [.int (zI r9), .int (zI cc)]) (rest := []) hC (c_X2_readSquare l D τ α γ (h, old, ch) rg m1 f3 s3 gn p3 q3 n3 tot clo lon sl pd ct sg od hs r9 cc (by first | assumption | rfl | omega) (by first | assumption | rfl | omega) (by exact hLI3) _) (cwV 2 hts (gV hB wl_X2_56 wn_X2_readSquare ws_X2_readSquare wi_X2 wc_X2_readSquare) rfl rfl rfl hd_X2_readSquare ⟨Nat.le_of_ble_eq_true rfl, Nat.le_of_ble_eq_true rfl⟩) (zp_V hK hP hD hS hA hG (ci := 2) (q0 := 3) rfl rfl rfl) rfl rfl hl.1 rfl (lv_room (Nat.le_of_ble_eq_true rfl)) dX2_read_77 ⟨Nat.le_of_ble_eq_true rfl, Nat.le_of_ble_eq_true rfl⟩) (fun w1 H locs hq9 hP hD hS => ?_)
              obtain ⟨f77_3, s77_4, p77_5, q77_6, n77_7, hv77_0, rfl⟩ := hq9
              have hP : va_P D vwCl (wH α γ (h, old, ch) rg (m1, f77_3, s77_4, gn, p77_5, q77_6, n77_7, tot, clo, lon) sl pd ct sg od hs) H := hP
              have hD : va_D A (wH α γ (h, old, ch) rg (m1, f77_3, s77_4, gn, p77_5, q77_6, n77_7, tot, clo, lon) sl pd ct sg od hs) := hD
              refine z_iinc (k := 0) (v := cc + 1) (lv' := [(4, .int (zI (cc + 1))), (3, .int (zI r9)), (0, .ref (α 3)), (1, .ref (α 1)), (2, .int (zI lv9))]) hx hb dX2_read_80 hl rfl rfl (by decide) rfl (fun ls hl => ?_)
              refine lv_goto (tgt := 66) hx hb dX2_read_83 (by decide) ?_
              exact ih_66 f77_3 s77_4 p77_5 q77_6 n77_7 (cc + 1) _ _ hP hD hS _ (lv_sub hl [0, 1, 2, 3, 4] rfl) (by first | assumption | rfl | omega) (by rw [show r9 * 6 + (cc + 1) = r9 * 6 + cc + 1 by omega, hv77_0]; exact LI_sq (by omega) hLI3) (by omega)
    · refine lv_aload_n hx hb dX2_read_8 rfl (lv_at hl 1 rfl) ?_
      refine va_get (D := D) (ci := 2) (v := .ref (α 15)) (C := RX2) (T := TX2) (N := 10) hx hb hts (fun w h => List.mem_cons_of_mem _ (wx_X2 w h)) hown hK hP 3 rfl rfl 0 (by decide) (hW0 _ wf_X2_9) (fun _ h9 => h9) rfl dX2_read_9 ?_
      refine lv_iload_n hx hb dX2_read_12 rfl (lv_at hl 0 rfl) ?_
      refine lv_aload_n hx hb dX2_read_13 rfl (lv_at hl 2 rfl) ?_
      refine lv_iload_n hx hb dX2_read_14 rfl (lv_at hl 0 rfl) ?_
      refine z_calli hP hD hS hA (va_runV (As := [.int (zI i)]) (rest := [.int (zI i), .ref (α 15)]) hC (c_X6_at l D τ α γ h old ch rg (m1, fe, se, gn, fp, sp, np, tot, clo, lon) sl pd ct sg od hs i (by first | assumption | rfl | omega) (by first | assumption | rfl | omega) _) (cwV 1 hts (gV hB wl_X2_44 wn_X6_at ws_X6_at wi_X6 wc_X6_at) rfl rfl rfl hd_X6_at ⟨Nat.le_of_ble_eq_true rfl, Nat.le_of_ble_eq_true rfl⟩) (zp_V hK hP hD hS hA hG (ci := 6) (q0 := 1) rfl rfl rfl) rfl rfl hl.1 rfl (lv_room (Nat.le_of_ble_eq_true rfl)) dX2_read_15 ⟨Nat.le_of_ble_eq_true rfl, Nat.le_of_ble_eq_true rfl⟩) (fun r w1 H locs hq9 hP hD hS => ?_)
      obtain ⟨v15_8, hv15_0, hv15_1, hv15_2, rfl, rfl⟩ := hq9
      have hP : va_P D vwCl (wH α γ (h, old, ch) rg (m1, fe, se, gn, fp, sp, np, tot, clo, lon) sl pd ct sg od hs) H := hP
      have hD : va_D A (wH α γ (h, old, ch) rg (m1, fe, se, gn, fp, sp, np, tot, clo, lon) sl pd ct sg od hs) := hD
      refine lv_iload_n hx hb dX2_read_18 rfl (lv_at hl 3 rfl) ?_
      refine z_icle (tgt := 26) hx hb ⟨by omega, by omega⟩ ⟨by omega, by omega⟩ dX2_read_19 (by decide) (fun c_19 => ?_) (fun c_19 => ?_)
      · refine lv_iconst (v := zI 0) hx hb dX2_read_26 rfl ?_
        refine z_zast (f := m1) (v := false) hx hb hK hP hD hS 15 5 rfl rfl ⟨⟨by omega, by omega⟩, by decide⟩ dX2_read_27 (fun H locs hP hD hS => ?_)
        have hP : va_P D vwCl (wH α γ (h, old, ch) rg (bu m1 i false, fe, se, gn, fp, sp, np, tot, clo, lon) sl pd ct sg od hs) H := hP
        have hD : va_D A (wH α γ (h, old, ch) rg (bu m1 i false, fe, se, gn, fp, sp, np, tot, clo, lon) sl pd ct sg od hs) := hD
        refine z_iinc (k := 0) (v := i + 1) (lv' := [(3, .int (zI (i + 1))), (0, .ref (α 3)), (1, .ref (α 1)), (2, .int (zI lv9))]) hx hb dX2_read_28 hl rfl rfl (by decide) rfl (fun ls hl => ?_)
        refine lv_goto (tgt := 2) hx hb dX2_read_31 (by decide) ?_
        exact ih_2 (bu m1 i false) (i + 1) _ _ hP hD hS _ (lv_sub hl [0, 1, 2, 3] rfl) (by first | assumption | rfl | omega) (by rw [hm1]; exact bmix_up hi.1 (by unfold S_hi; rw [← hv15_2 (by omega)]; first | exact (decide_eq_true (by omega)).symm | exact (decide_eq_false (by omega)).symm)) (by omega)
      · refine lv_iconst (v := zI 1) hx hb dX2_read_22 rfl ?_
        refine lv_goto (tgt := 27) hx hb dX2_read_23 (by decide) ?_
        refine z_zast (f := m1) (v := true) hx hb hK hP hD hS 15 5 rfl rfl ⟨⟨by omega, by omega⟩, by decide⟩ dX2_read_27 (fun H locs hP hD hS => ?_)
        have hP : va_P D vwCl (wH α γ (h, old, ch) rg (bu m1 i true, fe, se, gn, fp, sp, np, tot, clo, lon) sl pd ct sg od hs) H := hP
        have hD : va_D A (wH α γ (h, old, ch) rg (bu m1 i true, fe, se, gn, fp, sp, np, tot, clo, lon) sl pd ct sg od hs) := hD
        refine z_iinc (k := 0) (v := i + 1) (lv' := [(3, .int (zI (i + 1))), (0, .ref (α 3)), (1, .ref (α 1)), (2, .int (zI lv9))]) hx hb dX2_read_28 hl rfl rfl (by decide) rfl (fun ls hl => ?_)
        refine lv_goto (tgt := 2) hx hb dX2_read_31 (by decide) ?_
        exact ih_2 (bu m1 i true) (i + 1) _ _ hP hD hS _ (lv_sub hl [0, 1, 2, 3] rfl) (by first | assumption | rfl | omega) (by rw [hm1]; exact bmix_up hi.1 (by unfold S_hi; rw [← hv15_2 (by omega)]; first | exact (decide_eq_true (by omega)).symm | exact (decide_eq_false (by omega)).symm)) (by omega)

abbrev wz_X2_isAtBorder : List Cond := .code yX2_isAtBorder cX2_isAtBorder 2 (some .boolean) :: W0
abbrev rm_X2_isAtBorder : Room := { frames := 0, cells := 0, slots := 0, locals := 0 }
theorem hd_X2_isAtBorder : yX2_isAtBorder.cls = RX2 ∧ yX2_isAtBorder.cls ≠ "java/lang/invoke/MethodHandle" ∧ yX2_isAtBorder.cls ≠ "java/lang/invoke/VarHandle" ∧ (parseMethodDescriptor yX2_isAtBorder.desc).map (fun d => d.parameters.length) = some 1 := by decide +kernel
set_option maxHeartbeats 4000000 in
set_option maxRecDepth 100000 in
theorem c_X2_isAtBorder (l : Launch) (D : va_G) (τ : Nat → Nat) (α : Nat → Nat) (γ : Nat → ClassId) (rl : TRl) (rg : TRg) (hi8 : BA) (fe : IA) (se : IA) (gn : BA) (fp : IA) (sp : IA) (np : Int) (tot : Int) (clo : Int) (lon : Int) (sl : TSl) (pd : TPd) (ct : TCt) (sg : TSg) (od : TOd) (hs : THs) (e1 : Int) (he : 0 ≤ e1 ∧ e1 < 84) (hfp : ∀ k, 0 ≤ k → k < 84 → -1 ≤ fp k ∧ fp k ≤ 71) (hsp : ∀ k, 0 ≤ k → k < 84 → -1 ≤ sp k ∧ sp k ≤ 71) : cM l yX2_isAtBorder wz_X2_isAtBorder rm_X2_isAtBorder D τ (tyH γ) [.ref (α 3), .int (zI e1)] (wH α γ rl rg (hi8, fe, se, gn, fp, sp, np, tot, clo, lon) sl pd ct sg od hs) (zQi (fun r w => ∃ (v : Bool), (v = true ↔ (¬ fp e1 = -1 ∧ sp e1 = -1)) ∧ r = bI v ∧ wH α γ rl rg (hi8, fe, se, gn, fp, sp, np, tot, clo, lon) sl pd ct sg od hs = w)) := by
  refine z_ofM (cc := cX2_isAtBorder) (maxL := 2) (ret := (some .boolean)) (by decide +kernel) rfl (Nat.le_of_ble_eq_true rfl) ?_
  intro pg e s m args below meth c hC hr hlk hnm hK hP A hD hG hA hS ls hl Q hQ
  have hx := hC.1
  have hb := hC.2.1
  have hml := hC.2.2.1
  have hown := hC.2.2.2.1
  have hts := hC.2.2.2.2
  have hB : ∀ w ∈ W0, w ∈ wz_X2_isAtBorder := fun _ h => List.mem_cons_of_mem _ h
  have hW0 : ∀ w ∈ W0, w.before args s = true := fun w h => hts w (hB w h)
  have hl : lv_has ls 2 [(0, .ref (α 3)), (1, .int (zI e1))] := hl
  refine lv_iload_n hx hb dX2_isAtBorder_0 rfl (lv_at hl 1 rfl) ?_
  refine z_iflt (tgt := 34) hx hb ⟨by omega, by omega⟩ dX2_isAtBorder_1 (by decide) (fun c_1 => ?_) (fun c_1 => ?_)
  · exact absurd c_1 (by omega)
  · refine lv_iload_n hx hb dX2_isAtBorder_4 rfl (lv_at hl 1 rfl) ?_
    refine lv_bipush (v := zI 84) hx hb dX2_isAtBorder_5 (zI_b8 (by decide)) ?_
    refine z_icge (tgt := 34) hx hb ⟨by omega, by omega⟩ ⟨by omega, by omega⟩ dX2_isAtBorder_7 (by decide) (fun c_7 => ?_) (fun c_7 => ?_)
    · exact absurd c_7 (by omega)
    · refine lv_aload_n hx hb dX2_isAtBorder_10 rfl (lv_at hl 0 rfl) ?_
      refine va_get (D := D) (ci := 2) (v := .ref (α 19)) (C := RX2) (T := TX2) (N := 10) hx hb hts (fun w h => List.mem_cons_of_mem _ (wx_X2 w h)) hown hK hP 3 rfl rfl 4 (by decide) (hW0 _ wf_X2_25) (fun _ h9 => h9) rfl dX2_isAtBorder_11 ?_
      refine lv_iload_n hx hb dX2_isAtBorder_14 rfl (lv_at hl 1 rfl) ?_
      refine z_iald (f := fp) hx hb hK hP 19 9 rfl rfl ⟨⟨by omega, by omega⟩, by decide⟩ dX2_isAtBorder_15 ?_
      have hb_15 := hfp e1 (by omega) (by omega)
      refine lv_iconst (v := zI (-1)) hx hb dX2_isAtBorder_16 rfl ?_
      refine z_iceq (tgt := 34) hx hb ⟨by omega, by omega⟩ ⟨by omega, by omega⟩ dX2_isAtBorder_17 (by decide) (fun c_17 => ?_) (fun c_17 => ?_)
      · refine lv_iconst (v := zI 0) hx hb dX2_isAtBorder_34 rfl ?_
        refine W.eq (g2 := F0 m 35 ls [.int (bI false)]) rfl ?_
        exact z_zret hC hr hlk hQ hP hD hS ⟨false, (by constructor <;> intro h9 <;> first | (cases h9; done) | rfl | omega | assumption), rfl, rfl⟩ dX2_isAtBorder_35
      · refine lv_aload_n hx hb dX2_isAtBorder_20 rfl (lv_at hl 0 rfl) ?_
        refine va_get (D := D) (ci := 2) (v := .ref (α 20)) (C := RX2) (T := TX2) (N := 10) hx hb hts (fun w h => List.mem_cons_of_mem _ (wx_X2 w h)) hown hK hP 3 rfl rfl 5 (by decide) (hW0 _ wf_X2_28) (fun _ h9 => h9) rfl dX2_isAtBorder_21 ?_
        refine lv_iload_n hx hb dX2_isAtBorder_24 rfl (lv_at hl 1 rfl) ?_
        refine z_iald (f := sp) hx hb hK hP 20 10 rfl rfl ⟨⟨by omega, by omega⟩, by decide⟩ dX2_isAtBorder_25 ?_
        have hb_25 := hsp e1 (by omega) (by omega)
        refine lv_iconst (v := zI (-1)) hx hb dX2_isAtBorder_26 rfl ?_
        refine z_icne (tgt := 34) hx hb ⟨by omega, by omega⟩ ⟨by omega, by omega⟩ dX2_isAtBorder_27 (by decide) (fun c_27 => ?_) (fun c_27 => ?_)
        · refine lv_iconst (v := zI 0) hx hb dX2_isAtBorder_34 rfl ?_
          refine W.eq (g2 := F0 m 35 ls [.int (bI false)]) rfl ?_
          exact z_zret hC hr hlk hQ hP hD hS ⟨false, (by constructor <;> intro h9 <;> first | (cases h9; done) | rfl | omega | assumption), rfl, rfl⟩ dX2_isAtBorder_35
        · refine lv_iconst (v := zI 1) hx hb dX2_isAtBorder_30 rfl ?_
          refine lv_goto (tgt := 35) hx hb dX2_isAtBorder_31 (by decide) ?_
          refine W.eq (g2 := F0 m 35 ls [.int (bI true)]) rfl ?_
          exact z_zret hC hr hlk hQ hP hD hS ⟨true, (by constructor <;> intro h9 <;> first | (cases h9; done) | rfl | omega | assumption), rfl, rfl⟩ dX2_isAtBorder_35

abbrev wz_X2_crossedEdges : List Cond := .code yX2_crossedEdges cX2_crossedEdges 3 (some .int) :: W0
abbrev rm_X2_crossedEdges : Room := { frames := 1, cells := 0, slots := 0, locals := 21 }
theorem hd_X2_crossedEdges : yX2_crossedEdges.cls = RX2 ∧ yX2_crossedEdges.cls ≠ "java/lang/invoke/MethodHandle" ∧ yX2_crossedEdges.cls ≠ "java/lang/invoke/VarHandle" ∧ (parseMethodDescriptor yX2_crossedEdges.desc).map (fun d => d.parameters.length) = some 0 := by decide +kernel
set_option maxHeartbeats 4000000 in
set_option maxRecDepth 100000 in
theorem c_X2_crossedEdges (l : Launch) (D : va_G) (τ : Nat → Nat) (α : Nat → Nat) (γ : Nat → ClassId) (rl : TRl) (rg : TRg) (hi8 : BA) (fe : IA) (se : IA) (gn : BA) (fp : IA) (sp : IA) (np : Int) (tot : Int) (clo : Int) (lon : Int) (sl : TSl) (pd : TPd) (ct : TCt) (sg : TSg) (od : TOd) (hs : THs) (hLF : LF hi8 fe se fp sp np) : cM l yX2_crossedEdges wz_X2_crossedEdges rm_X2_crossedEdges D τ (tyH γ) [.ref (α 3)] (wH α γ rl rg (hi8, fe, se, gn, fp, sp, np, tot, clo, lon) sl pd ct sg od hs) (zQi (fun r w => ∃ (v : Int), (v = S_ncross hi8) ∧ (0 ≤ v ∧ v ≤ 84) ∧ r = zI v ∧ wH α γ rl rg (hi8, fe, se, gn, fp, sp, np, tot, clo, lon) sl pd ct sg od hs = w)) := by
  refine z_ofM (cc := cX2_crossedEdges) (maxL := 3) (ret := (some .int)) (by decide +kernel) rfl (Nat.le_of_ble_eq_true rfl) ?_
  intro pg e s m args below meth c hC hr hlk hnm hK hP A hD hG hA hS ls hl Q hQ
  have hx := hC.1
  have hb := hC.2.1
  have hml := hC.2.2.1
  have hown := hC.2.2.2.1
  have hts := hC.2.2.2.2
  have hB : ∀ w ∈ W0, w ∈ wz_X2_crossedEdges := fun _ h => List.mem_cons_of_mem _ h
  have hW0 : ∀ w ∈ W0, w.before args s = true := fun w h => hts w (hB w h)
  have hl : lv_has ls 3 [(0, .ref (α 3))] := hl
  have hlb := LF_b hLF
  have hlb1 := hlb.1
  have hcr := LF_cross hLF
  have hnb : 0 ≤ S_ncross hi8 ∧ S_ncross hi8 ≤ 84 := zC_b _ (by omega)
  refine lv_iconst (v := zI 2) hx hb dX2_crossedEdges_0 rfl ?_
  refine lv_aload_n hx hb dX2_crossedEdges_1 rfl (lv_at hl 0 rfl) ?_
  refine va_get (D := D) (ci := 2) (v := .int (zI np)) (C := RX2) (T := TX2) (N := 10) hx hb hts (fun w h => List.mem_cons_of_mem _ (wx_X2 w h)) hown hK hP 3 rfl rfl 6 (by decide) (hW0 _ wf_X2_31) (fun _ h9 => h9) rfl dX2_crossedEdges_2 ?_
  refine z_imul hx hb dX2_crossedEdges_5 ?_
  refine lv_istore_n (lv' := [(1, .int (zI (2 * np))), (0, .ref (α 3))]) hx hb dX2_crossedEdges_6 rfl hl (by decide) rfl (fun ls hl => ?_)
  refine lv_iconst (v := zI 0) hx hb dX2_crossedEdges_7 rfl ?_
  refine lv_istore_n (lv' := [(2, .int (zI 0)), (1, .int (zI (2 * np))), (0, .ref (α 3))]) hx hb dX2_crossedEdges_8 rfl hl (by decide) rfl (fun ls hl => ?_)
  suffices HL_9 : ∀ (n_9 : Nat), ∀ (g : Int) (i : Int) (H : Heap) (locs : List Loc) (hP : va_P D vwCl (wH α γ rl rg (hi8, fe, se, gn, fp, sp, np, tot, clo, lon) sl pd ct sg od hs) H) (hD : va_D A (wH α γ rl rg (hi8, fe, se, gn, fp, sp, np, tot, clo, lon) sl pd ct sg od hs)) (hS : va_S A s.heap H locs) (ls : Array Slot) (hl : lv_has ls 3 [(1, .int (zI g)), (2, .int (zI i)), (0, .ref (α 3))]) (hi : 0 ≤ i ∧ i ≤ 84) (hg : g = 2 * np + zC (fun e => decide (fp e ≠ -1) && decide (sp e = -1)) i) (hgb : 0 ≤ g ∧ g ≤ 144 + i) (hm : (84 - i).toNat < n_9), W pg l e rm_X2_crossedEdges s m args below meth c H locs 0 0 Q (F0 m 9 ls []) from HL_9 _ (2 * np) 0 _ _ hP hD hS _ (lv_sub hl [1, 0, 2] rfl) (by first | assumption | rfl | omega) (by rw [zC_0]; omega) (by first | assumption | rfl | omega) (Nat.lt_succ_self _)
  intro n_9
  induction n_9 with
  | zero => intro g i H locs hP hD hS ls hl hi hg hgb hm; exact absurd hm (Nat.not_lt_zero _)
  | succ n_9 ih_9 =>
    intro g i H locs hP hD hS ls hl hi hg hgb hm
    refine lv_iload_n hx hb dX2_crossedEdges_9 rfl (lv_at hl 1 rfl) ?_
    refine lv_bipush (v := zI 84) hx hb dX2_crossedEdges_10 (zI_b8 (by decide)) ?_
    refine z_icge (tgt := 32) hx hb ⟨by omega, by omega⟩ ⟨by omega, by omega⟩ dX2_crossedEdges_12 (by decide) (fun c_12 => ?_) (fun c_12 => ?_)
    · have hg84 : g = 2 * S_ncross hi8 := by rw [hg, show i = 84 by omega]; exact hcr
      refine lv_iload_n hx hb dX2_crossedEdges_32 rfl (lv_at hl 0 rfl) ?_
      refine lv_iconst (v := zI 2) hx hb dX2_crossedEdges_33 rfl ?_
      refine z_idiv hx hb ⟨⟨by omega, by omega⟩, by omega, by omega⟩ dX2_crossedEdges_34 ?_
      exact z_iret hC hr hlk hQ hP hD hS ⟨g / 2, (by omega), (by omega), rfl, rfl⟩ dX2_crossedEdges_35
    · refine lv_aload_n hx hb dX2_crossedEdges_15 rfl (lv_at hl 2 rfl) ?_
      refine lv_iload_n hx hb dX2_crossedEdges_16 rfl (lv_at hl 1 rfl) ?_
      refine z_calli hP hD hS hA (va_runV (As := [.int (zI i)]) (rest := []) hC (c_X2_isAtBorder l D τ α γ rl rg hi8 fe se gn fp sp np tot clo lon sl pd ct sg od hs i (by first | assumption | rfl | omega) (by exact hlb.2.1) (by exact hlb.2.2) _) (cwV 1 hts (gV hB wl_X2_94 wn_X2_isAtBorder ws_X2_isAtBorder wi_X2 wc_X2_isAtBorder) rfl rfl rfl hd_X2_isAtBorder ⟨Nat.le_of_ble_eq_true rfl, Nat.le_of_ble_eq_true rfl⟩) (zp_V hK hP hD hS hA hG (ci := 2) (q0 := 3) rfl rfl rfl) rfl rfl hl.1 rfl (lv_room (Nat.le_of_ble_eq_true rfl)) dX2_crossedEdges_17 ⟨Nat.le_of_ble_eq_true rfl, Nat.le_of_ble_eq_true rfl⟩) (fun r w1 H locs hq9 hP hD hS => ?_)
      obtain ⟨v17_1, hv17_0, rfl, rfl⟩ := hq9
      have hP : va_P D vwCl (wH α γ rl rg (hi8, fe, se, gn, fp, sp, np, tot, clo, lon) sl pd ct sg od hs) H := hP
      have hD : va_D A (wH α γ rl rg (hi8, fe, se, gn, fp, sp, np, tot, clo, lon) sl pd ct sg od hs) := hD
      refine z_ifeqB (tgt := 26) hx hb dX2_crossedEdges_20 (by decide) (fun c_20 => ?_) (fun c_20 => ?_)
      · have hb_20 := zb_neg hv17_0 c_20
        refine z_iinc (k := 1) (v := i + 1) (lv' := [(2, .int (zI (i + 1))), (1, .int (zI g)), (0, .ref (α 3))]) hx hb dX2_crossedEdges_26 hl rfl rfl (by decide) rfl (fun ls hl => ?_)
        refine lv_goto (tgt := 9) hx hb dX2_crossedEdges_29 (by decide) ?_
        exact ih_9 g (i + 1) _ _ hP hD hS _ (lv_sub hl [1, 0, 2] rfl) (by first | assumption | rfl | omega) (by rw [zC_up hi.1]; first | (rw [z1_t (bd_iff9.mpr hb_20)]; omega) | (rw [z1_f (Bool.eq_false_iff.mpr (fun h9 => hb_20 (bd_iff9.mp h9)))]; omega)) (by first | assumption | rfl | omega) (by omega)
      · have hb_20 := hv17_0.mp c_20
        refine z_iinc (k := 0) (v := g + 1) (lv' := [(1, .int (zI (g + 1))), (2, .int (zI i)), (0, .ref (α 3))]) hx hb dX2_crossedEdges_23 hl rfl rfl (by decide) rfl (fun ls hl => ?_)
        refine z_iinc (k := 1) (v := i + 1) (lv' := [(2, .int (zI (i + 1))), (1, .int (zI (g + 1))), (0, .ref (α 3))]) hx hb dX2_crossedEdges_26 hl rfl rfl (by decide) rfl (fun ls hl => ?_)
        refine lv_goto (tgt := 9) hx hb dX2_crossedEdges_29 (by decide) ?_
        exact ih_9 (g + 1) (i + 1) _ _ hP hD hS _ (lv_sub hl [1, 0, 2] rfl) (by first | assumption | rfl | omega) (by rw [zC_up hi.1]; first | (rw [z1_t (bd_iff9.mpr hb_20)]; omega) | (rw [z1_f (Bool.eq_false_iff.mpr (fun h9 => hb_20 (bd_iff9.mp h9)))]; omega)) (by first | assumption | rfl | omega) (by omega)

abbrev wz_X2_isAhead : List Cond := .code yX2_isAhead cX2_isAhead 2 (some .boolean) :: W0
abbrev rm_X2_isAhead : Room := { frames := 0, cells := 0, slots := 0, locals := 0 }
theorem hd_X2_isAhead : yX2_isAhead.cls = RX2 ∧ yX2_isAhead.cls ≠ "java/lang/invoke/MethodHandle" ∧ yX2_isAhead.cls ≠ "java/lang/invoke/VarHandle" ∧ (parseMethodDescriptor yX2_isAhead.desc).map (fun d => d.parameters.length) = some 1 := by decide +kernel
set_option maxHeartbeats 4000000 in
set_option maxRecDepth 100000 in
theorem c_X2_isAhead (l : Launch) (D : va_G) (τ : Nat → Nat) (α : Nat → Nat) (γ : Nat → ClassId) (rl : TRl) (rg : TRg) (hi8 : BA) (fe : IA) (se : IA) (gn : BA) (fp : IA) (sp : IA) (np : Int) (tot : Int) (clo : Int) (lon : Int) (sl : TSl) (pd : TPd) (ct : TCt) (sg : TSg) (od : TOd) (hs : THs) (p1 : Int) (hp : -1 ≤ p1 ∧ p1 ≤ 72) (hnp : 0 ≤ np ∧ np ≤ 72) : cM l yX2_isAhead wz_X2_isAhead rm_X2_isAhead D τ (tyH γ) [.ref (α 3), .int (zI p1)] (wH α γ rl rg (hi8, fe, se, gn, fp, sp, np, tot, clo, lon) sl pd ct sg od hs) (zQi (fun r w => ∃ (v : Bool), (v = true ↔ (0 ≤ p1 ∧ p1 < np ∧ gn p1 = false)) ∧ r = bI v ∧ wH α γ rl rg (hi8, fe, se, gn, fp, sp, np, tot, clo, lon) sl pd ct sg od hs = w)) := by
  refine z_ofM (cc := cX2_isAhead) (maxL := 2) (ret := (some .boolean)) (by decide +kernel) rfl (Nat.le_of_ble_eq_true rfl) ?_
  intro pg e s m args below meth c hC hr hlk hnm hK hP A hD hG hA hS ls hl Q hQ
  have hx := hC.1
  have hb := hC.2.1
  have hml := hC.2.2.1
  have hown := hC.2.2.2.1
  have hts := hC.2.2.2.2
  have hB : ∀ w ∈ W0, w ∈ wz_X2_isAhead := fun _ h => List.mem_cons_of_mem _ h
  have hW0 : ∀ w ∈ W0, w.before args s = true := fun w h => hts w (hB w h)
  have hl : lv_has ls 2 [(0, .ref (α 3)), (1, .int (zI p1))] := hl
  refine lv_iload_n hx hb dX2_isAhead_0 rfl (lv_at hl 1 rfl) ?_
  refine z_iflt (tgt := 31) hx hb ⟨by omega, by omega⟩ dX2_isAhead_1 (by decide) (fun c_1 => ?_) (fun c_1 => ?_)
  · refine lv_iconst (v := zI 0) hx hb dX2_isAhead_31 rfl ?_
    refine W.eq (g2 := F0 m 32 ls [.int (bI false)]) rfl ?_
    exact z_zret hC hr hlk hQ hP hD hS ⟨false, (by first | exact ⟨fun _ => ⟨by omega, by omega, c_24⟩, fun _ => rfl⟩ | exact ⟨fun h9 => (by cases h9), fun h9 => absurd h9.1 (by omega)⟩ | exact ⟨fun h9 => (by cases h9), fun h9 => absurd h9.2.1 (by omega)⟩ | exact ⟨fun h9 => (by cases h9), fun h9 => (by rw [h9.2.2] at c_24; cases c_24)⟩), rfl, rfl⟩ dX2_isAhead_32
  · refine lv_iload_n hx hb dX2_isAhead_4 rfl (lv_at hl 1 rfl) ?_
    refine lv_aload_n hx hb dX2_isAhead_5 rfl (lv_at hl 0 rfl) ?_
    refine va_get (D := D) (ci := 2) (v := .int (zI np)) (C := RX2) (T := TX2) (N := 10) hx hb hts (fun w h => List.mem_cons_of_mem _ (wx_X2 w h)) hown hK hP 3 rfl rfl 6 (by decide) (hW0 _ wf_X2_31) (fun _ h9 => h9) rfl dX2_isAhead_6 ?_
    refine z_icge (tgt := 31) hx hb ⟨by omega, by omega⟩ ⟨by omega, by omega⟩ dX2_isAhead_9 (by decide) (fun c_9 => ?_) (fun c_9 => ?_)
    · refine lv_iconst (v := zI 0) hx hb dX2_isAhead_31 rfl ?_
      refine W.eq (g2 := F0 m 32 ls [.int (bI false)]) rfl ?_
      exact z_zret hC hr hlk hQ hP hD hS ⟨false, (by first | exact ⟨fun _ => ⟨by omega, by omega, c_24⟩, fun _ => rfl⟩ | exact ⟨fun h9 => (by cases h9), fun h9 => absurd h9.1 (by omega)⟩ | exact ⟨fun h9 => (by cases h9), fun h9 => absurd h9.2.1 (by omega)⟩ | exact ⟨fun h9 => (by cases h9), fun h9 => (by rw [h9.2.2] at c_24; cases c_24)⟩), rfl, rfl⟩ dX2_isAhead_32
    · refine lv_iload_n hx hb dX2_isAhead_12 rfl (lv_at hl 1 rfl) ?_
      refine lv_bipush (v := zI 72) hx hb dX2_isAhead_13 (zI_b8 (by decide)) ?_
      refine z_icge (tgt := 31) hx hb ⟨by omega, by omega⟩ ⟨by omega, by omega⟩ dX2_isAhead_15 (by decide) (fun c_15 => ?_) (fun c_15 => ?_)
      · refine lv_iconst (v := zI 0) hx hb dX2_isAhead_31 rfl ?_
        refine W.eq (g2 := F0 m 32 ls [.int (bI false)]) rfl ?_
        exact z_zret hC hr hlk hQ hP hD hS ⟨false, (by first | exact ⟨fun _ => ⟨by omega, by omega, c_24⟩, fun _ => rfl⟩ | exact ⟨fun h9 => (by cases h9), fun h9 => absurd h9.1 (by omega)⟩ | exact ⟨fun h9 => (by cases h9), fun h9 => absurd h9.2.1 (by omega)⟩ | exact ⟨fun h9 => (by cases h9), fun h9 => (by rw [h9.2.2] at c_24; cases c_24)⟩), rfl, rfl⟩ dX2_isAhead_32
      · refine lv_aload_n hx hb dX2_isAhead_18 rfl (lv_at hl 0 rfl) ?_
        refine va_get (D := D) (ci := 2) (v := .ref (α 18)) (C := RX2) (T := TX2) (N := 10) hx hb hts (fun w h => List.mem_cons_of_mem _ (wx_X2 w h)) hown hK hP 3 rfl rfl 3 (by decide) (hW0 _ wf_X2_22) (fun _ h9 => h9) rfl dX2_isAhead_19 ?_
        refine lv_iload_n hx hb dX2_isAhead_22 rfl (lv_at hl 1 rfl) ?_
        refine z_zald (f := gn) hx hb hK hP 18 8 rfl rfl ⟨⟨by omega, by omega⟩, by decide⟩ dX2_isAhead_23 ?_
        refine z_ifneB (tgt := 31) hx hb dX2_isAhead_24 (by decide) (fun c_24 => ?_) (fun c_24 => ?_)
        · refine lv_iconst (v := zI 0) hx hb dX2_isAhead_31 rfl ?_
          refine W.eq (g2 := F0 m 32 ls [.int (bI false)]) rfl ?_
          exact z_zret hC hr hlk hQ hP hD hS ⟨false, (by first | exact ⟨fun _ => ⟨by omega, by omega, c_24⟩, fun _ => rfl⟩ | exact ⟨fun h9 => (by cases h9), fun h9 => absurd h9.1 (by omega)⟩ | exact ⟨fun h9 => (by cases h9), fun h9 => absurd h9.2.1 (by omega)⟩ | exact ⟨fun h9 => (by cases h9), fun h9 => (by rw [h9.2.2] at c_24; cases c_24)⟩), rfl, rfl⟩ dX2_isAhead_32
        · refine lv_iconst (v := zI 1) hx hb dX2_isAhead_27 rfl ?_
          refine lv_goto (tgt := 32) hx hb dX2_isAhead_28 (by decide) ?_
          refine W.eq (g2 := F0 m 32 ls [.int (bI true)]) rfl ?_
          exact z_zret hC hr hlk hQ hP hD hS ⟨true, (by first | exact ⟨fun _ => ⟨by omega, by omega, c_24⟩, fun _ => rfl⟩ | exact ⟨fun h9 => (by cases h9), fun h9 => absurd h9.1 (by omega)⟩ | exact ⟨fun h9 => (by cases h9), fun h9 => absurd h9.2.1 (by omega)⟩ | exact ⟨fun h9 => (by cases h9), fun h9 => (by rw [h9.2.2] at c_24; cases c_24)⟩), rfl, rfl⟩ dX2_isAhead_32

abbrev wz_X2_pieceBehind : List Cond := .code yX2_pieceBehind cX2_pieceBehind 3 (some .int) :: W0
abbrev rm_X2_pieceBehind : Room := { frames := 0, cells := 0, slots := 0, locals := 0 }
theorem hd_X2_pieceBehind : yX2_pieceBehind.cls = RX2 ∧ yX2_pieceBehind.cls ≠ "java/lang/invoke/MethodHandle" ∧ yX2_pieceBehind.cls ≠ "java/lang/invoke/VarHandle" ∧ (parseMethodDescriptor yX2_pieceBehind.desc).map (fun d => d.parameters.length) = some 2 := by decide +kernel
set_option maxHeartbeats 4000000 in
set_option maxRecDepth 100000 in
theorem c_X2_pieceBehind (l : Launch) (D : va_G) (τ : Nat → Nat) (α : Nat → Nat) (γ : Nat → ClassId) (rl : TRl) (rg : TRg) (hi8 : BA) (fe : IA) (se : IA) (gn : BA) (fp : IA) (sp : IA) (np : Int) (tot : Int) (clo : Int) (lon : Int) (sl : TSl) (pd : TPd) (ct : TCt) (sg : TSg) (od : TOd) (hs : THs) (e1 : Int) (p1 : Int) (he : 0 ≤ e1 ∧ e1 < 84) (hp : -1 ≤ p1 ∧ p1 ≤ 72) (hfp : ∀ k, 0 ≤ k → k < 84 → -1 ≤ fp k ∧ fp k ≤ 71) (hsp : ∀ k, 0 ≤ k → k < 84 → -1 ≤ sp k ∧ sp k ≤ 71) : cM l yX2_pieceBehind wz_X2_pieceBehind rm_X2_pieceBehind D τ (tyH γ) [.ref (α 3), .int (zI e1), .int (zI p1)] (wH α γ rl rg (hi8, fe, se, gn, fp, sp, np, tot, clo, lon) sl pd ct sg od hs) (zQi (fun r w => ∃ (v : Int), (v = oth fp sp e1 p1) ∧ (-1 ≤ v ∧ v ≤ 71) ∧ r = zI v ∧ wH α γ rl rg (hi8, fe, se, gn, fp, sp, np, tot, clo, lon) sl pd ct sg od hs = w)) := by
  refine z_ofM (cc := cX2_pieceBehind) (maxL := 3) (ret := (some .int)) (by decide +kernel) rfl (Nat.le_of_ble_eq_true rfl) ?_
  intro pg e s m args below meth c hC hr hlk hnm hK hP A hD hG hA hS ls hl Q hQ
  have hx := hC.1
  have hb := hC.2.1
  have hml := hC.2.2.1
  have hown := hC.2.2.2.1
  have hts := hC.2.2.2.2
  have hB : ∀ w ∈ W0, w ∈ wz_X2_pieceBehind := fun _ h => List.mem_cons_of_mem _ h
  have hW0 : ∀ w ∈ W0, w.before args s = true := fun w h => hts w (hB w h)
  have hl : lv_has ls 3 [(0, .ref (α 3)), (1, .int (zI e1)), (2, .int (zI p1))] := hl
  refine lv_iload_n hx hb dX2_pieceBehind_0 rfl (lv_at hl 1 rfl) ?_
  refine z_iflt (tgt := 10) hx hb ⟨by omega, by omega⟩ dX2_pieceBehind_1 (by decide) (fun c_1 => ?_) (fun c_1 => ?_)
  · exact absurd c_1 (by omega)
  · refine lv_iload_n hx hb dX2_pieceBehind_4 rfl (lv_at hl 1 rfl) ?_
    refine lv_bipush (v := zI 84) hx hb dX2_pieceBehind_5 (zI_b8 (by decide)) ?_
    refine z_iclt (tgt := 12) hx hb ⟨by omega, by omega⟩ ⟨by omega, by omega⟩ dX2_pieceBehind_7 (by decide) (fun c_7 => ?_) (fun c_7 => ?_)
    · refine lv_aload_n hx hb dX2_pieceBehind_12 rfl (lv_at hl 0 rfl) ?_
      refine va_get (D := D) (ci := 2) (v := .ref (α 19)) (C := RX2) (T := TX2) (N := 10) hx hb hts (fun w h => List.mem_cons_of_mem _ (wx_X2 w h)) hown hK hP 3 rfl rfl 4 (by decide) (hW0 _ wf_X2_25) (fun _ h9 => h9) rfl dX2_pieceBehind_13 ?_
      refine lv_iload_n hx hb dX2_pieceBehind_16 rfl (lv_at hl 1 rfl) ?_
      refine z_iald (f := fp) hx hb hK hP 19 9 rfl rfl ⟨⟨by omega, by omega⟩, by decide⟩ dX2_pieceBehind_17 ?_
      have hb_17 := hfp e1 (by omega) (by omega)
      refine lv_iload_n hx hb dX2_pieceBehind_18 rfl (lv_at hl 2 rfl) ?_
      refine z_icne (tgt := 31) hx hb ⟨by omega, by omega⟩ ⟨by omega, by omega⟩ dX2_pieceBehind_19 (by decide) (fun c_19 => ?_) (fun c_19 => ?_)
      · refine lv_aload_n hx hb dX2_pieceBehind_31 rfl (lv_at hl 0 rfl) ?_
        refine va_get (D := D) (ci := 2) (v := .ref (α 19)) (C := RX2) (T := TX2) (N := 10) hx hb hts (fun w h => List.mem_cons_of_mem _ (wx_X2 w h)) hown hK hP 3 rfl rfl 4 (by decide) (hW0 _ wf_X2_25) (fun _ h9 => h9) rfl dX2_pieceBehind_32 ?_
        refine lv_iload_n hx hb dX2_pieceBehind_35 rfl (lv_at hl 1 rfl) ?_
        refine z_iald (f := fp) hx hb hK hP 19 9 rfl rfl ⟨⟨by omega, by omega⟩, by decide⟩ dX2_pieceBehind_36 ?_
        have hb_36 := hfp e1 (by omega) (by omega)
        exact z_iret hC hr hlk hQ hP hD hS ⟨fp e1, (by unfold oth; first | (rw [if_pos c_19]; done) | (rw [if_neg c_19]; done)), (by first | assumption | rfl | omega), rfl, rfl⟩ dX2_pieceBehind_37
      · refine lv_aload_n hx hb dX2_pieceBehind_22 rfl (lv_at hl 0 rfl) ?_
        refine va_get (D := D) (ci := 2) (v := .ref (α 20)) (C := RX2) (T := TX2) (N := 10) hx hb hts (fun w h => List.mem_cons_of_mem _ (wx_X2 w h)) hown hK hP 3 rfl rfl 5 (by decide) (hW0 _ wf_X2_28) (fun _ h9 => h9) rfl dX2_pieceBehind_23 ?_
        refine lv_iload_n hx hb dX2_pieceBehind_26 rfl (lv_at hl 1 rfl) ?_
        refine z_iald (f := sp) hx hb hK hP 20 10 rfl rfl ⟨⟨by omega, by omega⟩, by decide⟩ dX2_pieceBehind_27 ?_
        have hb_27 := hsp e1 (by omega) (by omega)
        refine lv_goto (tgt := 37) hx hb dX2_pieceBehind_28 (by decide) ?_
        exact z_iret hC hr hlk hQ hP hD hS ⟨sp e1, (by unfold oth; first | (rw [if_pos c_19]; done) | (rw [if_neg c_19]; done)), (by first | assumption | rfl | omega), rfl, rfl⟩ dX2_pieceBehind_37
    · exact absurd c_7 (by omega)

abbrev wz_X2_goAlong : List Cond := .code yX2_goAlong cX2_goAlong 7 none :: W0
abbrev rm_X2_goAlong : Room := { frames := 1, cells := 0, slots := 0, locals := 22 }
theorem hd_X2_goAlong : yX2_goAlong.cls = RX2 ∧ yX2_goAlong.cls ≠ "java/lang/invoke/MethodHandle" ∧ yX2_goAlong.cls ≠ "java/lang/invoke/VarHandle" ∧ (parseMethodDescriptor yX2_goAlong.desc).map (fun d => d.parameters.length) = some 2 := by decide +kernel
set_option maxHeartbeats 4000000 in
set_option maxRecDepth 100000 in
theorem c_X2_goAlong (l : Launch) (D : va_G) (τ : Nat → Nat) (α : Nat → Nat) (γ : Nat → ClassId) (rl : TRl) (rg : TRg) (hi8 : BA) (fe : IA) (se : IA) (gn : BA) (fp : IA) (sp : IA) (np : Int) (tot : Int) (clo : Int) (lon : Int) (sl : TSl) (pd : TPd) (ct : TCt) (sg : TSg) (od : TOd) (hs : THs) (p0 : Int) (e0 : Int) (hLF : LF hi8 fe se fp sp np) (hp0 : 0 ≤ p0 ∧ p0 < np) (he0 : 0 ≤ e0 ∧ e0 < 84) (hi0 : fe p0 = e0 ∨ se p0 = e0) (hg0 : gn p0 = false) (hcl : ∀ p q, 0 ≤ p → p < np → 0 ≤ q → q < np → gn p = true → Cn (S_J hi8) (fe p) (fe q) → gn q = true) (hbd : E_q2 e0 = 36 ∨ ∀ b, 0 ≤ b → b < 84 → S_X hi8 b = true → Cn (S_J hi8) e0 b → E_q2 b ≠ 36) (hlo : 0 ≤ lon ∧ lon ≤ 72) : cM l yX2_goAlong wz_X2_goAlong rm_X2_goAlong D τ (tyH γ) [.ref (α 3), .int (zI p0), .int (zI e0)] (wH α γ rl rg (hi8, fe, se, gn, fp, sp, np, tot, clo, lon) sl pd ct sg od hs) (zQv (fun w => ∃ (gn2 : BA), ∃ (t2 : Int), ∃ (l2 : Int), (∀ p, 0 ≤ p → p < np → (gn2 p = true ↔ gn p = true ∨ Cn (S_J hi8) e0 (fe p))) ∧ (t2 = tot + 1) ∧ (l2 = zmax lon (S_psz hi8 e0)) ∧ wH α γ rl rg (hi8, fe, se, gn2, fp, sp, np, t2, clo, l2) sl pd ct sg od hs = w)) := by
  refine z_ofM (cc := cX2_goAlong) (maxL := 7) (ret := none) (by decide +kernel) rfl (Nat.le_of_ble_eq_true rfl) ?_
  intro pg e s m args below meth c hC hr hlk hnm hK hP A hD hG hA hS ls hl Q hQ
  have hx := hC.1
  have hb := hC.2.1
  have hml := hC.2.2.1
  have hown := hC.2.2.2.1
  have hts := hC.2.2.2.2
  have hB : ∀ w ∈ W0, w ∈ wz_X2_goAlong := fun _ h => List.mem_cons_of_mem _ h
  have hW0 : ∀ w ∈ W0, w.before args s = true := fun w h => hts w (hB w h)
  have hl : lv_has ls 7 [(0, .ref (α 3)), (1, .int (zI p0)), (2, .int (zI e0))] := hl
  have hlb := LF_b hLF
  have hlb1 := hlb.1
  have hlb2 := hlb.2.1
  have hlb3 := hlb.2.2
  refine lv_iload_n hx hb dX2_goAlong_0 rfl (lv_at hl 1 rfl) ?_
  refine lv_istore_n (lv' := [(3, .int (zI p0)), (0, .ref (α 3)), (1, .int (zI p0)), (2, .int (zI e0))]) hx hb dX2_goAlong_1 rfl hl (by decide) rfl (fun ls hl => ?_)
  refine lv_iload_n hx hb dX2_goAlong_2 rfl (lv_at hl 3 rfl) ?_
  refine lv_istore (lv' := [(4, .int (zI e0)), (3, .int (zI p0)), (0, .ref (α 3)), (1, .int (zI p0)), (2, .int (zI e0))]) hx hb dX2_goAlong_3 hl (by decide) rfl (fun ls hl => ?_)
  refine lv_iconst (v := zI 0) hx hb dX2_goAlong_5 rfl ?_
  refine lv_istore (lv' := [(5, .int (zI 0)), (4, .int (zI e0)), (3, .int (zI p0)), (0, .ref (α 3)), (1, .int (zI p0)), (2, .int (zI e0))]) hx hb dX2_goAlong_6 hl (by decide) rfl (fun ls hl => ?_)
  refine lv_iconst (v := zI 0) hx hb dX2_goAlong_8 rfl ?_
  refine lv_istore (lv' := [(6, .int (zI 0)), (5, .int (zI 0)), (4, .int (zI e0)), (3, .int (zI p0)), (0, .ref (α 3)), (1, .int (zI p0)), (2, .int (zI e0))]) hx hb dX2_goAlong_9 hl (by decide) rfl (fun ls hl => ?_)
  suffices HL_11 : ∀ (n_11 : Nat), ∀ (gn1 : BA) (pc9 : Int) (ed9 : Int) (k : Int) (H : Heap) (locs : List Loc) (hP : va_P D vwCl (wH α γ rl rg (hi8, fe, se, gn1, fp, sp, np, tot, clo, lon) sl pd ct sg od hs) H) (hD : va_D A (wH α γ rl rg (hi8, fe, se, gn1, fp, sp, np, tot, clo, lon) sl pd ct sg od hs)) (hS : va_S A s.heap H locs) (ls : Array Slot) (hl : lv_has ls 7 [(3, .int (zI pc9)), (4, .int (zI ed9)), (5, .int (zI k)), (6, .int (zI k)), (0, .ref (α 3)), (1, .int (zI p0)), (2, .int (zI e0))]) (hk : 0 ≤ k ∧ k ≤ 72) (hGQ : GQ hi8 fe se fp sp np gn p0 e0 gn1 pc9 ed9 k) (hm : (72 - k).toNat < n_11), W pg l e rm_X2_goAlong s m args below meth c H locs 0 0 Q (F0 m 11 ls []) from HL_11 _ gn p0 e0 0 _ _ hP hD hS _ (lv_sub hl [3, 2, 1, 0, 4, 5, 6] rfl) (by first | assumption | rfl | omega) (by exact GQ_0 hp0 he0 hi0 hg0) (Nat.lt_succ_self _)
  intro n_11
  induction n_11 with
  | zero => intro gn1 pc9 ed9 k H locs hP hD hS ls hl hk hGQ hm; exact absurd hm (Nat.not_lt_zero _)
  | succ n_11 ih_11 =>
    intro gn1 pc9 ed9 k H locs hP hD hS ls hl hk hGQ hm
    have hgb := GQ_b hLF hGQ
    refine lv_iload hx hb dX2_goAlong_11 (lv_at hl 3 rfl) ?_
    refine lv_bipush (v := zI 72) hx hb dX2_goAlong_13 (zI_b8 (by decide)) ?_
    refine z_icge (tgt := 78) hx hb ⟨by omega, by omega⟩ ⟨by omega, by omega⟩ dX2_goAlong_15 (by decide) (fun c_15 => ?_) (fun c_15 => ?_)
    · have hsx := GQ_full hLF hGQ (by omega)
      have hend := GQ_end hLF hGQ hp0 he0 hi0 hcl hbd hsx
      refine lv_aload_n hx hb dX2_goAlong_78 rfl (lv_at hl 4 rfl) ?_
      refine lv_dup hx hb dX2_goAlong_79 rfl ?_
      refine va_get (D := D) (ci := 2) (v := .int (zI tot)) (C := RX2) (T := TX2) (N := 10) hx hb hts (fun w h => List.mem_cons_of_mem _ (wx_X2 w h)) hown hK hP 3 rfl rfl 7 (by decide) (hW0 _ wf_X2_35) (fun _ h9 => h9) rfl dX2_goAlong_80 ?_
      refine lv_iconst (v := zI 1) hx hb dX2_goAlong_83 rfl ?_
      refine z_iadd hx hb dX2_goAlong_84 ?_
      refine va_put (D := D) (ci := 2) (v := .int (zI (tot + 1))) (ty := .int) (C := RX2) (T := TX2) (N := 10) hx hb hts (fun w h => List.mem_cons_of_mem _ (wx_X2 w h)) tyX2 tyX2_ok nmX2 hown hK hP hD hS 3 rfl rfl 7 (by decide) (hW0 _ wf_X2_35) (fun _ h9 => h9) rfl (by decide +kernel) rfl rfl (Nat.le_of_ble_eq_true rfl) dX2_goAlong_85 (fun H locs hP hD hS => ?_)
      have hP : va_P D vwCl (wH α γ rl rg (hi8, fe, se, gn1, fp, sp, np, tot + 1, clo, lon) sl pd ct sg od hs) H := hP
      have hD : va_D A (wH α γ rl rg (hi8, fe, se, gn1, fp, sp, np, tot + 1, clo, lon) sl pd ct sg od hs) := hD
      refine lv_aload_n hx hb dX2_goAlong_88 rfl (lv_at hl 4 rfl) ?_
      refine lv_aload_n hx hb dX2_goAlong_89 rfl (lv_at hl 4 rfl) ?_
      refine va_get (D := D) (ci := 2) (v := .int (zI lon)) (C := RX2) (T := TX2) (N := 10) hx hb hts (fun w h => List.mem_cons_of_mem _ (wx_X2 w h)) hown hK hP 3 rfl rfl 9 (by decide) (hW0 _ wf_X2_41) (fun _ h9 => h9) rfl dX2_goAlong_90 ?_
      refine lv_iload hx hb dX2_goAlong_93 (lv_at hl 2 rfl) ?_
      refine z_mmax hx hb (hml.trans hl.1.symm) hown (hW0 _ wl_X2_106) (hW0 _ wt_Lib_Math_max_name) (hW0 _ wi_Math) (hW0 _ wc_Lib_Math_max_name) (Nat.le_of_ble_eq_true rfl) (Nat.le_of_ble_eq_true rfl) (Nat.le_of_ble_eq_true rfl) (Nat.le_of_ble_eq_true rfl) ⟨by omega, by omega⟩ ⟨by omega, by omega⟩ dX2_goAlong_95 ?_
      obtain ⟨x95_1, hx95_1⟩ : ∃ z : Int, z = zmax lon k := ⟨_, rfl⟩
      rw [← hx95_1]
      have kx95_1 := zmax_spec lon k
      rw [← hx95_1] at kx95_1
      refine va_put (D := D) (ci := 2) (v := .int (zI x95_1)) (ty := .int) (C := RX2) (T := TX2) (N := 10) hx hb hts (fun w h => List.mem_cons_of_mem _ (wx_X2 w h)) tyX2 tyX2_ok nmX2 hown hK hP hD hS 3 rfl rfl 9 (by decide) (hW0 _ wf_X2_41) (fun _ h9 => h9) rfl (by decide +kernel) rfl rfl (Nat.le_of_ble_eq_true rfl) dX2_goAlong_98 (fun H locs hP hD hS => ?_)
      have hP : va_P D vwCl (wH α γ rl rg (hi8, fe, se, gn1, fp, sp, np, tot + 1, clo, x95_1) sl pd ct sg od hs) H := hP
      have hD : va_D A (wH α γ rl rg (hi8, fe, se, gn1, fp, sp, np, tot + 1, clo, x95_1) sl pd ct sg od hs) := hD
      exact z_vret hC hr hlk hQ hP hD hS ⟨gn1, tot + 1, x95_1, (by exact hend.1), (by rfl), (by rw [hx95_1, hend.2]), rfl⟩ dX2_goAlong_101
    · refine lv_aload_n hx hb dX2_goAlong_18 rfl (lv_at hl 4 rfl) ?_
      refine lv_iload_n hx hb dX2_goAlong_19 rfl (lv_at hl 0 rfl) ?_
      refine z_calli hP hD hS hA (va_runV (As := [.int (zI pc9)]) (rest := []) hC (c_X2_isAhead l D τ α γ rl rg hi8 fe se gn1 fp sp np tot clo lon sl pd ct sg od hs pc9 (by first | assumption | rfl | omega) (by first | assumption | rfl | omega) _) (cwV 1 hts (gV hB wl_X2_97 wn_X2_isAhead ws_X2_isAhead wi_X2 wc_X2_isAhead) rfl rfl rfl hd_X2_isAhead ⟨Nat.le_of_ble_eq_true rfl, Nat.le_of_ble_eq_true rfl⟩) (zp_V hK hP hD hS hA hG (ci := 2) (q0 := 3) rfl rfl rfl) rfl rfl hl.1 rfl (lv_room (Nat.le_of_ble_eq_true rfl)) dX2_goAlong_20 ⟨Nat.le_of_ble_eq_true rfl, Nat.le_of_ble_eq_true rfl⟩) (fun r w1 H locs hq9 hP hD hS => ?_)
      obtain ⟨v20_2, hv20_0, rfl, rfl⟩ := hq9
      have hP : va_P D vwCl (wH α γ rl rg (hi8, fe, se, gn1, fp, sp, np, tot, clo, lon) sl pd ct sg od hs) H := hP
      have hD : va_D A (wH α γ rl rg (hi8, fe, se, gn1, fp, sp, np, tot, clo, lon) sl pd ct sg od hs) := hD
      refine z_ifeqB (tgt := 78) hx hb dX2_goAlong_23 (by decide) (fun c_23 => ?_) (fun c_23 => ?_)
      · have hb_23 := zb_neg hv20_0 c_23
        have hsx := GQ_stop hGQ hb_23
        have hend := GQ_end hLF hGQ hp0 he0 hi0 hcl hbd hsx
        refine lv_aload_n hx hb dX2_goAlong_78 rfl (lv_at hl 4 rfl) ?_
        refine lv_dup hx hb dX2_goAlong_79 rfl ?_
        refine va_get (D := D) (ci := 2) (v := .int (zI tot)) (C := RX2) (T := TX2) (N := 10) hx hb hts (fun w h => List.mem_cons_of_mem _ (wx_X2 w h)) hown hK hP 3 rfl rfl 7 (by decide) (hW0 _ wf_X2_35) (fun _ h9 => h9) rfl dX2_goAlong_80 ?_
        refine lv_iconst (v := zI 1) hx hb dX2_goAlong_83 rfl ?_
        refine z_iadd hx hb dX2_goAlong_84 ?_
        refine va_put (D := D) (ci := 2) (v := .int (zI (tot + 1))) (ty := .int) (C := RX2) (T := TX2) (N := 10) hx hb hts (fun w h => List.mem_cons_of_mem _ (wx_X2 w h)) tyX2 tyX2_ok nmX2 hown hK hP hD hS 3 rfl rfl 7 (by decide) (hW0 _ wf_X2_35) (fun _ h9 => h9) rfl (by decide +kernel) rfl rfl (Nat.le_of_ble_eq_true rfl) dX2_goAlong_85 (fun H locs hP hD hS => ?_)
        have hP : va_P D vwCl (wH α γ rl rg (hi8, fe, se, gn1, fp, sp, np, tot + 1, clo, lon) sl pd ct sg od hs) H := hP
        have hD : va_D A (wH α γ rl rg (hi8, fe, se, gn1, fp, sp, np, tot + 1, clo, lon) sl pd ct sg od hs) := hD
        refine lv_aload_n hx hb dX2_goAlong_88 rfl (lv_at hl 4 rfl) ?_
        refine lv_aload_n hx hb dX2_goAlong_89 rfl (lv_at hl 4 rfl) ?_
        refine va_get (D := D) (ci := 2) (v := .int (zI lon)) (C := RX2) (T := TX2) (N := 10) hx hb hts (fun w h => List.mem_cons_of_mem _ (wx_X2 w h)) hown hK hP 3 rfl rfl 9 (by decide) (hW0 _ wf_X2_41) (fun _ h9 => h9) rfl dX2_goAlong_90 ?_
        refine lv_iload hx hb dX2_goAlong_93 (lv_at hl 2 rfl) ?_
        refine z_mmax hx hb (hml.trans hl.1.symm) hown (hW0 _ wl_X2_106) (hW0 _ wt_Lib_Math_max_name) (hW0 _ wi_Math) (hW0 _ wc_Lib_Math_max_name) (Nat.le_of_ble_eq_true rfl) (Nat.le_of_ble_eq_true rfl) (Nat.le_of_ble_eq_true rfl) (Nat.le_of_ble_eq_true rfl) ⟨by omega, by omega⟩ ⟨by omega, by omega⟩ dX2_goAlong_95 ?_
        obtain ⟨x95_3, hx95_3⟩ : ∃ z : Int, z = zmax lon k := ⟨_, rfl⟩
        rw [← hx95_3]
        have kx95_3 := zmax_spec lon k
        rw [← hx95_3] at kx95_3
        refine va_put (D := D) (ci := 2) (v := .int (zI x95_3)) (ty := .int) (C := RX2) (T := TX2) (N := 10) hx hb hts (fun w h => List.mem_cons_of_mem _ (wx_X2 w h)) tyX2 tyX2_ok nmX2 hown hK hP hD hS 3 rfl rfl 9 (by decide) (hW0 _ wf_X2_41) (fun _ h9 => h9) rfl (by decide +kernel) rfl rfl (Nat.le_of_ble_eq_true rfl) dX2_goAlong_98 (fun H locs hP hD hS => ?_)
        have hP : va_P D vwCl (wH α γ rl rg (hi8, fe, se, gn1, fp, sp, np, tot + 1, clo, x95_3) sl pd ct sg od hs) H := hP
        have hD : va_D A (wH α γ rl rg (hi8, fe, se, gn1, fp, sp, np, tot + 1, clo, x95_3) sl pd ct sg od hs) := hD
        exact z_vret hC hr hlk hQ hP hD hS ⟨gn1, tot + 1, x95_3, (by exact hend.1), (by rfl), (by rw [hx95_3, hend.2]), rfl⟩ dX2_goAlong_101
      · have hb_23 := hv20_0.mp c_23
        refine lv_aload_n hx hb dX2_goAlong_26 rfl (lv_at hl 4 rfl) ?_
        refine va_get (D := D) (ci := 2) (v := .ref (α 18)) (C := RX2) (T := TX2) (N := 10) hx hb hts (fun w h => List.mem_cons_of_mem _ (wx_X2 w h)) hown hK hP 3 rfl rfl 3 (by decide) (hW0 _ wf_X2_22) (fun _ h9 => h9) rfl dX2_goAlong_27 ?_
        refine lv_iload_n hx hb dX2_goAlong_30 rfl (lv_at hl 0 rfl) ?_
        refine lv_iconst (v := zI 1) hx hb dX2_goAlong_31 rfl ?_
        refine z_zast (f := gn1) (v := true) hx hb hK hP hD hS 18 8 rfl rfl ⟨⟨by omega, by omega⟩, by decide⟩ dX2_goAlong_32 (fun H locs hP hD hS => ?_)
        have hP : va_P D vwCl (wH α γ rl rg (hi8, fe, se, bu gn1 pc9 true, fp, sp, np, tot, clo, lon) sl pd ct sg od hs) H := hP
        have hD : va_D A (wH α γ rl rg (hi8, fe, se, bu gn1 pc9 true, fp, sp, np, tot, clo, lon) sl pd ct sg od hs) := hD
        refine z_iinc (k := 2) (v := k + 1) (lv' := [(5, .int (zI (k + 1))), (3, .int (zI pc9)), (4, .int (zI ed9)), (6, .int (zI k)), (0, .ref (α 3)), (1, .int (zI p0)), (2, .int (zI e0))]) hx hb dX2_goAlong_33 hl rfl rfl (by decide) rfl (fun ls hl => ?_)
        have hfe9 := hLF.2.1 pc9 (by omega) (by omega)
        obtain ⟨hst1, hst2, hst3⟩ := GQ_step hLF hGQ hb_23.1 hb_23.2.2
        refine lv_aload_n hx hb dX2_goAlong_36 rfl (lv_at hl 4 rfl) ?_
        refine va_get (D := D) (ci := 2) (v := .ref (α 16)) (C := RX2) (T := TX2) (N := 10) hx hb hts (fun w h => List.mem_cons_of_mem _ (wx_X2 w h)) hown hK hP 3 rfl rfl 1 (by decide) (hW0 _ wf_X2_15) (fun _ h9 => h9) rfl dX2_goAlong_37 ?_
        refine lv_iload_n hx hb dX2_goAlong_40 rfl (lv_at hl 1 rfl) ?_
        refine z_iald (f := fe) hx hb hK hP 16 6 rfl rfl ⟨⟨by omega, by omega⟩, by decide⟩ dX2_goAlong_41 ?_
        refine lv_iload hx hb dX2_goAlong_42 (lv_at hl 2 rfl) ?_
        refine z_icne (tgt := 56) hx hb ⟨by omega, by omega⟩ ⟨by omega, by omega⟩ dX2_goAlong_44 (by decide) (fun c_44 => ?_) (fun c_44 => ?_)
        · refine lv_aload_n hx hb dX2_goAlong_56 rfl (lv_at hl 4 rfl) ?_
          refine va_get (D := D) (ci := 2) (v := .ref (α 16)) (C := RX2) (T := TX2) (N := 10) hx hb hts (fun w h => List.mem_cons_of_mem _ (wx_X2 w h)) hown hK hP 3 rfl rfl 1 (by decide) (hW0 _ wf_X2_15) (fun _ h9 => h9) rfl dX2_goAlong_57 ?_
          refine lv_iload_n hx hb dX2_goAlong_60 rfl (lv_at hl 1 rfl) ?_
          refine z_iald (f := fe) hx hb hK hP 16 6 rfl rfl ⟨⟨by omega, by omega⟩, by decide⟩ dX2_goAlong_61 ?_
          refine lv_istore (lv' := [(4, .int (zI (fe pc9))), (5, .int (zI (k + 1))), (3, .int (zI pc9)), (6, .int (zI k)), (0, .ref (α 3)), (1, .int (zI p0)), (2, .int (zI e0))]) hx hb dX2_goAlong_62 hl (by decide) rfl (fun ls hl => ?_)
          have e64 : oth fe se pc9 ed9 = (fe pc9) := by unfold oth; first | exact if_pos c_44 | exact if_neg c_44
          rw [e64] at hst1 hst2 hst3
          refine lv_aload_n hx hb dX2_goAlong_64 rfl (lv_at hl 4 rfl) ?_
          refine lv_iload hx hb dX2_goAlong_65 (lv_at hl 0 rfl) ?_
          refine lv_iload_n hx hb dX2_goAlong_67 rfl (lv_at hl 2 rfl) ?_
          refine z_calli hP hD hS hA (va_runV (As := [.int (zI (fe pc9)), .int (zI pc9)]) (rest := []) hC (c_X2_pieceBehind l D τ α γ rl rg hi8 fe se (bu gn1 pc9 true) fp sp np tot clo lon sl pd ct sg od hs (fe pc9) pc9 (by exact hst2) (by omega) (by exact hlb2) (by exact hlb3) _) (cwV 2 hts (gV hB wl_X2_103 wn_X2_pieceBehind ws_X2_pieceBehind wi_X2 wc_X2_pieceBehind) rfl rfl rfl hd_X2_pieceBehind ⟨Nat.le_of_ble_eq_true rfl, Nat.le_of_ble_eq_true rfl⟩) (zp_V hK hP hD hS hA hG (ci := 2) (q0 := 3) rfl rfl rfl) rfl rfl hl.1 rfl (lv_room (Nat.le_of_ble_eq_true rfl)) dX2_goAlong_68 ⟨Nat.le_of_ble_eq_true rfl, Nat.le_of_ble_eq_true rfl⟩) (fun r w1 H locs hq9 hP hD hS => ?_)
          obtain ⟨v68_4, hv68_0, hv68_1, rfl, rfl⟩ := hq9
          have hP : va_P D vwCl (wH α γ rl rg (hi8, fe, se, bu gn1 pc9 true, fp, sp, np, tot, clo, lon) sl pd ct sg od hs) H := hP
          have hD : va_D A (wH α γ rl rg (hi8, fe, se, bu gn1 pc9 true, fp, sp, np, tot, clo, lon) sl pd ct sg od hs) := hD
          refine lv_istore_n (lv' := [(3, .int (zI v68_4)), (4, .int (zI (fe pc9))), (5, .int (zI (k + 1))), (6, .int (zI k)), (0, .ref (α 3)), (1, .int (zI p0)), (2, .int (zI e0))]) hx hb dX2_goAlong_71 rfl hl (by decide) rfl (fun ls hl => ?_)
          refine z_iinc (k := 3) (v := k + 1) (lv' := [(6, .int (zI (k + 1))), (3, .int (zI v68_4)), (4, .int (zI (fe pc9))), (5, .int (zI (k + 1))), (0, .ref (α 3)), (1, .int (zI p0)), (2, .int (zI e0))]) hx hb dX2_goAlong_72 hl rfl rfl (by decide) rfl (fun ls hl => ?_)
          refine lv_goto (tgt := 11) hx hb dX2_goAlong_75 (by decide) ?_
          exact ih_11 (bu gn1 pc9 true) v68_4 (fe pc9) (k + 1) _ _ hP hD hS _ (lv_sub hl [1, 2, 3, 0, 4, 5, 6] rfl) (by first | assumption | rfl | omega) (by rw [hv68_0]; exact hst1) (by omega)
        · refine lv_aload_n hx hb dX2_goAlong_47 rfl (lv_at hl 4 rfl) ?_
          refine va_get (D := D) (ci := 2) (v := .ref (α 17)) (C := RX2) (T := TX2) (N := 10) hx hb hts (fun w h => List.mem_cons_of_mem _ (wx_X2 w h)) hown hK hP 3 rfl rfl 2 (by decide) (hW0 _ wf_X2_19) (fun _ h9 => h9) rfl dX2_goAlong_48 ?_
          refine lv_iload_n hx hb dX2_goAlong_51 rfl (lv_at hl 1 rfl) ?_
          refine z_iald (f := se) hx hb hK hP 17 7 rfl rfl ⟨⟨by omega, by omega⟩, by decide⟩ dX2_goAlong_52 ?_
          refine lv_goto (tgt := 62) hx hb dX2_goAlong_53 (by decide) ?_
          refine lv_istore (lv' := [(4, .int (zI (se pc9))), (5, .int (zI (k + 1))), (3, .int (zI pc9)), (6, .int (zI k)), (0, .ref (α 3)), (1, .int (zI p0)), (2, .int (zI e0))]) hx hb dX2_goAlong_62 hl (by decide) rfl (fun ls hl => ?_)
          have e64 : oth fe se pc9 ed9 = (se pc9) := by unfold oth; first | exact if_pos c_44 | exact if_neg c_44
          rw [e64] at hst1 hst2 hst3
          refine lv_aload_n hx hb dX2_goAlong_64 rfl (lv_at hl 4 rfl) ?_
          refine lv_iload hx hb dX2_goAlong_65 (lv_at hl 0 rfl) ?_
          refine lv_iload_n hx hb dX2_goAlong_67 rfl (lv_at hl 2 rfl) ?_
          refine z_calli hP hD hS hA (va_runV (As := [.int (zI (se pc9)), .int (zI pc9)]) (rest := []) hC (c_X2_pieceBehind l D τ α γ rl rg hi8 fe se (bu gn1 pc9 true) fp sp np tot clo lon sl pd ct sg od hs (se pc9) pc9 (by exact hst2) (by omega) (by exact hlb2) (by exact hlb3) _) (cwV 2 hts (gV hB wl_X2_103 wn_X2_pieceBehind ws_X2_pieceBehind wi_X2 wc_X2_pieceBehind) rfl rfl rfl hd_X2_pieceBehind ⟨Nat.le_of_ble_eq_true rfl, Nat.le_of_ble_eq_true rfl⟩) (zp_V hK hP hD hS hA hG (ci := 2) (q0 := 3) rfl rfl rfl) rfl rfl hl.1 rfl (lv_room (Nat.le_of_ble_eq_true rfl)) dX2_goAlong_68 ⟨Nat.le_of_ble_eq_true rfl, Nat.le_of_ble_eq_true rfl⟩) (fun r w1 H locs hq9 hP hD hS => ?_)
          obtain ⟨v68_5, hv68_0, hv68_1, rfl, rfl⟩ := hq9
          have hP : va_P D vwCl (wH α γ rl rg (hi8, fe, se, bu gn1 pc9 true, fp, sp, np, tot, clo, lon) sl pd ct sg od hs) H := hP
          have hD : va_D A (wH α γ rl rg (hi8, fe, se, bu gn1 pc9 true, fp, sp, np, tot, clo, lon) sl pd ct sg od hs) := hD
          refine lv_istore_n (lv' := [(3, .int (zI v68_5)), (4, .int (zI (se pc9))), (5, .int (zI (k + 1))), (6, .int (zI k)), (0, .ref (α 3)), (1, .int (zI p0)), (2, .int (zI e0))]) hx hb dX2_goAlong_71 rfl hl (by decide) rfl (fun ls hl => ?_)
          refine z_iinc (k := 3) (v := k + 1) (lv' := [(6, .int (zI (k + 1))), (3, .int (zI v68_5)), (4, .int (zI (se pc9))), (5, .int (zI (k + 1))), (0, .ref (α 3)), (1, .int (zI p0)), (2, .int (zI e0))]) hx hb dX2_goAlong_72 hl rfl rfl (by decide) rfl (fun ls hl => ?_)
          refine lv_goto (tgt := 11) hx hb dX2_goAlong_75 (by decide) ?_
          exact ih_11 (bu gn1 pc9 true) v68_5 (se pc9) (k + 1) _ _ hP hD hS _ (lv_sub hl [1, 2, 3, 0, 4, 5, 6] rfl) (by first | assumption | rfl | omega) (by rw [hv68_0]; exact hst1) (by omega)

abbrev wz_X2_trace : List Cond := .code yX2_trace cX2_trace 3 none :: W0
abbrev rm_X2_trace : Room := { frames := 2, cells := 0, slots := 0, locals := 48 }
theorem hd_X2_trace : yX2_trace.cls = RX2 ∧ yX2_trace.cls ≠ "java/lang/invoke/MethodHandle" ∧ yX2_trace.cls ≠ "java/lang/invoke/VarHandle" ∧ (parseMethodDescriptor yX2_trace.desc).map (fun d => d.parameters.length) = some 0 := by decide +kernel
set_option maxHeartbeats 4000000 in
set_option maxRecDepth 100000 in
theorem c_X2_trace (l : Launch) (D : va_G) (τ : Nat → Nat) (α : Nat → Nat) (γ : Nat → ClassId) (rl : TRl) (rg : TRg) (hi8 : BA) (fe : IA) (se : IA) (gn : BA) (fp : IA) (sp : IA) (np : Int) (tot : Int) (clo : Int) (lon : Int) (sl : TSl) (pd : TPd) (ct : TCt) (sg : TSg) (od : TOd) (hs : THs) (hLF : LF hi8 fe se fp sp np) : cM l yX2_trace wz_X2_trace rm_X2_trace D τ (tyH γ) [.ref (α 3)] (wH α γ rl rg (hi8, fe, se, gn, fp, sp, np, tot, clo, lon) sl pd ct sg od hs) (zQv (fun w => ∃ (gn2 : BA), ∃ (t2 : Int), ∃ (c2 : Int), ∃ (l2 : Int), (t2 = S_nlines hi8) ∧ (c2 = S_nclosed hi8) ∧ (l2 = S_long hi8) ∧ (0 ≤ t2 ∧ t2 ≤ 84) ∧ (0 ≤ c2 ∧ c2 ≤ 84) ∧ (0 ≤ l2 ∧ l2 ≤ 72) ∧ wH α γ rl rg (hi8, fe, se, gn2, fp, sp, np, t2, c2, l2) sl pd ct sg od hs = w)) := by
  refine z_ofM (cc := cX2_trace) (maxL := 3) (ret := none) (by decide +kernel) rfl (Nat.le_of_ble_eq_true rfl) ?_
  intro pg e s m args below meth c hC hr hlk hnm hK hP A hD hG hA hS ls hl Q hQ
  have hx := hC.1
  have hb := hC.2.1
  have hml := hC.2.2.1
  have hown := hC.2.2.2.1
  have hts := hC.2.2.2.2
  have hB : ∀ w ∈ W0, w ∈ wz_X2_trace := fun _ h => List.mem_cons_of_mem _ h
  have hW0 : ∀ w ∈ W0, w.before args s = true := fun w h => hts w (hB w h)
  have hl : lv_has ls 3 [(0, .ref (α 3))] := hl
  have hlb := LF_b hLF
  have hlb1 := hlb.1
  have hlb2 := hlb.2.1
  have hlb3 := hlb.2.2
  refine lv_aload_n hx hb dX2_trace_0 rfl (lv_at hl 0 rfl) ?_
  refine lv_iconst (v := zI 0) hx hb dX2_trace_1 rfl ?_
  refine va_put (D := D) (ci := 2) (v := .int (zI 0)) (ty := .int) (C := RX2) (T := TX2) (N := 10) hx hb hts (fun w h => List.mem_cons_of_mem _ (wx_X2 w h)) tyX2 tyX2_ok nmX2 hown hK hP hD hS 3 rfl rfl 7 (by decide) (hW0 _ wf_X2_35) (fun _ h9 => h9) rfl (by decide +kernel) rfl rfl (Nat.le_of_ble_eq_true rfl) dX2_trace_2 (fun H locs hP hD hS => ?_)
  have hP : va_P D vwCl (wH α γ rl rg (hi8, fe, se, gn, fp, sp, np, 0, clo, lon) sl pd ct sg od hs) H := hP
  have hD : va_D A (wH α γ rl rg (hi8, fe, se, gn, fp, sp, np, 0, clo, lon) sl pd ct sg od hs) := hD
  refine lv_aload_n hx hb dX2_trace_5 rfl (lv_at hl 0 rfl) ?_
  refine lv_iconst (v := zI 0) hx hb dX2_trace_6 rfl ?_
  refine va_put (D := D) (ci := 2) (v := .int (zI 0)) (ty := .int) (C := RX2) (T := TX2) (N := 10) hx hb hts (fun w h => List.mem_cons_of_mem _ (wx_X2 w h)) tyX2 tyX2_ok nmX2 hown hK hP hD hS 3 rfl rfl 8 (by decide) (hW0 _ wf_X2_38) (fun _ h9 => h9) rfl (by decide +kernel) rfl rfl (Nat.le_of_ble_eq_true rfl) dX2_trace_7 (fun H locs hP hD hS => ?_)
  have hP : va_P D vwCl (wH α γ rl rg (hi8, fe, se, gn, fp, sp, np, 0, 0, lon) sl pd ct sg od hs) H := hP
  have hD : va_D A (wH α γ rl rg (hi8, fe, se, gn, fp, sp, np, 0, 0, lon) sl pd ct sg od hs) := hD
  refine lv_aload_n hx hb dX2_trace_10 rfl (lv_at hl 0 rfl) ?_
  refine lv_iconst (v := zI 0) hx hb dX2_trace_11 rfl ?_
  refine va_put (D := D) (ci := 2) (v := .int (zI 0)) (ty := .int) (C := RX2) (T := TX2) (N := 10) hx hb hts (fun w h => List.mem_cons_of_mem _ (wx_X2 w h)) tyX2 tyX2_ok nmX2 hown hK hP hD hS 3 rfl rfl 9 (by decide) (hW0 _ wf_X2_41) (fun _ h9 => h9) rfl (by decide +kernel) rfl rfl (Nat.le_of_ble_eq_true rfl) dX2_trace_12 (fun H locs hP hD hS => ?_)
  have hP : va_P D vwCl (wH α γ rl rg (hi8, fe, se, gn, fp, sp, np, 0, 0, 0) sl pd ct sg od hs) H := hP
  have hD : va_D A (wH α γ rl rg (hi8, fe, se, gn, fp, sp, np, 0, 0, 0) sl pd ct sg od hs) := hD
  refine lv_iconst (v := zI 0) hx hb dX2_trace_15 rfl ?_
  refine lv_istore_n (lv' := [(1, .int (zI 0)), (0, .ref (α 3))]) hx hb dX2_trace_16 rfl hl (by decide) rfl (fun ls hl => ?_)
  suffices HL_17 : ∀ (n_17 : Nat), ∀ (gn1 : BA) (i : Int) (H : Heap) (locs : List Loc) (hP : va_P D vwCl (wH α γ rl rg (hi8, fe, se, gn1, fp, sp, np, 0, 0, 0) sl pd ct sg od hs) H) (hD : va_D A (wH α γ rl rg (hi8, fe, se, gn1, fp, sp, np, 0, 0, 0) sl pd ct sg od hs)) (hS : va_S A s.heap H locs) (ls : Array Slot) (hl : lv_has ls 3 [(1, .int (zI i)), (0, .ref (α 3))]) (hi : 0 ≤ i ∧ i ≤ 72) (hgn : gn1 = bmix i (fun _ => false) gn) (hm : (72 - i).toNat < n_17), W pg l e rm_X2_trace s m args below meth c H locs 0 0 Q (F0 m 17 ls []) from HL_17 _ gn 0 _ _ hP hD hS _ (lv_sub hl [0, 1] rfl) (by first | assumption | rfl | omega) (by exact (bmix_0 _ _).symm) (Nat.lt_succ_self _)
  intro n_17
  induction n_17 with
  | zero => intro gn1 i H locs hP hD hS ls hl hi hgn hm; exact absurd hm (Nat.not_lt_zero _)
  | succ n_17 ih_17 =>
    intro gn1 i H locs hP hD hS ls hl hi hgn hm
    refine lv_iload_n hx hb dX2_trace_17 rfl (lv_at hl 0 rfl) ?_
    refine lv_bipush (v := zI 72) hx hb dX2_trace_18 (zI_b8 (by decide)) ?_
    refine z_icge (tgt := 36) hx hb ⟨by omega, by omega⟩ ⟨by omega, by omega⟩ dX2_trace_20 (by decide) (fun c_20 => ?_) (fun c_20 => ?_)
    · have hz72 : gn1 = bmix 72 (fun _ => false) gn := by rw [hgn, show i = 72 by omega]
      refine lv_iconst (v := zI 0) hx hb dX2_trace_36 rfl ?_
      refine lv_istore_n (lv' := [(1, .int (zI 0)), (0, .ref (α 3))]) hx hb dX2_trace_37 rfl hl (by decide) rfl (fun ls hl => ?_)
      suffices HL_38 : ∀ (n_38 : Nat), ∀ (gn3 : BA) (t3 : Int) (l3 : Int) (e3 : Int) (H : Heap) (locs : List Loc) (hP : va_P D vwCl (wH α γ rl rg (hi8, fe, se, gn3, fp, sp, np, t3, 0, l3) sl pd ct sg od hs) H) (hD : va_D A (wH α γ rl rg (hi8, fe, se, gn3, fp, sp, np, t3, 0, l3) sl pd ct sg od hs)) (hS : va_S A s.heap H locs) (ls : Array Slot) (hl : lv_has ls 3 [(1, .int (zI e3)), (0, .ref (α 3))]) (he3 : 0 ≤ e3 ∧ e3 ≤ 84) (hTR : TR1 hi8 fe np e3 gn3 t3 l3) (hl3 : 0 ≤ l3 ∧ l3 ≤ 72) (hm : (84 - e3).toNat < n_38), W pg l e rm_X2_trace s m args below meth c H locs 0 0 Q (F0 m 38 ls []) from HL_38 _ gn1 0 0 0 _ _ hP hD hS _ (lv_sub hl [0, 1] rfl) (by first | assumption | rfl | omega) (by exact TR1_0 (fun p9 a9 b9 => by rw [hz72]; exact bmix_at ⟨a9, by omega⟩)) (by first | assumption | rfl | omega) (Nat.lt_succ_self _)
      intro n_38
      induction n_38 with
      | zero => intro gn3 t3 l3 e3 H locs hP hD hS ls hl he3 hTR hl3 hm; exact absurd hm (Nat.not_lt_zero _)
      | succ n_38 ih_38 =>
        intro gn3 t3 l3 e3 H locs hP hD hS ls hl he3 hTR hl3 hm
        refine lv_iload_n hx hb dX2_trace_38 rfl (lv_at hl 0 rfl) ?_
        refine lv_bipush (v := zI 84) hx hb dX2_trace_39 (zI_b8 (by decide)) ?_
        refine z_icge (tgt := 82) hx hb ⟨by omega, by omega⟩ ⟨by omega, by omega⟩ dX2_trace_41 (by decide) (fun c_41 => ?_) (fun c_41 => ?_)
        · have hTR2 := hTR
          rw [show e3 = 84 by omega] at hTR2
          have ht84 := hTR2.2.1
          replace hTR2 := TR2_0 hTR2
          refine lv_aload_n hx hb dX2_trace_82 rfl (lv_at hl 1 rfl) ?_
          refine va_get (D := D) (ci := 2) (v := .int (zI t3)) (C := RX2) (T := TX2) (N := 10) hx hb hts (fun w h => List.mem_cons_of_mem _ (wx_X2 w h)) hown hK hP 3 rfl rfl 7 (by decide) (hW0 _ wf_X2_35) (fun _ h9 => h9) rfl dX2_trace_83 ?_
          refine lv_istore_n (lv' := [(1, .int (zI t3)), (0, .ref (α 3))]) hx hb dX2_trace_86 rfl hl (by decide) rfl (fun ls hl => ?_)
          refine lv_iconst (v := zI 0) hx hb dX2_trace_87 rfl ?_
          refine lv_istore_n (lv' := [(2, .int (zI 0)), (1, .int (zI t3)), (0, .ref (α 3))]) hx hb dX2_trace_88 rfl hl (by decide) rfl (fun ls hl => ?_)
          suffices HL_89 : ∀ (n_89 : Nat), ∀ (gn4 : BA) (t4 : Int) (l4 : Int) (j : Int) (H : Heap) (locs : List Loc) (hP : va_P D vwCl (wH α γ rl rg (hi8, fe, se, gn4, fp, sp, np, t4, 0, l4) sl pd ct sg od hs) H) (hD : va_D A (wH α γ rl rg (hi8, fe, se, gn4, fp, sp, np, t4, 0, l4) sl pd ct sg od hs)) (hS : va_S A s.heap H locs) (ls : Array Slot) (hl : lv_has ls 3 [(2, .int (zI j)), (1, .int (zI t3)), (0, .ref (α 3))]) (hj : 0 ≤ j ∧ j ≤ np) (hT4 : TR2 hi8 fe np j gn4 t4 l4) (hl4 : 0 ≤ l4 ∧ l4 ≤ 72) (hm : (72 - j).toNat < n_89), W pg l e rm_X2_trace s m args below meth c H locs 0 0 Q (F0 m 89 ls []) from HL_89 _ gn3 t3 l3 0 _ _ hP hD hS _ (lv_sub hl [0, 1, 2] rfl) (by first | assumption | rfl | omega) (by exact hTR2) (by first | assumption | rfl | omega) (Nat.lt_succ_self _)
          intro n_89
          induction n_89 with
          | zero => intro gn4 t4 l4 j H locs hP hD hS ls hl hj hT4 hl4 hm; exact absurd hm (Nat.not_lt_zero _)
          | succ n_89 ih_89 =>
            intro gn4 t4 l4 j H locs hP hD hS ls hl hj hT4 hl4 hm
            refine lv_iload_n hx hb dX2_trace_89 rfl (lv_at hl 0 rfl) ?_
            refine lv_aload_n hx hb dX2_trace_90 rfl (lv_at hl 2 rfl) ?_
            refine va_get (D := D) (ci := 2) (v := .int (zI np)) (C := RX2) (T := TX2) (N := 10) hx hb hts (fun w h => List.mem_cons_of_mem _ (wx_X2 w h)) hown hK hP 3 rfl rfl 6 (by decide) (hW0 _ wf_X2_31) (fun _ h9 => h9) rfl dX2_trace_91 ?_
            refine z_icge (tgt := 128) hx hb ⟨by omega, by omega⟩ ⟨by omega, by omega⟩ dX2_trace_94 (by decide) (fun c_94 => ?_) (fun c_94 => ?_)
            · have hz4 := hT4
              rw [show j = np by omega] at hz4
              have hfin := TR_fin hLF hz4
              have hfa := hfin.1
              have hfb := hfin.2.1
              have hfc := hfin.2.2
              rw [← ht84] at hfb
              refine lv_aload_n hx hb dX2_trace_128 rfl (lv_at hl 2 rfl) ?_
              refine lv_aload_n hx hb dX2_trace_129 rfl (lv_at hl 2 rfl) ?_
              refine va_get (D := D) (ci := 2) (v := .int (zI t4)) (C := RX2) (T := TX2) (N := 10) hx hb hts (fun w h => List.mem_cons_of_mem _ (wx_X2 w h)) hown hK hP 3 rfl rfl 7 (by decide) (hW0 _ wf_X2_35) (fun _ h9 => h9) rfl dX2_trace_130 ?_
              refine lv_iload_n hx hb dX2_trace_133 rfl (lv_at hl 1 rfl) ?_
              refine z_isub hx hb dX2_trace_134 ?_
              refine va_put (D := D) (ci := 2) (v := .int (zI (t4 - t3))) (ty := .int) (C := RX2) (T := TX2) (N := 10) hx hb hts (fun w h => List.mem_cons_of_mem _ (wx_X2 w h)) tyX2 tyX2_ok nmX2 hown hK hP hD hS 3 rfl rfl 8 (by decide) (hW0 _ wf_X2_38) (fun _ h9 => h9) rfl (by decide +kernel) rfl rfl (Nat.le_of_ble_eq_true rfl) dX2_trace_135 (fun H locs hP hD hS => ?_)
              have hP : va_P D vwCl (wH α γ rl rg (hi8, fe, se, gn4, fp, sp, np, t4, t4 - t3, l4) sl pd ct sg od hs) H := hP
              have hD : va_D A (wH α γ rl rg (hi8, fe, se, gn4, fp, sp, np, t4, t4 - t3, l4) sl pd ct sg od hs) := hD
              exact z_vret hC hr hlk hQ hP hD hS ⟨gn4, t4, t4 - t3, l4, (by exact hfa), (by exact hfb), (by exact hfc), (by rw [hfa]; exact zC_b _ (by omega)), (by rw [hfb]; exact zC_b _ (by omega)), (by omega), rfl⟩ dX2_trace_138
            · refine lv_iload_n hx hb dX2_trace_97 rfl (lv_at hl 0 rfl) ?_
              refine lv_bipush (v := zI 72) hx hb dX2_trace_98 (zI_b8 (by decide)) ?_
              refine z_icge (tgt := 128) hx hb ⟨by omega, by omega⟩ ⟨by omega, by omega⟩ dX2_trace_100 (by decide) (fun c_100 => ?_) (fun c_100 => ?_)
              · exact absurd c_100 (by omega)
              · refine lv_aload_n hx hb dX2_trace_103 rfl (lv_at hl 2 rfl) ?_
                refine lv_iload_n hx hb dX2_trace_104 rfl (lv_at hl 0 rfl) ?_
                refine z_calli hP hD hS hA (va_runV (As := [.int (zI j)]) (rest := []) hC (c_X2_isAhead l D τ α γ rl rg hi8 fe se gn4 fp sp np t4 0 l4 sl pd ct sg od hs j (by first | assumption | rfl | omega) (by first | assumption | rfl | omega) _) (cwV 1 hts (gV hB wl_X2_97 wn_X2_isAhead ws_X2_isAhead wi_X2 wc_X2_isAhead) rfl rfl rfl hd_X2_isAhead ⟨Nat.le_of_ble_eq_true rfl, Nat.le_of_ble_eq_true rfl⟩) (zp_V hK hP hD hS hA hG (ci := 2) (q0 := 3) rfl rfl rfl) rfl rfl hl.1 rfl (lv_room (Nat.le_of_ble_eq_true rfl)) dX2_trace_105 ⟨Nat.le_of_ble_eq_true rfl, Nat.le_of_ble_eq_true rfl⟩) (fun r w1 H locs hq9 hP hD hS => ?_)
                obtain ⟨v105_1, hv105_0, rfl, rfl⟩ := hq9
                have hP : va_P D vwCl (wH α γ rl rg (hi8, fe, se, gn4, fp, sp, np, t4, 0, l4) sl pd ct sg od hs) H := hP
                have hD : va_D A (wH α γ rl rg (hi8, fe, se, gn4, fp, sp, np, t4, 0, l4) sl pd ct sg od hs) := hD
                refine z_ifeqB (tgt := 122) hx hb dX2_trace_108 (by decide) (fun c_108 => ?_) (fun c_108 => ?_)
                · have hb_108 := zb_neg hv105_0 c_108
                  refine z_iinc (k := 0) (v := j + 1) (lv' := [(2, .int (zI (j + 1))), (1, .int (zI t3)), (0, .ref (α 3))]) hx hb dX2_trace_122 hl rfl rfl (by decide) rfl (fun ls hl => ?_)
                  refine lv_goto (tgt := 89) hx hb dX2_trace_125 (by decide) ?_
                  exact ih_89 gn4 t4 l4 (j + 1) _ _ hP hD hS _ (lv_sub hl [0, 1, 2] rfl) (by first | assumption | rfl | omega) (by first | (rw [hv119_1, hv119_2]; exact TR2_new ⟨by omega, by omega⟩ hT4 hb_108.2.2 hv119_0) | exact TR2_old ⟨by omega, by omega⟩ hT4 (bt9 hb_108 (by omega) (by omega))) (by first | exact hl4 | (rw [hv119_2]; have z1 := zmax_spec l4 (S_psz hi8 (fe j)); have z2 := S_psz_b hi8 (fe j); omega)) (by omega)
                · have hb_108 := hv105_0.mp c_108
                  have hf4 := hLF.2.1 j (by omega) (by omega)
                  refine lv_aload_n hx hb dX2_trace_111 rfl (lv_at hl 2 rfl) ?_
                  refine lv_iload_n hx hb dX2_trace_112 rfl (lv_at hl 0 rfl) ?_
                  refine lv_aload_n hx hb dX2_trace_113 rfl (lv_at hl 2 rfl) ?_
                  refine va_get (D := D) (ci := 2) (v := .ref (α 16)) (C := RX2) (T := TX2) (N := 10) hx hb hts (fun w h => List.mem_cons_of_mem _ (wx_X2 w h)) hown hK hP 3 rfl rfl 1 (by decide) (hW0 _ wf_X2_15) (fun _ h9 => h9) rfl dX2_trace_114 ?_
                  refine lv_iload_n hx hb dX2_trace_117 rfl (lv_at hl 0 rfl) ?_
                  refine z_iald (f := fe) hx hb hK hP 16 6 rfl rfl ⟨⟨by omega, by omega⟩, by decide⟩ dX2_trace_118 ?_
                  refine z_callv hP hD hS hA (va_runV (As := [.int (zI j), .int (zI (fe j))]) (rest := []) hC (c_X2_goAlong l D τ α γ rl rg hi8 fe se gn4 fp sp np t4 0 l4 sl pd ct sg od hs j (fe j) (by exact hLF) (by omega) (by exact hf4.1) (by exact Or.inl rfl) (by exact hb_108.2.2) (by exact TR2_cl hT4) (by exact Or.inr (TR2_b ⟨by omega, by omega⟩ hT4 hb_108.2.2)) (by first | assumption | rfl | omega) _) (cwV 2 hts (gV hB wl_X2_100 wn_X2_goAlong ws_X2_goAlong wi_X2 wc_X2_goAlong) rfl rfl rfl hd_X2_goAlong ⟨Nat.le_of_ble_eq_true rfl, Nat.le_of_ble_eq_true rfl⟩) (zp_V hK hP hD hS hA hG (ci := 2) (q0 := 3) rfl rfl rfl) rfl rfl hl.1 rfl (lv_room (Nat.le_of_ble_eq_true rfl)) dX2_trace_119 ⟨Nat.le_of_ble_eq_true rfl, Nat.le_of_ble_eq_true rfl⟩) (fun w1 H locs hq9 hP hD hS => ?_)
                  obtain ⟨gn119_2, t119_3, l119_4, hv119_0, hv119_1, hv119_2, rfl⟩ := hq9
                  have hP : va_P D vwCl (wH α γ rl rg (hi8, fe, se, gn119_2, fp, sp, np, t119_3, 0, l119_4) sl pd ct sg od hs) H := hP
                  have hD : va_D A (wH α γ rl rg (hi8, fe, se, gn119_2, fp, sp, np, t119_3, 0, l119_4) sl pd ct sg od hs) := hD
                  refine z_iinc (k := 0) (v := j + 1) (lv' := [(2, .int (zI (j + 1))), (1, .int (zI t3)), (0, .ref (α 3))]) hx hb dX2_trace_122 hl rfl rfl (by decide) rfl (fun ls hl => ?_)
                  refine lv_goto (tgt := 89) hx hb dX2_trace_125 (by decide) ?_
                  exact ih_89 gn119_2 t119_3 l119_4 (j + 1) _ _ hP hD hS _ (lv_sub hl [0, 1, 2] rfl) (by first | assumption | rfl | omega) (by first | (rw [hv119_1, hv119_2]; exact TR2_new ⟨by omega, by omega⟩ hT4 hb_108.2.2 hv119_0) | exact TR2_old ⟨by omega, by omega⟩ hT4 (bt9 hb_108 (by omega) (by omega))) (by first | exact hl4 | (rw [hv119_2]; have z1 := zmax_spec l4 (S_psz hi8 (fe j)); have z2 := S_psz_b hi8 (fe j); omega)) (by omega)
        · refine lv_aload_n hx hb dX2_trace_44 rfl (lv_at hl 1 rfl) ?_
          refine lv_iload_n hx hb dX2_trace_45 rfl (lv_at hl 0 rfl) ?_
          refine z_calli hP hD hS hA (va_runV (As := [.int (zI e3)]) (rest := []) hC (c_X2_isAtBorder l D τ α γ rl rg hi8 fe se gn3 fp sp np t3 0 l3 sl pd ct sg od hs e3 (by first | assumption | rfl | omega) (by exact hlb2) (by exact hlb3) _) (cwV 1 hts (gV hB wl_X2_94 wn_X2_isAtBorder ws_X2_isAtBorder wi_X2 wc_X2_isAtBorder) rfl rfl rfl hd_X2_isAtBorder ⟨Nat.le_of_ble_eq_true rfl, Nat.le_of_ble_eq_true rfl⟩) (zp_V hK hP hD hS hA hG (ci := 2) (q0 := 3) rfl rfl rfl) rfl rfl hl.1 rfl (lv_room (Nat.le_of_ble_eq_true rfl)) dX2_trace_46 ⟨Nat.le_of_ble_eq_true rfl, Nat.le_of_ble_eq_true rfl⟩) (fun r w1 H locs hq9 hP hD hS => ?_)
          obtain ⟨v46_5, hv46_0, rfl, rfl⟩ := hq9
          have hP : va_P D vwCl (wH α γ rl rg (hi8, fe, se, gn3, fp, sp, np, t3, 0, l3) sl pd ct sg od hs) H := hP
          have hD : va_D A (wH α γ rl rg (hi8, fe, se, gn3, fp, sp, np, t3, 0, l3) sl pd ct sg od hs) := hD
          refine z_ifeqB (tgt := 76) hx hb dX2_trace_49 (by decide) (fun c_49 => ?_) (fun c_49 => ?_)
          · have hb_49 := zb_neg hv46_0 c_49
            refine z_iinc (k := 0) (v := e3 + 1) (lv' := [(1, .int (zI (e3 + 1))), (0, .ref (α 3))]) hx hb dX2_trace_76 hl rfl rfl (by decide) rfl (fun ls hl => ?_)
            refine lv_goto (tgt := 38) hx hb dX2_trace_79 (by decide) ?_
            exact ih_38 gn3 t3 l3 (e3 + 1) _ _ hP hD hS _ (lv_sub hl [0, 1] rfl) (by first | assumption | rfl | omega) (by first | exact TR1_skip he3.1 hTR (fun h9 => hb_49 ((LF_BD hLF (by omega)).mpr h9)) | (rw [hv73_1, hv73_2]; exact TR1_new hLF (by omega) hTR hBD hb_62.2.2 hv73_0) | exact TR1_old hLF (by omega) hTR hBD (bt9 hb_62 (by omega) (by omega))) (by first | exact hl3 | (rw [hv73_2]; have z1 := zmax_spec l3 (S_psz hi8 e3); have z2 := S_psz_b hi8 e3; omega)) (by omega)
          · have hb_49 := hv46_0.mp c_49
            have hBD := (LF_BD hLF (e := e3) (by omega)).mp hb_49
            have hf := hLF.2.2.1 e3 (by omega) (by omega)
            refine lv_aload_n hx hb dX2_trace_52 rfl (lv_at hl 1 rfl) ?_
            refine lv_aload_n hx hb dX2_trace_53 rfl (lv_at hl 1 rfl) ?_
            refine va_get (D := D) (ci := 2) (v := .ref (α 19)) (C := RX2) (T := TX2) (N := 10) hx hb hts (fun w h => List.mem_cons_of_mem _ (wx_X2 w h)) hown hK hP 3 rfl rfl 4 (by decide) (hW0 _ wf_X2_25) (fun _ h9 => h9) rfl dX2_trace_54 ?_
            refine lv_iload_n hx hb dX2_trace_57 rfl (lv_at hl 0 rfl) ?_
            refine z_iald (f := fp) hx hb hK hP 19 9 rfl rfl ⟨⟨by omega, by omega⟩, by decide⟩ dX2_trace_58 ?_
            refine z_calli hP hD hS hA (va_runV (As := [.int (zI (fp e3))]) (rest := []) hC (c_X2_isAhead l D τ α γ rl rg hi8 fe se gn3 fp sp np t3 0 l3 sl pd ct sg od hs (fp e3) (by first | assumption | rfl | omega) (by first | assumption | rfl | omega) _) (cwV 1 hts (gV hB wl_X2_97 wn_X2_isAhead ws_X2_isAhead wi_X2 wc_X2_isAhead) rfl rfl rfl hd_X2_isAhead ⟨Nat.le_of_ble_eq_true rfl, Nat.le_of_ble_eq_true rfl⟩) (zp_V hK hP hD hS hA hG (ci := 2) (q0 := 3) rfl rfl rfl) rfl rfl hl.1 rfl (lv_room (Nat.le_of_ble_eq_true rfl)) dX2_trace_59 ⟨Nat.le_of_ble_eq_true rfl, Nat.le_of_ble_eq_true rfl⟩) (fun r w1 H locs hq9 hP hD hS => ?_)
            obtain ⟨v59_6, hv59_0, rfl, rfl⟩ := hq9
            have hP : va_P D vwCl (wH α γ rl rg (hi8, fe, se, gn3, fp, sp, np, t3, 0, l3) sl pd ct sg od hs) H := hP
            have hD : va_D A (wH α γ rl rg (hi8, fe, se, gn3, fp, sp, np, t3, 0, l3) sl pd ct sg od hs) := hD
            refine z_ifeqB (tgt := 76) hx hb dX2_trace_62 (by decide) (fun c_62 => ?_) (fun c_62 => ?_)
            · have hb_62 := zb_neg hv59_0 c_62
              refine z_iinc (k := 0) (v := e3 + 1) (lv' := [(1, .int (zI (e3 + 1))), (0, .ref (α 3))]) hx hb dX2_trace_76 hl rfl rfl (by decide) rfl (fun ls hl => ?_)
              refine lv_goto (tgt := 38) hx hb dX2_trace_79 (by decide) ?_
              exact ih_38 gn3 t3 l3 (e3 + 1) _ _ hP hD hS _ (lv_sub hl [0, 1] rfl) (by first | assumption | rfl | omega) (by first | exact TR1_skip he3.1 hTR (fun h9 => hb_49 ((LF_BD hLF (by omega)).mpr h9)) | (rw [hv73_1, hv73_2]; exact TR1_new hLF (by omega) hTR hBD hb_62.2.2 hv73_0) | exact TR1_old hLF (by omega) hTR hBD (bt9 hb_62 (by omega) (by omega))) (by first | exact hl3 | (rw [hv73_2]; have z1 := zmax_spec l3 (S_psz hi8 e3); have z2 := S_psz_b hi8 e3; omega)) (by omega)
            · have hb_62 := hv59_0.mp c_62
              refine lv_aload_n hx hb dX2_trace_65 rfl (lv_at hl 1 rfl) ?_
              refine lv_aload_n hx hb dX2_trace_66 rfl (lv_at hl 1 rfl) ?_
              refine va_get (D := D) (ci := 2) (v := .ref (α 19)) (C := RX2) (T := TX2) (N := 10) hx hb hts (fun w h => List.mem_cons_of_mem _ (wx_X2 w h)) hown hK hP 3 rfl rfl 4 (by decide) (hW0 _ wf_X2_25) (fun _ h9 => h9) rfl dX2_trace_67 ?_
              refine lv_iload_n hx hb dX2_trace_70 rfl (lv_at hl 0 rfl) ?_
              refine z_iald (f := fp) hx hb hK hP 19 9 rfl rfl ⟨⟨by omega, by omega⟩, by decide⟩ dX2_trace_71 ?_
              refine lv_iload_n hx hb dX2_trace_72 rfl (lv_at hl 0 rfl) ?_
              refine z_callv hP hD hS hA (va_runV (As := [.int (zI (fp e3)), .int (zI e3)]) (rest := []) hC (c_X2_goAlong l D τ α γ rl rg hi8 fe se gn3 fp sp np t3 0 l3 sl pd ct sg od hs (fp e3) e3 (by exact hLF) (by exact ⟨hb_62.1, hb_62.2.1⟩) (by omega) (by exact (TR_end hLF (by omega) ⟨hb_62.1, hb_62.2.1⟩ (Or.inl rfl)).1) (by exact hb_62.2.2) (by exact TR1_cl hTR) (by exact Or.inl hBD.2) (by first | assumption | rfl | omega) _) (cwV 2 hts (gV hB wl_X2_100 wn_X2_goAlong ws_X2_goAlong wi_X2 wc_X2_goAlong) rfl rfl rfl hd_X2_goAlong ⟨Nat.le_of_ble_eq_true rfl, Nat.le_of_ble_eq_true rfl⟩) (zp_V hK hP hD hS hA hG (ci := 2) (q0 := 3) rfl rfl rfl) rfl rfl hl.1 rfl (lv_room (Nat.le_of_ble_eq_true rfl)) dX2_trace_73 ⟨Nat.le_of_ble_eq_true rfl, Nat.le_of_ble_eq_true rfl⟩) (fun w1 H locs hq9 hP hD hS => ?_)
              obtain ⟨gn73_7, t73_8, l73_9, hv73_0, hv73_1, hv73_2, rfl⟩ := hq9
              have hP : va_P D vwCl (wH α γ rl rg (hi8, fe, se, gn73_7, fp, sp, np, t73_8, 0, l73_9) sl pd ct sg od hs) H := hP
              have hD : va_D A (wH α γ rl rg (hi8, fe, se, gn73_7, fp, sp, np, t73_8, 0, l73_9) sl pd ct sg od hs) := hD
              refine z_iinc (k := 0) (v := e3 + 1) (lv' := [(1, .int (zI (e3 + 1))), (0, .ref (α 3))]) hx hb dX2_trace_76 hl rfl rfl (by decide) rfl (fun ls hl => ?_)
              refine lv_goto (tgt := 38) hx hb dX2_trace_79 (by decide) ?_
              exact ih_38 gn73_7 t73_8 l73_9 (e3 + 1) _ _ hP hD hS _ (lv_sub hl [0, 1] rfl) (by first | assumption | rfl | omega) (by first | exact TR1_skip he3.1 hTR (fun h9 => hb_49 ((LF_BD hLF (by omega)).mpr h9)) | (rw [hv73_1, hv73_2]; exact TR1_new hLF (by omega) hTR hBD hb_62.2.2 hv73_0) | exact TR1_old hLF (by omega) hTR hBD (bt9 hb_62 (by omega) (by omega))) (by first | exact hl3 | (rw [hv73_2]; have z1 := zmax_spec l3 (S_psz hi8 e3); have z2 := S_psz_b hi8 e3; omega)) (by omega)
    · refine lv_aload_n hx hb dX2_trace_23 rfl (lv_at hl 1 rfl) ?_
      refine va_get (D := D) (ci := 2) (v := .ref (α 18)) (C := RX2) (T := TX2) (N := 10) hx hb hts (fun w h => List.mem_cons_of_mem _ (wx_X2 w h)) hown hK hP 3 rfl rfl 3 (by decide) (hW0 _ wf_X2_22) (fun _ h9 => h9) rfl dX2_trace_24 ?_
      refine lv_iload_n hx hb dX2_trace_27 rfl (lv_at hl 0 rfl) ?_
      refine lv_iconst (v := zI 0) hx hb dX2_trace_28 rfl ?_
      refine z_zast (f := gn1) (v := false) hx hb hK hP hD hS 18 8 rfl rfl ⟨⟨by omega, by omega⟩, by decide⟩ dX2_trace_29 (fun H locs hP hD hS => ?_)
      have hP : va_P D vwCl (wH α γ rl rg (hi8, fe, se, bu gn1 i false, fp, sp, np, 0, 0, 0) sl pd ct sg od hs) H := hP
      have hD : va_D A (wH α γ rl rg (hi8, fe, se, bu gn1 i false, fp, sp, np, 0, 0, 0) sl pd ct sg od hs) := hD
      refine z_iinc (k := 0) (v := i + 1) (lv' := [(1, .int (zI (i + 1))), (0, .ref (α 3))]) hx hb dX2_trace_30 hl rfl rfl (by decide) rfl (fun ls hl => ?_)
      refine lv_goto (tgt := 17) hx hb dX2_trace_33 (by decide) ?_
      exact ih_17 (bu gn1 i false) (i + 1) _ _ hP hD hS _ (lv_sub hl [0, 1] rfl) (by first | assumption | rfl | omega) (by rw [hgn]; exact bmix_up hi.1 rfl) (by omega)

abbrev wz_X2_total : List Cond := .code yX2_total cX2_total 1 (some .int) :: W0
abbrev rm_X2_total : Room := { frames := 0, cells := 0, slots := 0, locals := 0 }
theorem hd_X2_total : yX2_total.cls = RX2 ∧ yX2_total.cls ≠ "java/lang/invoke/MethodHandle" ∧ yX2_total.cls ≠ "java/lang/invoke/VarHandle" ∧ (parseMethodDescriptor yX2_total.desc).map (fun d => d.parameters.length) = some 0 := by decide +kernel
set_option maxHeartbeats 4000000 in
set_option maxRecDepth 100000 in
theorem c_X2_total (l : Launch) (D : va_G) (τ : Nat → Nat) (α : Nat → Nat) (γ : Nat → ClassId) (rl : TRl) (rg : TRg) (hi8 : BA) (fe : IA) (se : IA) (gn : BA) (fp : IA) (sp : IA) (np : Int) (tot : Int) (clo : Int) (lon : Int) (sl : TSl) (pd : TPd) (ct : TCt) (sg : TSg) (od : TOd) (hs : THs) : cM l yX2_total wz_X2_total rm_X2_total D τ (tyH γ) [.ref (α 3)] (wH α γ rl rg (hi8, fe, se, gn, fp, sp, np, tot, clo, lon) sl pd ct sg od hs) (zQi (fun r w => ∃ (v : Int), (v = tot) ∧ r = zI v ∧ wH α γ rl rg (hi8, fe, se, gn, fp, sp, np, tot, clo, lon) sl pd ct sg od hs = w)) := by
  refine z_ofM (cc := cX2_total) (maxL := 1) (ret := (some .int)) (by decide +kernel) rfl (Nat.le_of_ble_eq_true rfl) ?_
  intro pg e s m args below meth c hC hr hlk hnm hK hP A hD hG hA hS ls hl Q hQ
  have hx := hC.1
  have hb := hC.2.1
  have hml := hC.2.2.1
  have hown := hC.2.2.2.1
  have hts := hC.2.2.2.2
  have hB : ∀ w ∈ W0, w ∈ wz_X2_total := fun _ h => List.mem_cons_of_mem _ h
  have hW0 : ∀ w ∈ W0, w.before args s = true := fun w h => hts w (hB w h)
  have hl : lv_has ls 1 [(0, .ref (α 3))] := hl
  refine lv_aload_n hx hb dX2_total_0 rfl (lv_at hl 0 rfl) ?_
  refine va_get (D := D) (ci := 2) (v := .int (zI tot)) (C := RX2) (T := TX2) (N := 10) hx hb hts (fun w h => List.mem_cons_of_mem _ (wx_X2 w h)) hown hK hP 3 rfl rfl 7 (by decide) (hW0 _ wf_X2_35) (fun _ h9 => h9) rfl dX2_total_1 ?_
  exact z_iret hC hr hlk hQ hP hD hS ⟨tot, (by first | assumption | rfl | omega), rfl, rfl⟩ dX2_total_4

abbrev wz_X2_closed : List Cond := .code yX2_closed cX2_closed 1 (some .int) :: W0
abbrev rm_X2_closed : Room := { frames := 0, cells := 0, slots := 0, locals := 0 }
theorem hd_X2_closed : yX2_closed.cls = RX2 ∧ yX2_closed.cls ≠ "java/lang/invoke/MethodHandle" ∧ yX2_closed.cls ≠ "java/lang/invoke/VarHandle" ∧ (parseMethodDescriptor yX2_closed.desc).map (fun d => d.parameters.length) = some 0 := by decide +kernel
set_option maxHeartbeats 4000000 in
set_option maxRecDepth 100000 in
theorem c_X2_closed (l : Launch) (D : va_G) (τ : Nat → Nat) (α : Nat → Nat) (γ : Nat → ClassId) (rl : TRl) (rg : TRg) (hi8 : BA) (fe : IA) (se : IA) (gn : BA) (fp : IA) (sp : IA) (np : Int) (tot : Int) (clo : Int) (lon : Int) (sl : TSl) (pd : TPd) (ct : TCt) (sg : TSg) (od : TOd) (hs : THs) : cM l yX2_closed wz_X2_closed rm_X2_closed D τ (tyH γ) [.ref (α 3)] (wH α γ rl rg (hi8, fe, se, gn, fp, sp, np, tot, clo, lon) sl pd ct sg od hs) (zQi (fun r w => ∃ (v : Int), (v = clo) ∧ r = zI v ∧ wH α γ rl rg (hi8, fe, se, gn, fp, sp, np, tot, clo, lon) sl pd ct sg od hs = w)) := by
  refine z_ofM (cc := cX2_closed) (maxL := 1) (ret := (some .int)) (by decide +kernel) rfl (Nat.le_of_ble_eq_true rfl) ?_
  intro pg e s m args below meth c hC hr hlk hnm hK hP A hD hG hA hS ls hl Q hQ
  have hx := hC.1
  have hb := hC.2.1
  have hml := hC.2.2.1
  have hown := hC.2.2.2.1
  have hts := hC.2.2.2.2
  have hB : ∀ w ∈ W0, w ∈ wz_X2_closed := fun _ h => List.mem_cons_of_mem _ h
  have hW0 : ∀ w ∈ W0, w.before args s = true := fun w h => hts w (hB w h)
  have hl : lv_has ls 1 [(0, .ref (α 3))] := hl
  refine lv_aload_n hx hb dX2_closed_0 rfl (lv_at hl 0 rfl) ?_
  refine va_get (D := D) (ci := 2) (v := .int (zI clo)) (C := RX2) (T := TX2) (N := 10) hx hb hts (fun w h => List.mem_cons_of_mem _ (wx_X2 w h)) hown hK hP 3 rfl rfl 8 (by decide) (hW0 _ wf_X2_38) (fun _ h9 => h9) rfl dX2_closed_1 ?_
  exact z_iret hC hr hlk hQ hP hD hS ⟨clo, (by first | assumption | rfl | omega), rfl, rfl⟩ dX2_closed_4

abbrev wz_X2_longest : List Cond := .code yX2_longest cX2_longest 1 (some .int) :: W0
abbrev rm_X2_longest : Room := { frames := 0, cells := 0, slots := 0, locals := 0 }
theorem hd_X2_longest : yX2_longest.cls = RX2 ∧ yX2_longest.cls ≠ "java/lang/invoke/MethodHandle" ∧ yX2_longest.cls ≠ "java/lang/invoke/VarHandle" ∧ (parseMethodDescriptor yX2_longest.desc).map (fun d => d.parameters.length) = some 0 := by decide +kernel
set_option maxHeartbeats 4000000 in
set_option maxRecDepth 100000 in
theorem c_X2_longest (l : Launch) (D : va_G) (τ : Nat → Nat) (α : Nat → Nat) (γ : Nat → ClassId) (rl : TRl) (rg : TRg) (hi8 : BA) (fe : IA) (se : IA) (gn : BA) (fp : IA) (sp : IA) (np : Int) (tot : Int) (clo : Int) (lon : Int) (sl : TSl) (pd : TPd) (ct : TCt) (sg : TSg) (od : TOd) (hs : THs) : cM l yX2_longest wz_X2_longest rm_X2_longest D τ (tyH γ) [.ref (α 3)] (wH α γ rl rg (hi8, fe, se, gn, fp, sp, np, tot, clo, lon) sl pd ct sg od hs) (zQi (fun r w => ∃ (v : Int), (v = lon) ∧ r = zI v ∧ wH α γ rl rg (hi8, fe, se, gn, fp, sp, np, tot, clo, lon) sl pd ct sg od hs = w)) := by
  refine z_ofM (cc := cX2_longest) (maxL := 1) (ret := (some .int)) (by decide +kernel) rfl (Nat.le_of_ble_eq_true rfl) ?_
  intro pg e s m args below meth c hC hr hlk hnm hK hP A hD hG hA hS ls hl Q hQ
  have hx := hC.1
  have hb := hC.2.1
  have hml := hC.2.2.1
  have hown := hC.2.2.2.1
  have hts := hC.2.2.2.2
  have hB : ∀ w ∈ W0, w ∈ wz_X2_longest := fun _ h => List.mem_cons_of_mem _ h
  have hW0 : ∀ w ∈ W0, w.before args s = true := fun w h => hts w (hB w h)
  have hl : lv_has ls 1 [(0, .ref (α 3))] := hl
  refine lv_aload_n hx hb dX2_longest_0 rfl (lv_at hl 0 rfl) ?_
  refine va_get (D := D) (ci := 2) (v := .int (zI lon)) (C := RX2) (T := TX2) (N := 10) hx hb hts (fun w h => List.mem_cons_of_mem _ (wx_X2 w h)) hown hK hP 3 rfl rfl 9 (by decide) (hW0 _ wf_X2_41) (fun _ h9 => h9) rfl dX2_longest_1 ?_
  exact z_iret hC hr hlk hQ hP hD hS ⟨lon, (by first | assumption | rfl | omega), rfl, rfl⟩ dX2_longest_4

