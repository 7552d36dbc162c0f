abbrev wz_X9_mix : List Cond := .code yX9_mix cX9_mix 4 (some .long) :: W0
abbrev rm_X9_mix : Room := { frames := 0, cells := 0, slots := 0, locals := 0 }
theorem hd_X9_mix : yX9_mix.cls = RX9 ∧ yX9_mix.cls ≠ "java/lang/invoke/MethodHandle" ∧ yX9_mix.cls ≠ "java/lang/invoke/VarHandle" ∧ (parseMethodDescriptor yX9_mix.desc).map (fun d => d.parameters.length) = some 2 := by decide +kernel
set_option maxHeartbeats 4000000 in
set_option maxRecDepth 100000 in
theorem c_X9_mix (l : Launch) (D : va_G) (τ : Nat → Nat) (ws : va_W) (tys : List (ClassId × FieldType)) (a : Int64) (b : Int64) : cM l yX9_mix wz_X9_mix rm_X9_mix D τ tys [.long a, .long b] (ws) (zQl (fun r w => ∃ (v : Int64), (v = mixL a b) ∧ v = r ∧ ws = w)) := by
  refine z_ofM (cc := cX9_mix) (maxL := 4) (ret := (some .long)) (by decide +kernel) rfl (Nat.le_of_ble_eq_true rfl) ?_
  intro pg e s m args below meth c hC hr hlk hnm hK hP A hD hG hA hS ls hl Q hQ
  have hx := hC.1
  have hb := hC.2.1
  have hml := hC.2.2.1
  have hown := hC.2.2.2.1
  have hts := hC.2.2.2.2
  have hB : ∀ w ∈ W0, w ∈ wz_X9_mix := fun _ h => List.mem_cons_of_mem _ h
  have hW0 : ∀ w ∈ W0, w.before args s = true := fun w h => hts w (hB w h)
  have hl : lv_has ls 4 [(0, .long a), (2, .long b)] := hl
  refine z_ldc2 (n := 31) hx hb hown (hW0 _ wo_X9_344) (by decide +kernel) dX9_mix_0 ?_
  refine lv_lload_n hx hb dX9_mix_3 rfl (lv_at hl 0 rfl) ?_
  refine lv_lmul hx hb dX9_mix_4 ?_
  refine lv_lload_n hx hb dX9_mix_5 rfl (lv_at hl 1 rfl) ?_
  refine lv_ladd hx hb dX9_mix_6 ?_
  exact z_lret hC hr hlk hQ hP hD hS ⟨((zL 31) * a) + b, (by rfl), rfl, rfl⟩ dX9_mix_7

abbrev wz_X9_bitsOf : List Cond := .code yX9_bitsOf cX9_bitsOf 9 (some .long) :: W0
abbrev rm_X9_bitsOf : Room := { frames := 0, cells := 0, slots := 0, locals := 0 }
theorem hd_X9_bitsOf : yX9_bitsOf.cls = RX9 ∧ yX9_bitsOf.cls ≠ "java/lang/invoke/MethodHandle" ∧ yX9_bitsOf.cls ≠ "java/lang/invoke/VarHandle" ∧ (parseMethodDescriptor yX9_bitsOf.desc).map (fun d => d.parameters.length) = some 1 := by decide +kernel
set_option maxHeartbeats 4000000 in
set_option maxRecDepth 100000 in
theorem c_X9_bitsOf (l : Launch) (D : va_G) (τ : Nat → Nat) (ws : va_W) (tys : List (ClassId × FieldType)) (x9 : UInt64) (hx9 : DOK x9) : cM l yX9_bitsOf wz_X9_bitsOf rm_X9_bitsOf D τ tys [.double x9] (ws) (zQl (fun r w => ∃ (v : Int64), (v = S_bits x9) ∧ v = r ∧ ws = w)) := by
  refine z_ofM (cc := cX9_bitsOf) (maxL := 9) (ret := (some .long)) (by decide +kernel) rfl (Nat.le_of_ble_eq_true rfl) ?_
  intro pg e s m args below meth c hC hr hlk hnm hK hP A hD hG hA hS ls hl Q hQ
  have hx := hC.1
  have hb := hC.2.1
  have hml := hC.2.2.1
  have hown := hC.2.2.2.1
  have hts := hC.2.2.2.2
  have hB : ∀ w ∈ W0, w ∈ wz_X9_bitsOf := fun _ h => List.mem_cons_of_mem _ h
  have hW0 : ∀ w ∈ W0, w.before args s = true := fun w h => hts w (hB w h)
  have hl : lv_has ls 9 [(0, .double x9)] := hl
  refine lv_dload_n hx hb dX9_bitsOf_0 rfl (lv_at hl 0 rfl) ?_
  refine z_dconst0 hx hb dX9_bitsOf_1 ?_
  refine z_dcmp (op := .l) hx hb dX9_bitsOf_2 ?_
  have hb_2 := dcI_b x9 0 .l
  refine z_ifgt (tgt := 8) hx hb ⟨by omega, by omega⟩ dX9_bitsOf_3 (by decide) (fun c_3 => ?_) (fun c_3 => ?_)
  · obtain ⟨c9, q9, hdn, hq1, hq2⟩ : ∃ c q, DN x9 c q ∧ -60 ≤ q ∧ q ≤ -40 := hx9.resolve_left (fun h => by (rw [h, D0_dc0] at c_3; omega))
    have hcb := hdn.2.1
    refine lv_dload_n hx hb dX9_bitsOf_8 rfl (lv_at hl 0 rfl) ?_
    refine lv_dstore_n (lv' := [(2, .double x9), (0, .double x9)]) hx hb dX9_bitsOf_9 rfl hl (by decide) rfl (fun ls hl => ?_)
    refine lv_sipush (v := zI 1023) hx hb dX9_bitsOf_10 (zI_b16 (by decide)) ?_
    refine lv_istore (lv' := [(4, .int (zI 1023)), (2, .double x9), (0, .double x9)]) hx hb dX9_bitsOf_13 hl (by decide) rfl (fun ls hl => ?_)
    refine lv_iconst (v := zI 0) hx hb dX9_bitsOf_15 rfl ?_
    refine lv_istore (lv' := [(5, .int (zI 0)), (4, .int (zI 1023)), (2, .double x9), (0, .double x9)]) hx hb dX9_bitsOf_16 hl (by decide) rfl (fun ls hl => ?_)
    suffices HL_18 : ∀ (n_18 : Nat), ∀ (vv : UInt64) (ee : Int) (n5 : Int) (q : Int) (H : Heap) (locs : List Loc) (hP : va_P D vwCl (ws) H) (hD : va_D A (ws)) (hS : va_S A s.heap H locs) (ls : Array Slot) (hl : lv_has ls 9 [(2, .double vv), (4, .int (zI ee)), (5, .int (zI n5)), (0, .double x9)]) (hDN : DN vv c9 q) (he : ee = 1023 + (q9 - q)) (hqb : -60 ≤ q ∧ q ≤ q9) (hn5 : n5 = q9 - q) (hm : (q + 60).toNat < n_18), W pg l e rm_X9_bitsOf s m args below meth c H locs 0 0 Q (F0 m 18 ls []) from HL_18 _ x9 1023 0 q9 _ _ hP hD hS _ (lv_sub hl [2, 1, 0, 3] rfl) (by exact hdn) (by first | assumption | rfl | omega) (by first | assumption | rfl | omega) (by first | assumption | rfl | omega) (Nat.lt_succ_self _)
    intro n_18
    induction n_18 with
    | zero => intro vv ee n5 q H locs hP hD hS ls hl hDN he hqb hn5 hm; exact absurd hm (Nat.not_lt_zero _)
    | succ n_18 ih_18 =>
      intro vv ee n5 q H locs hP hD hS ls hl hDN he hqb hn5 hm
      refine lv_iload hx hb dX9_bitsOf_18 (lv_at hl 2 rfl) ?_
      refine lv_sipush (v := zI 2100) hx hb dX9_bitsOf_20 (zI_b16 (by decide)) ?_
      refine z_icge (tgt := 49) hx hb ⟨by omega, by omega⟩ ⟨by omega, by omega⟩ dX9_bitsOf_23 (by decide) (fun c_23 => ?_) (fun c_23 => ?_)
      · exact absurd c_23 (by omega)
      · refine lv_dload_n hx hb dX9_bitsOf_26 rfl (lv_at hl 0 rfl) ?_
        refine lv_ldc2d (v := D2) hx hb hown (hW0 _ wd_X9_346) dX9_bitsOf_27 ?_
        refine z_dcmp (op := .l) hx hb dX9_bitsOf_30 ?_
        have hb_30 := dcI_b vv D2 .l
        refine z_iflt (tgt := 49) hx hb ⟨by omega, by omega⟩ dX9_bitsOf_31 (by decide) (fun c_31 => ?_) (fun c_31 => ?_)
        · have hq51 := (DN_dc .l hDN D2v (by omega)).mp c_31
          refine lv_iconst (v := zI 0) hx hb dX9_bitsOf_49 rfl ?_
          refine lv_istore (lv' := [(5, .int (zI 0)), (2, .double vv), (4, .int (zI ee)), (0, .double x9)]) hx hb dX9_bitsOf_50 hl (by decide) rfl (fun ls hl => ?_)
          suffices HL_52 : ∀ (n_52 : Nat), ∀ (vw : UInt64) (ef : Int) (n6 : Int) (p : Int) (H : Heap) (locs : List Loc) (hP : va_P D vwCl (ws) H) (hD : va_D A (ws)) (hS : va_S A s.heap H locs) (ls : Array Slot) (hl : lv_has ls 9 [(2, .double vw), (4, .int (zI ef)), (5, .int (zI n6)), (0, .double x9)]) (hDN2 : DN vw c9 p) (he2 : ef = 1023 + (q9 - p)) (hqb2 : -60 ≤ p ∧ p ≤ -52) (hn6 : 0 ≤ n6 ∧ n6 ≤ p + 60) (hm : (-52 - p).toNat < n_52), W pg l e rm_X9_bitsOf s m args below meth c H locs 0 0 Q (F0 m 52 ls []) from HL_52 _ vv ee 0 q _ _ hP hD hS _ (lv_sub hl [1, 2, 0, 3] rfl) (by exact hDN) (by first | assumption | rfl | omega) (by first | assumption | rfl | omega) (by first | assumption | rfl | omega) (Nat.lt_succ_self _)
          intro n_52
          induction n_52 with
          | zero => intro vw ef n6 p H locs hP hD hS ls hl hDN2 he2 hqb2 hn6 hm; exact absurd hm (Nat.not_lt_zero _)
          | succ n_52 ih_52 =>
            intro vw ef n6 p H locs hP hD hS ls hl hDN2 he2 hqb2 hn6 hm
            refine lv_iload hx hb dX9_bitsOf_52 (lv_at hl 2 rfl) ?_
            refine lv_sipush (v := zI 2100) hx hb dX9_bitsOf_54 (zI_b16 (by decide)) ?_
            refine z_icge (tgt := 81) hx hb ⟨by omega, by omega⟩ ⟨by omega, by omega⟩ dX9_bitsOf_57 (by decide) (fun c_57 => ?_) (fun c_57 => ?_)
            · exact absurd c_57 (by omega)
            · refine lv_dload_n hx hb dX9_bitsOf_60 rfl (lv_at hl 0 rfl) ?_
              refine z_dconst1 hx hb dX9_bitsOf_61 ?_
              refine z_dcmp (op := .g) hx hb dX9_bitsOf_62 ?_
              have hb_62 := dcI_b vw D1 .g
              refine z_ifge (tgt := 81) hx hb ⟨by omega, by omega⟩ dX9_bitsOf_63 (by decide) (fun c_63 => ?_) (fun c_63 => ?_)
              · have hq52 : ¬ p < -52 := fun h9 => absurd ((DN_dc .g hDN2 D1v (by omega)).mpr h9) (by omega)
                have hp52 : p = -52 := by omega
                have hDf : DN vw c9 (-52) := hp52 ▸ hDN2
                refine z_ldc2 (n := 4503599627370496) hx hb hown (hW0 _ wo_X9_348) (by decide +kernel) dX9_bitsOf_81 ?_
                refine lv_lstore (lv' := [(5, .long (zL 4503599627370496)), (2, .double vw), (4, .int (zI ef)), (0, .double x9)]) hx hb dX9_bitsOf_84 hl (by decide) rfl (fun ls hl => ?_)
                refine lv_dload_n hx hb dX9_bitsOf_86 rfl (lv_at hl 1 rfl) ?_
                refine lv_lload hx hb dX9_bitsOf_87 (lv_at hl 0 rfl) ?_
                refine lv_l2d hx hb dX9_bitsOf_89 ?_
                refine lv_dmul hx hb dX9_bitsOf_90 (by exact DV_n64 (DN_mulL hDf)) ?_
                refine lv_d2l hx hb dX9_bitsOf_91 ?_
                refine lv_lload hx hb dX9_bitsOf_92 (lv_at hl 0 rfl) ?_
                refine lv_lsub hx hb dX9_bitsOf_94 ?_
                refine lv_lstore (lv' := [(7, .long ((FP.d2l (FP.dmul vw (FP.l2d (zL 4503599627370496)))) - (zL 4503599627370496))), (5, .long (zL 4503599627370496)), (2, .double vw), (4, .int (zI ef)), (0, .double x9)]) hx hb dX9_bitsOf_95 hl (by decide) rfl (fun ls hl => ?_)
                refine lv_iload hx hb dX9_bitsOf_97 (lv_at hl 3 rfl) ?_
                refine lv_i2l (v := zL ef) hx hb dX9_bitsOf_99 (zL_of ⟨by omega, by omega⟩) ?_
                refine lv_bipush (v := zI 52) hx hb dX9_bitsOf_100 (zI_b8 (by decide)) ?_
                refine lv_lshl (v := (zL ef) <<< ((zI 52).toInt64 &&& 63)) hx hb dX9_bitsOf_102 rfl ?_
                refine lv_lload hx hb dX9_bitsOf_103 (lv_at hl 0 rfl) ?_
                refine lv_ladd hx hb dX9_bitsOf_105 ?_
                exact z_lret hC hr hlk hQ hP hD hS ⟨((zL ef) <<< ((zI 52).toInt64 &&& 63)) + ((FP.d2l (FP.dmul vw (FP.l2d (zL 4503599627370496)))) - (zL 4503599627370496)), (by rw [D_d2l (DN_mulL hDf) hcb.2, zL_sub, zL_sh (by omega), zL_add, S_bits_n hdn]; congr 1; omega), rfl, rfl⟩ dX9_bitsOf_106
              · have hq52 := (DN_dc .g hDN2 D1v (by omega)).mp (by omega)
                refine lv_dload_n hx hb dX9_bitsOf_66 rfl (lv_at hl 0 rfl) ?_
                refine lv_ldc2d (v := D2) hx hb hown (hW0 _ wd_X9_346) dX9_bitsOf_67 ?_
                refine lv_dmul hx hb dX9_bitsOf_70 (by exact DV_n64 (DN_mul hDN2 (by omega)).1) ?_
                refine lv_dstore_n (lv' := [(2, .double (FP.dmul vw D2)), (4, .int (zI ef)), (5, .int (zI n6)), (0, .double x9)]) hx hb dX9_bitsOf_71 rfl hl (by decide) rfl (fun ls hl => ?_)
                refine z_iinc (k := 1) (v := ef + (-1)) (lv' := [(4, .int (zI (ef + (-1)))), (2, .double (FP.dmul vw D2)), (5, .int (zI n6)), (0, .double x9)]) hx hb dX9_bitsOf_72 hl rfl rfl (by decide) rfl (fun ls hl => ?_)
                refine z_iinc (k := 2) (v := n6 + 1) (lv' := [(5, .int (zI (n6 + 1))), (4, .int (zI (ef + (-1)))), (2, .double (FP.dmul vw D2)), (0, .double x9)]) hx hb dX9_bitsOf_75 hl rfl rfl (by decide) rfl (fun ls hl => ?_)
                refine lv_goto (tgt := 52) hx hb dX9_bitsOf_78 (by decide) ?_
                exact ih_52 (FP.dmul vw D2) (ef + (-1)) (n6 + 1) (p + 1) _ _ hP hD hS _ (lv_sub hl [2, 1, 0, 3] rfl) (by exact DN_mul hDN2 (by omega)) (by first | assumption | rfl | omega) (by first | assumption | rfl | omega) (by first | assumption | rfl | omega) (by omega)
        · have hq51 : ¬ q < -51 := fun h9 => absurd ((DN_dc .l hDN D2v (by omega)).mpr h9) (by omega)
          refine lv_dload_n hx hb dX9_bitsOf_34 rfl (lv_at hl 0 rfl) ?_
          refine lv_ldc2d (v := D2) hx hb hown (hW0 _ wd_X9_346) dX9_bitsOf_35 ?_
          refine lv_ddiv hx hb dX9_bitsOf_38 (by exact DV_n64 (DN_div hDN (by omega)).1) ?_
          refine lv_dstore_n (lv' := [(2, .double (FP.ddiv vv D2)), (4, .int (zI ee)), (5, .int (zI n5)), (0, .double x9)]) hx hb dX9_bitsOf_39 rfl hl (by decide) rfl (fun ls hl => ?_)
          refine z_iinc (k := 1) (v := ee + 1) (lv' := [(4, .int (zI (ee + 1))), (2, .double (FP.ddiv vv D2)), (5, .int (zI n5)), (0, .double x9)]) hx hb dX9_bitsOf_40 hl rfl rfl (by decide) rfl (fun ls hl => ?_)
          refine z_iinc (k := 2) (v := n5 + 1) (lv' := [(5, .int (zI (n5 + 1))), (4, .int (zI (ee + 1))), (2, .double (FP.ddiv vv D2)), (0, .double x9)]) hx hb dX9_bitsOf_43 hl rfl rfl (by decide) rfl (fun ls hl => ?_)
          refine lv_goto (tgt := 18) hx hb dX9_bitsOf_46 (by decide) ?_
          exact ih_18 (FP.ddiv vv D2) (ee + 1) (n5 + 1) (q - 1) _ _ hP hD hS _ (lv_sub hl [2, 1, 0, 3] rfl) (by exact DN_div hDN (by omega)) (by first | assumption | rfl | omega) (by first | assumption | rfl | omega) (by first | assumption | rfl | omega) (by omega)
  · refine lv_lconst (v := zL 0) hx hb dX9_bitsOf_6 rfl ?_
    exact z_lret hC hr hlk hQ hP hD hS ⟨zL 0, (by rcases hx9 with h9 | ⟨c, q, h9, -⟩; (rw [h9]; exact S_bits_0.symm); exact absurd (DN_dc0 .l h9) (by omega)), rfl, rfl⟩ dX9_bitsOf_7

abbrev wz_X9_digestPoints : List Cond := .code yX9_digestPoints cX9_digestPoints 7 (some .long) :: W0
abbrev rm_X9_digestPoints : Room := { frames := 5, cells := 0, slots := 0, locals := 115 }
theorem hd_X9_digestPoints : yX9_digestPoints.cls = RX9 ∧ yX9_digestPoints.cls ≠ "java/lang/invoke/MethodHandle" ∧ yX9_digestPoints.cls ≠ "java/lang/invoke/VarHandle" ∧ (parseMethodDescriptor yX9_digestPoints.desc).map (fun d => d.parameters.length) = some 1 := by decide +kernel
set_option maxHeartbeats 4000000 in
set_option maxRecDepth 100000 in
theorem c_X9_digestPoints (l : Launch) (D : va_G) (τ : Nat → Nat) (α : Nat → Nat) (γ : Nat → ClassId) (h : IA) (old : IA) (ch : IA) (wt : BA) (qu5 : IA) (ln : TLn) (nx : IA) (dr : IA) (qu : IA) (wy : IA) (lv : IA) (ct : TCt) (sg9 : IA) (od : TOd) (hs : THs) (s9 : Int64) (hh : ∀ k, 0 ≤ k → k < 49 → 0 ≤ h k ∧ h k ≤ 99) (hsg : ∀ k, 0 ≤ k → k < 49 → sg9 k = S_seen h k) : cM l yX9_digestPoints wz_X9_digestPoints rm_X9_digestPoints D τ (tyH γ) [.ref (α 0), .long s9] (wH α γ (h, old, ch) (wt, qu5) ln (nx, dr, qu) (wy, lv) ct sg9 od hs) (zQl (fun r w => ∃ (n2 : IA), ∃ (d2 : IA), ∃ (q2 : IA), ∃ (w2 : IA), ∃ (l2 : IA), ∃ (b5 : BA), ∃ (q5 : IA), ∃ (v : Int64), (v = itI (S_dp1 h) 49 s9) ∧ v = r ∧ wH α γ (h, old, ch) (b5, q5) ln (n2, d2, q2) (w2, l2) ct sg9 od hs = w)) := by
  refine z_ofM (cc := cX9_digestPoints) (maxL := 7) (ret := (some .long)) (by decide +kernel) rfl (Nat.le_of_ble_eq_true rfl) ?_
  intro pg e s m args below meth c hC hr hlk hnm hK hP A hD hG hA hS ls hl Q hQ
  have hx := hC.1
  have hb := hC.2.1
  have hml := hC.2.2.1
  have hown := hC.2.2.2.1
  have hts := hC.2.2.2.2
  have hB : ∀ w ∈ W0, w ∈ wz_X9_digestPoints := fun _ h => List.mem_cons_of_mem _ h
  have hW0 : ∀ w ∈ W0, w.before args s = true := fun w h => hts w (hB w h)
  have hl : lv_has ls 7 [(0, .ref (α 0)), (1, .long s9)] := hl
  refine lv_aload_n hx hb dX9_digestPoints_0 rfl (lv_at hl 0 rfl) ?_
  refine va_get (D := D) (ci := 9) (v := .ref (α 4)) (C := RX9) (T := TX9) (N := 9) hx hb hts (fun w h => List.mem_cons_of_mem _ (wx_X9 w h)) hown hK hP 0 rfl rfl 3 (by decide) (hW0 _ wf_X9_33) (fun _ h9 => h9) rfl dX9_digestPoints_1 ?_
  refine lv_aload_n hx hb dX9_digestPoints_4 rfl (lv_at hl 0 rfl) ?_
  refine va_get (D := D) (ci := 9) (v := .ref (α 1)) (C := RX9) (T := TX9) (N := 9) hx hb hts (fun w h => List.mem_cons_of_mem _ (wx_X9 w h)) hown hK hP 0 rfl rfl 0 (by decide) (hW0 _ wf_X9_12) (fun _ h9 => h9) rfl dX9_digestPoints_5 ?_
  refine z_callv hP hD hS hA (va_runV (As := [.ref (α 1)]) (rest := []) hC (c_X8_read l D τ α γ h old ch (wt, qu5) ln nx dr qu (wy, lv) ct sg9 od hs (by first | assumption | rfl | omega) _) (cwV 1 hts (gV hB wl_X9_106 wn_X8_read ws_X8_read wi_X8 wc_X8_read) rfl rfl rfl hd_X8_read ⟨Nat.le_of_ble_eq_true rfl, Nat.le_of_ble_eq_true rfl⟩) (zp_V hK hP hD hS hA hG (ci := 8) (q0 := 4) rfl rfl rfl) rfl rfl hl.1 rfl (lv_room (Nat.le_of_ble_eq_true rfl)) dX9_digestPoints_8 ⟨Nat.le_of_ble_eq_true rfl, Nat.le_of_ble_eq_true rfl⟩) (fun w1 H locs hq9 hP hD hS => ?_)
  obtain ⟨n8_1, d8_2, hv8_0, hv8_1, rfl⟩ := hq9
  have hP : va_P D vwCl (wH α γ (h, old, ch) (wt, qu5) ln (n8_1, d8_2, qu) (wy, lv) ct sg9 od hs) H := hP
  have hD : va_D A (wH α γ (h, old, ch) (wt, qu5) ln (n8_1, d8_2, qu) (wy, lv) ct sg9 od hs) := hD
  refine lv_aload_n hx hb dX9_digestPoints_11 rfl (lv_at hl 0 rfl) ?_
  refine va_get (D := D) (ci := 9) (v := .ref (α 5)) (C := RX9) (T := TX9) (N := 9) hx hb hts (fun w h => List.mem_cons_of_mem _ (wx_X9 w h)) hown hK hP 0 rfl rfl 4 (by decide) (hW0 _ wf_X9_40) (fun _ h9 => h9) rfl dX9_digestPoints_12 ?_
  refine lv_aload_n hx hb dX9_digestPoints_15 rfl (lv_at hl 0 rfl) ?_
  refine va_get (D := D) (ci := 9) (v := .ref (α 1)) (C := RX9) (T := TX9) (N := 9) hx hb hts (fun w h => List.mem_cons_of_mem _ (wx_X9 w h)) hown hK hP 0 rfl rfl 0 (by decide) (hW0 _ wf_X9_12) (fun _ h9 => h9) rfl dX9_digestPoints_16 ?_
  refine z_callv hP hD hS hA (va_runV (As := [.ref (α 1)]) (rest := []) hC (c_X4_readByWays l D τ α γ h old ch (wt, qu5) ln (n8_1, d8_2, qu) wy lv ct sg9 od hs (by first | assumption | rfl | omega) _) (cwV 1 hts (gV hB wl_X9_232 wn_X4_readByWays ws_X4_readByWays wi_X4 wc_X4_readByWays) rfl rfl rfl hd_X4_readByWays ⟨Nat.le_of_ble_eq_true rfl, Nat.le_of_ble_eq_true rfl⟩) (zp_V hK hP hD hS hA hG (ci := 4) (q0 := 5) rfl rfl rfl) rfl rfl hl.1 rfl (lv_room (Nat.le_of_ble_eq_true rfl)) dX9_digestPoints_19 ⟨Nat.le_of_ble_eq_true rfl, Nat.le_of_ble_eq_true rfl⟩) (fun w1 H locs hq9 hP hD hS => ?_)
  obtain ⟨w19_3, hv19_0, rfl⟩ := hq9
  have hP : va_P D vwCl (wH α γ (h, old, ch) (wt, qu5) ln (n8_1, d8_2, qu) (w19_3, lv) ct sg9 od hs) H := hP
  have hD : va_D A (wH α γ (h, old, ch) (wt, qu5) ln (n8_1, d8_2, qu) (w19_3, lv) ct sg9 od hs) := hD
  refine lv_aload_n hx hb dX9_digestPoints_22 rfl (lv_at hl 0 rfl) ?_
  refine va_get (D := D) (ci := 9) (v := .ref (α 5)) (C := RX9) (T := TX9) (N := 9) hx hb hts (fun w h => List.mem_cons_of_mem _ (wx_X9 w h)) hown hK hP 0 rfl rfl 4 (by decide) (hW0 _ wf_X9_40) (fun _ h9 => h9) rfl dX9_digestPoints_23 ?_
  refine lv_aload_n hx hb dX9_digestPoints_26 rfl (lv_at hl 0 rfl) ?_
  refine va_get (D := D) (ci := 9) (v := .ref (α 1)) (C := RX9) (T := TX9) (N := 9) hx hb hts (fun w h => List.mem_cons_of_mem _ (wx_X9 w h)) hown hK hP 0 rfl rfl 0 (by decide) (hW0 _ wf_X9_12) (fun _ h9 => h9) rfl dX9_digestPoints_27 ?_
  refine lv_aload_n hx hb dX9_digestPoints_30 rfl (lv_at hl 0 rfl) ?_
  refine va_get (D := D) (ci := 9) (v := .ref (α 2)) (C := RX9) (T := TX9) (N := 9) hx hb hts (fun w h => List.mem_cons_of_mem _ (wx_X9 w h)) hown hK hP 0 rfl rfl 1 (by decide) (hW0 _ wf_X9_19) (fun _ h9 => h9) rfl dX9_digestPoints_31 ?_
  refine z_callv hP hD hS hA (va_runV (As := [.ref (α 1), .ref (α 2)]) (rest := []) hC (c_X4_readByLevels l D τ α γ h old ch wt qu5 ln (n8_1, d8_2, qu) w19_3 lv ct sg9 od hs (by first | assumption | rfl | omega) _) (cwV 2 hts (gV hB wl_X9_238 wn_X4_readByLevels ws_X4_readByLevels wi_X4 wc_X4_readByLevels) rfl rfl rfl hd_X4_readByLevels ⟨Nat.le_of_ble_eq_true rfl, Nat.le_of_ble_eq_true rfl⟩) (zp_V hK hP hD hS hA hG (ci := 4) (q0 := 5) rfl rfl rfl) rfl rfl hl.1 rfl (lv_room (Nat.le_of_ble_eq_true rfl)) dX9_digestPoints_34 ⟨Nat.le_of_ble_eq_true rfl, Nat.le_of_ble_eq_true rfl⟩) (fun w1 H locs hq9 hP hD hS => ?_)
  obtain ⟨l34_4, w34_5, q34_6, hv34_0, rfl⟩ := hq9
  have hP : va_P D vwCl (wH α γ (h, old, ch) (w34_5, q34_6) ln (n8_1, d8_2, qu) (w19_3, l34_4) ct sg9 od hs) H := hP
  have hD : va_D A (wH α γ (h, old, ch) (w34_5, q34_6) ln (n8_1, d8_2, qu) (w19_3, l34_4) ct sg9 od hs) := hD
  refine lv_lload_n hx hb dX9_digestPoints_37 rfl (lv_at hl 1 rfl) ?_
  refine lv_lstore_n (lv' := [(3, .long s9), (0, .ref (α 0)), (1, .long s9)]) hx hb dX9_digestPoints_38 rfl hl (by decide) rfl (fun ls hl => ?_)
  refine lv_iconst (v := zI 0) hx hb dX9_digestPoints_39 rfl ?_
  refine lv_istore (lv' := [(5, .int (zI 0)), (3, .long s9), (0, .ref (α 0)), (1, .long s9)]) hx hb dX9_digestPoints_40 hl (by decide) rfl (fun ls hl => ?_)
  suffices HL_42 : ∀ (n_42 : Nat), ∀ (qq : IA) (h1 : Int64) (i : Int) (H : Heap) (locs : List Loc) (hP : va_P D vwCl (wH α γ (h, old, ch) (w34_5, q34_6) ln (n8_1, d8_2, qq) (w19_3, l34_4) ct sg9 od hs) H) (hD : va_D A (wH α γ (h, old, ch) (w34_5, q34_6) ln (n8_1, d8_2, qq) (w19_3, l34_4) ct sg9 od hs)) (hS : va_S A s.heap H locs) (ls : Array Slot) (hl : lv_has ls 7 [(3, .long h1), (5, .int (zI i)), (0, .ref (α 0)), (1, .long s9)]) (hi : 0 ≤ i ∧ i ≤ 49) (hh1 : h1 = itI (S_dp1 h) i s9) (hm : (49 - i).toNat < n_42), W pg l e rm_X9_digestPoints s m args below meth c H locs 0 0 Q (F0 m 42 ls []) from HL_42 _ qu s9 0 _ _ hP hD hS _ (lv_sub hl [1, 0, 2, 3] rfl) (by first | assumption | rfl | omega) (by exact (itI_0 _ _).symm) (Nat.lt_succ_self _)
  intro n_42
  induction n_42 with
  | zero => intro qq h1 i H locs hP hD hS ls hl hi hh1 hm; exact absurd hm (Nat.not_lt_zero _)
  | succ n_42 ih_42 =>
    intro qq h1 i H locs hP hD hS ls hl hi hh1 hm
    refine lv_iload hx hb dX9_digestPoints_42 (lv_at hl 1 rfl) ?_
    refine lv_bipush (v := zI 49) hx hb dX9_digestPoints_44 (zI_b8 (by decide)) ?_
    refine z_icge (tgt := 243) hx hb ⟨by omega, by omega⟩ ⟨by omega, by omega⟩ dX9_digestPoints_46 (by decide) (fun c_46 => ?_) (fun c_46 => ?_)
    · refine lv_lload_n hx hb dX9_digestPoints_243 rfl (lv_at hl 0 rfl) ?_
      exact z_lret hC hr hlk hQ hP hD hS ⟨n8_1, d8_2, qq, w19_3, l34_4, w34_5, q34_6, h1, (by rw [hh1, show i = 49 by omega]), rfl, rfl⟩ dX9_digestPoints_244
    · refine lv_aload_n hx hb dX9_digestPoints_49 rfl (lv_at hl 2 rfl) ?_
      refine va_get (D := D) (ci := 9) (v := .ref (α 4)) (C := RX9) (T := TX9) (N := 9) hx hb hts (fun w h => List.mem_cons_of_mem _ (wx_X9 w h)) hown hK hP 0 rfl rfl 3 (by decide) (hW0 _ wf_X9_33) (fun _ h9 => h9) rfl dX9_digestPoints_50 ?_
      refine lv_iload hx hb dX9_digestPoints_53 (lv_at hl 1 rfl) ?_
      refine z_calli hP hD hS hA (va_runV (As := [.int (zI i)]) (rest := []) hC (c_X8_countGoingUp l D τ α γ (h, old, ch) (w34_5, q34_6) ln n8_1 d8_2 qq (w19_3, l34_4) ct sg9 od hs h i (by omega) (by intro k z1 z2; rw [hv8_0, zmix_at ⟨z1, z2⟩]) _) (cwV 1 hts (gV hB wl_X9_226 wn_X8_countGoingUp ws_X8_countGoingUp wi_X8 wc_X8_countGoingUp) rfl rfl rfl hd_X8_countGoingUp ⟨Nat.le_of_ble_eq_true rfl, Nat.le_of_ble_eq_true rfl⟩) (zp_V hK hP hD hS hA hG (ci := 8) (q0 := 4) rfl rfl rfl) rfl rfl hl.1 rfl (lv_room (Nat.le_of_ble_eq_true rfl)) dX9_digestPoints_55 ⟨Nat.le_of_ble_eq_true rfl, Nat.le_of_ble_eq_true rfl⟩) (fun r w1 H locs hq9 hP hD hS => ?_)
      obtain ⟨q55_7, v55_8, hv55_0, hv55_1, rfl, rfl⟩ := hq9
      have hP : va_P D vwCl (wH α γ (h, old, ch) (w34_5, q34_6) ln (n8_1, d8_2, q55_7) (w19_3, l34_4) ct sg9 od hs) H := hP
      have hD : va_D A (wH α γ (h, old, ch) (w34_5, q34_6) ln (n8_1, d8_2, q55_7) (w19_3, l34_4) ct sg9 od hs) := hD
      refine lv_istore (lv' := [(6, .int (zI v55_8)), (3, .long h1), (5, .int (zI i)), (0, .ref (α 0)), (1, .long s9)]) hx hb dX9_digestPoints_58 hl (by decide) rfl (fun ls hl => ?_)
      refine lv_lload_n hx hb dX9_digestPoints_60 rfl (lv_at hl 1 rfl) ?_
      refine lv_aload_n hx hb dX9_digestPoints_61 rfl (lv_at hl 3 rfl) ?_
      refine va_get (D := D) (ci := 9) (v := .ref (α 1)) (C := RX9) (T := TX9) (N := 9) hx hb hts (fun w h => List.mem_cons_of_mem _ (wx_X9 w h)) hown hK hP 0 rfl rfl 0 (by decide) (hW0 _ wf_X9_12) (fun _ h9 => h9) rfl dX9_digestPoints_62 ?_
      refine lv_iload hx hb dX9_digestPoints_65 (lv_at hl 2 rfl) ?_
      refine z_calli hP hD hS hA (va_runV (As := [.int (zI i)]) (rest := [.long h1]) hC (c_X6_at l D τ α γ h old ch (w34_5, q34_6) ln (n8_1, d8_2, q55_7) (w19_3, l34_4) ct sg9 od hs i (by first | assumption | rfl | omega) (by first | assumption | rfl | omega) _) (cwV 1 hts (gV hB wl_X9_87 wn_X6_at ws_X6_at wi_X6 wc_X6_at) rfl rfl rfl hd_X6_at ⟨Nat.le_of_ble_eq_true rfl, Nat.le_of_ble_eq_true rfl⟩) (zp_V hK hP hD hS hA hG (ci := 6) (q0 := 1) rfl rfl rfl) rfl rfl hl.1 rfl (lv_room (Nat.le_of_ble_eq_true rfl)) dX9_digestPoints_67 ⟨Nat.le_of_ble_eq_true rfl, Nat.le_of_ble_eq_true rfl⟩) (fun r w1 H locs hq9 hP hD hS => ?_)
      obtain ⟨v67_9, hv67_0, hv67_1, hv67_2, rfl, rfl⟩ := hq9
      have hP : va_P D vwCl (wH α γ (h, old, ch) (w34_5, q34_6) ln (n8_1, d8_2, q55_7) (w19_3, l34_4) ct sg9 od hs) H := hP
      have hD : va_D A (wH α γ (h, old, ch) (w34_5, q34_6) ln (n8_1, d8_2, q55_7) (w19_3, l34_4) ct sg9 od hs) := hD
      refine lv_i2l (v := zL v67_9) hx hb dX9_digestPoints_70 (zL_of ⟨by omega, by omega⟩) ?_
      refine z_calll hP hD hS hA (va_runS (As := [.long h1, .long (zL v67_9)]) (rest := []) hC (c_X9_mix l D τ _ _ h1 (zL v67_9) _) (va_cwS 2 hts (gS hB wl_X9_294 wt_X9_mix wi_X9 wc_X9_mix) rfl rfl rfl hd_X9_mix.2 ⟨Nat.le_of_ble_eq_true rfl, Nat.le_of_ble_eq_true rfl⟩) (zp_S hK hP hD hS hA hG) rfl rfl hl.1 rfl (lv_room (Nat.le_of_ble_eq_true rfl)) dX9_digestPoints_71 ⟨Nat.le_of_ble_eq_true rfl, Nat.le_of_ble_eq_true rfl⟩) (fun r w1 H locs hq9 hP hD hS => ?_)
      obtain ⟨v71_10, hv71_0, rfl, rfl⟩ := hq9
      refine lv_lstore_n (lv' := [(3, .long v71_10), (6, .int (zI v55_8)), (5, .int (zI i)), (0, .ref (α 0)), (1, .long s9)]) hx hb dX9_digestPoints_74 rfl hl (by decide) rfl (fun ls hl => ?_)
      refine lv_lload_n hx hb dX9_digestPoints_75 rfl (lv_at hl 0 rfl) ?_
      refine lv_aload_n hx hb dX9_digestPoints_76 rfl (lv_at hl 3 rfl) ?_
      refine va_get (D := D) (ci := 9) (v := .ref (α 4)) (C := RX9) (T := TX9) (N := 9) hx hb hts (fun w h => List.mem_cons_of_mem _ (wx_X9 w h)) hown hK hP 0 rfl rfl 3 (by decide) (hW0 _ wf_X9_33) (fun _ h9 => h9) rfl dX9_digestPoints_77 ?_
      refine lv_iload hx hb dX9_digestPoints_80 (lv_at hl 2 rfl) ?_
      refine z_calli hP hD hS hA (va_runV (As := [.int (zI i)]) (rest := [.long v71_10]) hC (c_X8_drop l D τ α γ (h, old, ch) (w34_5, q34_6) ln n8_1 d8_2 q55_7 (w19_3, l34_4) ct sg9 od hs h i (by omega) (by first | assumption | rfl | omega) (by intro k z1 z2; rw [hv8_1, zmix_at ⟨z1, z2⟩]) _) (cwV 1 hts (gV hB wl_X9_218 wn_X8_drop ws_X8_drop wi_X8 wc_X8_drop) rfl rfl rfl hd_X8_drop ⟨Nat.le_of_ble_eq_true rfl, Nat.le_of_ble_eq_true rfl⟩) (zp_V hK hP hD hS hA hG (ci := 8) (q0 := 4) rfl rfl rfl) rfl rfl hl.1 rfl (lv_room (Nat.le_of_ble_eq_true rfl)) dX9_digestPoints_82 ⟨Nat.le_of_ble_eq_true rfl, Nat.le_of_ble_eq_true rfl⟩) (fun r w1 H locs hq9 hP hD hS => ?_)
      obtain ⟨v82_11, hv82_0, hv82_1, rfl, rfl⟩ := hq9
      have hP : va_P D vwCl (wH α γ (h, old, ch) (w34_5, q34_6) ln (n8_1, d8_2, q55_7) (w19_3, l34_4) ct sg9 od hs) H := hP
      have hD : va_D A (wH α γ (h, old, ch) (w34_5, q34_6) ln (n8_1, d8_2, q55_7) (w19_3, l34_4) ct sg9 od hs) := hD
      refine lv_i2l (v := zL v82_11) hx hb dX9_digestPoints_85 (zL_of ⟨by omega, by omega⟩) ?_
      refine z_calll hP hD hS hA (va_runS (As := [.long v71_10, .long (zL v82_11)]) (rest := []) hC (c_X9_mix l D τ _ _ v71_10 (zL v82_11) _) (va_cwS 2 hts (gS hB wl_X9_294 wt_X9_mix wi_X9 wc_X9_mix) rfl rfl rfl hd_X9_mix.2 ⟨Nat.le_of_ble_eq_true rfl, Nat.le_of_ble_eq_true rfl⟩) (zp_S hK hP hD hS hA hG) rfl rfl hl.1 rfl (lv_room (Nat.le_of_ble_eq_true rfl)) dX9_digestPoints_86 ⟨Nat.le_of_ble_eq_true rfl, Nat.le_of_ble_eq_true rfl⟩) (fun r w1 H locs hq9 hP hD hS => ?_)
      obtain ⟨v86_12, hv86_0, rfl, rfl⟩ := hq9
      refine lv_lstore_n (lv' := [(3, .long v86_12), (6, .int (zI v55_8)), (5, .int (zI i)), (0, .ref (α 0)), (1, .long s9)]) hx hb dX9_digestPoints_89 rfl hl (by decide) rfl (fun ls hl => ?_)
      refine lv_lload_n hx hb dX9_digestPoints_90 rfl (lv_at hl 0 rfl) ?_
      refine lv_aload_n hx hb dX9_digestPoints_91 rfl (lv_at hl 3 rfl) ?_
      refine va_get (D := D) (ci := 9) (v := .ref (α 4)) (C := RX9) (T := TX9) (N := 9) hx hb hts (fun w h => List.mem_cons_of_mem _ (wx_X9 w h)) hown hK hP 0 rfl rfl 3 (by decide) (hW0 _ wf_X9_33) (fun _ h9 => h9) rfl dX9_digestPoints_92 ?_
      refine lv_iload hx hb dX9_digestPoints_95 (lv_at hl 2 rfl) ?_
      refine z_calli hP hD hS hA (va_runV (As := [.int (zI i)]) (rest := [.long v86_12]) hC (c_X8_end l D τ α γ (h, old, ch) (w34_5, q34_6) ln n8_1 d8_2 q55_7 (w19_3, l34_4) ct sg9 od hs h i (by omega) (by intro k z1 z2; rw [hv8_0, zmix_at ⟨z1, z2⟩]) _) (cwV 1 hts (gV hB wl_X9_220 wn_X8_end ws_X8_end wi_X8 wc_X8_end) rfl rfl rfl hd_X8_end ⟨Nat.le_of_ble_eq_true rfl, Nat.le_of_ble_eq_true rfl⟩) (zp_V hK hP hD hS hA hG (ci := 8) (q0 := 4) rfl rfl rfl) rfl rfl hl.1 rfl (lv_room (Nat.le_of_ble_eq_true rfl)) dX9_digestPoints_97 ⟨Nat.le_of_ble_eq_true rfl, Nat.le_of_ble_eq_true rfl⟩) (fun r w1 H locs hq9 hP hD hS => ?_)
      obtain ⟨v97_13, hv97_0, hv97_1, rfl, rfl⟩ := hq9
      have hP : va_P D vwCl (wH α γ (h, old, ch) (w34_5, q34_6) ln (n8_1, d8_2, q55_7) (w19_3, l34_4) ct sg9 od hs) H := hP
      have hD : va_D A (wH α γ (h, old, ch) (w34_5, q34_6) ln (n8_1, d8_2, q55_7) (w19_3, l34_4) ct sg9 od hs) := hD
      refine lv_i2l (v := zL v97_13) hx hb dX9_digestPoints_100 (zL_of ⟨by omega, by omega⟩) ?_
      refine z_calll hP hD hS hA (va_runS (As := [.long v86_12, .long (zL v97_13)]) (rest := []) hC (c_X9_mix l D τ _ _ v86_12 (zL v97_13) _) (va_cwS 2 hts (gS hB wl_X9_294 wt_X9_mix wi_X9 wc_X9_mix) rfl rfl rfl hd_X9_mix.2 ⟨Nat.le_of_ble_eq_true rfl, Nat.le_of_ble_eq_true rfl⟩) (zp_S hK hP hD hS hA hG) rfl rfl hl.1 rfl (lv_room (Nat.le_of_ble_eq_true rfl)) dX9_digestPoints_101 ⟨Nat.le_of_ble_eq_true rfl, Nat.le_of_ble_eq_true rfl⟩) (fun r w1 H locs hq9 hP hD hS => ?_)
      obtain ⟨v101_14, hv101_0, rfl, rfl⟩ := hq9
      refine lv_lstore_n (lv' := [(3, .long v101_14), (6, .int (zI v55_8)), (5, .int (zI i)), (0, .ref (α 0)), (1, .long s9)]) hx hb dX9_digestPoints_104 rfl hl (by decide) rfl (fun ls hl => ?_)
      refine lv_lload_n hx hb dX9_digestPoints_105 rfl (lv_at hl 0 rfl) ?_
      refine lv_iload hx hb dX9_digestPoints_106 (lv_at hl 1 rfl) ?_
      refine lv_i2l (v := zL v55_8) hx hb dX9_digestPoints_108 (zL_of ⟨by omega, by omega⟩) ?_
      refine z_calll hP hD hS hA (va_runS (As := [.long v101_14, .long (zL v55_8)]) (rest := []) hC (c_X9_mix l D τ _ _ v101_14 (zL v55_8) _) (va_cwS 2 hts (gS hB wl_X9_294 wt_X9_mix wi_X9 wc_X9_mix) rfl rfl rfl hd_X9_mix.2 ⟨Nat.le_of_ble_eq_true rfl, Nat.le_of_ble_eq_true rfl⟩) (zp_S hK hP hD hS hA hG) rfl rfl hl.1 rfl (lv_room (Nat.le_of_ble_eq_true rfl)) dX9_digestPoints_109 ⟨Nat.le_of_ble_eq_true rfl, Nat.le_of_ble_eq_true rfl⟩) (fun r w1 H locs hq9 hP hD hS => ?_)
      obtain ⟨v109_15, hv109_0, rfl, rfl⟩ := hq9
      refine lv_lstore_n (lv' := [(3, .long v109_15), (6, .int (zI v55_8)), (5, .int (zI i)), (0, .ref (α 0)), (1, .long s9)]) hx hb dX9_digestPoints_112 rfl hl (by decide) rfl (fun ls hl => ?_)
      refine lv_lload_n hx hb dX9_digestPoints_113 rfl (lv_at hl 0 rfl) ?_
      refine lv_aload_n hx hb dX9_digestPoints_114 rfl (lv_at hl 3 rfl) ?_
      refine va_get (D := D) (ci := 9) (v := .ref (α 4)) (C := RX9) (T := TX9) (N := 9) hx hb hts (fun w h => List.mem_cons_of_mem _ (wx_X9 w h)) hown hK hP 0 rfl rfl 3 (by decide) (hW0 _ wf_X9_33) (fun _ h9 => h9) rfl dX9_digestPoints_115 ?_
      refine lv_iload hx hb dX9_digestPoints_118 (lv_at hl 2 rfl) ?_
      refine z_calli hP hD hS hA (va_runV (As := [.int (zI i)]) (rest := [.long v109_15]) hC (c_X8_steps l D τ α γ (h, old, ch) (w34_5, q34_6) ln n8_1 d8_2 q55_7 (w19_3, l34_4) ct sg9 od hs h i (by omega) (by intro k z1 z2; rw [hv8_0, zmix_at ⟨z1, z2⟩]) _) (cwV 1 hts (gV hB wl_X9_229 wn_X8_steps ws_X8_steps wi_X8 wc_X8_steps) rfl rfl rfl hd_X8_steps ⟨Nat.le_of_ble_eq_true rfl, Nat.le_of_ble_eq_true rfl⟩) (zp_V hK hP hD hS hA hG (ci := 8) (q0 := 4) rfl rfl rfl) rfl rfl hl.1 rfl (lv_room (Nat.le_of_ble_eq_true rfl)) dX9_digestPoints_120 ⟨Nat.le_of_ble_eq_true rfl, Nat.le_of_ble_eq_true rfl⟩) (fun r w1 H locs hq9 hP hD hS => ?_)
      obtain ⟨v120_16, hv120_0, hv120_1, rfl, rfl⟩ := hq9
      have hP : va_P D vwCl (wH α γ (h, old, ch) (w34_5, q34_6) ln (n8_1, d8_2, q55_7) (w19_3, l34_4) ct sg9 od hs) H := hP
      have hD : va_D A (wH α γ (h, old, ch) (w34_5, q34_6) ln (n8_1, d8_2, q55_7) (w19_3, l34_4) ct sg9 od hs) := hD
      refine lv_i2l (v := zL v120_16) hx hb dX9_digestPoints_123 (zL_of ⟨by omega, by omega⟩) ?_
      refine z_calll hP hD hS hA (va_runS (As := [.long v109_15, .long (zL v120_16)]) (rest := []) hC (c_X9_mix l D τ _ _ v109_15 (zL v120_16) _) (va_cwS 2 hts (gS hB wl_X9_294 wt_X9_mix wi_X9 wc_X9_mix) rfl rfl rfl hd_X9_mix.2 ⟨Nat.le_of_ble_eq_true rfl, Nat.le_of_ble_eq_true rfl⟩) (zp_S hK hP hD hS hA hG) rfl rfl hl.1 rfl (lv_room (Nat.le_of_ble_eq_true rfl)) dX9_digestPoints_124 ⟨Nat.le_of_ble_eq_true rfl, Nat.le_of_ble_eq_true rfl⟩) (fun r w1 H locs hq9 hP hD hS => ?_)
      obtain ⟨v124_17, hv124_0, rfl, rfl⟩ := hq9
      refine lv_lstore_n (lv' := [(3, .long v124_17), (6, .int (zI v55_8)), (5, .int (zI i)), (0, .ref (α 0)), (1, .long s9)]) hx hb dX9_digestPoints_127 rfl hl (by decide) rfl (fun ls hl => ?_)
      refine lv_lload_n hx hb dX9_digestPoints_128 rfl (lv_at hl 0 rfl) ?_
      refine lv_aload_n hx hb dX9_digestPoints_129 rfl (lv_at hl 3 rfl) ?_
      refine va_get (D := D) (ci := 9) (v := .ref (α 4)) (C := RX9) (T := TX9) (N := 9) hx hb hts (fun w h => List.mem_cons_of_mem _ (wx_X9 w h)) hown hK hP 0 rfl rfl 3 (by decide) (hW0 _ wf_X9_33) (fun _ h9 => h9) rfl dX9_digestPoints_130 ?_
      refine lv_iload hx hb dX9_digestPoints_133 (lv_at hl 2 rfl) ?_
      refine z_calli hP hD hS hA (va_runV (As := [.int (zI i)]) (rest := [.long v124_17]) hC (c_X8_countFollowing l D τ α γ (h, old, ch) (w34_5, q34_6) ln n8_1 d8_2 q55_7 (w19_3, l34_4) ct sg9 od hs h i (by omega) (by intro k z1 z2; rw [hv8_0, zmix_at ⟨z1, z2⟩]) _) (cwV 1 hts (gV hB wl_X9_223 wn_X8_countFollowing ws_X8_countFollowing wi_X8 wc_X8_countFollowing) rfl rfl rfl hd_X8_countFollowing ⟨Nat.le_of_ble_eq_true rfl, Nat.le_of_ble_eq_true rfl⟩) (zp_V hK hP hD hS hA hG (ci := 8) (q0 := 4) rfl rfl rfl) rfl rfl hl.1 rfl (lv_room (Nat.le_of_ble_eq_true rfl)) dX9_digestPoints_135 ⟨Nat.le_of_ble_eq_true rfl, Nat.le_of_ble_eq_true rfl⟩) (fun r w1 H locs hq9 hP hD hS => ?_)
      obtain ⟨v135_18, hv135_0, hv135_1, rfl, rfl⟩ := hq9
      have hP : va_P D vwCl (wH α γ (h, old, ch) (w34_5, q34_6) ln (n8_1, d8_2, q55_7) (w19_3, l34_4) ct sg9 od hs) H := hP
      have hD : va_D A (wH α γ (h, old, ch) (w34_5, q34_6) ln (n8_1, d8_2, q55_7) (w19_3, l34_4) ct sg9 od hs) := hD
      refine lv_i2l (v := zL v135_18) hx hb dX9_digestPoints_138 (zL_of ⟨by omega, by omega⟩) ?_
      refine z_calll hP hD hS hA (va_runS (As := [.long v124_17, .long (zL v135_18)]) (rest := []) hC (c_X9_mix l D τ _ _ v124_17 (zL v135_18) _) (va_cwS 2 hts (gS hB wl_X9_294 wt_X9_mix wi_X9 wc_X9_mix) rfl rfl rfl hd_X9_mix.2 ⟨Nat.le_of_ble_eq_true rfl, Nat.le_of_ble_eq_true rfl⟩) (zp_S hK hP hD hS hA hG) rfl rfl hl.1 rfl (lv_room (Nat.le_of_ble_eq_true rfl)) dX9_digestPoints_139 ⟨Nat.le_of_ble_eq_true rfl, Nat.le_of_ble_eq_true rfl⟩) (fun r w1 H locs hq9 hP hD hS => ?_)
      obtain ⟨v139_19, hv139_0, rfl, rfl⟩ := hq9
      refine lv_lstore_n (lv' := [(3, .long v139_19), (6, .int (zI v55_8)), (5, .int (zI i)), (0, .ref (α 0)), (1, .long s9)]) hx hb dX9_digestPoints_142 rfl hl (by decide) rfl (fun ls hl => ?_)
      refine lv_lload_n hx hb dX9_digestPoints_143 rfl (lv_at hl 0 rfl) ?_
      refine lv_aload_n hx hb dX9_digestPoints_144 rfl (lv_at hl 3 rfl) ?_
      refine va_get (D := D) (ci := 9) (v := .ref (α 4)) (C := RX9) (T := TX9) (N := 9) hx hb hts (fun w h => List.mem_cons_of_mem _ (wx_X9 w h)) hown hK hP 0 rfl rfl 3 (by decide) (hW0 _ wf_X9_33) (fun _ h9 => h9) rfl dX9_digestPoints_145 ?_
      refine lv_iload hx hb dX9_digestPoints_148 (lv_at hl 2 rfl) ?_
      refine z_calli hP hD hS hA (va_runV (As := [.int (zI i)]) (rest := [.long v139_19]) hC (c_X8_isLowest l D τ α γ (h, old, ch) (w34_5, q34_6) ln n8_1 d8_2 q55_7 (w19_3, l34_4) ct sg9 od hs h i (by omega) (by intro k z1 z2; rw [hv8_0, zmix_at ⟨z1, z2⟩]) _) (cwV 1 hts (gV hB wl_X9_210 wn_X8_isLowest ws_X8_isLowest wi_X8 wc_X8_isLowest) rfl rfl rfl hd_X8_isLowest ⟨Nat.le_of_ble_eq_true rfl, Nat.le_of_ble_eq_true rfl⟩) (zp_V hK hP hD hS hA hG (ci := 8) (q0 := 4) rfl rfl rfl) rfl rfl hl.1 rfl (lv_room (Nat.le_of_ble_eq_true rfl)) dX9_digestPoints_150 ⟨Nat.le_of_ble_eq_true rfl, Nat.le_of_ble_eq_true rfl⟩) (fun r w1 H locs hq9 hP hD hS => ?_)
      obtain ⟨v150_20, hv150_0, rfl, rfl⟩ := hq9
      have hP : va_P D vwCl (wH α γ (h, old, ch) (w34_5, q34_6) ln (n8_1, d8_2, q55_7) (w19_3, l34_4) ct sg9 od hs) H := hP
      have hD : va_D A (wH α γ (h, old, ch) (w34_5, q34_6) ln (n8_1, d8_2, q55_7) (w19_3, l34_4) ct sg9 od hs) := hD
      refine z_ifeqB (tgt := 162) hx hb dX9_digestPoints_153 (by decide) (fun c_153 => ?_) (fun c_153 => ?_)
      · have hb_153 := zb_neg hv150_0 c_153
        refine lv_lconst (v := zL 0) hx hb dX9_digestPoints_162 rfl ?_
        have hsb : zL (S_basin h i) = (zL 0) := by unfold S_basin; first | (rw [if_pos hb_153, ← hv55_0]; done) | (rw [if_neg hb_153]; done)
        refine z_calll hP hD hS hA (va_runS (As := [.long v139_19, .long (zL 0)]) (rest := []) hC (c_X9_mix l D τ _ _ v139_19 (zL 0) _) (va_cwS 2 hts (gS hB wl_X9_294 wt_X9_mix wi_X9 wc_X9_mix) rfl rfl rfl hd_X9_mix.2 ⟨Nat.le_of_ble_eq_true rfl, Nat.le_of_ble_eq_true rfl⟩) (zp_S hK hP hD hS hA hG) rfl rfl hl.1 rfl (lv_room (Nat.le_of_ble_eq_true rfl)) dX9_digestPoints_163 ⟨Nat.le_of_ble_eq_true rfl, Nat.le_of_ble_eq_true rfl⟩) (fun r w1 H locs hq9 hP hD hS => ?_)
        obtain ⟨v163_21, hv163_0, rfl, rfl⟩ := hq9
        refine lv_lstore_n (lv' := [(3, .long v163_21), (6, .int (zI v55_8)), (5, .int (zI i)), (0, .ref (α 0)), (1, .long s9)]) hx hb dX9_digestPoints_166 rfl hl (by decide) rfl (fun ls hl => ?_)
        refine lv_lload_n hx hb dX9_digestPoints_167 rfl (lv_at hl 0 rfl) ?_
        refine lv_aload_n hx hb dX9_digestPoints_168 rfl (lv_at hl 3 rfl) ?_
        refine va_get (D := D) (ci := 9) (v := .ref (α 5)) (C := RX9) (T := TX9) (N := 9) hx hb hts (fun w h => List.mem_cons_of_mem _ (wx_X9 w h)) hown hK hP 0 rfl rfl 4 (by decide) (hW0 _ wf_X9_40) (fun _ h9 => h9) rfl dX9_digestPoints_169 ?_
        refine lv_iload hx hb dX9_digestPoints_172 (lv_at hl 2 rfl) ?_
        refine z_calli hP hD hS hA (va_runV (As := [.int (zI i)]) (rest := [.long v163_21]) hC (c_X4_wayHeight l D τ α γ (h, old, ch) (w34_5, q34_6) ln (n8_1, d8_2, q55_7) w19_3 l34_4 ct sg9 od hs h i (by omega) (by exact hv19_0) _) (cwV 1 hts (gV hB wl_X9_235 wn_X4_wayHeight ws_X4_wayHeight wi_X4 wc_X4_wayHeight) rfl rfl rfl hd_X4_wayHeight ⟨Nat.le_of_ble_eq_true rfl, Nat.le_of_ble_eq_true rfl⟩) (zp_V hK hP hD hS hA hG (ci := 4) (q0 := 5) rfl rfl rfl) rfl rfl hl.1 rfl (lv_room (Nat.le_of_ble_eq_true rfl)) dX9_digestPoints_174 ⟨Nat.le_of_ble_eq_true rfl, Nat.le_of_ble_eq_true rfl⟩) (fun r w1 H locs hq9 hP hD hS => ?_)
        obtain ⟨v174_22, hv174_0, hv174_1, rfl, rfl⟩ := hq9
        have hP : va_P D vwCl (wH α γ (h, old, ch) (w34_5, q34_6) ln (n8_1, d8_2, q55_7) (w19_3, l34_4) ct sg9 od hs) H := hP
        have hD : va_D A (wH α γ (h, old, ch) (w34_5, q34_6) ln (n8_1, d8_2, q55_7) (w19_3, l34_4) ct sg9 od hs) := hD
        refine lv_i2l (v := zL v174_22) hx hb dX9_digestPoints_177 (zL_of ⟨by omega, by omega⟩) ?_
        refine z_calll hP hD hS hA (va_runS (As := [.long v163_21, .long (zL v174_22)]) (rest := []) hC (c_X9_mix l D τ _ _ v163_21 (zL v174_22) _) (va_cwS 2 hts (gS hB wl_X9_294 wt_X9_mix wi_X9 wc_X9_mix) rfl rfl rfl hd_X9_mix.2 ⟨Nat.le_of_ble_eq_true rfl, Nat.le_of_ble_eq_true rfl⟩) (zp_S hK hP hD hS hA hG) rfl rfl hl.1 rfl (lv_room (Nat.le_of_ble_eq_true rfl)) dX9_digestPoints_178 ⟨Nat.le_of_ble_eq_true rfl, Nat.le_of_ble_eq_true rfl⟩) (fun r w1 H locs hq9 hP hD hS => ?_)
        obtain ⟨v178_23, hv178_0, rfl, rfl⟩ := hq9
        refine lv_lstore_n (lv' := [(3, .long v178_23), (6, .int (zI v55_8)), (5, .int (zI i)), (0, .ref (α 0)), (1, .long s9)]) hx hb dX9_digestPoints_181 rfl hl (by decide) rfl (fun ls hl => ?_)
        refine lv_lload_n hx hb dX9_digestPoints_182 rfl (lv_at hl 0 rfl) ?_
        refine lv_aload_n hx hb dX9_digestPoints_183 rfl (lv_at hl 3 rfl) ?_
        refine va_get (D := D) (ci := 9) (v := .ref (α 5)) (C := RX9) (T := TX9) (N := 9) hx hb hts (fun w h => List.mem_cons_of_mem _ (wx_X9 w h)) hown hK hP 0 rfl rfl 4 (by decide) (hW0 _ wf_X9_40) (fun _ h9 => h9) rfl dX9_digestPoints_184 ?_
        refine lv_iload hx hb dX9_digestPoints_187 (lv_at hl 2 rfl) ?_
        refine z_calli hP hD hS hA (va_runV (As := [.int (zI i)]) (rest := [.long v178_23]) hC (c_X4_levelHeight l D τ α γ (h, old, ch) (w34_5, q34_6) ln (n8_1, d8_2, q55_7) w19_3 l34_4 ct sg9 od hs h i (by omega) (by exact hv34_0) _) (cwV 1 hts (gV hB wl_X9_242 wn_X4_levelHeight ws_X4_levelHeight wi_X4 wc_X4_levelHeight) rfl rfl rfl hd_X4_levelHeight ⟨Nat.le_of_ble_eq_true rfl, Nat.le_of_ble_eq_true rfl⟩) (zp_V hK hP hD hS hA hG (ci := 4) (q0 := 5) rfl rfl rfl) rfl rfl hl.1 rfl (lv_room (Nat.le_of_ble_eq_true rfl)) dX9_digestPoints_189 ⟨Nat.le_of_ble_eq_true rfl, Nat.le_of_ble_eq_true rfl⟩) (fun r w1 H locs hq9 hP hD hS => ?_)
        obtain ⟨v189_24, hv189_0, hv189_1, rfl, rfl⟩ := hq9
        have hP : va_P D vwCl (wH α γ (h, old, ch) (w34_5, q34_6) ln (n8_1, d8_2, q55_7) (w19_3, l34_4) ct sg9 od hs) H := hP
        have hD : va_D A (wH α γ (h, old, ch) (w34_5, q34_6) ln (n8_1, d8_2, q55_7) (w19_3, l34_4) ct sg9 od hs) := hD
        refine lv_i2l (v := zL v189_24) hx hb dX9_digestPoints_192 (zL_of ⟨by omega, by omega⟩) ?_
        refine z_calll hP hD hS hA (va_runS (As := [.long v178_23, .long (zL v189_24)]) (rest := []) hC (c_X9_mix l D τ _ _ v178_23 (zL v189_24) _) (va_cwS 2 hts (gS hB wl_X9_294 wt_X9_mix wi_X9 wc_X9_mix) rfl rfl rfl hd_X9_mix.2 ⟨Nat.le_of_ble_eq_true rfl, Nat.le_of_ble_eq_true rfl⟩) (zp_S hK hP hD hS hA hG) rfl rfl hl.1 rfl (lv_room (Nat.le_of_ble_eq_true rfl)) dX9_digestPoints_193 ⟨Nat.le_of_ble_eq_true rfl, Nat.le_of_ble_eq_true rfl⟩) (fun r w1 H locs hq9 hP hD hS => ?_)
        obtain ⟨v193_25, hv193_0, rfl, rfl⟩ := hq9
        refine lv_lstore_n (lv' := [(3, .long v193_25), (6, .int (zI v55_8)), (5, .int (zI i)), (0, .ref (α 0)), (1, .long s9)]) hx hb dX9_digestPoints_196 rfl hl (by decide) rfl (fun ls hl => ?_)
        refine lv_lload_n hx hb dX9_digestPoints_197 rfl (lv_at hl 0 rfl) ?_
        refine lv_aload_n hx hb dX9_digestPoints_198 rfl (lv_at hl 3 rfl) ?_
        refine va_get (D := D) (ci := 9) (v := .ref (α 5)) (C := RX9) (T := TX9) (N := 9) hx hb hts (fun w h => List.mem_cons_of_mem _ (wx_X9 w h)) hown hK hP 0 rfl rfl 4 (by decide) (hW0 _ wf_X9_40) (fun _ h9 => h9) rfl dX9_digestPoints_199 ?_
        refine lv_iload hx hb dX9_digestPoints_202 (lv_at hl 2 rfl) ?_
        refine z_calli hP hD hS hA (va_runV (As := [.int (zI i)]) (rest := [.long v193_25]) hC (c_X4_wayHeight l D τ α γ (h, old, ch) (w34_5, q34_6) ln (n8_1, d8_2, q55_7) w19_3 l34_4 ct sg9 od hs h i (by omega) (by exact hv19_0) _) (cwV 1 hts (gV hB wl_X9_235 wn_X4_wayHeight ws_X4_wayHeight wi_X4 wc_X4_wayHeight) rfl rfl rfl hd_X4_wayHeight ⟨Nat.le_of_ble_eq_true rfl, Nat.le_of_ble_eq_true rfl⟩) (zp_V hK hP hD hS hA hG (ci := 4) (q0 := 5) rfl rfl rfl) rfl rfl hl.1 rfl (lv_room (Nat.le_of_ble_eq_true rfl)) dX9_digestPoints_204 ⟨Nat.le_of_ble_eq_true rfl, Nat.le_of_ble_eq_true rfl⟩) (fun r w1 H locs hq9 hP hD hS => ?_)
        obtain ⟨v204_26, hv204_0, hv204_1, rfl, rfl⟩ := hq9
        have hP : va_P D vwCl (wH α γ (h, old, ch) (w34_5, q34_6) ln (n8_1, d8_2, q55_7) (w19_3, l34_4) ct sg9 od hs) H := hP
        have hD : va_D A (wH α γ (h, old, ch) (w34_5, q34_6) ln (n8_1, d8_2, q55_7) (w19_3, l34_4) ct sg9 od hs) := hD
        refine lv_aload_n hx hb dX9_digestPoints_207 rfl (lv_at hl 3 rfl) ?_
        refine va_get (D := D) (ci := 9) (v := .ref (α 1)) (C := RX9) (T := TX9) (N := 9) hx hb hts (fun w h => List.mem_cons_of_mem _ (wx_X9 w h)) hown hK hP 0 rfl rfl 0 (by decide) (hW0 _ wf_X9_12) (fun _ h9 => h9) rfl dX9_digestPoints_208 ?_
        refine lv_iload hx hb dX9_digestPoints_211 (lv_at hl 2 rfl) ?_
        refine z_calli hP hD hS hA (va_runV (As := [.int (zI i)]) (rest := [.int (zI v204_26), .long v193_25]) hC (c_X6_at l D τ α γ h old ch (w34_5, q34_6) ln (n8_1, d8_2, q55_7) (w19_3, l34_4) ct sg9 od hs i (by first | assumption | rfl | omega) (by first | assumption | rfl | omega) _) (cwV 1 hts (gV hB wl_X9_87 wn_X6_at ws_X6_at wi_X6 wc_X6_at) rfl rfl rfl hd_X6_at ⟨Nat.le_of_ble_eq_true rfl, Nat.le_of_ble_eq_true rfl⟩) (zp_V hK hP hD hS hA hG (ci := 6) (q0 := 1) rfl rfl rfl) rfl rfl hl.1 rfl (lv_room (Nat.le_of_ble_eq_true rfl)) dX9_digestPoints_213 ⟨Nat.le_of_ble_eq_true rfl, Nat.le_of_ble_eq_true rfl⟩) (fun r w1 H locs hq9 hP hD hS => ?_)
        obtain ⟨v213_27, hv213_0, hv213_1, hv213_2, rfl, rfl⟩ := hq9
        have hP : va_P D vwCl (wH α γ (h, old, ch) (w34_5, q34_6) ln (n8_1, d8_2, q55_7) (w19_3, l34_4) ct sg9 od hs) H := hP
        have hD : va_D A (wH α γ (h, old, ch) (w34_5, q34_6) ln (n8_1, d8_2, q55_7) (w19_3, l34_4) ct sg9 od hs) := hD
        refine z_isub hx hb dX9_digestPoints_216 ?_
        refine lv_i2l (v := zL (v204_26 - v213_27)) hx hb dX9_digestPoints_217 (zL_of ⟨by omega, by omega⟩) ?_
        refine z_calll hP hD hS hA (va_runS (As := [.long v193_25, .long (zL (v204_26 - v213_27))]) (rest := []) hC (c_X9_mix l D τ _ _ v193_25 (zL (v204_26 - v213_27)) _) (va_cwS 2 hts (gS hB wl_X9_294 wt_X9_mix wi_X9 wc_X9_mix) rfl rfl rfl hd_X9_mix.2 ⟨Nat.le_of_ble_eq_true rfl, Nat.le_of_ble_eq_true rfl⟩) (zp_S hK hP hD hS hA hG) rfl rfl hl.1 rfl (lv_room (Nat.le_of_ble_eq_true rfl)) dX9_digestPoints_218 ⟨Nat.le_of_ble_eq_true rfl, Nat.le_of_ble_eq_true rfl⟩) (fun r w1 H locs hq9 hP hD hS => ?_)
        obtain ⟨v218_28, hv218_0, rfl, rfl⟩ := hq9
        refine lv_lstore_n (lv' := [(3, .long v218_28), (6, .int (zI v55_8)), (5, .int (zI i)), (0, .ref (α 0)), (1, .long s9)]) hx hb dX9_digestPoints_221 rfl hl (by decide) rfl (fun ls hl => ?_)
        refine lv_lload_n hx hb dX9_digestPoints_222 rfl (lv_at hl 0 rfl) ?_
        refine lv_aload_n hx hb dX9_digestPoints_223 rfl (lv_at hl 3 rfl) ?_
        refine va_get (D := D) (ci := 9) (v := .ref (α 7)) (C := RX9) (T := TX9) (N := 9) hx hb hts (fun w h => List.mem_cons_of_mem _ (wx_X9 w h)) hown hK hP 0 rfl rfl 6 (by decide) (hW0 _ wf_X9_54) (fun _ h9 => h9) rfl dX9_digestPoints_224 ?_
        refine lv_iload hx hb dX9_digestPoints_227 (lv_at hl 2 rfl) ?_
        refine z_calli hP hD hS hA (va_runV (As := [.int (zI i)]) (rest := [.long v218_28]) hC (c_X7_count l D τ α γ (h, old, ch) (w34_5, q34_6) ln (n8_1, d8_2, q55_7) (w19_3, l34_4) ct sg9 od hs h i (by omega) (by exact hsg) _) (cwV 1 hts (gV hB wl_X9_334 wn_X7_count ws_X7_count wi_X7 wc_X7_count) rfl rfl rfl hd_X7_count ⟨Nat.le_of_ble_eq_true rfl, Nat.le_of_ble_eq_true rfl⟩) (zp_V hK hP hD hS hA hG (ci := 7) (q0 := 7) rfl rfl rfl) rfl rfl hl.1 rfl (lv_room (Nat.le_of_ble_eq_true rfl)) dX9_digestPoints_229 ⟨Nat.le_of_ble_eq_true rfl, Nat.le_of_ble_eq_true rfl⟩) (fun r w1 H locs hq9 hP hD hS => ?_)
        obtain ⟨v229_29, hv229_0, hv229_1, rfl, rfl⟩ := hq9
        have hP : va_P D vwCl (wH α γ (h, old, ch) (w34_5, q34_6) ln (n8_1, d8_2, q55_7) (w19_3, l34_4) ct sg9 od hs) H := hP
        have hD : va_D A (wH α γ (h, old, ch) (w34_5, q34_6) ln (n8_1, d8_2, q55_7) (w19_3, l34_4) ct sg9 od hs) := hD
        refine lv_i2l (v := zL v229_29) hx hb dX9_digestPoints_232 (zL_of ⟨by omega, by omega⟩) ?_
        refine z_calll hP hD hS hA (va_runS (As := [.long v218_28, .long (zL v229_29)]) (rest := []) hC (c_X9_mix l D τ _ _ v218_28 (zL v229_29) _) (va_cwS 2 hts (gS hB wl_X9_294 wt_X9_mix wi_X9 wc_X9_mix) rfl rfl rfl hd_X9_mix.2 ⟨Nat.le_of_ble_eq_true rfl, Nat.le_of_ble_eq_true rfl⟩) (zp_S hK hP hD hS hA hG) rfl rfl hl.1 rfl (lv_room (Nat.le_of_ble_eq_true rfl)) dX9_digestPoints_233 ⟨Nat.le_of_ble_eq_true rfl, Nat.le_of_ble_eq_true rfl⟩) (fun r w1 H locs hq9 hP hD hS => ?_)
        obtain ⟨v233_30, hv233_0, rfl, rfl⟩ := hq9
        refine lv_lstore_n (lv' := [(3, .long v233_30), (6, .int (zI v55_8)), (5, .int (zI i)), (0, .ref (α 0)), (1, .long s9)]) hx hb dX9_digestPoints_236 rfl hl (by decide) rfl (fun ls hl => ?_)
        refine z_iinc (k := 2) (v := i + 1) (lv' := [(5, .int (zI (i + 1))), (3, .long v233_30), (6, .int (zI v55_8)), (0, .ref (α 0)), (1, .long s9)]) hx hb dX9_digestPoints_237 hl rfl rfl (by decide) rfl (fun ls hl => ?_)
        refine lv_goto (tgt := 42) hx hb dX9_digestPoints_240 (by decide) ?_
        exact ih_42 q55_7 v233_30 (i + 1) _ _ hP hD hS _ (lv_sub hl [1, 0, 3, 4] rfl) (by first | assumption | rfl | omega) (by rw [itI_up hi.1, ← hh1]; unfold S_dp1 mixI; rw [hv233_0, hv218_0, hv193_0, hv178_0, hv163_0, hv139_0, hv124_0, hv109_0, hv101_0, hv86_0, hv71_0, hv67_2 (by omega), hv82_0, hv97_0, hv120_0, hv135_0, S_basin_eq, hsb, hv55_0, hv174_0, hv189_0, hv204_0, hv213_2 (by omega), hv229_0]) (by omega)
      · have hb_153 := hv150_0.mp c_153
        refine lv_iload hx hb dX9_digestPoints_156 (lv_at hl 1 rfl) ?_
        refine lv_i2l (v := zL v55_8) hx hb dX9_digestPoints_158 (zL_of ⟨by omega, by omega⟩) ?_
        refine lv_goto (tgt := 163) hx hb dX9_digestPoints_159 (by decide) ?_
        have hsb : zL (S_basin h i) = (zL v55_8) := by unfold S_basin; first | (rw [if_pos hb_153, ← hv55_0]; done) | (rw [if_neg hb_153]; done)
        refine z_calll hP hD hS hA (va_runS (As := [.long v139_19, .long (zL v55_8)]) (rest := []) hC (c_X9_mix l D τ _ _ v139_19 (zL v55_8) _) (va_cwS 2 hts (gS hB wl_X9_294 wt_X9_mix wi_X9 wc_X9_mix) rfl rfl rfl hd_X9_mix.2 ⟨Nat.le_of_ble_eq_true rfl, Nat.le_of_ble_eq_true rfl⟩) (zp_S hK hP hD hS hA hG) rfl rfl hl.1 rfl (lv_room (Nat.le_of_ble_eq_true rfl)) dX9_digestPoints_163 ⟨Nat.le_of_ble_eq_true rfl, Nat.le_of_ble_eq_true rfl⟩) (fun r w1 H locs hq9 hP hD hS => ?_)
        obtain ⟨v163_31, hv163_0, rfl, rfl⟩ := hq9
        refine lv_lstore_n (lv' := [(3, .long v163_31), (6, .int (zI v55_8)), (5, .int (zI i)), (0, .ref (α 0)), (1, .long s9)]) hx hb dX9_digestPoints_166 rfl hl (by decide) rfl (fun ls hl => ?_)
        refine lv_lload_n hx hb dX9_digestPoints_167 rfl (lv_at hl 0 rfl) ?_
        refine lv_aload_n hx hb dX9_digestPoints_168 rfl (lv_at hl 3 rfl) ?_
        refine va_get (D := D) (ci := 9) (v := .ref (α 5)) (C := RX9) (T := TX9) (N := 9) hx hb hts (fun w h => List.mem_cons_of_mem _ (wx_X9 w h)) hown hK hP 0 rfl rfl 4 (by decide) (hW0 _ wf_X9_40) (fun _ h9 => h9) rfl dX9_digestPoints_169 ?_
        refine lv_iload hx hb dX9_digestPoints_172 (lv_at hl 2 rfl) ?_
        refine z_calli hP hD hS hA (va_runV (As := [.int (zI i)]) (rest := [.long v163_31]) hC (c_X4_wayHeight l D τ α γ (h, old, ch) (w34_5, q34_6) ln (n8_1, d8_2, q55_7) w19_3 l34_4 ct sg9 od hs h i (by omega) (by exact hv19_0) _) (cwV 1 hts (gV hB wl_X9_235 wn_X4_wayHeight ws_X4_wayHeight wi_X4 wc_X4_wayHeight) rfl rfl rfl hd_X4_wayHeight ⟨Nat.le_of_ble_eq_true rfl, Nat.le_of_ble_eq_true rfl⟩) (zp_V hK hP hD hS hA hG (ci := 4) (q0 := 5) rfl rfl rfl) rfl rfl hl.1 rfl (lv_room (Nat.le_of_ble_eq_true rfl)) dX9_digestPoints_174 ⟨Nat.le_of_ble_eq_true rfl, Nat.le_of_ble_eq_true rfl⟩) (fun r w1 H locs hq9 hP hD hS => ?_)
        obtain ⟨v174_32, hv174_0, hv174_1, rfl, rfl⟩ := hq9
        have hP : va_P D vwCl (wH α γ (h, old, ch) (w34_5, q34_6) ln (n8_1, d8_2, q55_7) (w19_3, l34_4) ct sg9 od hs) H := hP
        have hD : va_D A (wH α γ (h, old, ch) (w34_5, q34_6) ln (n8_1, d8_2, q55_7) (w19_3, l34_4) ct sg9 od hs) := hD
        refine lv_i2l (v := zL v174_32) hx hb dX9_digestPoints_177 (zL_of ⟨by omega, by omega⟩) ?_
        refine z_calll hP hD hS hA (va_runS (As := [.long v163_31, .long (zL v174_32)]) (rest := []) hC (c_X9_mix l D τ _ _ v163_31 (zL v174_32) _) (va_cwS 2 hts (gS hB wl_X9_294 wt_X9_mix wi_X9 wc_X9_mix) rfl rfl rfl hd_X9_mix.2 ⟨Nat.le_of_ble_eq_true rfl, Nat.le_of_ble_eq_true rfl⟩) (zp_S hK hP hD hS hA hG) rfl rfl hl.1 rfl (lv_room (Nat.le_of_ble_eq_true rfl)) dX9_digestPoints_178 ⟨Nat.le_of_ble_eq_true rfl, Nat.le_of_ble_eq_true rfl⟩) (fun r w1 H locs hq9 hP hD hS => ?_)
        obtain ⟨v178_33, hv178_0, rfl, rfl⟩ := hq9
        refine lv_lstore_n (lv' := [(3, .long v178_33), (6, .int (zI v55_8)), (5, .int (zI i)), (0, .ref (α 0)), (1, .long s9)]) hx hb dX9_digestPoints_181 rfl hl (by decide) rfl (fun ls hl => ?_)
        refine lv_lload_n hx hb dX9_digestPoints_182 rfl (lv_at hl 0 rfl) ?_
        refine lv_aload_n hx hb dX9_digestPoints_183 rfl (lv_at hl 3 rfl) ?_
        refine va_get (D := D) (ci := 9) (v := .ref (α 5)) (C := RX9) (T := TX9) (N := 9) hx hb hts (fun w h => List.mem_cons_of_mem _ (wx_X9 w h)) hown hK hP 0 rfl rfl 4 (by decide) (hW0 _ wf_X9_40) (fun _ h9 => h9) rfl dX9_digestPoints_184 ?_
        refine lv_iload hx hb dX9_digestPoints_187 (lv_at hl 2 rfl) ?_
        refine z_calli hP hD hS hA (va_runV (As := [.int (zI i)]) (rest := [.long v178_33]) hC (c_X4_levelHeight l D τ α γ (h, old, ch) (w34_5, q34_6) ln (n8_1, d8_2, q55_7) w19_3 l34_4 ct sg9 od hs h i (by omega) (by exact hv34_0) _) (cwV 1 hts (gV hB wl_X9_242 wn_X4_levelHeight ws_X4_levelHeight wi_X4 wc_X4_levelHeight) rfl rfl rfl hd_X4_levelHeight ⟨Nat.le_of_ble_eq_true rfl, Nat.le_of_ble_eq_true rfl⟩) (zp_V hK hP hD hS hA hG (ci := 4) (q0 := 5) rfl rfl rfl) rfl rfl hl.1 rfl (lv_room (Nat.le_of_ble_eq_true rfl)) dX9_digestPoints_189 ⟨Nat.le_of_ble_eq_true rfl, Nat.le_of_ble_eq_true rfl⟩) (fun r w1 H locs hq9 hP hD hS => ?_)
        obtain ⟨v189_34, hv189_0, hv189_1, rfl, rfl⟩ := hq9
        have hP : va_P D vwCl (wH α γ (h, old, ch) (w34_5, q34_6) ln (n8_1, d8_2, q55_7) (w19_3, l34_4) ct sg9 od hs) H := hP
        have hD : va_D A (wH α γ (h, old, ch) (w34_5, q34_6) ln (n8_1, d8_2, q55_7) (w19_3, l34_4) ct sg9 od hs) := hD
        refine lv_i2l (v := zL v189_34) hx hb dX9_digestPoints_192 (zL_of ⟨by omega, by omega⟩) ?_
        refine z_calll hP hD hS hA (va_runS (As := [.long v178_33, .long (zL v189_34)]) (rest := []) hC (c_X9_mix l D τ _ _ v178_33 (zL v189_34) _) (va_cwS 2 hts (gS hB wl_X9_294 wt_X9_mix wi_X9 wc_X9_mix) rfl rfl rfl hd_X9_mix.2 ⟨Nat.le_of_ble_eq_true rfl, Nat.le_of_ble_eq_true rfl⟩) (zp_S hK hP hD hS hA hG) rfl rfl hl.1 rfl (lv_room (Nat.le_of_ble_eq_true rfl)) dX9_digestPoints_193 ⟨Nat.le_of_ble_eq_true rfl, Nat.le_of_ble_eq_true rfl⟩) (fun r w1 H locs hq9 hP hD hS => ?_)
        obtain ⟨v193_35, hv193_0, rfl, rfl⟩ := hq9
        refine lv_lstore_n (lv' := [(3, .long v193_35), (6, .int (zI v55_8)), (5, .int (zI i)), (0, .ref (α 0)), (1, .long s9)]) hx hb dX9_digestPoints_196 rfl hl (by decide) rfl (fun ls hl => ?_)
        refine lv_lload_n hx hb dX9_digestPoints_197 rfl (lv_at hl 0 rfl) ?_
        refine lv_aload_n hx hb dX9_digestPoints_198 rfl (lv_at hl 3 rfl) ?_
        refine va_get (D := D) (ci := 9) (v := .ref (α 5)) (C := RX9) (T := TX9) (N := 9) hx hb hts (fun w h => List.mem_cons_of_mem _ (wx_X9 w h)) hown hK hP 0 rfl rfl 4 (by decide) (hW0 _ wf_X9_40) (fun _ h9 => h9) rfl dX9_digestPoints_199 ?_
        refine lv_iload hx hb dX9_digestPoints_202 (lv_at hl 2 rfl) ?_
        refine z_calli hP hD hS hA (va_runV (As := [.int (zI i)]) (rest := [.long v193_35]) hC (c_X4_wayHeight l D τ α γ (h, old, ch) (w34_5, q34_6) ln (n8_1, d8_2, q55_7) w19_3 l34_4 ct sg9 od hs h i (by omega) (by exact hv19_0) _) (cwV 1 hts (gV hB wl_X9_235 wn_X4_wayHeight ws_X4_wayHeight wi_X4 wc_X4_wayHeight) rfl rfl rfl hd_X4_wayHeight ⟨Nat.le_of_ble_eq_true rfl, Nat.le_of_ble_eq_true rfl⟩) (zp_V hK hP hD hS hA hG (ci := 4) (q0 := 5) rfl rfl rfl) rfl rfl hl.1 rfl (lv_room (Nat.le_of_ble_eq_true rfl)) dX9_digestPoints_204 ⟨Nat.le_of_ble_eq_true rfl, Nat.le_of_ble_eq_true rfl⟩) (fun r w1 H locs hq9 hP hD hS => ?_)
        obtain ⟨v204_36, hv204_0, hv204_1, rfl, rfl⟩ := hq9
        have hP : va_P D vwCl (wH α γ (h, old, ch) (w34_5, q34_6) ln (n8_1, d8_2, q55_7) (w19_3, l34_4) ct sg9 od hs) H := hP
        have hD : va_D A (wH α γ (h, old, ch) (w34_5, q34_6) ln (n8_1, d8_2, q55_7) (w19_3, l34_4) ct sg9 od hs) := hD
        refine lv_aload_n hx hb dX9_digestPoints_207 rfl (lv_at hl 3 rfl) ?_
        refine va_get (D := D) (ci := 9) (v := .ref (α 1)) (C := RX9) (T := TX9) (N := 9) hx hb hts (fun w h => List.mem_cons_of_mem _ (wx_X9 w h)) hown hK hP 0 rfl rfl 0 (by decide) (hW0 _ wf_X9_12) (fun _ h9 => h9) rfl dX9_digestPoints_208 ?_
        refine lv_iload hx hb dX9_digestPoints_211 (lv_at hl 2 rfl) ?_
        refine z_calli hP hD hS hA (va_runV (As := [.int (zI i)]) (rest := [.int (zI v204_36), .long v193_35]) hC (c_X6_at l D τ α γ h old ch (w34_5, q34_6) ln (n8_1, d8_2, q55_7) (w19_3, l34_4) ct sg9 od hs i (by first | assumption | rfl | omega) (by first | assumption | rfl | omega) _) (cwV 1 hts (gV hB wl_X9_87 wn_X6_at ws_X6_at wi_X6 wc_X6_at) rfl rfl rfl hd_X6_at ⟨Nat.le_of_ble_eq_true rfl, Nat.le_of_ble_eq_true rfl⟩) (zp_V hK hP hD hS hA hG (ci := 6) (q0 := 1) rfl rfl rfl) rfl rfl hl.1 rfl (lv_room (Nat.le_of_ble_eq_true rfl)) dX9_digestPoints_213 ⟨Nat.le_of_ble_eq_true rfl, Nat.le_of_ble_eq_true rfl⟩) (fun r w1 H locs hq9 hP hD hS => ?_)
        obtain ⟨v213_37, hv213_0, hv213_1, hv213_2, rfl, rfl⟩ := hq9
        have hP : va_P D vwCl (wH α γ (h, old, ch) (w34_5, q34_6) ln (n8_1, d8_2, q55_7) (w19_3, l34_4) ct sg9 od hs) H := hP
        have hD : va_D A (wH α γ (h, old, ch) (w34_5, q34_6) ln (n8_1, d8_2, q55_7) (w19_3, l34_4) ct sg9 od hs) := hD
        refine z_isub hx hb dX9_digestPoints_216 ?_
        refine lv_i2l (v := zL (v204_36 - v213_37)) hx hb dX9_digestPoints_217 (zL_of ⟨by omega, by omega⟩) ?_
        refine z_calll hP hD hS hA (va_runS (As := [.long v193_35, .long (zL (v204_36 - v213_37))]) (rest := []) hC (c_X9_mix l D τ _ _ v193_35 (zL (v204_36 - v213_37)) _) (va_cwS 2 hts (gS hB wl_X9_294 wt_X9_mix wi_X9 wc_X9_mix) rfl rfl rfl hd_X9_mix.2 ⟨Nat.le_of_ble_eq_true rfl, Nat.le_of_ble_eq_true rfl⟩) (zp_S hK hP hD hS hA hG) rfl rfl hl.1 rfl (lv_room (Nat.le_of_ble_eq_true rfl)) dX9_digestPoints_218 ⟨Nat.le_of_ble_eq_true rfl, Nat.le_of_ble_eq_true rfl⟩) (fun r w1 H locs hq9 hP hD hS => ?_)
        obtain ⟨v218_38, hv218_0, rfl, rfl⟩ := hq9
        refine lv_lstore_n (lv' := [(3, .long v218_38), (6, .int (zI v55_8)), (5, .int (zI i)), (0, .ref (α 0)), (1, .long s9)]) hx hb dX9_digestPoints_221 rfl hl (by decide) rfl (fun ls hl => ?_)
        refine lv_lload_n hx hb dX9_digestPoints_222 rfl (lv_at hl 0 rfl) ?_
        refine lv_aload_n hx hb dX9_digestPoints_223 rfl (lv_at hl 3 rfl) ?_
        refine va_get (D := D) (ci := 9) (v := .ref (α 7)) (C := RX9) (T := TX9) (N := 9) hx hb hts (fun w h => List.mem_cons_of_mem _ (wx_X9 w h)) hown hK hP 0 rfl rfl 6 (by decide) (hW0 _ wf_X9_54) (fun _ h9 => h9) rfl dX9_digestPoints_224 ?_
        refine lv_iload hx hb dX9_digestPoints_227 (lv_at hl 2 rfl) ?_
        refine z_calli hP hD hS hA (va_runV (As := [.int (zI i)]) (rest := [.long v218_38]) hC (c_X7_count l D τ α γ (h, old, ch) (w34_5, q34_6) ln (n8_1, d8_2, q55_7) (w19_3, l34_4) ct sg9 od hs h i (by omega) (by exact hsg) _) (cwV 1 hts (gV hB wl_X9_334 wn_X7_count ws_X7_count wi_X7 wc_X7_count) rfl rfl rfl hd_X7_count ⟨Nat.le_of_ble_eq_true rfl, Nat.le_of_ble_eq_true rfl⟩) (zp_V hK hP hD hS hA hG (ci := 7) (q0 := 7) rfl rfl rfl) rfl rfl hl.1 rfl (lv_room (Nat.le_of_ble_eq_true rfl)) dX9_digestPoints_229 ⟨Nat.le_of_ble_eq_true rfl, Nat.le_of_ble_eq_true rfl⟩) (fun r w1 H locs hq9 hP hD hS => ?_)
        obtain ⟨v229_39, hv229_0, hv229_1, rfl, rfl⟩ := hq9
        have hP : va_P D vwCl (wH α γ (h, old, ch) (w34_5, q34_6) ln (n8_1, d8_2, q55_7) (w19_3, l34_4) ct sg9 od hs) H := hP
        have hD : va_D A (wH α γ (h, old, ch) (w34_5, q34_6) ln (n8_1, d8_2, q55_7) (w19_3, l34_4) ct sg9 od hs) := hD
        refine lv_i2l (v := zL v229_39) hx hb dX9_digestPoints_232 (zL_of ⟨by omega, by omega⟩) ?_
        refine z_calll hP hD hS hA (va_runS (As := [.long v218_38, .long (zL v229_39)]) (rest := []) hC (c_X9_mix l D τ _ _ v218_38 (zL v229_39) _) (va_cwS 2 hts (gS hB wl_X9_294 wt_X9_mix wi_X9 wc_X9_mix) rfl rfl rfl hd_X9_mix.2 ⟨Nat.le_of_ble_eq_true rfl, Nat.le_of_ble_eq_true rfl⟩) (zp_S hK hP hD hS hA hG) rfl rfl hl.1 rfl (lv_room (Nat.le_of_ble_eq_true rfl)) dX9_digestPoints_233 ⟨Nat.le_of_ble_eq_true rfl, Nat.le_of_ble_eq_true rfl⟩) (fun r w1 H locs hq9 hP hD hS => ?_)
        obtain ⟨v233_40, hv233_0, rfl, rfl⟩ := hq9
        refine lv_lstore_n (lv' := [(3, .long v233_40), (6, .int (zI v55_8)), (5, .int (zI i)), (0, .ref (α 0)), (1, .long s9)]) hx hb dX9_digestPoints_236 rfl hl (by decide) rfl (fun ls hl => ?_)
        refine z_iinc (k := 2) (v := i + 1) (lv' := [(5, .int (zI (i + 1))), (3, .long v233_40), (6, .int (zI v55_8)), (0, .ref (α 0)), (1, .long s9)]) hx hb dX9_digestPoints_237 hl rfl rfl (by decide) rfl (fun ls hl => ?_)
        refine lv_goto (tgt := 42) hx hb dX9_digestPoints_240 (by decide) ?_
        exact ih_42 q55_7 v233_40 (i + 1) _ _ hP hD hS _ (lv_sub hl [1, 0, 3, 4] rfl) (by first | assumption | rfl | omega) (by rw [itI_up hi.1, ← hh1]; unfold S_dp1 mixI; rw [hv233_0, hv218_0, hv193_0, hv178_0, hv163_0, hv139_0, hv124_0, hv109_0, hv101_0, hv86_0, hv71_0, hv67_2 (by omega), hv82_0, hv97_0, hv120_0, hv135_0, S_basin_eq, hsb, hv55_0, hv174_0, hv189_0, hv204_0, hv213_2 (by omega), hv229_0]) (by omega)

abbrev wz_X9_digestLevel : List Cond := .code yX9_digestLevel cX9_digestLevel 8 (some .long) :: W0
abbrev rm_X9_digestLevel : Room := { frames := 8, cells := 0, slots := 0, locals := 141 }
theorem hd_X9_digestLevel : yX9_digestLevel.cls = RX9 ∧ yX9_digestLevel.cls ≠ "java/lang/invoke/MethodHandle" ∧ yX9_digestLevel.cls ≠ "java/lang/invoke/VarHandle" ∧ (parseMethodDescriptor yX9_digestLevel.desc).map (fun d => d.parameters.length) = some 2 := by decide +kernel
set_option maxHeartbeats 4000000 in
set_option maxRecDepth 100000 in
theorem c_X9_digestLevel (l : Launch) (D : va_G) (τ : Nat → Nat) (α : Nat → Nat) (γ : Nat → ClassId) (h : IA) (old : IA) (ch : IA) (wt : BA) (qu5 : IA) (hi8 : BA) (fe : IA) (se : IA) (gn : BA) (fp : IA) (sp : IA) (np : Int) (tot : Int) (clo : Int) (lon : Int) (sl : TSl) (pd : TPd) (ct : TCt) (sg : TSg) (od : TOd) (hs : THs) (s9 : Int64) (lv9 : Int) (hlv : 0 ≤ lv9 ∧ lv9 ≤ 98) (hh : ∀ k, 0 ≤ k → k < 49 → 0 ≤ h k ∧ h k ≤ 99) : cM l yX9_digestLevel wz_X9_digestLevel rm_X9_digestLevel D τ (tyH γ) [.ref (α 0), .long s9, .int (zI lv9)] (wH α γ (h, old, ch) (wt, qu5) (hi8, fe, se, gn, fp, sp, np, tot, clo, lon) sl pd ct sg od hs) (zQl (fun r w => ∃ (m2 : BA), ∃ (f2 : IA), ∃ (s2 : IA), ∃ (p2 : IA), ∃ (q2 : IA), ∃ (n2 : Int), ∃ (gn2 : BA), ∃ (t2 : Int), ∃ (c2 : Int), ∃ (l2 : Int), ∃ (b5 : BA), ∃ (q5 : IA), ∃ (v : Int64), (v = S_dlev h lv9 s9) ∧ v = r ∧ wH α γ (h, old, ch) (b5, q5) (m2, f2, s2, gn2, p2, q2, n2, t2, c2, l2) sl pd ct sg od hs = w)) := by
  refine z_ofM (cc := cX9_digestLevel) (maxL := 8) (ret := (some .long)) (by decide +kernel) rfl (Nat.le_of_ble_eq_true rfl) ?_
  intro pg e s m args below meth c hC hr hlk hnm hK hP A hD hG hA hS ls hl Q hQ
  have hx := hC.1
  have hb := hC.2.1
  have hml := hC.2.2.1
  have hown := hC.2.2.2.1
  have hts := hC.2.2.2.2
  have hB : ∀ w ∈ W0, w ∈ wz_X9_digestLevel := fun _ h => List.mem_cons_of_mem _ h
  have hW0 : ∀ w ∈ W0, w.before args s = true := fun w h => hts w (hB w h)
  have hl : lv_has ls 8 [(0, .ref (α 0)), (1, .long s9), (3, .int (zI lv9))] := hl
  refine lv_lload_n hx hb dX9_digestLevel_0 rfl (lv_at hl 1 rfl) ?_
  refine lv_aload_n hx hb dX9_digestLevel_1 rfl (lv_at hl 0 rfl) ?_
  refine lv_iload_n hx hb dX9_digestLevel_2 rfl (lv_at hl 2 rfl) ?_
  refine z_calli hP hD hS hA (va_runV (As := [.int (zI lv9)]) (rest := [.long s9]) hC (c_X9_pointsAbove__ok l D τ α γ h old ch (wt, qu5) (hi8, fe, se, gn, fp, sp, np, tot, clo, lon) sl pd ct sg od hs lv9 (by first | assumption | rfl | omega) (by first | assumption | rfl | omega) _) (cwV 1 hts (gV hB wl_X9_335 wn_X9_pointsAbove ws_X9_pointsAbove wi_X9 wc_X9_pointsAbove) rfl rfl rfl hd_X9_pointsAbove ⟨Nat.le_of_ble_eq_true rfl, Nat.le_of_ble_eq_true rfl⟩) (zp_V hK hP hD hS hA hG (ci := 9) (q0 := 0) rfl rfl rfl) rfl rfl hl.1 rfl (lv_room (Nat.le_of_ble_eq_true rfl)) dX9_digestLevel_3 ⟨Nat.le_of_ble_eq_true rfl, Nat.le_of_ble_eq_true rfl⟩) (fun r w1 H locs hq9 hP hD hS => ?_)
  obtain ⟨v3_1, hv3_0, hv3_1, hv3_2, rfl, rfl⟩ := hq9
  have hP : va_P D vwCl (wH α γ (h, old, ch) (wt, qu5) (hi8, fe, se, gn, fp, sp, np, tot, clo, lon) sl pd ct sg od hs) H := hP
  have hD : va_D A (wH α γ (h, old, ch) (wt, qu5) (hi8, fe, se, gn, fp, sp, np, tot, clo, lon) sl pd ct sg od hs) := hD
  refine lv_i2l (v := zL v3_1) hx hb dX9_digestLevel_6 (zL_of ⟨by omega, by omega⟩) ?_
  refine z_calll hP hD hS hA (va_runS (As := [.long s9, .long (zL v3_1)]) (rest := []) hC (c_X9_mix l D τ _ _ s9 (zL v3_1) _) (va_cwS 2 hts (gS hB wl_X9_294 wt_X9_mix wi_X9 wc_X9_mix) rfl rfl rfl hd_X9_mix.2 ⟨Nat.le_of_ble_eq_true rfl, Nat.le_of_ble_eq_true rfl⟩) (zp_S hK hP hD hS hA hG) rfl rfl hl.1 rfl (lv_room (Nat.le_of_ble_eq_true rfl)) dX9_digestLevel_7 ⟨Nat.le_of_ble_eq_true rfl, Nat.le_of_ble_eq_true rfl⟩) (fun r w1 H locs hq9 hP hD hS => ?_)
  obtain ⟨v7_2, hv7_0, rfl, rfl⟩ := hq9
  refine lv_lstore (lv' := [(4, .long v7_2), (0, .ref (α 0)), (1, .long s9), (3, .int (zI lv9))]) hx hb dX9_digestLevel_10 hl (by decide) rfl (fun ls hl => ?_)
  refine lv_lload hx hb dX9_digestLevel_12 (lv_at hl 0 rfl) ?_
  refine lv_aload_n hx hb dX9_digestLevel_14 rfl (lv_at hl 1 rfl) ?_
  refine lv_iload_n hx hb dX9_digestLevel_15 rfl (lv_at hl 3 rfl) ?_
  refine z_calli hP hD hS hA (va_runV (As := [.int (zI lv9)]) (rest := [.long v7_2]) hC (c_X9_bulkAbove__ok l D τ α γ h old ch (wt, qu5) (hi8, fe, se, gn, fp, sp, np, tot, clo, lon) sl pd ct sg od hs lv9 (by first | assumption | rfl | omega) (by first | assumption | rfl | omega) _) (cwV 1 hts (gV hB wl_X9_338 wn_X9_bulkAbove ws_X9_bulkAbove wi_X9 wc_X9_bulkAbove) rfl rfl rfl hd_X9_bulkAbove ⟨Nat.le_of_ble_eq_true rfl, Nat.le_of_ble_eq_true rfl⟩) (zp_V hK hP hD hS hA hG (ci := 9) (q0 := 0) rfl rfl rfl) rfl rfl hl.1 rfl (lv_room (Nat.le_of_ble_eq_true rfl)) dX9_digestLevel_16 ⟨Nat.le_of_ble_eq_true rfl, Nat.le_of_ble_eq_true rfl⟩) (fun r w1 H locs hq9 hP hD hS => ?_)
  obtain ⟨v16_3, hv16_0, hv16_1, hv16_2, rfl, rfl⟩ := hq9
  have hP : va_P D vwCl (wH α γ (h, old, ch) (wt, qu5) (hi8, fe, se, gn, fp, sp, np, tot, clo, lon) sl pd ct sg od hs) H := hP
  have hD : va_D A (wH α γ (h, old, ch) (wt, qu5) (hi8, fe, se, gn, fp, sp, np, tot, clo, lon) sl pd ct sg od hs) := hD
  refine lv_i2l (v := zL v16_3) hx hb dX9_digestLevel_19 (zL_of ⟨by omega, by omega⟩) ?_
  refine z_calll hP hD hS hA (va_runS (As := [.long v7_2, .long (zL v16_3)]) (rest := []) hC (c_X9_mix l D τ _ _ v7_2 (zL v16_3) _) (va_cwS 2 hts (gS hB wl_X9_294 wt_X9_mix wi_X9 wc_X9_mix) rfl rfl rfl hd_X9_mix.2 ⟨Nat.le_of_ble_eq_true rfl, Nat.le_of_ble_eq_true rfl⟩) (zp_S hK hP hD hS hA hG) rfl rfl hl.1 rfl (lv_room (Nat.le_of_ble_eq_true rfl)) dX9_digestLevel_20 ⟨Nat.le_of_ble_eq_true rfl, Nat.le_of_ble_eq_true rfl⟩) (fun r w1 H locs hq9 hP hD hS => ?_)
  obtain ⟨v20_4, hv20_0, rfl, rfl⟩ := hq9
  refine lv_lstore (lv' := [(4, .long v20_4), (0, .ref (α 0)), (1, .long s9), (3, .int (zI lv9))]) hx hb dX9_digestLevel_23 hl (by decide) rfl (fun ls hl => ?_)
  refine lv_lload hx hb dX9_digestLevel_25 (lv_at hl 0 rfl) ?_
  refine lv_aload_n hx hb dX9_digestLevel_27 rfl (lv_at hl 1 rfl) ?_
  refine lv_iload_n hx hb dX9_digestLevel_28 rfl (lv_at hl 3 rfl) ?_
  refine z_calli hP hD hS hA (va_runV (As := [.int (zI lv9)]) (rest := [.long v20_4]) hC (c_X9_crossingsByEdges__ok l D τ α γ h old ch (wt, qu5) (hi8, fe, se, gn, fp, sp, np, tot, clo, lon) sl pd ct sg od hs lv9 (by first | assumption | rfl | omega) (by first | assumption | rfl | omega) _) (cwV 1 hts (gV hB wl_X9_341 wn_X9_crossingsByEdges ws_X9_crossingsByEdges wi_X9 wc_X9_crossingsByEdges) rfl rfl rfl hd_X9_crossingsByEdges ⟨Nat.le_of_ble_eq_true rfl, Nat.le_of_ble_eq_true rfl⟩) (zp_V hK hP hD hS hA hG (ci := 9) (q0 := 0) rfl rfl rfl) rfl rfl hl.1 rfl (lv_room (Nat.le_of_ble_eq_true rfl)) dX9_digestLevel_29 ⟨Nat.le_of_ble_eq_true rfl, Nat.le_of_ble_eq_true rfl⟩) (fun r w1 H locs hq9 hP hD hS => ?_)
  obtain ⟨v29_5, hv29_0, hv29_1, hv29_2, rfl, rfl⟩ := hq9
  have hP : va_P D vwCl (wH α γ (h, old, ch) (wt, qu5) (hi8, fe, se, gn, fp, sp, np, tot, clo, lon) sl pd ct sg od hs) H := hP
  have hD : va_D A (wH α γ (h, old, ch) (wt, qu5) (hi8, fe, se, gn, fp, sp, np, tot, clo, lon) sl pd ct sg od hs) := hD
  refine lv_i2l (v := zL v29_5) hx hb dX9_digestLevel_32 (zL_of ⟨by omega, by omega⟩) ?_
  refine z_calll hP hD hS hA (va_runS (As := [.long v20_4, .long (zL v29_5)]) (rest := []) hC (c_X9_mix l D τ _ _ v20_4 (zL v29_5) _) (va_cwS 2 hts (gS hB wl_X9_294 wt_X9_mix wi_X9 wc_X9_mix) rfl rfl rfl hd_X9_mix.2 ⟨Nat.le_of_ble_eq_true rfl, Nat.le_of_ble_eq_true rfl⟩) (zp_S hK hP hD hS hA hG) rfl rfl hl.1 rfl (lv_room (Nat.le_of_ble_eq_true rfl)) dX9_digestLevel_33 ⟨Nat.le_of_ble_eq_true rfl, Nat.le_of_ble_eq_true rfl⟩) (fun r w1 H locs hq9 hP hD hS => ?_)
  obtain ⟨v33_6, hv33_0, rfl, rfl⟩ := hq9
  refine lv_lstore (lv' := [(4, .long v33_6), (0, .ref (α 0)), (1, .long s9), (3, .int (zI lv9))]) hx hb dX9_digestLevel_36 hl (by decide) rfl (fun ls hl => ?_)
  refine lv_aload_n hx hb dX9_digestLevel_38 rfl (lv_at hl 1 rfl) ?_
  refine va_get (D := D) (ci := 9) (v := .ref (α 3)) (C := RX9) (T := TX9) (N := 9) hx hb hts (fun w h => List.mem_cons_of_mem _ (wx_X9 w h)) hown hK hP 0 rfl rfl 2 (by decide) (hW0 _ wf_X9_26) (fun _ h9 => h9) rfl dX9_digestLevel_39 ?_
  refine lv_aload_n hx hb dX9_digestLevel_42 rfl (lv_at hl 1 rfl) ?_
  refine va_get (D := D) (ci := 9) (v := .ref (α 1)) (C := RX9) (T := TX9) (N := 9) hx hb hts (fun w h => List.mem_cons_of_mem _ (wx_X9 w h)) hown hK hP 0 rfl rfl 0 (by decide) (hW0 _ wf_X9_12) (fun _ h9 => h9) rfl dX9_digestLevel_43 ?_
  refine lv_iload_n hx hb dX9_digestLevel_46 rfl (lv_at hl 3 rfl) ?_
  refine z_callv hP hD hS hA (va_runV (As := [.ref (α 1), .int (zI lv9)]) (rest := []) hC (c_X2_read l D τ α γ h old ch (wt, qu5) hi8 fe se gn fp sp np tot clo lon sl pd ct sg od hs lv9 (by first | assumption | rfl | omega) (by first | assumption | rfl | omega) _) (cwV 2 hts (gV hB wl_X9_178 wn_X2_read ws_X2_read wi_X2 wc_X2_read) rfl rfl rfl hd_X2_read ⟨Nat.le_of_ble_eq_true rfl, Nat.le_of_ble_eq_true rfl⟩) (zp_V hK hP hD hS hA hG (ci := 2) (q0 := 3) rfl rfl rfl) rfl rfl hl.1 rfl (lv_room (Nat.le_of_ble_eq_true rfl)) dX9_digestLevel_47 ⟨Nat.le_of_ble_eq_true rfl, Nat.le_of_ble_eq_true rfl⟩) (fun w1 H locs hq9 hP hD hS => ?_)
  obtain ⟨m47_7, f47_8, s47_9, p47_10, q47_11, n47_12, hv47_0, hv47_1, rfl⟩ := hq9
  have hP : va_P D vwCl (wH α γ (h, old, ch) (wt, qu5) (m47_7, f47_8, s47_9, gn, p47_10, q47_11, n47_12, tot, clo, lon) sl pd ct sg od hs) H := hP
  have hD : va_D A (wH α γ (h, old, ch) (wt, qu5) (m47_7, f47_8, s47_9, gn, p47_10, q47_11, n47_12, tot, clo, lon) sl pd ct sg od hs) := hD
  have hcg := S_hi_cg hv47_0
  refine lv_aload_n hx hb dX9_digestLevel_50 rfl (lv_at hl 1 rfl) ?_
  refine va_get (D := D) (ci := 9) (v := .ref (α 3)) (C := RX9) (T := TX9) (N := 9) hx hb hts (fun w h => List.mem_cons_of_mem _ (wx_X9 w h)) hown hK hP 0 rfl rfl 2 (by decide) (hW0 _ wf_X9_26) (fun _ h9 => h9) rfl dX9_digestLevel_51 ?_
  refine z_callv hP hD hS hA (va_runV (As := []) (rest := []) hC (c_X2_trace l D τ α γ (h, old, ch) (wt, qu5) m47_7 f47_8 s47_9 gn p47_10 q47_11 n47_12 tot clo lon sl pd ct sg od hs (by exact hv47_1) _) (cwV 0 hts (gV hB wl_X9_192 wn_X2_trace ws_X2_trace wi_X2 wc_X2_trace) rfl rfl rfl hd_X2_trace ⟨Nat.le_of_ble_eq_true rfl, Nat.le_of_ble_eq_true rfl⟩) (zp_V hK hP hD hS hA hG (ci := 2) (q0 := 3) rfl rfl rfl) rfl rfl hl.1 rfl (lv_room (Nat.le_of_ble_eq_true rfl)) dX9_digestLevel_54 ⟨Nat.le_of_ble_eq_true rfl, Nat.le_of_ble_eq_true rfl⟩) (fun w1 H locs hq9 hP hD hS => ?_)
  obtain ⟨gn54_13, t54_14, c54_15, l54_16, hv54_0, hv54_1, hv54_2, hv54_3, hv54_4, hv54_5, rfl⟩ := hq9
  have hP : va_P D vwCl (wH α γ (h, old, ch) (wt, qu5) (m47_7, f47_8, s47_9, gn54_13, p47_10, q47_11, n47_12, t54_14, c54_15, l54_16) sl pd ct sg od hs) H := hP
  have hD : va_D A (wH α γ (h, old, ch) (wt, qu5) (m47_7, f47_8, s47_9, gn54_13, p47_10, q47_11, n47_12, t54_14, c54_15, l54_16) sl pd ct sg od hs) := hD
  refine lv_aload_n hx hb dX9_digestLevel_57 rfl (lv_at hl 1 rfl) ?_
  refine lv_iload_n hx hb dX9_digestLevel_58 rfl (lv_at hl 3 rfl) ?_
  refine z_calli hP hD hS hA (va_runV (As := [.int (zI lv9)]) (rest := []) hC (c_X9_regionsAbove l D τ α γ h old ch wt qu5 (m47_7, f47_8, s47_9, gn54_13, p47_10, q47_11, n47_12, t54_14, c54_15, l54_16) sl pd ct sg od hs lv9 (by first | assumption | rfl | omega) (by first | assumption | rfl | omega) _) (cwV 1 hts (gV hB wl_X9_198 wn_X9_regionsAbove ws_X9_regionsAbove wi_X9 wc_X9_regionsAbove) rfl rfl rfl hd_X9_regionsAbove ⟨Nat.le_of_ble_eq_true rfl, Nat.le_of_ble_eq_true rfl⟩) (zp_V hK hP hD hS hA hG (ci := 9) (q0 := 0) rfl rfl rfl) rfl rfl hl.1 rfl (lv_room (Nat.le_of_ble_eq_true rfl)) dX9_digestLevel_59 ⟨Nat.le_of_ble_eq_true rfl, Nat.le_of_ble_eq_true rfl⟩) (fun r w1 H locs hq9 hP hD hS => ?_)
  obtain ⟨w59_17, q59_18, v59_19, hv59_0, hv59_1, rfl, rfl⟩ := hq9
  have hP : va_P D vwCl (wH α γ (h, old, ch) (w59_17, q59_18) (m47_7, f47_8, s47_9, gn54_13, p47_10, q47_11, n47_12, t54_14, c54_15, l54_16) sl pd ct sg od hs) H := hP
  have hD : va_D A (wH α γ (h, old, ch) (w59_17, q59_18) (m47_7, f47_8, s47_9, gn54_13, p47_10, q47_11, n47_12, t54_14, c54_15, l54_16) sl pd ct sg od hs) := hD
  refine lv_istore (lv' := [(6, .int (zI v59_19)), (4, .long v33_6), (0, .ref (α 0)), (1, .long s9), (3, .int (zI lv9))]) hx hb dX9_digestLevel_62 hl (by decide) rfl (fun ls hl => ?_)
  refine lv_aload_n hx hb dX9_digestLevel_64 rfl (lv_at hl 2 rfl) ?_
  refine lv_iload_n hx hb dX9_digestLevel_65 rfl (lv_at hl 4 rfl) ?_
  refine z_calli hP hD hS hA (va_runV (As := [.int (zI lv9)]) (rest := []) hC (c_X9_regionsNotAbove l D τ α γ h old ch w59_17 q59_18 (m47_7, f47_8, s47_9, gn54_13, p47_10, q47_11, n47_12, t54_14, c54_15, l54_16) sl pd ct sg od hs lv9 (by first | assumption | rfl | omega) (by first | assumption | rfl | omega) _) (cwV 1 hts (gV hB wl_X9_201 wn_X9_regionsNotAbove ws_X9_regionsNotAbove wi_X9 wc_X9_regionsNotAbove) rfl rfl rfl hd_X9_regionsNotAbove ⟨Nat.le_of_ble_eq_true rfl, Nat.le_of_ble_eq_true rfl⟩) (zp_V hK hP hD hS hA hG (ci := 9) (q0 := 0) rfl rfl rfl) rfl rfl hl.1 rfl (lv_room (Nat.le_of_ble_eq_true rfl)) dX9_digestLevel_66 ⟨Nat.le_of_ble_eq_true rfl, Nat.le_of_ble_eq_true rfl⟩) (fun r w1 H locs hq9 hP hD hS => ?_)
  obtain ⟨w66_20, q66_21, v66_22, hv66_0, hv66_1, rfl, rfl⟩ := hq9
  have hP : va_P D vwCl (wH α γ (h, old, ch) (w66_20, q66_21) (m47_7, f47_8, s47_9, gn54_13, p47_10, q47_11, n47_12, t54_14, c54_15, l54_16) sl pd ct sg od hs) H := hP
  have hD : va_D A (wH α γ (h, old, ch) (w66_20, q66_21) (m47_7, f47_8, s47_9, gn54_13, p47_10, q47_11, n47_12, t54_14, c54_15, l54_16) sl pd ct sg od hs) := hD
  refine lv_istore (lv' := [(7, .int (zI v66_22)), (6, .int (zI v59_19)), (4, .long v33_6), (0, .ref (α 0)), (1, .long s9), (3, .int (zI lv9))]) hx hb dX9_digestLevel_69 hl (by decide) rfl (fun ls hl => ?_)
  have heu : v59_19 + v66_22 - 1 = S_nlines (S_hi h lv9) := by rw [hv59_0, hv66_0, Euler]
  refine lv_lload hx hb dX9_digestLevel_71 (lv_at hl 2 rfl) ?_
  refine lv_aload_n hx hb dX9_digestLevel_73 rfl (lv_at hl 3 rfl) ?_
  refine va_get (D := D) (ci := 9) (v := .ref (α 3)) (C := RX9) (T := TX9) (N := 9) hx hb hts (fun w h => List.mem_cons_of_mem _ (wx_X9 w h)) hown hK hP 0 rfl rfl 2 (by decide) (hW0 _ wf_X9_26) (fun _ h9 => h9) rfl dX9_digestLevel_74 ?_
  refine z_calli hP hD hS hA (va_runV (As := []) (rest := [.long v33_6]) hC (c_X2_crossedEdges l D τ α γ (h, old, ch) (w66_20, q66_21) m47_7 f47_8 s47_9 gn54_13 p47_10 q47_11 n47_12 t54_14 c54_15 l54_16 sl pd ct sg od hs (by exact hv47_1) _) (cwV 0 hts (gV hB wl_X9_181 wn_X2_crossedEdges ws_X2_crossedEdges wi_X2 wc_X2_crossedEdges) rfl rfl rfl hd_X2_crossedEdges ⟨Nat.le_of_ble_eq_true rfl, Nat.le_of_ble_eq_true rfl⟩) (zp_V hK hP hD hS hA hG (ci := 2) (q0 := 3) rfl rfl rfl) rfl rfl hl.1 rfl (lv_room (Nat.le_of_ble_eq_true rfl)) dX9_digestLevel_77 ⟨Nat.le_of_ble_eq_true rfl, Nat.le_of_ble_eq_true rfl⟩) (fun r w1 H locs hq9 hP hD hS => ?_)
  obtain ⟨v77_23, hv77_0, hv77_1, rfl, rfl⟩ := hq9
  have hP : va_P D vwCl (wH α γ (h, old, ch) (w66_20, q66_21) (m47_7, f47_8, s47_9, gn54_13, p47_10, q47_11, n47_12, t54_14, c54_15, l54_16) sl pd ct sg od hs) H := hP
  have hD : va_D A (wH α γ (h, old, ch) (w66_20, q66_21) (m47_7, f47_8, s47_9, gn54_13, p47_10, q47_11, n47_12, t54_14, c54_15, l54_16) sl pd ct sg od hs) := hD
  refine lv_i2l (v := zL v77_23) hx hb dX9_digestLevel_80 (zL_of ⟨by omega, by omega⟩) ?_
  refine z_calll hP hD hS hA (va_runS (As := [.long v33_6, .long (zL v77_23)]) (rest := []) hC (c_X9_mix l D τ _ _ v33_6 (zL v77_23) _) (va_cwS 2 hts (gS hB wl_X9_294 wt_X9_mix wi_X9 wc_X9_mix) rfl rfl rfl hd_X9_mix.2 ⟨Nat.le_of_ble_eq_true rfl, Nat.le_of_ble_eq_true rfl⟩) (zp_S hK hP hD hS hA hG) rfl rfl hl.1 rfl (lv_room (Nat.le_of_ble_eq_true rfl)) dX9_digestLevel_81 ⟨Nat.le_of_ble_eq_true rfl, Nat.le_of_ble_eq_true rfl⟩) (fun r w1 H locs hq9 hP hD hS => ?_)
  obtain ⟨v81_24, hv81_0, rfl, rfl⟩ := hq9
  refine lv_lstore (lv' := [(4, .long v81_24), (7, .int (zI v66_22)), (6, .int (zI v59_19)), (0, .ref (α 0)), (1, .long s9), (3, .int (zI lv9))]) hx hb dX9_digestLevel_84 hl (by decide) rfl (fun ls hl => ?_)
  refine lv_lload hx hb dX9_digestLevel_86 (lv_at hl 0 rfl) ?_
  refine lv_aload_n hx hb dX9_digestLevel_88 rfl (lv_at hl 3 rfl) ?_
  refine va_get (D := D) (ci := 9) (v := .ref (α 3)) (C := RX9) (T := TX9) (N := 9) hx hb hts (fun w h => List.mem_cons_of_mem _ (wx_X9 w h)) hown hK hP 0 rfl rfl 2 (by decide) (hW0 _ wf_X9_26) (fun _ h9 => h9) rfl dX9_digestLevel_89 ?_
  refine z_calli hP hD hS hA (va_runV (As := []) (rest := [.long v81_24]) hC (c_X2_total l D τ α γ (h, old, ch) (w66_20, q66_21) m47_7 f47_8 s47_9 gn54_13 p47_10 q47_11 n47_12 t54_14 c54_15 l54_16 sl pd ct sg od hs _) (cwV 0 hts (gV hB wl_X9_195 wn_X2_total ws_X2_total wi_X2 wc_X2_total) rfl rfl rfl hd_X2_total ⟨Nat.le_of_ble_eq_true rfl, Nat.le_of_ble_eq_true rfl⟩) (zp_V hK hP hD hS hA hG (ci := 2) (q0 := 3) rfl rfl rfl) rfl rfl hl.1 rfl (lv_room (Nat.le_of_ble_eq_true rfl)) dX9_digestLevel_92 ⟨Nat.le_of_ble_eq_true rfl, Nat.le_of_ble_eq_true rfl⟩) (fun r w1 H locs hq9 hP hD hS => ?_)
  obtain ⟨v92_25, hv92_0, rfl, rfl⟩ := hq9
  have hP : va_P D vwCl (wH α γ (h, old, ch) (w66_20, q66_21) (m47_7, f47_8, s47_9, gn54_13, p47_10, q47_11, n47_12, t54_14, c54_15, l54_16) sl pd ct sg od hs) H := hP
  have hD : va_D A (wH α γ (h, old, ch) (w66_20, q66_21) (m47_7, f47_8, s47_9, gn54_13, p47_10, q47_11, n47_12, t54_14, c54_15, l54_16) sl pd ct sg od hs) := hD
  refine lv_i2l (v := zL v92_25) hx hb dX9_digestLevel_95 (zL_of ⟨by omega, by omega⟩) ?_
  refine z_calll hP hD hS hA (va_runS (As := [.long v81_24, .long (zL v92_25)]) (rest := []) hC (c_X9_mix l D τ _ _ v81_24 (zL v92_25) _) (va_cwS 2 hts (gS hB wl_X9_294 wt_X9_mix wi_X9 wc_X9_mix) rfl rfl rfl hd_X9_mix.2 ⟨Nat.le_of_ble_eq_true rfl, Nat.le_of_ble_eq_true rfl⟩) (zp_S hK hP hD hS hA hG) rfl rfl hl.1 rfl (lv_room (Nat.le_of_ble_eq_true rfl)) dX9_digestLevel_96 ⟨Nat.le_of_ble_eq_true rfl, Nat.le_of_ble_eq_true rfl⟩) (fun r w1 H locs hq9 hP hD hS => ?_)
  obtain ⟨v96_26, hv96_0, rfl, rfl⟩ := hq9
  refine lv_lstore (lv' := [(4, .long v96_26), (7, .int (zI v66_22)), (6, .int (zI v59_19)), (0, .ref (α 0)), (1, .long s9), (3, .int (zI lv9))]) hx hb dX9_digestLevel_99 hl (by decide) rfl (fun ls hl => ?_)
  refine lv_lload hx hb dX9_digestLevel_101 (lv_at hl 0 rfl) ?_
  refine lv_iload hx hb dX9_digestLevel_103 (lv_at hl 2 rfl) ?_
  refine lv_iload hx hb dX9_digestLevel_105 (lv_at hl 1 rfl) ?_
  refine z_iadd hx hb dX9_digestLevel_107 ?_
  refine lv_iconst (v := zI 1) hx hb dX9_digestLevel_108 rfl ?_
  refine z_isub hx hb dX9_digestLevel_109 ?_
  refine lv_i2l (v := zL ((v59_19 + v66_22) - 1)) hx hb dX9_digestLevel_110 (zL_of ⟨by omega, by omega⟩) ?_
  refine z_calll hP hD hS hA (va_runS (As := [.long v96_26, .long (zL ((v59_19 + v66_22) - 1))]) (rest := []) hC (c_X9_mix l D τ _ _ v96_26 (zL ((v59_19 + v66_22) - 1)) _) (va_cwS 2 hts (gS hB wl_X9_294 wt_X9_mix wi_X9 wc_X9_mix) rfl rfl rfl hd_X9_mix.2 ⟨Nat.le_of_ble_eq_true rfl, Nat.le_of_ble_eq_true rfl⟩) (zp_S hK hP hD hS hA hG) rfl rfl hl.1 rfl (lv_room (Nat.le_of_ble_eq_true rfl)) dX9_digestLevel_111 ⟨Nat.le_of_ble_eq_true rfl, Nat.le_of_ble_eq_true rfl⟩) (fun r w1 H locs hq9 hP hD hS => ?_)
  obtain ⟨v111_27, hv111_0, rfl, rfl⟩ := hq9
  refine lv_lstore (lv' := [(4, .long v111_27), (7, .int (zI v66_22)), (6, .int (zI v59_19)), (0, .ref (α 0)), (1, .long s9), (3, .int (zI lv9))]) hx hb dX9_digestLevel_114 hl (by decide) rfl (fun ls hl => ?_)
  refine lv_lload hx hb dX9_digestLevel_116 (lv_at hl 0 rfl) ?_
  refine lv_aload_n hx hb dX9_digestLevel_118 rfl (lv_at hl 3 rfl) ?_
  refine va_get (D := D) (ci := 9) (v := .ref (α 3)) (C := RX9) (T := TX9) (N := 9) hx hb hts (fun w h => List.mem_cons_of_mem _ (wx_X9 w h)) hown hK hP 0 rfl rfl 2 (by decide) (hW0 _ wf_X9_26) (fun _ h9 => h9) rfl dX9_digestLevel_119 ?_
  refine z_calli hP hD hS hA (va_runV (As := []) (rest := [.long v111_27]) hC (c_X2_closed l D τ α γ (h, old, ch) (w66_20, q66_21) m47_7 f47_8 s47_9 gn54_13 p47_10 q47_11 n47_12 t54_14 c54_15 l54_16 sl pd ct sg od hs _) (cwV 0 hts (gV hB wl_X9_204 wn_X2_closed ws_X2_closed wi_X2 wc_X2_closed) rfl rfl rfl hd_X2_closed ⟨Nat.le_of_ble_eq_true rfl, Nat.le_of_ble_eq_true rfl⟩) (zp_V hK hP hD hS hA hG (ci := 2) (q0 := 3) rfl rfl rfl) rfl rfl hl.1 rfl (lv_room (Nat.le_of_ble_eq_true rfl)) dX9_digestLevel_122 ⟨Nat.le_of_ble_eq_true rfl, Nat.le_of_ble_eq_true rfl⟩) (fun r w1 H locs hq9 hP hD hS => ?_)
  obtain ⟨v122_28, hv122_0, rfl, rfl⟩ := hq9
  have hP : va_P D vwCl (wH α γ (h, old, ch) (w66_20, q66_21) (m47_7, f47_8, s47_9, gn54_13, p47_10, q47_11, n47_12, t54_14, c54_15, l54_16) sl pd ct sg od hs) H := hP
  have hD : va_D A (wH α γ (h, old, ch) (w66_20, q66_21) (m47_7, f47_8, s47_9, gn54_13, p47_10, q47_11, n47_12, t54_14, c54_15, l54_16) sl pd ct sg od hs) := hD
  refine lv_i2l (v := zL v122_28) hx hb dX9_digestLevel_125 (zL_of ⟨by omega, by omega⟩) ?_
  refine z_calll hP hD hS hA (va_runS (As := [.long v111_27, .long (zL v122_28)]) (rest := []) hC (c_X9_mix l D τ _ _ v111_27 (zL v122_28) _) (va_cwS 2 hts (gS hB wl_X9_294 wt_X9_mix wi_X9 wc_X9_mix) rfl rfl rfl hd_X9_mix.2 ⟨Nat.le_of_ble_eq_true rfl, Nat.le_of_ble_eq_true rfl⟩) (zp_S hK hP hD hS hA hG) rfl rfl hl.1 rfl (lv_room (Nat.le_of_ble_eq_true rfl)) dX9_digestLevel_126 ⟨Nat.le_of_ble_eq_true rfl, Nat.le_of_ble_eq_true rfl⟩) (fun r w1 H locs hq9 hP hD hS => ?_)
  obtain ⟨v126_29, hv126_0, rfl, rfl⟩ := hq9
  refine lv_lstore (lv' := [(4, .long v126_29), (7, .int (zI v66_22)), (6, .int (zI v59_19)), (0, .ref (α 0)), (1, .long s9), (3, .int (zI lv9))]) hx hb dX9_digestLevel_129 hl (by decide) rfl (fun ls hl => ?_)
  refine lv_lload hx hb dX9_digestLevel_131 (lv_at hl 0 rfl) ?_
  refine lv_aload_n hx hb dX9_digestLevel_133 rfl (lv_at hl 3 rfl) ?_
  refine va_get (D := D) (ci := 9) (v := .ref (α 3)) (C := RX9) (T := TX9) (N := 9) hx hb hts (fun w h => List.mem_cons_of_mem _ (wx_X9 w h)) hown hK hP 0 rfl rfl 2 (by decide) (hW0 _ wf_X9_26) (fun _ h9 => h9) rfl dX9_digestLevel_134 ?_
  refine z_calli hP hD hS hA (va_runV (As := []) (rest := [.long v126_29]) hC (c_X2_longest l D τ α γ (h, old, ch) (w66_20, q66_21) m47_7 f47_8 s47_9 gn54_13 p47_10 q47_11 n47_12 t54_14 c54_15 l54_16 sl pd ct sg od hs _) (cwV 0 hts (gV hB wl_X9_207 wn_X2_longest ws_X2_longest wi_X2 wc_X2_longest) rfl rfl rfl hd_X2_longest ⟨Nat.le_of_ble_eq_true rfl, Nat.le_of_ble_eq_true rfl⟩) (zp_V hK hP hD hS hA hG (ci := 2) (q0 := 3) rfl rfl rfl) rfl rfl hl.1 rfl (lv_room (Nat.le_of_ble_eq_true rfl)) dX9_digestLevel_137 ⟨Nat.le_of_ble_eq_true rfl, Nat.le_of_ble_eq_true rfl⟩) (fun r w1 H locs hq9 hP hD hS => ?_)
  obtain ⟨v137_30, hv137_0, rfl, rfl⟩ := hq9
  have hP : va_P D vwCl (wH α γ (h, old, ch) (w66_20, q66_21) (m47_7, f47_8, s47_9, gn54_13, p47_10, q47_11, n47_12, t54_14, c54_15, l54_16) sl pd ct sg od hs) H := hP
  have hD : va_D A (wH α γ (h, old, ch) (w66_20, q66_21) (m47_7, f47_8, s47_9, gn54_13, p47_10, q47_11, n47_12, t54_14, c54_15, l54_16) sl pd ct sg od hs) := hD
  refine lv_i2l (v := zL v137_30) hx hb dX9_digestLevel_140 (zL_of ⟨by omega, by omega⟩) ?_
  refine z_calll hP hD hS hA (va_runS (As := [.long v126_29, .long (zL v137_30)]) (rest := []) hC (c_X9_mix l D τ _ _ v126_29 (zL v137_30) _) (va_cwS 2 hts (gS hB wl_X9_294 wt_X9_mix wi_X9 wc_X9_mix) rfl rfl rfl hd_X9_mix.2 ⟨Nat.le_of_ble_eq_true rfl, Nat.le_of_ble_eq_true rfl⟩) (zp_S hK hP hD hS hA hG) rfl rfl hl.1 rfl (lv_room (Nat.le_of_ble_eq_true rfl)) dX9_digestLevel_141 ⟨Nat.le_of_ble_eq_true rfl, Nat.le_of_ble_eq_true rfl⟩) (fun r w1 H locs hq9 hP hD hS => ?_)
  obtain ⟨v141_31, hv141_0, rfl, rfl⟩ := hq9
  refine lv_lstore (lv' := [(4, .long v141_31), (7, .int (zI v66_22)), (6, .int (zI v59_19)), (0, .ref (α 0)), (1, .long s9), (3, .int (zI lv9))]) hx hb dX9_digestLevel_144 hl (by decide) rfl (fun ls hl => ?_)
  refine lv_lload hx hb dX9_digestLevel_146 (lv_at hl 0 rfl) ?_
  refine lv_iload hx hb dX9_digestLevel_148 (lv_at hl 2 rfl) ?_
  refine lv_i2l (v := zL v59_19) hx hb dX9_digestLevel_150 (zL_of ⟨by omega, by omega⟩) ?_
  refine z_calll hP hD hS hA (va_runS (As := [.long v141_31, .long (zL v59_19)]) (rest := []) hC (c_X9_mix l D τ _ _ v141_31 (zL v59_19) _) (va_cwS 2 hts (gS hB wl_X9_294 wt_X9_mix wi_X9 wc_X9_mix) rfl rfl rfl hd_X9_mix.2 ⟨Nat.le_of_ble_eq_true rfl, Nat.le_of_ble_eq_true rfl⟩) (zp_S hK hP hD hS hA hG) rfl rfl hl.1 rfl (lv_room (Nat.le_of_ble_eq_true rfl)) dX9_digestLevel_151 ⟨Nat.le_of_ble_eq_true rfl, Nat.le_of_ble_eq_true rfl⟩) (fun r w1 H locs hq9 hP hD hS => ?_)
  obtain ⟨v151_32, hv151_0, rfl, rfl⟩ := hq9
  refine lv_lstore (lv' := [(4, .long v151_32), (7, .int (zI v66_22)), (6, .int (zI v59_19)), (0, .ref (α 0)), (1, .long s9), (3, .int (zI lv9))]) hx hb dX9_digestLevel_154 hl (by decide) rfl (fun ls hl => ?_)
  refine lv_lload hx hb dX9_digestLevel_156 (lv_at hl 0 rfl) ?_
  refine lv_iload hx hb dX9_digestLevel_158 (lv_at hl 1 rfl) ?_
  refine lv_i2l (v := zL v66_22) hx hb dX9_digestLevel_160 (zL_of ⟨by omega, by omega⟩) ?_
  refine z_calll hP hD hS hA (va_runS (As := [.long v151_32, .long (zL v66_22)]) (rest := []) hC (c_X9_mix l D τ _ _ v151_32 (zL v66_22) _) (va_cwS 2 hts (gS hB wl_X9_294 wt_X9_mix wi_X9 wc_X9_mix) rfl rfl rfl hd_X9_mix.2 ⟨Nat.le_of_ble_eq_true rfl, Nat.le_of_ble_eq_true rfl⟩) (zp_S hK hP hD hS hA hG) rfl rfl hl.1 rfl (lv_room (Nat.le_of_ble_eq_true rfl)) dX9_digestLevel_161 ⟨Nat.le_of_ble_eq_true rfl, Nat.le_of_ble_eq_true rfl⟩) (fun r w1 H locs hq9 hP hD hS => ?_)
  obtain ⟨v161_33, hv161_0, rfl, rfl⟩ := hq9
  exact z_lret hC hr hlk hQ hP hD hS ⟨m47_7, f47_8, s47_9, p47_10, q47_11, n47_12, gn54_13, t54_14, c54_15, l54_16, w66_20, q66_21, v161_33, (by unfold S_dlev mixI; rw [hv161_0, hv151_0, hv141_0, hv126_0, hv111_0, hv96_0, hv81_0, hv33_0, hv20_0, hv7_0, heu, hv3_1, hv16_1, hv29_1, hv77_0, hv92_0, hv122_0, hv137_0, hv54_0, hv54_1, hv54_2, S_ncross_cg hcg, S_nlines_cg hcg, S_nclosed_cg hcg, S_long_cg hcg, hv59_0, hv66_0]), rfl, rfl⟩ dX9_digestLevel_164

abbrev wz_X9_digest : List Cond := .code yX9_digest cX9_digest 7 (some .long) :: W0
abbrev rm_X9_digest : Room := { frames := 9, cells := 0, slots := 0, locals := 168 }
theorem hd_X9_digest : yX9_digest.cls = RX9 ∧ yX9_digest.cls ≠ "java/lang/invoke/MethodHandle" ∧ yX9_digest.cls ≠ "java/lang/invoke/VarHandle" ∧ (parseMethodDescriptor yX9_digest.desc).map (fun d => d.parameters.length) = some 0 := by decide +kernel
set_option maxHeartbeats 4000000 in
set_option maxRecDepth 100000 in
theorem c_X9_digest (l : Launch) (D : va_G) (τ : Nat → Nat) (α : Nat → Nat) (γ : Nat → ClassId) (h : IA) (old : IA) (ch : IA) (wt : BA) (qu5 : IA) (hi8 : BA) (fe : IA) (se : IA) (gn : BA) (fp : IA) (sp : IA) (np : Int) (tot : Int) (clo : Int) (lon : Int) (nx : IA) (dr : IA) (qu : IA) (wy : IA) (lv : IA) (hg9 : IA) (la9 : Int) (sg9 : IA) (cd : IA) (ln9 : Int) (pl : Int) (le : Int) (ro : Int) (co : Int) (nu : Int) (sv : IA) (sl9 : IA) (tk : BA) (ct9 : Int) (hh : ∀ k, 0 ≤ k → k < 49 → 0 ≤ h k ∧ h k ≤ 99) (hct : 0 ≤ ct9 ∧ ct9 ≤ 6) (hln : 0 ≤ ln9 ∧ ln9 ≤ 60) (hcd : ∀ k, 0 ≤ k → k < ln9 → 0 ≤ cd k ∧ cd k ≤ 126) : cM l yX9_digest wz_X9_digest rm_X9_digest D τ (tyH γ) [.ref (α 0)] (wH α γ (h, old, ch) (wt, qu5) (hi8, fe, se, gn, fp, sp, np, tot, clo, lon) (nx, dr, qu) (wy, lv) (hg9, la9) sg9 (cd, ln9, pl, le, ro, co, nu) (sv, sl9, tk, ct9)) (zQl (fun r w => ∃ (f2 : IA), ∃ (n2 : Int), ∃ (g5 : IA), ∃ (n3 : IA), ∃ (d3 : IA), ∃ (q3 : IA), ∃ (w3 : IA), ∃ (l3 : IA), ∃ (b3 : BA), ∃ (q4 : IA), ∃ (m7 : BA), ∃ (f7 : IA), ∃ (s7 : IA), ∃ (gn7 : BA), ∃ (p7 : IA), ∃ (q7 : IA), ∃ (n7 : Int), ∃ (t7 : Int), ∃ (c7 : Int), ∃ (l7 : Int), ∃ (v : Int64), (v = S_dig h ct9 tk cd ln9) ∧ v = r ∧ wH α γ (h, old, ch) (b3, q4) (m7, f7, s7, gn7, p7, q7, n7, t7, c7, l7) (n3, d3, q3) (w3, l3) (f2, n2) g5 (cd, ln9, pl, le, ro, co, nu) (sv, sl9, tk, ct9) = w)) := by
  refine z_ofM (cc := cX9_digest) (maxL := 7) (ret := (some .long)) (by decide +kernel) rfl (Nat.le_of_ble_eq_true rfl) ?_
  intro pg e s m args below meth c hC hr hlk hnm hK hP A hD hG hA hS ls hl Q hQ
  have hx := hC.1
  have hb := hC.2.1
  have hml := hC.2.2.1
  have hown := hC.2.2.2.1
  have hts := hC.2.2.2.2
  have hB : ∀ w ∈ W0, w ∈ wz_X9_digest := fun _ h => List.mem_cons_of_mem _ h
  have hW0 : ∀ w ∈ W0, w.before args s = true := fun w h => hts w (hB w h)
  have hl : lv_has ls 7 [(0, .ref (α 0))] := hl
  refine lv_aload_n hx hb dX9_digest_0 rfl (lv_at hl 0 rfl) ?_
  refine va_get (D := D) (ci := 9) (v := .ref (α 7)) (C := RX9) (T := TX9) (N := 9) hx hb hts (fun w h => List.mem_cons_of_mem _ (wx_X9 w h)) hown hK hP 0 rfl rfl 6 (by decide) (hW0 _ wf_X9_54) (fun _ h9 => h9) rfl dX9_digest_1 ?_
  refine lv_aload_n hx hb dX9_digest_4 rfl (lv_at hl 0 rfl) ?_
  refine va_get (D := D) (ci := 9) (v := .ref (α 1)) (C := RX9) (T := TX9) (N := 9) hx hb hts (fun w h => List.mem_cons_of_mem _ (wx_X9 w h)) hown hK hP 0 rfl rfl 0 (by decide) (hW0 _ wf_X9_12) (fun _ h9 => h9) rfl dX9_digest_5 ?_
  refine lv_aload_n hx hb dX9_digest_8 rfl (lv_at hl 0 rfl) ?_
  refine va_get (D := D) (ci := 9) (v := .ref (α 6)) (C := RX9) (T := TX9) (N := 9) hx hb hts (fun w h => List.mem_cons_of_mem _ (wx_X9 w h)) hown hK hP 0 rfl rfl 5 (by decide) (hW0 _ wf_X9_47) (fun _ h9 => h9) rfl dX9_digest_9 ?_
  refine z_callv hP hD hS hA (va_runV (As := [.ref (α 1), .ref (α 6)]) (rest := []) hC (c_X7_read l D τ α γ h old ch (wt, qu5) (hi8, fe, se, gn, fp, sp, np, tot, clo, lon) (nx, dr, qu) (wy, lv) hg9 la9 sg9 (cd, ln9, pl, le, ro, co, nu) (sv, sl9, tk, ct9) (by first | assumption | rfl | omega) _) (cwV 2 hts (gV hB wl_X9_277 wn_X7_read ws_X7_read wi_X7 wc_X7_read) rfl rfl rfl hd_X7_read ⟨Nat.le_of_ble_eq_true rfl, Nat.le_of_ble_eq_true rfl⟩) (zp_V hK hP hD hS hA hG (ci := 7) (q0 := 7) rfl rfl rfl) rfl rfl hl.1 rfl (lv_room (Nat.le_of_ble_eq_true rfl)) dX9_digest_12 ⟨Nat.le_of_ble_eq_true rfl, Nat.le_of_ble_eq_true rfl⟩) (fun w1 H locs hq9 hP hD hS => ?_)
  obtain ⟨f12_1, n12_2, s12_3, hv12_0, rfl⟩ := hq9
  have hP : va_P D vwCl (wH α γ (h, old, ch) (wt, qu5) (hi8, fe, se, gn, fp, sp, np, tot, clo, lon) (nx, dr, qu) (wy, lv) (f12_1, n12_2) s12_3 (cd, ln9, pl, le, ro, co, nu) (sv, sl9, tk, ct9)) H := hP
  have hD : va_D A (wH α γ (h, old, ch) (wt, qu5) (hi8, fe, se, gn, fp, sp, np, tot, clo, lon) (nx, dr, qu) (wy, lv) (f12_1, n12_2) s12_3 (cd, ln9, pl, le, ro, co, nu) (sv, sl9, tk, ct9)) := hD
  refine lv_aload_n hx hb dX9_digest_15 rfl (lv_at hl 0 rfl) ?_
  refine z_ldc2 (n := 4373) hx hb hown (hW0 _ wo_X9_285) (by decide +kernel) dX9_digest_16 ?_
  refine z_calll hP hD hS hA (va_runV (As := [.long (zL 4373)]) (rest := []) hC (c_X9_digestPoints l D τ α γ h old ch wt qu5 (hi8, fe, se, gn, fp, sp, np, tot, clo, lon) nx dr qu wy lv (f12_1, n12_2) s12_3 (cd, ln9, pl, le, ro, co, nu) (sv, sl9, tk, ct9) (zL 4373) (by first | assumption | rfl | omega) (by intro k z1 z2; rw [hv12_0, zmix_at ⟨z1, z2⟩]) _) (cwV 1 hts (gV hB wl_X9_287 wn_X9_digestPoints ws_X9_digestPoints wi_X9 wc_X9_digestPoints) rfl rfl rfl hd_X9_digestPoints ⟨Nat.le_of_ble_eq_true rfl, Nat.le_of_ble_eq_true rfl⟩) (zp_V hK hP hD hS hA hG (ci := 9) (q0 := 0) rfl rfl rfl) rfl rfl hl.1 rfl (lv_room (Nat.le_of_ble_eq_true rfl)) dX9_digest_19 ⟨Nat.le_of_ble_eq_true rfl, Nat.le_of_ble_eq_true rfl⟩) (fun r w1 H locs hq9 hP hD hS => ?_)
  obtain ⟨n19_4, d19_5, q19_6, w19_7, l19_8, b19_9, q19_10, v19_11, hv19_0, rfl, rfl⟩ := hq9
  have hP : va_P D vwCl (wH α γ (h, old, ch) (b19_9, q19_10) (hi8, fe, se, gn, fp, sp, np, tot, clo, lon) (n19_4, d19_5, q19_6) (w19_7, l19_8) (f12_1, n12_2) s12_3 (cd, ln9, pl, le, ro, co, nu) (sv, sl9, tk, ct9)) H := hP
  have hD : va_D A (wH α γ (h, old, ch) (b19_9, q19_10) (hi8, fe, se, gn, fp, sp, np, tot, clo, lon) (n19_4, d19_5, q19_6) (w19_7, l19_8) (f12_1, n12_2) s12_3 (cd, ln9, pl, le, ro, co, nu) (sv, sl9, tk, ct9)) := hD
  refine lv_lstore_n (lv' := [(1, .long v19_11), (0, .ref (α 0))]) hx hb dX9_digest_22 rfl hl (by decide) rfl (fun ls hl => ?_)
  refine lv_lload_n hx hb dX9_digest_23 rfl (lv_at hl 0 rfl) ?_
  refine lv_aload_n hx hb dX9_digest_24 rfl (lv_at hl 1 rfl) ?_
  refine z_calli hP hD hS hA (va_runV (As := []) (rest := [.long v19_11]) hC (c_X9_summit l D τ α γ h old ch (b19_9, q19_10) (hi8, fe, se, gn, fp, sp, np, tot, clo, lon) (n19_4, d19_5, q19_6) (w19_7, l19_8) (f12_1, n12_2) s12_3 (cd, ln9, pl, le, ro, co, nu) (sv, sl9, tk, ct9) (by first | assumption | rfl | omega) _) (cwV 0 hts (gV hB wl_X9_291 wn_X9_summit ws_X9_summit wi_X9 wc_X9_summit) rfl rfl rfl hd_X9_summit ⟨Nat.le_of_ble_eq_true rfl, Nat.le_of_ble_eq_true rfl⟩) (zp_V hK hP hD hS hA hG (ci := 9) (q0 := 0) rfl rfl rfl) rfl rfl hl.1 rfl (lv_room (Nat.le_of_ble_eq_true rfl)) dX9_digest_25 ⟨Nat.le_of_ble_eq_true rfl, Nat.le_of_ble_eq_true rfl⟩) (fun r w1 H locs hq9 hP hD hS => ?_)
  obtain ⟨v25_12, hv25_0, hv25_1, rfl, rfl⟩ := hq9
  have hP : va_P D vwCl (wH α γ (h, old, ch) (b19_9, q19_10) (hi8, fe, se, gn, fp, sp, np, tot, clo, lon) (n19_4, d19_5, q19_6) (w19_7, l19_8) (f12_1, n12_2) s12_3 (cd, ln9, pl, le, ro, co, nu) (sv, sl9, tk, ct9)) H := hP
  have hD : va_D A (wH α γ (h, old, ch) (b19_9, q19_10) (hi8, fe, se, gn, fp, sp, np, tot, clo, lon) (n19_4, d19_5, q19_6) (w19_7, l19_8) (f12_1, n12_2) s12_3 (cd, ln9, pl, le, ro, co, nu) (sv, sl9, tk, ct9)) := hD
  refine lv_i2l (v := zL v25_12) hx hb dX9_digest_28 (zL_of ⟨by omega, by omega⟩) ?_
  refine z_calll hP hD hS hA (va_runS (As := [.long v19_11, .long (zL v25_12)]) (rest := []) hC (c_X9_mix l D τ _ _ v19_11 (zL v25_12) _) (va_cwS 2 hts (gS hB wl_X9_294 wt_X9_mix wi_X9 wc_X9_mix) rfl rfl rfl hd_X9_mix.2 ⟨Nat.le_of_ble_eq_true rfl, Nat.le_of_ble_eq_true rfl⟩) (zp_S hK hP hD hS hA hG) rfl rfl hl.1 rfl (lv_room (Nat.le_of_ble_eq_true rfl)) dX9_digest_29 ⟨Nat.le_of_ble_eq_true rfl, Nat.le_of_ble_eq_true rfl⟩) (fun r w1 H locs hq9 hP hD hS => ?_)
  obtain ⟨v29_13, hv29_0, rfl, rfl⟩ := hq9
  refine lv_lstore_n (lv' := [(1, .long v29_13), (0, .ref (α 0))]) hx hb dX9_digest_32 rfl hl (by decide) rfl (fun ls hl => ?_)
  refine lv_lload_n hx hb dX9_digest_33 rfl (lv_at hl 0 rfl) ?_
  refine lv_aload_n hx hb dX9_digest_34 rfl (lv_at hl 1 rfl) ?_
  refine z_calli hP hD hS hA (va_runV (As := []) (rest := [.long v29_13]) hC (c_X9_bulk l D τ α γ h old ch (b19_9, q19_10) (hi8, fe, se, gn, fp, sp, np, tot, clo, lon) (n19_4, d19_5, q19_6) (w19_7, l19_8) (f12_1, n12_2) s12_3 (cd, ln9, pl, le, ro, co, nu) (sv, sl9, tk, ct9) (by first | assumption | rfl | omega) _) (cwV 0 hts (gV hB wl_X9_298 wn_X9_bulk ws_X9_bulk wi_X9 wc_X9_bulk) rfl rfl rfl hd_X9_bulk ⟨Nat.le_of_ble_eq_true rfl, Nat.le_of_ble_eq_true rfl⟩) (zp_V hK hP hD hS hA hG (ci := 9) (q0 := 0) rfl rfl rfl) rfl rfl hl.1 rfl (lv_room (Nat.le_of_ble_eq_true rfl)) dX9_digest_35 ⟨Nat.le_of_ble_eq_true rfl, Nat.le_of_ble_eq_true rfl⟩) (fun r w1 H locs hq9 hP hD hS => ?_)
  obtain ⟨v35_14, hv35_0, hv35_1, rfl, rfl⟩ := hq9
  have hP : va_P D vwCl (wH α γ (h, old, ch) (b19_9, q19_10) (hi8, fe, se, gn, fp, sp, np, tot, clo, lon) (n19_4, d19_5, q19_6) (w19_7, l19_8) (f12_1, n12_2) s12_3 (cd, ln9, pl, le, ro, co, nu) (sv, sl9, tk, ct9)) H := hP
  have hD : va_D A (wH α γ (h, old, ch) (b19_9, q19_10) (hi8, fe, se, gn, fp, sp, np, tot, clo, lon) (n19_4, d19_5, q19_6) (w19_7, l19_8) (f12_1, n12_2) s12_3 (cd, ln9, pl, le, ro, co, nu) (sv, sl9, tk, ct9)) := hD
  refine lv_i2l (v := zL v35_14) hx hb dX9_digest_38 (zL_of ⟨by omega, by omega⟩) ?_
  refine z_calll hP hD hS hA (va_runS (As := [.long v29_13, .long (zL v35_14)]) (rest := []) hC (c_X9_mix l D τ _ _ v29_13 (zL v35_14) _) (va_cwS 2 hts (gS hB wl_X9_294 wt_X9_mix wi_X9 wc_X9_mix) rfl rfl rfl hd_X9_mix.2 ⟨Nat.le_of_ble_eq_true rfl, Nat.le_of_ble_eq_true rfl⟩) (zp_S hK hP hD hS hA hG) rfl rfl hl.1 rfl (lv_room (Nat.le_of_ble_eq_true rfl)) dX9_digest_39 ⟨Nat.le_of_ble_eq_true rfl, Nat.le_of_ble_eq_true rfl⟩) (fun r w1 H locs hq9 hP hD hS => ?_)
  obtain ⟨v39_15, hv39_0, rfl, rfl⟩ := hq9
  refine lv_lstore_n (lv' := [(1, .long v39_15), (0, .ref (α 0))]) hx hb dX9_digest_42 rfl hl (by decide) rfl (fun ls hl => ?_)
  refine va_gets hx hb hG.2.2.1.1 hS hown (hW0 _ wf_X9_301) (fun _ h9 => h9) dX9_digest_43 ?_
  refine lv_astore_n (lv' := [(3, .ref (τ 2)), (1, .long v39_15), (0, .ref (α 0))]) hx hb dX9_digest_46 rfl hl (by decide) rfl (fun ls hl => ?_)
  refine lv_aload_n hx hb dX9_digest_47 rfl (lv_at hl 0 rfl) ?_
  refine va_tlen (v := zI 4) hx hb hG.2.2.1.2 hS rfl dX9_digest_48 ?_
  refine lv_istore (lv' := [(4, .int (zI 4)), (3, .ref (τ 2)), (1, .long v39_15), (0, .ref (α 0))]) hx hb dX9_digest_49 hl (by decide) rfl (fun ls hl => ?_)
  obtain ⟨hA1, hhA1⟩ : ∃ z : Int64, z = v39_15 := ⟨_, rfl⟩
  refine lv_iconst (v := zI 0) hx hb dX9_digest_51 rfl ?_
  refine lv_istore (lv' := [(5, .int (zI 0)), (4, .int (zI 4)), (3, .ref (τ 2)), (1, .long v39_15), (0, .ref (α 0))]) hx hb dX9_digest_52 hl (by decide) rfl (fun ls hl => ?_)
  suffices HL_54 : ∀ (n_54 : Nat), ∀ (m8 : BA) (f8 : IA) (e8 : IA) (g8 : BA) (p8 : IA) (q8 : IA) (n8 : Int) (t8 : Int) (c8 : Int) (l8 : Int) (w8 : BA) (r8 : IA) (h3 : Int64) (i : Int) (H : Heap) (locs : List Loc) (hP : va_P D vwCl (wH α γ (h, old, ch) (w8, r8) (m8, f8, e8, g8, p8, q8, n8, t8, c8, l8) (n19_4, d19_5, q19_6) (w19_7, l19_8) (f12_1, n12_2) s12_3 (cd, ln9, pl, le, ro, co, nu) (sv, sl9, tk, ct9)) H) (hD : va_D A (wH α γ (h, old, ch) (w8, r8) (m8, f8, e8, g8, p8, q8, n8, t8, c8, l8) (n19_4, d19_5, q19_6) (w19_7, l19_8) (f12_1, n12_2) s12_3 (cd, ln9, pl, le, ro, co, nu) (sv, sl9, tk, ct9))) (hS : va_S A s.heap H locs) (ls : Array Slot) (hl : lv_has ls 7 [(1, .long h3), (5, .int (zI i)), (4, .int (zI 4)), (3, .ref (τ 2)), (0, .ref (α 0))]) (hi : 0 ≤ i ∧ i ≤ 4) (hh3 : h3 = itI (fun k x => S_dlev h (LEVS k) x) i hA1) (hm : (4 - i).toNat < n_54), W pg l e rm_X9_digest s m args below meth c H locs 0 0 Q (F0 m 54 ls []) from HL_54 _ hi8 fe se gn fp sp np tot clo lon b19_9 q19_10 v39_15 0 _ _ hP hD hS _ (lv_sub hl [3, 0, 1, 2, 4] rfl) (by first | assumption | rfl | omega) (by rw [hhA1]; exact (itI_0 _ _).symm) (Nat.lt_succ_self _)
  intro n_54
  induction n_54 with
  | zero => intro m8 f8 e8 g8 p8 q8 n8 t8 c8 l8 w8 r8 h3 i H locs hP hD hS ls hl hi hh3 hm; exact absurd hm (Nat.not_lt_zero _)
  | succ n_54 ih_54 =>
    intro m8 f8 e8 g8 p8 q8 n8 t8 c8 l8 w8 r8 h3 i H locs hP hD hS ls hl hi hh3 hm
    refine lv_iload hx hb dX9_digest_54 (lv_at hl 1 rfl) ?_
    refine lv_iload hx hb dX9_digest_56 (lv_at hl 2 rfl) ?_
    refine z_icge (tgt := 81) hx hb ⟨by omega, by omega⟩ ⟨by omega, by omega⟩ dX9_digest_58 (by decide) (fun c_58 => ?_) (fun c_58 => ?_)
    · refine lv_lload_n hx hb dX9_digest_81 rfl (lv_at hl 0 rfl) ?_
      refine lv_aload_n hx hb dX9_digest_82 rfl (lv_at hl 4 rfl) ?_
      refine z_calli hP hD hS hA (va_runV (As := []) (rest := [.long h3]) hC (c_X9_sinks l D τ α γ h old ch (w8, r8) (m8, f8, e8, g8, p8, q8, n8, t8, c8, l8) n19_4 d19_5 q19_6 (w19_7, l19_8) (f12_1, n12_2) s12_3 (cd, ln9, pl, le, ro, co, nu) (sv, sl9, tk, ct9) (by first | assumption | rfl | omega) _) (cwV 0 hts (gV hB wl_X9_309 wn_X9_sinks ws_X9_sinks wi_X9 wc_X9_sinks) rfl rfl rfl hd_X9_sinks ⟨Nat.le_of_ble_eq_true rfl, Nat.le_of_ble_eq_true rfl⟩) (zp_V hK hP hD hS hA hG (ci := 9) (q0 := 0) rfl rfl rfl) rfl rfl hl.1 rfl (lv_room (Nat.le_of_ble_eq_true rfl)) dX9_digest_83 ⟨Nat.le_of_ble_eq_true rfl, Nat.le_of_ble_eq_true rfl⟩) (fun r w1 H locs hq9 hP hD hS => ?_)
      obtain ⟨n83_16, d83_17, v83_18, hv83_0, hv83_1, rfl, rfl⟩ := hq9
      have hP : va_P D vwCl (wH α γ (h, old, ch) (w8, r8) (m8, f8, e8, g8, p8, q8, n8, t8, c8, l8) (n83_16, d83_17, q19_6) (w19_7, l19_8) (f12_1, n12_2) s12_3 (cd, ln9, pl, le, ro, co, nu) (sv, sl9, tk, ct9)) H := hP
      have hD : va_D A (wH α γ (h, old, ch) (w8, r8) (m8, f8, e8, g8, p8, q8, n8, t8, c8, l8) (n83_16, d83_17, q19_6) (w19_7, l19_8) (f12_1, n12_2) s12_3 (cd, ln9, pl, le, ro, co, nu) (sv, sl9, tk, ct9)) := hD
      refine lv_i2l (v := zL v83_18) hx hb dX9_digest_86 (zL_of ⟨by omega, by omega⟩) ?_
      refine z_calll hP hD hS hA (va_runS (As := [.long h3, .long (zL v83_18)]) (rest := []) hC (c_X9_mix l D τ _ _ h3 (zL v83_18) _) (va_cwS 2 hts (gS hB wl_X9_294 wt_X9_mix wi_X9 wc_X9_mix) rfl rfl rfl hd_X9_mix.2 ⟨Nat.le_of_ble_eq_true rfl, Nat.le_of_ble_eq_true rfl⟩) (zp_S hK hP hD hS hA hG) rfl rfl hl.1 rfl (lv_room (Nat.le_of_ble_eq_true rfl)) dX9_digest_87 ⟨Nat.le_of_ble_eq_true rfl, Nat.le_of_ble_eq_true rfl⟩) (fun r w1 H locs hq9 hP hD hS => ?_)
      obtain ⟨v87_19, hv87_0, rfl, rfl⟩ := hq9
      refine lv_lstore_n (lv' := [(1, .long v87_19), (5, .int (zI i)), (4, .int (zI 4)), (3, .ref (τ 2)), (0, .ref (α 0))]) hx hb dX9_digest_90 rfl hl (by decide) rfl (fun ls hl => ?_)
      refine lv_lload_n hx hb dX9_digest_91 rfl (lv_at hl 0 rfl) ?_
      refine lv_aload_n hx hb dX9_digest_92 rfl (lv_at hl 4 rfl) ?_
      refine z_calli hP hD hS hA (va_runV (As := []) (rest := [.long v87_19]) hC (c_X9_greatestBasin l D τ α γ h old ch (w8, r8) (m8, f8, e8, g8, p8, q8, n8, t8, c8, l8) n83_16 d83_17 q19_6 (w19_7, l19_8) (f12_1, n12_2) s12_3 (cd, ln9, pl, le, ro, co, nu) (sv, sl9, tk, ct9) (by first | assumption | rfl | omega) _) (cwV 0 hts (gV hB wl_X9_312 wn_X9_greatestBasin ws_X9_greatestBasin wi_X9 wc_X9_greatestBasin) rfl rfl rfl hd_X9_greatestBasin ⟨Nat.le_of_ble_eq_true rfl, Nat.le_of_ble_eq_true rfl⟩) (zp_V hK hP hD hS hA hG (ci := 9) (q0 := 0) rfl rfl rfl) rfl rfl hl.1 rfl (lv_room (Nat.le_of_ble_eq_true rfl)) dX9_digest_93 ⟨Nat.le_of_ble_eq_true rfl, Nat.le_of_ble_eq_true rfl⟩) (fun r w1 H locs hq9 hP hD hS => ?_)
      obtain ⟨n93_20, d93_21, q93_22, v93_23, hv93_0, hv93_1, rfl, rfl⟩ := hq9
      have hP : va_P D vwCl (wH α γ (h, old, ch) (w8, r8) (m8, f8, e8, g8, p8, q8, n8, t8, c8, l8) (n93_20, d93_21, q93_22) (w19_7, l19_8) (f12_1, n12_2) s12_3 (cd, ln9, pl, le, ro, co, nu) (sv, sl9, tk, ct9)) H := hP
      have hD : va_D A (wH α γ (h, old, ch) (w8, r8) (m8, f8, e8, g8, p8, q8, n8, t8, c8, l8) (n93_20, d93_21, q93_22) (w19_7, l19_8) (f12_1, n12_2) s12_3 (cd, ln9, pl, le, ro, co, nu) (sv, sl9, tk, ct9)) := hD
      refine lv_i2l (v := zL v93_23) hx hb dX9_digest_96 (zL_of ⟨by omega, by omega⟩) ?_
      refine z_calll hP hD hS hA (va_runS (As := [.long v87_19, .long (zL v93_23)]) (rest := []) hC (c_X9_mix l D τ _ _ v87_19 (zL v93_23) _) (va_cwS 2 hts (gS hB wl_X9_294 wt_X9_mix wi_X9 wc_X9_mix) rfl rfl rfl hd_X9_mix.2 ⟨Nat.le_of_ble_eq_true rfl, Nat.le_of_ble_eq_true rfl⟩) (zp_S hK hP hD hS hA hG) rfl rfl hl.1 rfl (lv_room (Nat.le_of_ble_eq_true rfl)) dX9_digest_97 ⟨Nat.le_of_ble_eq_true rfl, Nat.le_of_ble_eq_true rfl⟩) (fun r w1 H locs hq9 hP hD hS => ?_)
      obtain ⟨v97_24, hv97_0, rfl, rfl⟩ := hq9
      refine lv_lstore_n (lv' := [(1, .long v97_24), (5, .int (zI i)), (4, .int (zI 4)), (3, .ref (τ 2)), (0, .ref (α 0))]) hx hb dX9_digest_100 rfl hl (by decide) rfl (fun ls hl => ?_)
      refine lv_lload_n hx hb dX9_digest_101 rfl (lv_at hl 0 rfl) ?_
      refine lv_aload_n hx hb dX9_digest_102 rfl (lv_at hl 4 rfl) ?_
      refine z_calli hP hD hS hA (va_runV (As := []) (rest := [.long v97_24]) hC (c_X9_water l D τ α γ h old ch (w8, r8) (m8, f8, e8, g8, p8, q8, n8, t8, c8, l8) (n93_20, d93_21, q93_22) w19_7 l19_8 (f12_1, n12_2) s12_3 (cd, ln9, pl, le, ro, co, nu) (sv, sl9, tk, ct9) (by first | assumption | rfl | omega) _) (cwV 0 hts (gV hB wl_X9_315 wn_X9_water ws_X9_water wi_X9 wc_X9_water) rfl rfl rfl hd_X9_water ⟨Nat.le_of_ble_eq_true rfl, Nat.le_of_ble_eq_true rfl⟩) (zp_V hK hP hD hS hA hG (ci := 9) (q0 := 0) rfl rfl rfl) rfl rfl hl.1 rfl (lv_room (Nat.le_of_ble_eq_true rfl)) dX9_digest_103 ⟨Nat.le_of_ble_eq_true rfl, Nat.le_of_ble_eq_true rfl⟩) (fun r w1 H locs hq9 hP hD hS => ?_)
      obtain ⟨w103_25, v103_26, hv103_0, hv103_1, rfl, rfl⟩ := hq9
      have hP : va_P D vwCl (wH α γ (h, old, ch) (w8, r8) (m8, f8, e8, g8, p8, q8, n8, t8, c8, l8) (n93_20, d93_21, q93_22) (w103_25, l19_8) (f12_1, n12_2) s12_3 (cd, ln9, pl, le, ro, co, nu) (sv, sl9, tk, ct9)) H := hP
      have hD : va_D A (wH α γ (h, old, ch) (w8, r8) (m8, f8, e8, g8, p8, q8, n8, t8, c8, l8) (n93_20, d93_21, q93_22) (w103_25, l19_8) (f12_1, n12_2) s12_3 (cd, ln9, pl, le, ro, co, nu) (sv, sl9, tk, ct9)) := hD
      refine lv_i2l (v := zL v103_26) hx hb dX9_digest_106 (zL_of ⟨by omega, by omega⟩) ?_
      refine z_calll hP hD hS hA (va_runS (As := [.long v97_24, .long (zL v103_26)]) (rest := []) hC (c_X9_mix l D τ _ _ v97_24 (zL v103_26) _) (va_cwS 2 hts (gS hB wl_X9_294 wt_X9_mix wi_X9 wc_X9_mix) rfl rfl rfl hd_X9_mix.2 ⟨Nat.le_of_ble_eq_true rfl, Nat.le_of_ble_eq_true rfl⟩) (zp_S hK hP hD hS hA hG) rfl rfl hl.1 rfl (lv_room (Nat.le_of_ble_eq_true rfl)) dX9_digest_107 ⟨Nat.le_of_ble_eq_true rfl, Nat.le_of_ble_eq_true rfl⟩) (fun r w1 H locs hq9 hP hD hS => ?_)
      obtain ⟨v107_27, hv107_0, rfl, rfl⟩ := hq9
      refine lv_lstore_n (lv' := [(1, .long v107_27), (5, .int (zI i)), (4, .int (zI 4)), (3, .ref (τ 2)), (0, .ref (α 0))]) hx hb dX9_digest_110 rfl hl (by decide) rfl (fun ls hl => ?_)
      refine lv_lload_n hx hb dX9_digest_111 rfl (lv_at hl 0 rfl) ?_
      refine lv_aload_n hx hb dX9_digest_112 rfl (lv_at hl 4 rfl) ?_
      refine z_calli hP hD hS hA (va_runV (As := []) (rest := [.long v107_27]) hC (c_X9_ponds l D τ α γ h old ch w8 r8 (m8, f8, e8, g8, p8, q8, n8, t8, c8, l8) (n93_20, d93_21, q93_22) w103_25 l19_8 (f12_1, n12_2) s12_3 (cd, ln9, pl, le, ro, co, nu) (sv, sl9, tk, ct9) (by first | assumption | rfl | omega) _) (cwV 0 hts (gV hB wl_X9_318 wn_X9_ponds ws_X9_ponds wi_X9 wc_X9_ponds) rfl rfl rfl hd_X9_ponds ⟨Nat.le_of_ble_eq_true rfl, Nat.le_of_ble_eq_true rfl⟩) (zp_V hK hP hD hS hA hG (ci := 9) (q0 := 0) rfl rfl rfl) rfl rfl hl.1 rfl (lv_room (Nat.le_of_ble_eq_true rfl)) dX9_digest_113 ⟨Nat.le_of_ble_eq_true rfl, Nat.le_of_ble_eq_true rfl⟩) (fun r w1 H locs hq9 hP hD hS => ?_)
      obtain ⟨w113_28, b113_29, q113_30, v113_31, hv113_0, hv113_1, rfl, rfl⟩ := hq9
      have hP : va_P D vwCl (wH α γ (h, old, ch) (b113_29, q113_30) (m8, f8, e8, g8, p8, q8, n8, t8, c8, l8) (n93_20, d93_21, q93_22) (w113_28, l19_8) (f12_1, n12_2) s12_3 (cd, ln9, pl, le, ro, co, nu) (sv, sl9, tk, ct9)) H := hP
      have hD : va_D A (wH α γ (h, old, ch) (b113_29, q113_30) (m8, f8, e8, g8, p8, q8, n8, t8, c8, l8) (n93_20, d93_21, q93_22) (w113_28, l19_8) (f12_1, n12_2) s12_3 (cd, ln9, pl, le, ro, co, nu) (sv, sl9, tk, ct9)) := hD
      refine lv_i2l (v := zL v113_31) hx hb dX9_digest_116 (zL_of ⟨by omega, by omega⟩) ?_
      refine z_calll hP hD hS hA (va_runS (As := [.long v107_27, .long (zL v113_31)]) (rest := []) hC (c_X9_mix l D τ _ _ v107_27 (zL v113_31) _) (va_cwS 2 hts (gS hB wl_X9_294 wt_X9_mix wi_X9 wc_X9_mix) rfl rfl rfl hd_X9_mix.2 ⟨Nat.le_of_ble_eq_true rfl, Nat.le_of_ble_eq_true rfl⟩) (zp_S hK hP hD hS hA hG) rfl rfl hl.1 rfl (lv_room (Nat.le_of_ble_eq_true rfl)) dX9_digest_117 ⟨Nat.le_of_ble_eq_true rfl, Nat.le_of_ble_eq_true rfl⟩) (fun r w1 H locs hq9 hP hD hS => ?_)
      obtain ⟨v117_32, hv117_0, rfl, rfl⟩ := hq9
      refine lv_lstore_n (lv' := [(1, .long v117_32), (5, .int (zI i)), (4, .int (zI 4)), (3, .ref (τ 2)), (0, .ref (α 0))]) hx hb dX9_digest_120 rfl hl (by decide) rfl (fun ls hl => ?_)
      refine lv_lload_n hx hb dX9_digest_121 rfl (lv_at hl 0 rfl) ?_
      refine lv_aload_n hx hb dX9_digest_122 rfl (lv_at hl 4 rfl) ?_
      refine va_get (D := D) (ci := 9) (v := .ref (α 7)) (C := RX9) (T := TX9) (N := 9) hx hb hts (fun w h => List.mem_cons_of_mem _ (wx_X9 w h)) hown hK hP 0 rfl rfl 6 (by decide) (hW0 _ wf_X9_54) (fun _ h9 => h9) rfl dX9_digest_123 ?_
      refine z_calli hP hD hS hA (va_runV (As := []) (rest := [.long v117_32]) hC (c_X7_best l D τ α γ (h, old, ch) (b113_29, q113_30) (m8, f8, e8, g8, p8, q8, n8, t8, c8, l8) (n93_20, d93_21, q93_22) (w113_28, l19_8) (f12_1, n12_2) s12_3 (cd, ln9, pl, le, ro, co, nu) (sv, sl9, tk, ct9) h (by intro k z1 z2; rw [hv12_0, zmix_at ⟨z1, z2⟩]) _) (cwV 0 hts (gV hB wl_X9_280 wn_X7_best ws_X7_best wi_X7 wc_X7_best) rfl rfl rfl hd_X7_best ⟨Nat.le_of_ble_eq_true rfl, Nat.le_of_ble_eq_true rfl⟩) (zp_V hK hP hD hS hA hG (ci := 7) (q0 := 7) rfl rfl rfl) rfl rfl hl.1 rfl (lv_room (Nat.le_of_ble_eq_true rfl)) dX9_digest_126 ⟨Nat.le_of_ble_eq_true rfl, Nat.le_of_ble_eq_true rfl⟩) (fun r w1 H locs hq9 hP hD hS => ?_)
      obtain ⟨v126_33, hv126_0, hv126_1, rfl, rfl⟩ := hq9
      have hP : va_P D vwCl (wH α γ (h, old, ch) (b113_29, q113_30) (m8, f8, e8, g8, p8, q8, n8, t8, c8, l8) (n93_20, d93_21, q93_22) (w113_28, l19_8) (f12_1, n12_2) s12_3 (cd, ln9, pl, le, ro, co, nu) (sv, sl9, tk, ct9)) H := hP
      have hD : va_D A (wH α γ (h, old, ch) (b113_29, q113_30) (m8, f8, e8, g8, p8, q8, n8, t8, c8, l8) (n93_20, d93_21, q93_22) (w113_28, l19_8) (f12_1, n12_2) s12_3 (cd, ln9, pl, le, ro, co, nu) (sv, sl9, tk, ct9)) := hD
      refine lv_i2l (v := zL v126_33) hx hb dX9_digest_129 (zL_of ⟨by omega, by omega⟩) ?_
      refine z_calll hP hD hS hA (va_runS (As := [.long v117_32, .long (zL v126_33)]) (rest := []) hC (c_X9_mix l D τ _ _ v117_32 (zL v126_33) _) (va_cwS 2 hts (gS hB wl_X9_294 wt_X9_mix wi_X9 wc_X9_mix) rfl rfl rfl hd_X9_mix.2 ⟨Nat.le_of_ble_eq_true rfl, Nat.le_of_ble_eq_true rfl⟩) (zp_S hK hP hD hS hA hG) rfl rfl hl.1 rfl (lv_room (Nat.le_of_ble_eq_true rfl)) dX9_digest_130 ⟨Nat.le_of_ble_eq_true rfl, Nat.le_of_ble_eq_true rfl⟩) (fun r w1 H locs hq9 hP hD hS => ?_)
      obtain ⟨v130_34, hv130_0, rfl, rfl⟩ := hq9
      refine lv_lstore_n (lv' := [(1, .long v130_34), (5, .int (zI i)), (4, .int (zI 4)), (3, .ref (τ 2)), (0, .ref (α 0))]) hx hb dX9_digest_133 rfl hl (by decide) rfl (fun ls hl => ?_)
      refine lv_lload_n hx hb dX9_digest_134 rfl (lv_at hl 0 rfl) ?_
      refine lv_aload_n hx hb dX9_digest_135 rfl (lv_at hl 4 rfl) ?_
      refine z_calli hP hD hS hA (va_runV (As := []) (rest := [.long v130_34]) hC (c_X9_savedStates l D τ α γ (h, old, ch) (b113_29, q113_30) (m8, f8, e8, g8, p8, q8, n8, t8, c8, l8) (n93_20, d93_21, q93_22) (w113_28, l19_8) (f12_1, n12_2) s12_3 (cd, ln9, pl, le, ro, co, nu) sv sl9 tk ct9 _) (cwV 0 hts (gV hB wl_X9_320 wn_X9_savedStates ws_X9_savedStates wi_X9 wc_X9_savedStates) rfl rfl rfl hd_X9_savedStates ⟨Nat.le_of_ble_eq_true rfl, Nat.le_of_ble_eq_true rfl⟩) (zp_V hK hP hD hS hA hG (ci := 9) (q0 := 0) rfl rfl rfl) rfl rfl hl.1 rfl (lv_room (Nat.le_of_ble_eq_true rfl)) dX9_digest_136 ⟨Nat.le_of_ble_eq_true rfl, Nat.le_of_ble_eq_true rfl⟩) (fun r w1 H locs hq9 hP hD hS => ?_)
      obtain ⟨v136_35, hv136_0, rfl, rfl⟩ := hq9
      have hP : va_P D vwCl (wH α γ (h, old, ch) (b113_29, q113_30) (m8, f8, e8, g8, p8, q8, n8, t8, c8, l8) (n93_20, d93_21, q93_22) (w113_28, l19_8) (f12_1, n12_2) s12_3 (cd, ln9, pl, le, ro, co, nu) (sv, sl9, tk, ct9)) H := hP
      have hD : va_D A (wH α γ (h, old, ch) (b113_29, q113_30) (m8, f8, e8, g8, p8, q8, n8, t8, c8, l8) (n93_20, d93_21, q93_22) (w113_28, l19_8) (f12_1, n12_2) s12_3 (cd, ln9, pl, le, ro, co, nu) (sv, sl9, tk, ct9)) := hD
      refine lv_i2l (v := zL v136_35) hx hb dX9_digest_139 (zL_of ⟨by omega, by omega⟩) ?_
      refine z_calll hP hD hS hA (va_runS (As := [.long v130_34, .long (zL v136_35)]) (rest := []) hC (c_X9_mix l D τ _ _ v130_34 (zL v136_35) _) (va_cwS 2 hts (gS hB wl_X9_294 wt_X9_mix wi_X9 wc_X9_mix) rfl rfl rfl hd_X9_mix.2 ⟨Nat.le_of_ble_eq_true rfl, Nat.le_of_ble_eq_true rfl⟩) (zp_S hK hP hD hS hA hG) rfl rfl hl.1 rfl (lv_room (Nat.le_of_ble_eq_true rfl)) dX9_digest_140 ⟨Nat.le_of_ble_eq_true rfl, Nat.le_of_ble_eq_true rfl⟩) (fun r w1 H locs hq9 hP hD hS => ?_)
      obtain ⟨v140_36, hv140_0, rfl, rfl⟩ := hq9
      refine lv_lstore_n (lv' := [(1, .long v140_36), (5, .int (zI i)), (4, .int (zI 4)), (3, .ref (τ 2)), (0, .ref (α 0))]) hx hb dX9_digest_143 rfl hl (by decide) rfl (fun ls hl => ?_)
      have hdr := S_dsum_b hh
      refine lv_lload_n hx hb dX9_digest_144 rfl (lv_at hl 0 rfl) ?_
      refine lv_aload_n hx hb dX9_digest_145 rfl (lv_at hl 4 rfl) ?_
      refine z_calld hP hD hS hA (va_runV (As := []) (rest := [.long v140_36]) hC (c_X9_meanDrop l D τ α γ h old ch (b113_29, q113_30) (m8, f8, e8, g8, p8, q8, n8, t8, c8, l8) n93_20 d93_21 q93_22 (w113_28, l19_8) (f12_1, n12_2) s12_3 (cd, ln9, pl, le, ro, co, nu) (sv, sl9, tk, ct9) (by first | assumption | rfl | omega) _) (cwV 0 hts (gV hB wl_X9_323 wn_X9_meanDrop ws_X9_meanDrop wi_X9 wc_X9_meanDrop) rfl rfl rfl hd_X9_meanDrop ⟨Nat.le_of_ble_eq_true rfl, Nat.le_of_ble_eq_true rfl⟩) (zp_V hK hP hD hS hA hG (ci := 9) (q0 := 0) rfl rfl rfl) rfl rfl hl.1 rfl (lv_room (Nat.le_of_ble_eq_true rfl)) dX9_digest_146 ⟨Nat.le_of_ble_eq_true rfl, Nat.le_of_ble_eq_true rfl⟩) (fun r w1 H locs hq9 hP hD hS => ?_)
      obtain ⟨n146_37, d146_38, v146_39, hv146_0, rfl, rfl⟩ := hq9
      have hP : va_P D vwCl (wH α γ (h, old, ch) (b113_29, q113_30) (m8, f8, e8, g8, p8, q8, n8, t8, c8, l8) (n146_37, d146_38, q93_22) (w113_28, l19_8) (f12_1, n12_2) s12_3 (cd, ln9, pl, le, ro, co, nu) (sv, sl9, tk, ct9)) H := hP
      have hD : va_D A (wH α γ (h, old, ch) (b113_29, q113_30) (m8, f8, e8, g8, p8, q8, n8, t8, c8, l8) (n146_37, d146_38, q93_22) (w113_28, l19_8) (f12_1, n12_2) s12_3 (cd, ln9, pl, le, ro, co, nu) (sv, sl9, tk, ct9)) := hD
      refine z_calll hP hD hS hA (va_runS (As := [.double v146_39]) (rest := [.long v140_36]) hC (c_X9_bitsOf l D τ _ _ v146_39 (by rw [hv146_0]; exact dmean_DOK hdr) _) (va_cwS 1 hts (gS hB wl_X9_327 wt_X9_bitsOf wi_X9 wc_X9_bitsOf) rfl rfl rfl hd_X9_bitsOf.2 ⟨Nat.le_of_ble_eq_true rfl, Nat.le_of_ble_eq_true rfl⟩) (zp_S hK hP hD hS hA hG) rfl rfl hl.1 rfl (lv_room (Nat.le_of_ble_eq_true rfl)) dX9_digest_149 ⟨Nat.le_of_ble_eq_true rfl, Nat.le_of_ble_eq_true rfl⟩) (fun r w1 H locs hq9 hP hD hS => ?_)
      obtain ⟨v149_40, hv149_0, rfl, rfl⟩ := hq9
      refine z_calll hP hD hS hA (va_runS (As := [.long v140_36, .long v149_40]) (rest := []) hC (c_X9_mix l D τ _ _ v140_36 v149_40 _) (va_cwS 2 hts (gS hB wl_X9_294 wt_X9_mix wi_X9 wc_X9_mix) rfl rfl rfl hd_X9_mix.2 ⟨Nat.le_of_ble_eq_true rfl, Nat.le_of_ble_eq_true rfl⟩) (zp_S hK hP hD hS hA hG) rfl rfl hl.1 rfl (lv_room (Nat.le_of_ble_eq_true rfl)) dX9_digest_152 ⟨Nat.le_of_ble_eq_true rfl, Nat.le_of_ble_eq_true rfl⟩) (fun r w1 H locs hq9 hP hD hS => ?_)
      obtain ⟨v152_41, hv152_0, rfl, rfl⟩ := hq9
      refine lv_lstore_n (lv' := [(1, .long v152_41), (5, .int (zI i)), (4, .int (zI 4)), (3, .ref (τ 2)), (0, .ref (α 0))]) hx hb dX9_digest_155 rfl hl (by decide) rfl (fun ls hl => ?_)
      obtain ⟨hA2, hhA2⟩ : ∃ z : Int64, z = v152_41 := ⟨_, rfl⟩
      refine lv_iconst (v := zI 0) hx hb dX9_digest_156 rfl ?_
      refine lv_istore_n (lv' := [(3, .int (zI 0)), (1, .long v152_41), (5, .int (zI i)), (4, .int (zI 4)), (0, .ref (α 0))]) hx hb dX9_digest_157 rfl hl (by decide) rfl (fun ls hl => ?_)
      suffices HL_158 : ∀ (n_158 : Nat), ∀ (h4 : Int64) (j : Int) (H : Heap) (locs : List Loc) (hP : va_P D vwCl (wH α γ (h, old, ch) (b113_29, q113_30) (m8, f8, e8, g8, p8, q8, n8, t8, c8, l8) (n146_37, d146_38, q93_22) (w113_28, l19_8) (f12_1, n12_2) s12_3 (cd, ln9, pl, le, ro, co, nu) (sv, sl9, tk, ct9)) H) (hD : va_D A (wH α γ (h, old, ch) (b113_29, q113_30) (m8, f8, e8, g8, p8, q8, n8, t8, c8, l8) (n146_37, d146_38, q93_22) (w113_28, l19_8) (f12_1, n12_2) s12_3 (cd, ln9, pl, le, ro, co, nu) (sv, sl9, tk, ct9))) (hS : va_S A s.heap H locs) (ls : Array Slot) (hl : lv_has ls 7 [(1, .long h4), (3, .int (zI j)), (5, .int (zI i)), (4, .int (zI 4)), (0, .ref (α 0))]) (hj : 0 ≤ j ∧ j ≤ 2) (hh4 : h4 = itI (fun k x => mixI x (z1 (tk k))) j hA2) (hm : (2 - j).toNat < n_158), W pg l e rm_X9_digest s m args below meth c H locs 0 0 Q (F0 m 158 ls []) from HL_158 _ v152_41 0 _ _ hP hD hS _ (lv_sub hl [1, 0, 2, 3, 4] rfl) (by first | assumption | rfl | omega) (by rw [hhA2]; exact (itI_0 _ _).symm) (Nat.lt_succ_self _)
      intro n_158
      induction n_158 with
      | zero => intro h4 j H locs hP hD hS ls hl hj hh4 hm; exact absurd hm (Nat.not_lt_zero _)
      | succ n_158 ih_158 =>
        intro h4 j H locs hP hD hS ls hl hj hh4 hm
        refine lv_iload_n hx hb dX9_digest_158 rfl (lv_at hl 1 rfl) ?_
        refine lv_iconst (v := zI 2) hx hb dX9_digest_159 rfl ?_
        refine z_icge (tgt := 190) hx hb ⟨by omega, by omega⟩ ⟨by omega, by omega⟩ dX9_digest_160 (by decide) (fun c_160 => ?_) (fun c_160 => ?_)
        · refine lv_lload_n hx hb dX9_digest_190 rfl (lv_at hl 0 rfl) ?_
          refine lv_aload_n hx hb dX9_digest_191 rfl (lv_at hl 4 rfl) ?_
          refine va_get (D := D) (ci := 9) (v := .ref (α 8)) (C := RX9) (T := TX9) (N := 9) hx hb hts (fun w h => List.mem_cons_of_mem _ (wx_X9 w h)) hown hK hP 0 rfl rfl 7 (by decide) (hW0 _ wf_X9_61) (fun _ h9 => h9) rfl dX9_digest_192 ?_
          refine z_calli hP hD hS hA (va_runV (As := []) (rest := [.long h4]) hC (c_X3_size l D τ α γ (h, old, ch) (b113_29, q113_30) (m8, f8, e8, g8, p8, q8, n8, t8, c8, l8) (n146_37, d146_38, q93_22) (w113_28, l19_8) (f12_1, n12_2) s12_3 cd ln9 pl le ro co nu (sv, sl9, tk, ct9) _) (cwV 0 hts (gV hB wl_X9_118 wn_X3_size ws_X3_size wi_X3 wc_X3_size) rfl rfl rfl hd_X3_size ⟨Nat.le_of_ble_eq_true rfl, Nat.le_of_ble_eq_true rfl⟩) (zp_V hK hP hD hS hA hG (ci := 3) (q0 := 8) rfl rfl rfl) rfl rfl hl.1 rfl (lv_room (Nat.le_of_ble_eq_true rfl)) dX9_digest_195 ⟨Nat.le_of_ble_eq_true rfl, Nat.le_of_ble_eq_true rfl⟩) (fun r w1 H locs hq9 hP hD hS => ?_)
          obtain ⟨v195_42, hv195_0, rfl, rfl⟩ := hq9
          have hP : va_P D vwCl (wH α γ (h, old, ch) (b113_29, q113_30) (m8, f8, e8, g8, p8, q8, n8, t8, c8, l8) (n146_37, d146_38, q93_22) (w113_28, l19_8) (f12_1, n12_2) s12_3 (cd, ln9, pl, le, ro, co, nu) (sv, sl9, tk, ct9)) H := hP
          have hD : va_D A (wH α γ (h, old, ch) (b113_29, q113_30) (m8, f8, e8, g8, p8, q8, n8, t8, c8, l8) (n146_37, d146_38, q93_22) (w113_28, l19_8) (f12_1, n12_2) s12_3 (cd, ln9, pl, le, ro, co, nu) (sv, sl9, tk, ct9)) := hD
          refine lv_i2l (v := zL v195_42) hx hb dX9_digest_198 (zL_of ⟨by omega, by omega⟩) ?_
          refine z_calll hP hD hS hA (va_runS (As := [.long h4, .long (zL v195_42)]) (rest := []) hC (c_X9_mix l D τ _ _ h4 (zL v195_42) _) (va_cwS 2 hts (gS hB wl_X9_294 wt_X9_mix wi_X9 wc_X9_mix) rfl rfl rfl hd_X9_mix.2 ⟨Nat.le_of_ble_eq_true rfl, Nat.le_of_ble_eq_true rfl⟩) (zp_S hK hP hD hS hA hG) rfl rfl hl.1 rfl (lv_room (Nat.le_of_ble_eq_true rfl)) dX9_digest_199 ⟨Nat.le_of_ble_eq_true rfl, Nat.le_of_ble_eq_true rfl⟩) (fun r w1 H locs hq9 hP hD hS => ?_)
          obtain ⟨v199_43, hv199_0, rfl, rfl⟩ := hq9
          refine lv_lstore_n (lv' := [(1, .long v199_43), (3, .int (zI j)), (5, .int (zI i)), (4, .int (zI 4)), (0, .ref (α 0))]) hx hb dX9_digest_202 rfl hl (by decide) rfl (fun ls hl => ?_)
          obtain ⟨hA3, hhA3⟩ : ∃ z : Int64, z = v199_43 := ⟨_, rfl⟩
          refine lv_iconst (v := zI 0) hx hb dX9_digest_203 rfl ?_
          refine lv_istore_n (lv' := [(3, .int (zI 0)), (1, .long v199_43), (5, .int (zI i)), (4, .int (zI 4)), (0, .ref (α 0))]) hx hb dX9_digest_204 rfl hl (by decide) rfl (fun ls hl => ?_)
          suffices HL_205 : ∀ (n_205 : Nat), ∀ (h6 : Int64) (jj : Int) (H : Heap) (locs : List Loc) (hP : va_P D vwCl (wH α γ (h, old, ch) (b113_29, q113_30) (m8, f8, e8, g8, p8, q8, n8, t8, c8, l8) (n146_37, d146_38, q93_22) (w113_28, l19_8) (f12_1, n12_2) s12_3 (cd, ln9, pl, le, ro, co, nu) (sv, sl9, tk, ct9)) H) (hD : va_D A (wH α γ (h, old, ch) (b113_29, q113_30) (m8, f8, e8, g8, p8, q8, n8, t8, c8, l8) (n146_37, d146_38, q93_22) (w113_28, l19_8) (f12_1, n12_2) s12_3 (cd, ln9, pl, le, ro, co, nu) (sv, sl9, tk, ct9))) (hS : va_S A s.heap H locs) (ls : Array Slot) (hl : lv_has ls 7 [(1, .long h6), (3, .int (zI jj)), (5, .int (zI i)), (4, .int (zI 4)), (0, .ref (α 0))]) (hjj : 0 ≤ jj ∧ jj ≤ ln9) (hh6 : h6 = itI (fun k x => mixI x (cd k)) jj hA3) (hm : (ln9 - jj).toNat < n_205), W pg l e rm_X9_digest s m args below meth c H locs 0 0 Q (F0 m 205 ls []) from HL_205 _ v199_43 0 _ _ hP hD hS _ (lv_sub hl [1, 0, 2, 3, 4] rfl) (by first | assumption | rfl | omega) (by rw [hhA3]; exact (itI_0 _ _).symm) (Nat.lt_succ_self _)
          intro n_205
          induction n_205 with
          | zero => intro h6 jj H locs hP hD hS ls hl hjj hh6 hm; exact absurd hm (Nat.not_lt_zero _)
          | succ n_205 ih_205 =>
            intro h6 jj H locs hP hD hS ls hl hjj hh6 hm
            refine lv_iload_n hx hb dX9_digest_205 rfl (lv_at hl 1 rfl) ?_
            refine lv_aload_n hx hb dX9_digest_206 rfl (lv_at hl 4 rfl) ?_
            refine va_get (D := D) (ci := 9) (v := .ref (α 8)) (C := RX9) (T := TX9) (N := 9) hx hb hts (fun w h => List.mem_cons_of_mem _ (wx_X9 w h)) hown hK hP 0 rfl rfl 7 (by decide) (hW0 _ wf_X9_61) (fun _ h9 => h9) rfl dX9_digest_207 ?_
            refine z_calli hP hD hS hA (va_runV (As := []) (rest := [.int (zI jj)]) hC (c_X3_size l D τ α γ (h, old, ch) (b113_29, q113_30) (m8, f8, e8, g8, p8, q8, n8, t8, c8, l8) (n146_37, d146_38, q93_22) (w113_28, l19_8) (f12_1, n12_2) s12_3 cd ln9 pl le ro co nu (sv, sl9, tk, ct9) _) (cwV 0 hts (gV hB wl_X9_118 wn_X3_size ws_X3_size wi_X3 wc_X3_size) rfl rfl rfl hd_X3_size ⟨Nat.le_of_ble_eq_true rfl, Nat.le_of_ble_eq_true rfl⟩) (zp_V hK hP hD hS hA hG (ci := 3) (q0 := 8) rfl rfl rfl) rfl rfl hl.1 rfl (lv_room (Nat.le_of_ble_eq_true rfl)) dX9_digest_210 ⟨Nat.le_of_ble_eq_true rfl, Nat.le_of_ble_eq_true rfl⟩) (fun r w1 H locs hq9 hP hD hS => ?_)
            obtain ⟨v210_44, hv210_0, rfl, rfl⟩ := hq9
            have hP : va_P D vwCl (wH α γ (h, old, ch) (b113_29, q113_30) (m8, f8, e8, g8, p8, q8, n8, t8, c8, l8) (n146_37, d146_38, q93_22) (w113_28, l19_8) (f12_1, n12_2) s12_3 (cd, ln9, pl, le, ro, co, nu) (sv, sl9, tk, ct9)) H := hP
            have hD : va_D A (wH α γ (h, old, ch) (b113_29, q113_30) (m8, f8, e8, g8, p8, q8, n8, t8, c8, l8) (n146_37, d146_38, q93_22) (w113_28, l19_8) (f12_1, n12_2) s12_3 (cd, ln9, pl, le, ro, co, nu) (sv, sl9, tk, ct9)) := hD
            refine z_icge (tgt := 236) hx hb ⟨by omega, by omega⟩ ⟨by omega, by omega⟩ dX9_digest_213 (by decide) (fun c_213 => ?_) (fun c_213 => ?_)
            · refine lv_lload_n hx hb dX9_digest_236 rfl (lv_at hl 0 rfl) ?_
              exact z_lret hC hr hlk hQ hP hD hS ⟨f12_1, n12_2, s12_3, n146_37, d146_38, q93_22, w113_28, l19_8, b113_29, q113_30, m8, f8, e8, g8, p8, q8, n8, t8, c8, l8, h6, (by rw [hh6, show jj = ln9 by omega, hhA3, hv199_0, hv195_0, hh4, show j = 2 by omega, hhA2, hv152_0, hv149_0, hv146_0, hv140_0, hv136_0, hv130_0, hv126_0, hv117_0, hv113_0, hv107_0, hv103_0, hv97_0, hv93_0, hv87_0, hv83_0, hh3, show i = 4 by omega, hhA1, hv39_0, hv35_0, hv29_0, hv25_0, hv19_0]; rfl), rfl, rfl⟩ dX9_digest_237
            · refine lv_lload_n hx hb dX9_digest_216 rfl (lv_at hl 0 rfl) ?_
              refine lv_aload_n hx hb dX9_digest_217 rfl (lv_at hl 4 rfl) ?_
              refine va_get (D := D) (ci := 9) (v := .ref (α 8)) (C := RX9) (T := TX9) (N := 9) hx hb hts (fun w h => List.mem_cons_of_mem _ (wx_X9 w h)) hown hK hP 0 rfl rfl 7 (by decide) (hW0 _ wf_X9_61) (fun _ h9 => h9) rfl dX9_digest_218 ?_
              refine lv_iload_n hx hb dX9_digest_221 rfl (lv_at hl 1 rfl) ?_
              refine z_calli hP hD hS hA (va_runV (As := [.int (zI jj)]) (rest := [.long h6]) hC (c_X3_code l D τ α γ (h, old, ch) (b113_29, q113_30) (m8, f8, e8, g8, p8, q8, n8, t8, c8, l8) (n146_37, d146_38, q93_22) (w113_28, l19_8) (f12_1, n12_2) s12_3 cd ln9 pl le ro co nu (sv, sl9, tk, ct9) jj (by first | assumption | rfl | omega) (by first | assumption | rfl | omega) (by first | assumption | rfl | omega) _) (cwV 1 hts (gV hB wl_X9_331 wn_X3_code ws_X3_code wi_X3 wc_X3_code) rfl rfl rfl hd_X3_code ⟨Nat.le_of_ble_eq_true rfl, Nat.le_of_ble_eq_true rfl⟩) (zp_V hK hP hD hS hA hG (ci := 3) (q0 := 8) rfl rfl rfl) rfl rfl hl.1 rfl (lv_room (Nat.le_of_ble_eq_true rfl)) dX9_digest_222 ⟨Nat.le_of_ble_eq_true rfl, Nat.le_of_ble_eq_true rfl⟩) (fun r w1 H locs hq9 hP hD hS => ?_)
              obtain ⟨v222_45, hv222_0, hv222_1, rfl, rfl⟩ := hq9
              have hP : va_P D vwCl (wH α γ (h, old, ch) (b113_29, q113_30) (m8, f8, e8, g8, p8, q8, n8, t8, c8, l8) (n146_37, d146_38, q93_22) (w113_28, l19_8) (f12_1, n12_2) s12_3 (cd, ln9, pl, le, ro, co, nu) (sv, sl9, tk, ct9)) H := hP
              have hD : va_D A (wH α γ (h, old, ch) (b113_29, q113_30) (m8, f8, e8, g8, p8, q8, n8, t8, c8, l8) (n146_37, d146_38, q93_22) (w113_28, l19_8) (f12_1, n12_2) s12_3 (cd, ln9, pl, le, ro, co, nu) (sv, sl9, tk, ct9)) := hD
              refine lv_i2l (v := zL v222_45) hx hb dX9_digest_225 (zL_of ⟨by omega, by omega⟩) ?_
              refine z_calll hP hD hS hA (va_runS (As := [.long h6, .long (zL v222_45)]) (rest := []) hC (c_X9_mix l D τ _ _ h6 (zL v222_45) _) (va_cwS 2 hts (gS hB wl_X9_294 wt_X9_mix wi_X9 wc_X9_mix) rfl rfl rfl hd_X9_mix.2 ⟨Nat.le_of_ble_eq_true rfl, Nat.le_of_ble_eq_true rfl⟩) (zp_S hK hP hD hS hA hG) rfl rfl hl.1 rfl (lv_room (Nat.le_of_ble_eq_true rfl)) dX9_digest_226 ⟨Nat.le_of_ble_eq_true rfl, Nat.le_of_ble_eq_true rfl⟩) (fun r w1 H locs hq9 hP hD hS => ?_)
              obtain ⟨v226_46, hv226_0, rfl, rfl⟩ := hq9
              refine lv_lstore_n (lv' := [(1, .long v226_46), (3, .int (zI jj)), (5, .int (zI i)), (4, .int (zI 4)), (0, .ref (α 0))]) hx hb dX9_digest_229 rfl hl (by decide) rfl (fun ls hl => ?_)
              refine z_iinc (k := 1) (v := jj + 1) (lv' := [(3, .int (zI (jj + 1))), (1, .long v226_46), (5, .int (zI i)), (4, .int (zI 4)), (0, .ref (α 0))]) hx hb dX9_digest_230 hl rfl rfl (by decide) rfl (fun ls hl => ?_)
              refine lv_goto (tgt := 205) hx hb dX9_digest_233 (by decide) ?_
              exact ih_205 v226_46 (jj + 1) _ _ hP hD hS _ (lv_sub hl [1, 0, 2, 3, 4] rfl) (by first | assumption | rfl | omega) (by rw [hv226_0, hh6, itI_up hjj.1, hv222_0]; rfl) (by omega)
        · refine lv_lload_n hx hb dX9_digest_163 rfl (lv_at hl 0 rfl) ?_
          refine lv_aload_n hx hb dX9_digest_164 rfl (lv_at hl 4 rfl) ?_
          refine va_get (D := D) (ci := 9) (v := .ref (α 9)) (C := RX9) (T := TX9) (N := 9) hx hb hts (fun w h => List.mem_cons_of_mem _ (wx_X9 w h)) hown hK hP 0 rfl rfl 8 (by decide) (hW0 _ wf_X9_68) (fun _ h9 => h9) rfl dX9_digest_165 ?_
          refine lv_iload_n hx hb dX9_digest_168 rfl (lv_at hl 1 rfl) ?_
          refine z_calli hP hD hS hA (va_runV (As := [.int (zI j)]) (rest := [.long h4]) hC (c_X1_isTaken l D τ α γ (h, old, ch) (b113_29, q113_30) (m8, f8, e8, g8, p8, q8, n8, t8, c8, l8) (n146_37, d146_38, q93_22) (w113_28, l19_8) (f12_1, n12_2) s12_3 (cd, ln9, pl, le, ro, co, nu) sv sl9 tk ct9 j (by first | assumption | rfl | omega) _) (cwV 1 hts (gV hB wl_X9_152 wn_X1_isTaken ws_X1_isTaken wi_X1 wc_X1_isTaken) rfl rfl rfl hd_X1_isTaken ⟨Nat.le_of_ble_eq_true rfl, Nat.le_of_ble_eq_true rfl⟩) (zp_V hK hP hD hS hA hG (ci := 1) (q0 := 9) rfl rfl rfl) rfl rfl hl.1 rfl (lv_room (Nat.le_of_ble_eq_true rfl)) dX9_digest_169 ⟨Nat.le_of_ble_eq_true rfl, Nat.le_of_ble_eq_true rfl⟩) (fun r w1 H locs hq9 hP hD hS => ?_)
          obtain ⟨v169_47, hv169_0, rfl, rfl⟩ := hq9
          have hP : va_P D vwCl (wH α γ (h, old, ch) (b113_29, q113_30) (m8, f8, e8, g8, p8, q8, n8, t8, c8, l8) (n146_37, d146_38, q93_22) (w113_28, l19_8) (f12_1, n12_2) s12_3 (cd, ln9, pl, le, ro, co, nu) (sv, sl9, tk, ct9)) H := hP
          have hD : va_D A (wH α γ (h, old, ch) (b113_29, q113_30) (m8, f8, e8, g8, p8, q8, n8, t8, c8, l8) (n146_37, d146_38, q93_22) (w113_28, l19_8) (f12_1, n12_2) s12_3 (cd, ln9, pl, le, ro, co, nu) (sv, sl9, tk, ct9)) := hD
          refine z_ifeqB (tgt := 179) hx hb dX9_digest_172 (by decide) (fun c_172 => ?_) (fun c_172 => ?_)
          · refine lv_lconst (v := zL 0) hx hb dX9_digest_179 rfl ?_
            refine z_calll hP hD hS hA (va_runS (As := [.long h4, .long (zL 0)]) (rest := []) hC (c_X9_mix l D τ _ _ h4 (zL 0) _) (va_cwS 2 hts (gS hB wl_X9_294 wt_X9_mix wi_X9 wc_X9_mix) rfl rfl rfl hd_X9_mix.2 ⟨Nat.le_of_ble_eq_true rfl, Nat.le_of_ble_eq_true rfl⟩) (zp_S hK hP hD hS hA hG) rfl rfl hl.1 rfl (lv_room (Nat.le_of_ble_eq_true rfl)) dX9_digest_180 ⟨Nat.le_of_ble_eq_true rfl, Nat.le_of_ble_eq_true rfl⟩) (fun r w1 H locs hq9 hP hD hS => ?_)
            obtain ⟨v180_48, hv180_0, rfl, rfl⟩ := hq9
            refine lv_lstore_n (lv' := [(1, .long v180_48), (3, .int (zI j)), (5, .int (zI i)), (4, .int (zI 4)), (0, .ref (α 0))]) hx hb dX9_digest_183 rfl hl (by decide) rfl (fun ls hl => ?_)
            refine z_iinc (k := 1) (v := j + 1) (lv' := [(3, .int (zI (j + 1))), (1, .long v180_48), (5, .int (zI i)), (4, .int (zI 4)), (0, .ref (α 0))]) hx hb dX9_digest_184 hl rfl rfl (by decide) rfl (fun ls hl => ?_)
            refine lv_goto (tgt := 158) hx hb dX9_digest_187 (by decide) ?_
            exact ih_158 v180_48 (j + 1) _ _ hP hD hS _ (lv_sub hl [1, 0, 2, 3, 4] rfl) (by first | assumption | rfl | omega) (by rw [hv180_0, hh4, itI_up hj.1, ← hv169_0, c_172]; rfl) (by omega)
          · refine lv_lconst (v := zL 1) hx hb dX9_digest_175 rfl ?_
            refine lv_goto (tgt := 180) hx hb dX9_digest_176 (by decide) ?_
            refine z_calll hP hD hS hA (va_runS (As := [.long h4, .long (zL 1)]) (rest := []) hC (c_X9_mix l D τ _ _ h4 (zL 1) _) (va_cwS 2 hts (gS hB wl_X9_294 wt_X9_mix wi_X9 wc_X9_mix) rfl rfl rfl hd_X9_mix.2 ⟨Nat.le_of_ble_eq_true rfl, Nat.le_of_ble_eq_true rfl⟩) (zp_S hK hP hD hS hA hG) rfl rfl hl.1 rfl (lv_room (Nat.le_of_ble_eq_true rfl)) dX9_digest_180 ⟨Nat.le_of_ble_eq_true rfl, Nat.le_of_ble_eq_true rfl⟩) (fun r w1 H locs hq9 hP hD hS => ?_)
            obtain ⟨v180_49, hv180_0, rfl, rfl⟩ := hq9
            refine lv_lstore_n (lv' := [(1, .long v180_49), (3, .int (zI j)), (5, .int (zI i)), (4, .int (zI 4)), (0, .ref (α 0))]) hx hb dX9_digest_183 rfl hl (by decide) rfl (fun ls hl => ?_)
            refine z_iinc (k := 1) (v := j + 1) (lv' := [(3, .int (zI (j + 1))), (1, .long v180_49), (5, .int (zI i)), (4, .int (zI 4)), (0, .ref (α 0))]) hx hb dX9_digest_184 hl rfl rfl (by decide) rfl (fun ls hl => ?_)
            refine lv_goto (tgt := 158) hx hb dX9_digest_187 (by decide) ?_
            exact ih_158 v180_49 (j + 1) _ _ hP hD hS _ (lv_sub hl [1, 0, 2, 3, 4] rfl) (by first | assumption | rfl | omega) (by rw [hv180_0, hh4, itI_up hj.1, ← hv169_0, c_172]; rfl) (by omega)
    · refine lv_aload_n hx hb dX9_digest_61 rfl (lv_at hl 3 rfl) ?_
      refine lv_iload hx hb dX9_digest_62 (lv_at hl 1 rfl) ?_
      refine z_ti hx hb hG.2.2.1.2 hS ⟨⟨by omega, by omega⟩, by decide⟩ dX9_digest_64 ?_
      have hs_64 := LEVS_b i
      refine lv_istore (lv' := [(6, .int (zI (LEVS i))), (1, .long h3), (5, .int (zI i)), (4, .int (zI 4)), (3, .ref (τ 2)), (0, .ref (α 0))]) hx hb dX9_digest_65 hl (by decide) rfl (fun ls hl => ?_)
      refine lv_aload_n hx hb dX9_digest_67 rfl (lv_at hl 5 rfl) ?_
      refine lv_lload_n hx hb dX9_digest_68 rfl (lv_at hl 1 rfl) ?_
      refine lv_iload hx hb dX9_digest_69 (lv_at hl 0 rfl) ?_
      refine z_calll hP hD hS hA (va_runV (As := [.long h3, .int (zI (LEVS i))]) (rest := []) hC (c_X9_digestLevel l D τ α γ h old ch w8 r8 m8 f8 e8 g8 p8 q8 n8 t8 c8 l8 (n19_4, d19_5, q19_6) (w19_7, l19_8) (f12_1, n12_2) s12_3 (cd, ln9, pl, le, ro, co, nu) (sv, sl9, tk, ct9) h3 (LEVS i) (by first | assumption | rfl | omega) (by first | assumption | rfl | omega) _) (cwV 2 hts (gV hB wl_X9_305 wn_X9_digestLevel ws_X9_digestLevel wi_X9 wc_X9_digestLevel) rfl rfl rfl hd_X9_digestLevel ⟨Nat.le_of_ble_eq_true rfl, Nat.le_of_ble_eq_true rfl⟩) (zp_V hK hP hD hS hA hG (ci := 9) (q0 := 0) rfl rfl rfl) rfl rfl hl.1 rfl (lv_room (Nat.le_of_ble_eq_true rfl)) dX9_digest_71 ⟨Nat.le_of_ble_eq_true rfl, Nat.le_of_ble_eq_true rfl⟩) (fun r w1 H locs hq9 hP hD hS => ?_)
      obtain ⟨m71_50, f71_51, s71_52, p71_53, q71_54, n71_55, gn71_56, t71_57, c71_58, l71_59, b71_60, q71_61, v71_62, hv71_0, rfl, rfl⟩ := hq9
      have hP : va_P D vwCl (wH α γ (h, old, ch) (b71_60, q71_61) (m71_50, f71_51, s71_52, gn71_56, p71_53, q71_54, n71_55, t71_57, c71_58, l71_59) (n19_4, d19_5, q19_6) (w19_7, l19_8) (f12_1, n12_2) s12_3 (cd, ln9, pl, le, ro, co, nu) (sv, sl9, tk, ct9)) H := hP
      have hD : va_D A (wH α γ (h, old, ch) (b71_60, q71_61) (m71_50, f71_51, s71_52, gn71_56, p71_53, q71_54, n71_55, t71_57, c71_58, l71_59) (n19_4, d19_5, q19_6) (w19_7, l19_8) (f12_1, n12_2) s12_3 (cd, ln9, pl, le, ro, co, nu) (sv, sl9, tk, ct9)) := hD
      refine lv_lstore_n (lv' := [(1, .long v71_62), (6, .int (zI (LEVS i))), (5, .int (zI i)), (4, .int (zI 4)), (3, .ref (τ 2)), (0, .ref (α 0))]) hx hb dX9_digest_74 rfl hl (by decide) rfl (fun ls hl => ?_)
      refine z_iinc (k := 2) (v := i + 1) (lv' := [(5, .int (zI (i + 1))), (1, .long v71_62), (6, .int (zI (LEVS i))), (4, .int (zI 4)), (3, .ref (τ 2)), (0, .ref (α 0))]) hx hb dX9_digest_75 hl rfl rfl (by decide) rfl (fun ls hl => ?_)
      refine lv_goto (tgt := 54) hx hb dX9_digest_78 (by decide) ?_
      exact ih_54 m71_50 f71_51 s71_52 gn71_56 p71_53 q71_54 n71_55 t71_57 c71_58 l71_59 b71_60 q71_61 v71_62 (i + 1) _ _ hP hD hS _ (lv_sub hl [1, 0, 3, 4, 5] rfl) (by first | assumption | rfl | omega) (by rw [hv71_0, hh3, itI_up hi.1]) (by omega)

