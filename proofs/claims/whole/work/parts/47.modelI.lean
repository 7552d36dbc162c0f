abbrev wz_X10_mean : List Cond := .code yX10_mean cX10_mean 3 (some .double) :: W0
abbrev rm_X10_mean : Room := { frames := 5, cells := 0, slots := 0, locals := 113 }
theorem hd_X10_mean : yX10_mean.cls = RX10 ∧ yX10_mean.cls ≠ "java/lang/invoke/MethodHandle" ∧ yX10_mean.cls ≠ "java/lang/invoke/VarHandle" ∧ (parseMethodDescriptor yX10_mean.desc).map (fun d => d.parameters.length) = some 0 := by decide +kernel
set_option maxHeartbeats 4000000 in
set_option maxRecDepth 100000 in
theorem c_X10_mean (l : Launch) (D : va_G) (τ : Nat → Nat) (β : Nat → Nat) (δ : Nat → ClassId) (ms : IA) (mb : IA) (mo : IA) (mp : BA) (mf : IA) (mn : IA) (mi : IA) (mc : IA) (mq : BA) (mr : IA) (mw : IA) (mk : Int) (ml : Int) (mt : Int) (ma : Int) (mx : Bool) (mh : Int64) (hms : ∀ k, 0 ≤ k → k < 49 → 0 ≤ ms k ∧ ms k ≤ 99) : cM l yX10_mean wz_X10_mean rm_X10_mean D τ (tyM δ) [.ref (β 0)] (wM β δ ms mb mo mp mf mn mi mc mq mr mw mk ml mt ma mx mh) (zQd (fun r w => ∃ (v : UInt64), (v = dmean (zS (S_drop ms) 49)) ∧ v = r ∧ wM β δ ms mb mo mp mf mn mi mc mq mr mw mk ml mt ma mx mh = w)) := by
  refine z_ofM (cc := cX10_mean) (maxL := 3) (ret := (some .double)) (by decide +kernel) rfl (Nat.le_of_ble_eq_true rfl) ?_
  intro pg e s m args below meth c hC hr hlk hnm hK hP A hD hG hA hS ls hl Q hQ
  have hx := hC.1
  have hb := hC.2.1
  have hml := hC.2.2.1
  have hown := hC.2.2.2.1
  have hts := hC.2.2.2.2
  have hB : ∀ w ∈ W0, w ∈ wz_X10_mean := fun _ h => List.mem_cons_of_mem _ h
  have hW0 : ∀ w ∈ W0, w.before args s = true := fun w h => hts w (hB w h)
  have hl : lv_has ls 3 [(0, .ref (β 0))] := hl
  refine lv_iconst (v := zI 0) hx hb dX10_mean_0 rfl ?_
  refine lv_istore_n (lv' := [(1, .int (zI 0)), (0, .ref (β 0))]) hx hb dX10_mean_1 rfl hl (by decide) rfl (fun ls hl => ?_)
  refine lv_iconst (v := zI 0) hx hb dX10_mean_2 rfl ?_
  refine lv_istore_n (lv' := [(2, .int (zI 0)), (1, .int (zI 0)), (0, .ref (β 0))]) hx hb dX10_mean_3 rfl hl (by decide) rfl (fun ls hl => ?_)
  suffices HL_4 : ∀ (n_4 : Nat), ∀ (g : Int) (i : Int) (H : Heap) (locs : List Loc) (hP : va_P D vwCl (wM β δ ms mb mo mp mf mn mi mc mq mr mw mk ml mt ma mx mh) H) (hD : va_D A (wM β δ ms mb mo mp mf mn mi mc mq mr mw mk ml mt ma mx mh)) (hS : va_S A s.heap H locs) (ls : Array Slot) (hl : lv_has ls 3 [(1, .int (zI g)), (2, .int (zI i)), (0, .ref (β 0))]) (hi : 0 ≤ i ∧ i ≤ 49) (hg : g = zS (S_drop ms) i) (hgb : 0 ≤ g ∧ g ≤ 99 * i) (hm : (49 - i).toNat < n_4), W pg l e rm_X10_mean s m args below meth c H locs 0 0 Q (F0 m 4 ls []) from HL_4 _ 0 0 _ _ hP hD hS _ (lv_sub hl [1, 0, 2] rfl) (by first | assumption | rfl | omega) (by exact (zS_0 _).symm) (by first | assumption | rfl | omega) (Nat.lt_succ_self _)
  intro n_4
  induction n_4 with
  | zero => intro g i H locs hP hD hS ls hl hi hg hgb hm; exact absurd hm (Nat.not_lt_zero _)
  | succ n_4 ih_4 =>
    intro g i H locs hP hD hS ls hl hi hg hgb hm
    refine lv_iload_n hx hb dX10_mean_4 rfl (lv_at hl 1 rfl) ?_
    refine lv_bipush (v := zI 49) hx hb dX10_mean_5 (zI_b8 (by decide)) ?_
    refine z_icge (tgt := 24) hx hb ⟨by omega, by omega⟩ ⟨by omega, by omega⟩ dX10_mean_7 (by decide) (fun c_7 => ?_) (fun c_7 => ?_)
    · refine lv_iload_n hx hb dX10_mean_24 rfl (lv_at hl 0 rfl) ?_
      refine lv_i2d hx hb dX10_mean_25 ?_
      refine lv_ldc2d (v := D49) hx hb hown (hW0 _ wd_X10_236) dX10_mean_26 ?_
      refine lv_ddiv hx hb dX10_mean_29 (by exact dmean_n64 (s := g) ⟨by omega, by omega⟩) ?_
      exact z_dret hC hr hlk hQ hP hD hS ⟨FP.ddiv (FP.i2d (zI g)) D49, (by rw [hg, show i = 49 by omega]; rfl), rfl, rfl⟩ dX10_mean_30
    · refine lv_iload_n hx hb dX10_mean_10 rfl (lv_at hl 0 rfl) ?_
      refine lv_aload_n hx hb dX10_mean_11 rfl (lv_at hl 2 rfl) ?_
      refine lv_iload_n hx hb dX10_mean_12 rfl (lv_at hl 1 rfl) ?_
      refine z_calli hP hD hS hA (va_runV (As := [.int (zI i)]) (rest := [.int (zI g)]) hC (c_X10_drop l D τ β δ ms mb mo mp mf mn mi mc mq mr mw mk ml mt ma mx mh i (by first | assumption | rfl | omega) (by first | assumption | rfl | omega) _) (cwV 1 hts (gV hB wl_X10_77 wn_X10_drop ws_X10_drop wi_X10 wc_X10_drop) rfl rfl rfl hd_X10_drop ⟨Nat.le_of_ble_eq_true rfl, Nat.le_of_ble_eq_true rfl⟩) (zp_V hK hP hD hS hA hG (ci := 10) (q0 := 0) rfl rfl rfl) rfl rfl hl.1 rfl (lv_room (Nat.le_of_ble_eq_true rfl)) dX10_mean_13 ⟨Nat.le_of_ble_eq_true rfl, Nat.le_of_ble_eq_true rfl⟩) (fun r w1 H locs hq9 hP hD hS => ?_)
      obtain ⟨v13_1, hv13_0, hv13_1, rfl, rfl⟩ := hq9
      have hP : va_P D vwCl (wM β δ ms mb mo mp mf mn mi mc mq mr mw mk ml mt ma mx mh) H := hP
      have hD : va_D A (wM β δ ms mb mo mp mf mn mi mc mq mr mw mk ml mt ma mx mh) := hD
      refine z_iadd hx hb dX10_mean_16 ?_
      refine lv_istore_n (lv' := [(1, .int (zI (g + v13_1))), (2, .int (zI i)), (0, .ref (β 0))]) hx hb dX10_mean_17 rfl hl (by decide) rfl (fun ls hl => ?_)
      refine z_iinc (k := 1) (v := i + 1) (lv' := [(2, .int (zI (i + 1))), (1, .int (zI (g + v13_1))), (0, .ref (β 0))]) hx hb dX10_mean_18 hl rfl rfl (by decide) rfl (fun ls hl => ?_)
      refine lv_goto (tgt := 4) hx hb dX10_mean_21 (by decide) ?_
      exact ih_4 (g + v13_1) (i + 1) _ _ hP hD hS _ (lv_sub hl [1, 0, 2] rfl) (by first | assumption | rfl | omega) (by rw [zS_up hi.1, ← hg, hv13_0]) (by first | assumption | rfl | omega) (by omega)

abbrev wz_X10_meanDrop : List Cond := .code yX10_meanDrop cX10_meanDrop 1 (some .double) :: W0
abbrev rm_X10_meanDrop : Room := { frames := 6, cells := 0, slots := 0, locals := 135 }
theorem hd_X10_meanDrop : yX10_meanDrop.cls = RX10 ∧ yX10_meanDrop.cls ≠ "java/lang/invoke/MethodHandle" ∧ yX10_meanDrop.cls ≠ "java/lang/invoke/VarHandle" ∧ (parseMethodDescriptor yX10_meanDrop.desc).map (fun d => d.parameters.length) = some 0 := by decide +kernel
set_option maxHeartbeats 4000000 in
set_option maxRecDepth 100000 in
theorem c_X10_meanDrop (l : Launch) (D : va_G) (τ : Nat → Nat) (β : Nat → Nat) (δ : Nat → ClassId) (ms : IA) (mb : IA) (mo : IA) (mp : BA) (mf : IA) (mn : IA) (mi : IA) (mc : IA) (mq : BA) (mr : IA) (mw : IA) (mk : Int) (ml : Int) (mt : Int) (ma : Int) (mx : Bool) (mh : Int64) (hms : ∀ k, 0 ≤ k → k < 49 → 0 ≤ ms k ∧ ms k ≤ 99) : cM l yX10_meanDrop wz_X10_meanDrop rm_X10_meanDrop D τ (tyM δ) [.ref (β 0)] (wM β δ ms mb mo mp mf mn mi mc mq mr mw mk ml mt ma mx mh) (zQd (fun r w => ∃ (v : UInt64), (v = dmean (zS (S_drop ms) 49)) ∧ v = r ∧ wM β δ ms mb mo mp mf mn mi mc mq mr mw mk ml 0 ma mx mh = w)) := by
  refine z_ofM (cc := cX10_meanDrop) (maxL := 1) (ret := (some .double)) (by decide +kernel) rfl (Nat.le_of_ble_eq_true rfl) ?_
  intro pg e s m args below meth c hC hr hlk hnm hK hP A hD hG hA hS ls hl Q hQ
  have hx := hC.1
  have hb := hC.2.1
  have hml := hC.2.2.1
  have hown := hC.2.2.2.1
  have hts := hC.2.2.2.2
  have hB : ∀ w ∈ W0, w ∈ wz_X10_meanDrop := fun _ h => List.mem_cons_of_mem _ h
  have hW0 : ∀ w ∈ W0, w.before args s = true := fun w h => hts w (hB w h)
  have hl : lv_has ls 1 [(0, .ref (β 0))] := hl
  refine lv_aload_n hx hb dX10_meanDrop_0 rfl (lv_at hl 0 rfl) ?_
  refine lv_iconst (v := zI 0) hx hb dX10_meanDrop_1 rfl ?_
  refine va_put (D := D) (ci := 10) (v := .int (zI 0)) (ty := .int) (C := RX10) (T := TX10) (N := 17) hx hb hts (fun w h => List.mem_cons_of_mem _ (wx_X10 w h)) tyX10 tyX10_ok nmX10 hown hK hP hD hS 0 rfl rfl 7 (by decide) (hW0 _ wf_X10_44) (fun _ h9 => h9) rfl (by decide +kernel) rfl rfl (Nat.le_of_ble_eq_true rfl) dX10_meanDrop_2 (fun H locs hP hD hS => ?_)
  have hP : va_P D vwCl (wM β δ ms mb mo mp mf mn mi mc mq mr mw mk ml 0 ma mx mh) H := hP
  have hD : va_D A (wM β δ ms mb mo mp mf mn mi mc mq mr mw mk ml 0 ma mx mh) := hD
  refine lv_aload_n hx hb dX10_meanDrop_5 rfl (lv_at hl 0 rfl) ?_
  refine z_calld hP hD hS hA (va_runV (As := []) (rest := []) hC (c_X10_mean l D τ β δ ms mb mo mp mf mn mi mc mq mr mw mk ml 0 ma mx mh (by first | assumption | rfl | omega) _) (cwV 0 hts (gV hB wl_X10_238 wn_X10_mean ws_X10_mean wi_X10 wc_X10_mean) rfl rfl rfl hd_X10_mean ⟨Nat.le_of_ble_eq_true rfl, Nat.le_of_ble_eq_true rfl⟩) (zp_V hK hP hD hS hA hG (ci := 10) (q0 := 0) rfl rfl rfl) rfl rfl hl.1 rfl (lv_room (Nat.le_of_ble_eq_true rfl)) dX10_meanDrop_6 ⟨Nat.le_of_ble_eq_true rfl, Nat.le_of_ble_eq_true rfl⟩) (fun r w1 H locs hq9 hP hD hS => ?_)
  obtain ⟨v6_1, hv6_0, rfl, rfl⟩ := hq9
  have hP : va_P D vwCl (wM β δ ms mb mo mp mf mn mi mc mq mr mw mk ml 0 ma mx mh) H := hP
  have hD : va_D A (wM β δ ms mb mo mp mf mn mi mc mq mr mw mk ml 0 ma mx mh) := hD
  exact z_dret hC hr hlk hQ hP hD hS ⟨v6_1, (by first | assumption | rfl | omega), rfl, rfl⟩ dX10_meanDrop_9

abbrev wz_X10_bitsOf : List Cond := .code yX10_bitsOf cX10_bitsOf 14 (some .long) :: W0
abbrev rm_X10_bitsOf : Room := { frames := 0, cells := 0, slots := 0, locals := 0 }
theorem hd_X10_bitsOf : yX10_bitsOf.cls = RX10 ∧ yX10_bitsOf.cls ≠ "java/lang/invoke/MethodHandle" ∧ yX10_bitsOf.cls ≠ "java/lang/invoke/VarHandle" ∧ (parseMethodDescriptor yX10_bitsOf.desc).map (fun d => d.parameters.length) = some 3 := by decide +kernel
set_option maxHeartbeats 4000000 in
set_option maxRecDepth 100000 in
theorem c_X10_bitsOf (l : Launch) (D : va_G) (τ : Nat → Nat) (ws : va_W) (tys : List (ClassId × FieldType)) (x9 : UInt64) (wd : Int) (bs : Int) (hx9 : DOK x9) (hwd : wd = 52) (hbs : bs = 1023) : cM l yX10_bitsOf wz_X10_bitsOf rm_X10_bitsOf D τ tys [.double x9, .int (zI wd), .int (zI bs)] (ws) (zQl (fun r w => ∃ (v : Int64), (v = S_bits x9) ∧ v = r ∧ ws = w)) := by
  refine z_ofM (cc := cX10_bitsOf) (maxL := 14) (ret := (some .long)) (by decide +kernel) rfl (Nat.le_of_ble_eq_true rfl) ?_
  intro pg e s m args below meth c hC hr hlk hnm hK hP A hD hG hA hS ls hl Q hQ
  have hx := hC.1
  have hb := hC.2.1
  have hml := hC.2.2.1
  have hown := hC.2.2.2.1
  have hts := hC.2.2.2.2
  have hB : ∀ w ∈ W0, w ∈ wz_X10_bitsOf := fun _ h => List.mem_cons_of_mem _ h
  have hW0 : ∀ w ∈ W0, w.before args s = true := fun w h => hts w (hB w h)
  have hl : lv_has ls 14 [(0, .double x9), (2, .int (zI wd)), (3, .int (zI bs))] := hl
  refine lv_dload_n hx hb dX10_bitsOf_0 rfl (lv_at hl 0 rfl) ?_
  refine z_dconst0 hx hb dX10_bitsOf_1 ?_
  refine z_dcmp (op := .l) hx hb dX10_bitsOf_2 ?_
  have hb_2 := dcI_b x9 0 .l
  refine z_ifne (tgt := 8) hx hb ⟨by omega, by omega⟩ dX10_bitsOf_3 (by decide) (fun c_3 => ?_) (fun c_3 => ?_)
  · obtain ⟨c9, q9, hdn, hq1, hq2⟩ : ∃ c q, DN x9 c q ∧ -60 ≤ q ∧ q ≤ -40 := hx9.resolve_left (fun h => c_3 (by rw [h]; exact D0_dc0 .l))
    have hcb := hdn.2.1
    refine lv_dload_n hx hb dX10_bitsOf_8 rfl (lv_at hl 0 rfl) ?_
    refine lv_dstore (lv' := [(4, .double x9), (0, .double x9), (2, .int (zI wd)), (3, .int (zI bs))]) hx hb dX10_bitsOf_9 hl (by decide) rfl (fun ls hl => ?_)
    refine lv_iload_n hx hb dX10_bitsOf_11 rfl (lv_at hl 3 rfl) ?_
    refine lv_istore (lv' := [(6, .int (zI bs)), (4, .double x9), (0, .double x9), (2, .int (zI wd)), (3, .int (zI bs))]) hx hb dX10_bitsOf_12 hl (by decide) rfl (fun ls hl => ?_)
    suffices HL_14 : ∀ (n_14 : Nat), ∀ (vv : UInt64) (ee : Int) (q : Int) (H : Heap) (locs : List Loc) (hP : va_P D vwCl (ws) H) (hD : va_D A (ws)) (hS : va_S A s.heap H locs) (ls : Array Slot) (hl : lv_has ls 14 [(4, .double vv), (6, .int (zI ee)), (0, .double x9), (2, .int (zI wd)), (3, .int (zI bs))]) (hDN : DN vv c9 q) (he : ee = 1023 + (q9 - q)) (hqb : -60 ≤ q ∧ q ≤ -40) (hm : (q + 60).toNat < n_14), W pg l e rm_X10_bitsOf s m args below meth c H locs 0 0 Q (F0 m 14 ls []) from HL_14 _ x9 bs q9 _ _ hP hD hS _ (lv_sub hl [1, 0, 2, 3, 4] rfl) (by exact hdn) (by first | assumption | rfl | omega) (by first | assumption | rfl | omega) (Nat.lt_succ_self _)
    intro n_14
    induction n_14 with
    | zero => intro vv ee q H locs hP hD hS ls hl hDN he hqb hm; exact absurd hm (Nat.not_lt_zero _)
    | succ n_14 ih_14 =>
      intro vv ee q H locs hP hD hS ls hl hDN he hqb hm
      refine lv_dload hx hb dX10_bitsOf_14 (lv_at hl 0 rfl) ?_
      refine lv_ldc2d (v := D2) hx hb hown (hW0 _ wd_X10_242) dX10_bitsOf_16 ?_
      refine z_dcmp (op := .l) hx hb dX10_bitsOf_19 ?_
      have hb_19 := dcI_b vv D2 .l
      refine z_iflt (tgt := 37) hx hb ⟨by omega, by omega⟩ dX10_bitsOf_20 (by decide) (fun c_20 => ?_) (fun c_20 => ?_)
      · have hq51 := (DN_dc .l hDN D2v (by omega)).mp c_20
        suffices HL_37 : ∀ (n_37 : Nat), ∀ (vw : UInt64) (ef : Int) (p : Int) (H : Heap) (locs : List Loc) (hP : va_P D vwCl (ws) H) (hD : va_D A (ws)) (hS : va_S A s.heap H locs) (ls : Array Slot) (hl : lv_has ls 14 [(4, .double vw), (6, .int (zI ef)), (0, .double x9), (2, .int (zI wd)), (3, .int (zI bs))]) (hDN2 : DN vw c9 p) (he2 : ef = 1023 + (q9 - p)) (hqb2 : -60 ≤ p ∧ p ≤ -52) (hm : (-52 - p).toNat < n_37), W pg l e rm_X10_bitsOf s m args below meth c H locs 0 0 Q (F0 m 37 ls []) from HL_37 _ vv ee q _ _ hP hD hS _ (lv_sub hl [0, 1, 2, 3, 4] rfl) (by exact hDN) (by first | assumption | rfl | omega) (by first | assumption | rfl | omega) (Nat.lt_succ_self _)
        intro n_37
        induction n_37 with
        | zero => intro vw ef p H locs hP hD hS ls hl hDN2 he2 hqb2 hm; exact absurd hm (Nat.not_lt_zero _)
        | succ n_37 ih_37 =>
          intro vw ef p H locs hP hD hS ls hl hDN2 he2 hqb2 hm
          refine lv_dload hx hb dX10_bitsOf_37 (lv_at hl 0 rfl) ?_
          refine z_dconst1 hx hb dX10_bitsOf_39 ?_
          refine z_dcmp (op := .g) hx hb dX10_bitsOf_40 ?_
          have hb_40 := dcI_b vw D1 .g
          refine z_ifge (tgt := 58) hx hb ⟨by omega, by omega⟩ dX10_bitsOf_41 (by decide) (fun c_41 => ?_) (fun c_41 => ?_)
          · have hq52 : ¬ p < -52 := fun h9 => absurd ((DN_dc .g hDN2 D1v (by omega)).mpr h9) (by omega)
            have hp52 : p = -52 := by omega
            have hDf : DN vw c9 (-52) := hp52 ▸ hDN2
            have hr0 : FP.dsub vw D1 = RV (c9 - 4503599627370496) := by rw [RV_of hDf]; exact RV_sub1 hDf.2.1
            refine lv_dload hx hb dX10_bitsOf_58 (lv_at hl 0 rfl) ?_
            refine z_dconst1 hx hb dX10_bitsOf_60 ?_
            refine lv_dsub hx hb dX10_bitsOf_61 (by rw [hr0]; exact RV_n64 (by omega)) ?_
            refine lv_dstore (lv' := [(7, .double (FP.dsub vw D1)), (4, .double vw), (6, .int (zI ef)), (0, .double x9), (2, .int (zI wd)), (3, .int (zI bs))]) hx hb dX10_bitsOf_62 hl (by decide) rfl (fun ls hl => ?_)
            refine lv_iload hx hb dX10_bitsOf_64 (lv_at hl 2 rfl) ?_
            refine lv_i2l (v := zL ef) hx hb dX10_bitsOf_66 (zL_of ⟨by omega, by omega⟩) ?_
            refine lv_lstore (lv' := [(9, .long (zL ef)), (7, .double (FP.dsub vw D1)), (4, .double vw), (6, .int (zI ef)), (0, .double x9), (2, .int (zI wd)), (3, .int (zI bs))]) hx hb dX10_bitsOf_67 hl (by decide) rfl (fun ls hl => ?_)
            refine lv_iconst (v := zI 0) hx hb dX10_bitsOf_69 rfl ?_
            refine lv_istore (lv' := [(11, .int (zI 0)), (9, .long (zL ef)), (7, .double (FP.dsub vw D1)), (4, .double vw), (6, .int (zI ef)), (0, .double x9), (2, .int (zI wd)), (3, .int (zI bs))]) hx hb dX10_bitsOf_70 hl (by decide) rfl (fun ls hl => ?_)
            suffices HL_72 : ∀ (n_72 : Nat), ∀ (rs : UInt64) (bb : Int64) (k : Int) (H : Heap) (locs : List Loc) (hP : va_P D vwCl (ws) H) (hD : va_D A (ws)) (hS : va_S A s.heap H locs) (ls : Array Slot) (hl : lv_has ls 14 [(7, .double rs), (9, .long bb), (11, .int (zI k)), (4, .double vw), (6, .int (zI ef)), (0, .double x9), (2, .int (zI wd)), (3, .int (zI bs))]) (hk : 0 ≤ k ∧ k ≤ 52) (hrs : rs = RV ((c9 - 4503599627370496) % 2 ^ (52 - k.toNat) * 2 ^ k.toNat)) (hbb : bb = zL ((q9 + 1075) * 2 ^ k.toNat + (((c9 - 4503599627370496) / 2 ^ (52 - k.toNat) : Nat) : Int))) (hm : (52 - k).toNat < n_72), W pg l e rm_X10_bitsOf s m args below meth c H locs 0 0 Q (F0 m 72 ls []) from HL_72 _ (FP.dsub vw D1) (zL ef) 0 _ _ hP hD hS _ (lv_sub hl [2, 1, 0, 3, 4, 5, 6, 7] rfl) (by first | assumption | rfl | omega) (by rw [hr0]; show RV _ = RV (_ % 4503599627370496 * 1); rw [Nat.mul_one, Nat.mod_eq_of_lt (by omega)]) (by rw [he2, hp52]; show _ = zL ((q9 + 1075) * 1 + ((_ / 4503599627370496 : Nat) : Int)); rw [Nat.div_eq_of_lt (by omega)]; congr 1; omega) (Nat.lt_succ_self _)
            intro n_72
            induction n_72 with
            | zero => intro rs bb k H locs hP hD hS ls hl hk hrs hbb hm; exact absurd hm (Nat.not_lt_zero _)
            | succ n_72 ih_72 =>
              intro rs bb k H locs hP hD hS ls hl hk hrs hbb hm
              refine lv_iload hx hb dX10_bitsOf_72 (lv_at hl 2 rfl) ?_
              refine lv_iload_n hx hb dX10_bitsOf_74 rfl (lv_at hl 6 rfl) ?_
              refine z_icge (tgt := 125) hx hb ⟨by omega, by omega⟩ ⟨by omega, by omega⟩ dX10_bitsOf_75 (by decide) (fun c_75 => ?_) (fun c_75 => ?_)
              · refine lv_lload hx hb dX10_bitsOf_125 (lv_at hl 1 rfl) ?_
                exact z_lret hC hr hlk hQ hP hD hS ⟨bb, (by rw [hbb, S_bits_n hdn, show k = 52 by omega]; show zL ((q9 + 1075) * 4503599627370496 + ((_ / 1 : Nat) : Int)) = _; rw [Nat.div_one]; congr 1; omega), rfl, rfl⟩ dX10_bitsOf_127
              · have hBT := BT (R := (c9 - 4503599627370496)) (k := k.toNat) (by omega)
                have hrm : FP.dmul rs D2 = RV (2 * ((c9 - 4503599627370496) % 2 ^ (52 - k.toNat) * 2 ^ k.toNat)) := by rw [hrs]; exact RV_mul hBT.1
                refine lv_dload hx hb dX10_bitsOf_78 (lv_at hl 0 rfl) ?_
                refine lv_ldc2d (v := D2) hx hb hown (hW0 _ wd_X10_242) dX10_bitsOf_80 ?_
                refine lv_dmul hx hb dX10_bitsOf_83 (by rw [hrm]; exact RV_n64 (by have z9 := hBT.1; omega)) ?_
                refine lv_dstore (lv' := [(7, .double (FP.dmul rs D2)), (9, .long bb), (11, .int (zI k)), (4, .double vw), (6, .int (zI ef)), (0, .double x9), (2, .int (zI wd)), (3, .int (zI bs))]) hx hb dX10_bitsOf_84 hl (by decide) rfl (fun ls hl => ?_)
                refine lv_dload hx hb dX10_bitsOf_86 (lv_at hl 0 rfl) ?_
                refine z_dconst1 hx hb dX10_bitsOf_88 ?_
                have hdc := RV_dc (r := 2 * ((c9 - 4503599627370496) % 2 ^ (52 - k.toNat) * 2 ^ k.toNat)) .l (by have z9 := hBT.1; omega)
                rw [← hrm] at hdc
                refine z_dcmp (op := .l) hx hb dX10_bitsOf_89 ?_
                have hb_89 := dcI_b (FP.dmul rs D2) D1 .l
                refine z_iflt (tgt := 97) hx hb ⟨by omega, by omega⟩ dX10_bitsOf_90 (by decide) (fun c_90 => ?_) (fun c_90 => ?_)
                · have hc9 := hdc.mp (by omega)
                  refine lv_lconst (v := zL 0) hx hb dX10_bitsOf_97 rfl ?_
                  refine lv_lstore (lv' := [(12, .long (zL 0)), (7, .double (FP.dmul rs D2)), (9, .long bb), (11, .int (zI k)), (4, .double vw), (6, .int (zI ef)), (0, .double x9), (2, .int (zI wd)), (3, .int (zI bs))]) hx hb dX10_bitsOf_98 hl (by decide) rfl (fun ls hl => ?_)
                  refine lv_dload hx hb dX10_bitsOf_100 (lv_at hl 1 rfl) ?_
                  refine lv_lload hx hb dX10_bitsOf_102 (lv_at hl 0 rfl) ?_
                  refine lv_l2d hx hb dX10_bitsOf_104 ?_
                  refine lv_dsub hx hb dX10_bitsOf_105 (by rw [hrm]; first | (rw [RV_sub0 (by omega)]; exact RV_n64 (by omega)) | (rw [RV_sub1L ⟨by omega, by have z9 := hBT.1; omega⟩]; exact RV_n64 (by have z9 := hBT.1; omega))) ?_
                  refine lv_dstore (lv' := [(7, .double (FP.dsub (FP.dmul rs D2) (FP.l2d (zL 0)))), (12, .long (zL 0)), (9, .long bb), (11, .int (zI k)), (4, .double vw), (6, .int (zI ef)), (0, .double x9), (2, .int (zI wd)), (3, .int (zI bs))]) hx hb dX10_bitsOf_106 hl (by decide) rfl (fun ls hl => ?_)
                  refine z_ldc2 (n := 2) hx hb hown (hW0 _ wo_X10_244) (by decide +kernel) dX10_bitsOf_108 ?_
                  refine lv_lload hx hb dX10_bitsOf_111 (lv_at hl 2 rfl) ?_
                  refine lv_lmul hx hb dX10_bitsOf_113 ?_
                  refine lv_lload hx hb dX10_bitsOf_114 (lv_at hl 1 rfl) ?_
                  refine lv_ladd hx hb dX10_bitsOf_116 ?_
                  refine lv_lstore (lv' := [(9, .long (((zL 2) * bb) + (zL 0))), (7, .double (FP.dsub (FP.dmul rs D2) (FP.l2d (zL 0)))), (12, .long (zL 0)), (11, .int (zI k)), (4, .double vw), (6, .int (zI ef)), (0, .double x9), (2, .int (zI wd)), (3, .int (zI bs))]) hx hb dX10_bitsOf_117 hl (by decide) rfl (fun ls hl => ?_)
                  refine z_iinc (k := 3) (v := k + 1) (lv' := [(11, .int (zI (k + 1))), (9, .long (((zL 2) * bb) + (zL 0))), (7, .double (FP.dsub (FP.dmul rs D2) (FP.l2d (zL 0)))), (12, .long (zL 0)), (4, .double vw), (6, .int (zI ef)), (0, .double x9), (2, .int (zI wd)), (3, .int (zI bs))]) hx hb dX10_bitsOf_119 hl rfl rfl (by decide) rfl (fun ls hl => ?_)
                  refine lv_goto (tgt := 72) hx hb dX10_bitsOf_122 (by decide) ?_
                  exact ih_72 (FP.dsub (FP.dmul rs D2) (FP.l2d (zL 0))) (((zL 2) * bb) + (zL 0)) (k + 1) _ _ hP hD hS _ (lv_sub hl [2, 1, 0, 4, 5, 6, 7, 8] rfl) (by first | assumption | rfl | omega) (by rw [show (k + 1).toNat = k.toNat + 1 by omega, show 52 - (k.toNat + 1) = 51 - k.toNat by omega]; first | (rw [hrm, RV_sub0 (by omega), (hBT.2.1 hc9).1]; done) | (rw [hrm, RV_sub1L ⟨by omega, by have z9 := hBT.1; omega⟩, (hBT.2.2 hc9).1]; done)) (by rw [show (k + 1).toNat = k.toNat + 1 by omega, show 52 - (k.toNat + 1) = 51 - k.toNat by omega, hbb, zL_mul, zL_add]; congr 1; first | (rw [(hBT.2.1 hc9).2, Int.pow_succ, ← Int.mul_assoc]; omega) | (rw [(hBT.2.2 hc9).2, Int.pow_succ, ← Int.mul_assoc]; omega)) (by omega)
                · have hc9 : ¬ 2 * ((c9 - 4503599627370496) % 2 ^ (52 - k.toNat) * 2 ^ k.toNat) < 4503599627370496 := fun z => absurd (hdc.mpr z) (by omega)
                  refine lv_lconst (v := zL 1) hx hb dX10_bitsOf_93 rfl ?_
                  refine lv_goto (tgt := 98) hx hb dX10_bitsOf_94 (by decide) ?_
                  refine lv_lstore (lv' := [(12, .long (zL 1)), (7, .double (FP.dmul rs D2)), (9, .long bb), (11, .int (zI k)), (4, .double vw), (6, .int (zI ef)), (0, .double x9), (2, .int (zI wd)), (3, .int (zI bs))]) hx hb dX10_bitsOf_98 hl (by decide) rfl (fun ls hl => ?_)
                  refine lv_dload hx hb dX10_bitsOf_100 (lv_at hl 1 rfl) ?_
                  refine lv_lload hx hb dX10_bitsOf_102 (lv_at hl 0 rfl) ?_
                  refine lv_l2d hx hb dX10_bitsOf_104 ?_
                  refine lv_dsub hx hb dX10_bitsOf_105 (by rw [hrm]; first | (rw [RV_sub0 (by omega)]; exact RV_n64 (by omega)) | (rw [RV_sub1L ⟨by omega, by have z9 := hBT.1; omega⟩]; exact RV_n64 (by have z9 := hBT.1; omega))) ?_
                  refine lv_dstore (lv' := [(7, .double (FP.dsub (FP.dmul rs D2) (FP.l2d (zL 1)))), (12, .long (zL 1)), (9, .long bb), (11, .int (zI k)), (4, .double vw), (6, .int (zI ef)), (0, .double x9), (2, .int (zI wd)), (3, .int (zI bs))]) hx hb dX10_bitsOf_106 hl (by decide) rfl (fun ls hl => ?_)
                  refine z_ldc2 (n := 2) hx hb hown (hW0 _ wo_X10_244) (by decide +kernel) dX10_bitsOf_108 ?_
                  refine lv_lload hx hb dX10_bitsOf_111 (lv_at hl 2 rfl) ?_
                  refine lv_lmul hx hb dX10_bitsOf_113 ?_
                  refine lv_lload hx hb dX10_bitsOf_114 (lv_at hl 1 rfl) ?_
                  refine lv_ladd hx hb dX10_bitsOf_116 ?_
                  refine lv_lstore (lv' := [(9, .long (((zL 2) * bb) + (zL 1))), (7, .double (FP.dsub (FP.dmul rs D2) (FP.l2d (zL 1)))), (12, .long (zL 1)), (11, .int (zI k)), (4, .double vw), (6, .int (zI ef)), (0, .double x9), (2, .int (zI wd)), (3, .int (zI bs))]) hx hb dX10_bitsOf_117 hl (by decide) rfl (fun ls hl => ?_)
                  refine z_iinc (k := 3) (v := k + 1) (lv' := [(11, .int (zI (k + 1))), (9, .long (((zL 2) * bb) + (zL 1))), (7, .double (FP.dsub (FP.dmul rs D2) (FP.l2d (zL 1)))), (12, .long (zL 1)), (4, .double vw), (6, .int (zI ef)), (0, .double x9), (2, .int (zI wd)), (3, .int (zI bs))]) hx hb dX10_bitsOf_119 hl rfl rfl (by decide) rfl (fun ls hl => ?_)
                  refine lv_goto (tgt := 72) hx hb dX10_bitsOf_122 (by decide) ?_
                  exact ih_72 (FP.dsub (FP.dmul rs D2) (FP.l2d (zL 1))) (((zL 2) * bb) + (zL 1)) (k + 1) _ _ hP hD hS _ (lv_sub hl [2, 1, 0, 4, 5, 6, 7, 8] rfl) (by first | assumption | rfl | omega) (by rw [show (k + 1).toNat = k.toNat + 1 by omega, show 52 - (k.toNat + 1) = 51 - k.toNat by omega]; first | (rw [hrm, RV_sub0 (by omega), (hBT.2.1 hc9).1]; done) | (rw [hrm, RV_sub1L ⟨by omega, by have z9 := hBT.1; omega⟩, (hBT.2.2 hc9).1]; done)) (by rw [show (k + 1).toNat = k.toNat + 1 by omega, show 52 - (k.toNat + 1) = 51 - k.toNat by omega, hbb, zL_mul, zL_add]; congr 1; first | (rw [(hBT.2.1 hc9).2, Int.pow_succ, ← Int.mul_assoc]; omega) | (rw [(hBT.2.2 hc9).2, Int.pow_succ, ← Int.mul_assoc]; omega)) (by omega)
          · have hq52 := (DN_dc .g hDN2 D1v (by omega)).mp (by omega)
            refine lv_dload hx hb dX10_bitsOf_44 (lv_at hl 0 rfl) ?_
            refine lv_ldc2d (v := D2) hx hb hown (hW0 _ wd_X10_242) dX10_bitsOf_46 ?_
            refine lv_dmul hx hb dX10_bitsOf_49 (by exact DV_n64 (DN_mul hDN2 (by omega)).1) ?_
            refine lv_dstore (lv' := [(4, .double (FP.dmul vw D2)), (6, .int (zI ef)), (0, .double x9), (2, .int (zI wd)), (3, .int (zI bs))]) hx hb dX10_bitsOf_50 hl (by decide) rfl (fun ls hl => ?_)
            refine z_iinc (k := 1) (v := ef + (-1)) (lv' := [(6, .int (zI (ef + (-1)))), (4, .double (FP.dmul vw D2)), (0, .double x9), (2, .int (zI wd)), (3, .int (zI bs))]) hx hb dX10_bitsOf_52 hl rfl rfl (by decide) rfl (fun ls hl => ?_)
            refine lv_goto (tgt := 37) hx hb dX10_bitsOf_55 (by decide) ?_
            exact ih_37 (FP.dmul vw D2) (ef + (-1)) (p + 1) _ _ hP hD hS _ (lv_sub hl [1, 0, 2, 3, 4] rfl) (by exact DN_mul hDN2 (by omega)) (by first | assumption | rfl | omega) (by first | assumption | rfl | omega) (by omega)
      · have hq51 : ¬ q < -51 := fun h9 => absurd ((DN_dc .l hDN D2v (by omega)).mpr h9) (by omega)
        refine lv_dload hx hb dX10_bitsOf_23 (lv_at hl 0 rfl) ?_
        refine lv_ldc2d (v := D2) hx hb hown (hW0 _ wd_X10_242) dX10_bitsOf_25 ?_
        refine lv_ddiv hx hb dX10_bitsOf_28 (by exact DV_n64 (DN_div hDN (by omega)).1) ?_
        refine lv_dstore (lv' := [(4, .double (FP.ddiv vv D2)), (6, .int (zI ee)), (0, .double x9), (2, .int (zI wd)), (3, .int (zI bs))]) hx hb dX10_bitsOf_29 hl (by decide) rfl (fun ls hl => ?_)
        refine z_iinc (k := 1) (v := ee + 1) (lv' := [(6, .int (zI (ee + 1))), (4, .double (FP.ddiv vv D2)), (0, .double x9), (2, .int (zI wd)), (3, .int (zI bs))]) hx hb dX10_bitsOf_31 hl rfl rfl (by decide) rfl (fun ls hl => ?_)
        refine lv_goto (tgt := 14) hx hb dX10_bitsOf_34 (by decide) ?_
        exact ih_14 (FP.ddiv vv D2) (ee + 1) (q - 1) _ _ hP hD hS _ (lv_sub hl [1, 0, 2, 3, 4] rfl) (by exact DN_div hDN (by omega)) (by first | assumption | rfl | omega) (by first | assumption | rfl | omega) (by omega)
  · refine lv_lconst (v := zL 0) hx hb dX10_bitsOf_6 rfl ?_
    exact z_lret hC hr hlk hQ hP hD hS ⟨zL 0, (by rcases hx9 with h9 | ⟨c, q, h9, -⟩; (rw [h9]; exact S_bits_0.symm); exact absurd (DN_dc0 .l h9) (by omega)), rfl, rfl⟩ dX10_bitsOf_7

abbrev wz_X10_mix : List Cond := .code yX10_mix cX10_mix 3 none :: W0
abbrev rm_X10_mix : Room := { frames := 0, cells := 0, slots := 0, locals := 0 }
theorem hd_X10_mix : yX10_mix.cls = RX10 ∧ yX10_mix.cls ≠ "java/lang/invoke/MethodHandle" ∧ yX10_mix.cls ≠ "java/lang/invoke/VarHandle" ∧ (parseMethodDescriptor yX10_mix.desc).map (fun d => d.parameters.length) = some 1 := by decide +kernel
set_option maxHeartbeats 4000000 in
set_option maxRecDepth 100000 in
theorem c_X10_mix (l : Launch) (D : va_G) (τ : Nat → Nat) (β : Nat → Nat) (δ : Nat → ClassId) (ms : IA) (mb : IA) (mo : IA) (mp : BA) (mf : IA) (mn : IA) (mi : IA) (mc : IA) (mq : BA) (mr : IA) (mw : IA) (mk : Int) (ml : Int) (mt : Int) (ma : Int) (mx : Bool) (mh : Int64) (v9 : Int64) : cM l yX10_mix wz_X10_mix rm_X10_mix D τ (tyM δ) [.ref (β 0), .long v9] (wM β δ ms mb mo mp mf mn mi mc mq mr mw mk ml mt ma mx mh) (zQv (fun w => ∃ (h2 : Int64), (h2 = mixL mh v9) ∧ wM β δ ms mb mo mp mf mn mi mc mq mr mw mk ml mt ma mx h2 = w)) := by
  refine z_ofM (cc := cX10_mix) (maxL := 3) (ret := none) (by decide +kernel) rfl (Nat.le_of_ble_eq_true rfl) ?_
  intro pg e s m args below meth c hC hr hlk hnm hK hP A hD hG hA hS ls hl Q hQ
  have hx := hC.1
  have hb := hC.2.1
  have hml := hC.2.2.1
  have hown := hC.2.2.2.1
  have hts := hC.2.2.2.2
  have hB : ∀ w ∈ W0, w ∈ wz_X10_mix := fun _ h => List.mem_cons_of_mem _ h
  have hW0 : ∀ w ∈ W0, w.before args s = true := fun w h => hts w (hB w h)
  have hl : lv_has ls 3 [(0, .ref (β 0)), (1, .long v9)] := hl
  refine lv_aload_n hx hb dX10_mix_0 rfl (lv_at hl 0 rfl) ?_
  refine z_ldc2 (n := 31) hx hb hown (hW0 _ wo_X10_246) (by decide +kernel) dX10_mix_1 ?_
  refine lv_aload_n hx hb dX10_mix_4 rfl (lv_at hl 0 rfl) ?_
  refine va_get (D := D) (ci := 10) (v := .long mh) (C := RX10) (T := TX10) (N := 17) hx hb hts (fun w h => List.mem_cons_of_mem _ (wx_X10 w h)) hown hK hP 0 rfl rfl 16 (by decide) (hW0 _ wf_X10_248) (fun _ h9 => h9) rfl dX10_mix_5 ?_
  refine lv_lmul hx hb dX10_mix_8 ?_
  refine lv_lload_n hx hb dX10_mix_9 rfl (lv_at hl 1 rfl) ?_
  refine lv_ladd hx hb dX10_mix_10 ?_
  refine va_put (D := D) (ci := 10) (v := .long (((zL 31) * mh) + v9)) (ty := .long) (C := RX10) (T := TX10) (N := 17) hx hb hts (fun w h => List.mem_cons_of_mem _ (wx_X10 w h)) tyX10 tyX10_ok nmX10 hown hK hP hD hS 0 rfl rfl 16 (by decide) (hW0 _ wf_X10_248) (fun _ h9 => h9) rfl (by decide +kernel) rfl rfl (Nat.le_of_ble_eq_true rfl) dX10_mix_11 (fun H locs hP hD hS => ?_)
  have hP : va_P D vwCl (wM β δ ms mb mo mp mf mn mi mc mq mr mw mk ml mt ma mx ((((zL 31) * mh) + v9))) H := hP
  have hD : va_D A (wM β δ ms mb mo mp mf mn mi mc mq mr mw mk ml mt ma mx ((((zL 31) * mh) + v9))) := hD
  exact z_vret hC hr hlk hQ hP hD hS ⟨((zL 31) * mh) + v9, (by rfl), rfl⟩ dX10_mix_14

abbrev wz_X10_mixesLevel : List Cond := .code yX10_mixesLevel cX10_mixesLevel 2 none :: W0
abbrev rm_X10_mixesLevel : Room := { frames := 6, cells := 0, slots := 0, locals := 153 }
theorem hd_X10_mixesLevel : yX10_mixesLevel.cls = RX10 ∧ yX10_mixesLevel.cls ≠ "java/lang/invoke/MethodHandle" ∧ yX10_mixesLevel.cls ≠ "java/lang/invoke/VarHandle" ∧ (parseMethodDescriptor yX10_mixesLevel.desc).map (fun d => d.parameters.length) = some 1 := by decide +kernel
set_option maxHeartbeats 4000000 in
set_option maxRecDepth 100000 in
theorem c_X10_mixesLevel (l : Launch) (D : va_G) (τ : Nat → Nat) (β : Nat → Nat) (δ : Nat → ClassId) (ms : IA) (mb : IA) (mo : IA) (mp : BA) (mf : IA) (mn : IA) (mi : IA) (mc : IA) (mq : BA) (mr : IA) (mw : IA) (mk : Int) (ml : Int) (mt : Int) (ma : Int) (mx : Bool) (mh : Int64) (lv9 : Int) (hlv : 0 ≤ lv9 ∧ lv9 ≤ 98) (hms : ∀ k, 0 ≤ k → k < 49 → 0 ≤ ms k ∧ ms k ≤ 99) : cM l yX10_mixesLevel wz_X10_mixesLevel rm_X10_mixesLevel D τ (tyM δ) [.ref (β 0), .int (zI lv9)] (wM β δ ms mb mo mp mf mn mi mc mq mr mw mk ml mt ma mx mh) (zQv (fun w => ∃ (m2 : IA), ∃ (c2 : IA), ∃ (q2 : BA), ∃ (r2 : IA), ∃ (h2 : Int64), (h2 = S_dlev ms lv9 mh) ∧ wM β δ ms mb mo mp mf mn m2 c2 q2 r2 mw mk ml mt ma mx h2 = w)) := by
  refine z_ofM (cc := cX10_mixesLevel) (maxL := 2) (ret := none) (by decide +kernel) rfl (Nat.le_of_ble_eq_true rfl) ?_
  intro pg e s m args below meth c hC hr hlk hnm hK hP A hD hG hA hS ls hl Q hQ
  have hx := hC.1
  have hb := hC.2.1
  have hml := hC.2.2.1
  have hown := hC.2.2.2.1
  have hts := hC.2.2.2.2
  have hB : ∀ w ∈ W0, w ∈ wz_X10_mixesLevel := fun _ h => List.mem_cons_of_mem _ h
  have hW0 : ∀ w ∈ W0, w.before args s = true := fun w h => hts w (hB w h)
  have hl : lv_has ls 2 [(0, .ref (β 0)), (1, .int (zI lv9))] := hl
  refine lv_aload_n hx hb dX10_mixesLevel_0 rfl (lv_at hl 0 rfl) ?_
  refine lv_aload_n hx hb dX10_mixesLevel_1 rfl (lv_at hl 0 rfl) ?_
  refine lv_iload_n hx hb dX10_mixesLevel_2 rfl (lv_at hl 1 rfl) ?_
  refine z_calli hP hD hS hA (va_runV (As := [.int (zI lv9)]) (rest := [.ref (β 0)]) hC (c_X10_above l D τ β δ ms mb mo mp mf mn mi mc mq mr mw mk ml mt ma mx mh lv9 (by first | assumption | rfl | omega) (by first | assumption | rfl | omega) _) (cwV 1 hts (gV hB wl_X10_136 wn_X10_above ws_X10_above wi_X10 wc_X10_above) rfl rfl rfl hd_X10_above ⟨Nat.le_of_ble_eq_true rfl, Nat.le_of_ble_eq_true rfl⟩) (zp_V hK hP hD hS hA hG (ci := 10) (q0 := 0) rfl rfl rfl) rfl rfl hl.1 rfl (lv_room (Nat.le_of_ble_eq_true rfl)) dX10_mixesLevel_3 ⟨Nat.le_of_ble_eq_true rfl, Nat.le_of_ble_eq_true rfl⟩) (fun r w1 H locs hq9 hP hD hS => ?_)
  obtain ⟨v3_1, hv3_0, hv3_1, rfl, rfl⟩ := hq9
  have hP : va_P D vwCl (wM β δ ms mb mo mp mf mn mi mc mq mr mw mk ml mt ma mx mh) H := hP
  have hD : va_D A (wM β δ ms mb mo mp mf mn mi mc mq mr mw mk ml mt ma mx mh) := hD
  refine lv_i2l (v := zL v3_1) hx hb dX10_mixesLevel_6 (zL_of ⟨by omega, by omega⟩) ?_
  refine z_callv hP hD hS hA (va_runV (As := [.long (zL v3_1)]) (rest := []) hC (c_X10_mix l D τ β δ ms mb mo mp mf mn mi mc mq mr mw mk ml mt ma mx mh (zL v3_1) _) (cwV 1 hts (gV hB wl_X10_252 wn_X10_mix ws_X10_mix wi_X10 wc_X10_mix) rfl rfl rfl hd_X10_mix ⟨Nat.le_of_ble_eq_true rfl, Nat.le_of_ble_eq_true rfl⟩) (zp_V hK hP hD hS hA hG (ci := 10) (q0 := 0) rfl rfl rfl) rfl rfl hl.1 rfl (lv_room (Nat.le_of_ble_eq_true rfl)) dX10_mixesLevel_7 ⟨Nat.le_of_ble_eq_true rfl, Nat.le_of_ble_eq_true rfl⟩) (fun w1 H locs hq9 hP hD hS => ?_)
  obtain ⟨h7_2, hv7_0, rfl⟩ := hq9
  have hP : va_P D vwCl (wM β δ ms mb mo mp mf mn mi mc mq mr mw mk ml mt ma mx h7_2) H := hP
  have hD : va_D A (wM β δ ms mb mo mp mf mn mi mc mq mr mw mk ml mt ma mx h7_2) := hD
  refine lv_aload_n hx hb dX10_mixesLevel_10 rfl (lv_at hl 0 rfl) ?_
  refine lv_aload_n hx hb dX10_mixesLevel_11 rfl (lv_at hl 0 rfl) ?_
  refine lv_iload_n hx hb dX10_mixesLevel_12 rfl (lv_at hl 1 rfl) ?_
  refine z_calli hP hD hS hA (va_runV (As := [.int (zI lv9)]) (rest := [.ref (β 0)]) hC (c_X10_sumAbove l D τ β δ ms mb mo mp mf mn mi mc mq mr mw mk ml mt ma mx h7_2 lv9 (by first | assumption | rfl | omega) (by first | assumption | rfl | omega) _) (cwV 1 hts (gV hB wl_X10_139 wn_X10_sumAbove ws_X10_sumAbove wi_X10 wc_X10_sumAbove) rfl rfl rfl hd_X10_sumAbove ⟨Nat.le_of_ble_eq_true rfl, Nat.le_of_ble_eq_true rfl⟩) (zp_V hK hP hD hS hA hG (ci := 10) (q0 := 0) rfl rfl rfl) rfl rfl hl.1 rfl (lv_room (Nat.le_of_ble_eq_true rfl)) dX10_mixesLevel_13 ⟨Nat.le_of_ble_eq_true rfl, Nat.le_of_ble_eq_true rfl⟩) (fun r w1 H locs hq9 hP hD hS => ?_)
  obtain ⟨v13_3, hv13_0, hv13_1, rfl, rfl⟩ := hq9
  have hP : va_P D vwCl (wM β δ ms mb mo mp mf mn mi mc mq mr mw mk ml mt ma mx h7_2) H := hP
  have hD : va_D A (wM β δ ms mb mo mp mf mn mi mc mq mr mw mk ml mt ma mx h7_2) := hD
  refine lv_i2l (v := zL v13_3) hx hb dX10_mixesLevel_16 (zL_of ⟨by omega, by omega⟩) ?_
  refine z_callv hP hD hS hA (va_runV (As := [.long (zL v13_3)]) (rest := []) hC (c_X10_mix l D τ β δ ms mb mo mp mf mn mi mc mq mr mw mk ml mt ma mx h7_2 (zL v13_3) _) (cwV 1 hts (gV hB wl_X10_252 wn_X10_mix ws_X10_mix wi_X10 wc_X10_mix) rfl rfl rfl hd_X10_mix ⟨Nat.le_of_ble_eq_true rfl, Nat.le_of_ble_eq_true rfl⟩) (zp_V hK hP hD hS hA hG (ci := 10) (q0 := 0) rfl rfl rfl) rfl rfl hl.1 rfl (lv_room (Nat.le_of_ble_eq_true rfl)) dX10_mixesLevel_17 ⟨Nat.le_of_ble_eq_true rfl, Nat.le_of_ble_eq_true rfl⟩) (fun w1 H locs hq9 hP hD hS => ?_)
  obtain ⟨h17_4, hv17_0, rfl⟩ := hq9
  have hP : va_P D vwCl (wM β δ ms mb mo mp mf mn mi mc mq mr mw mk ml mt ma mx h17_4) H := hP
  have hD : va_D A (wM β δ ms mb mo mp mf mn mi mc mq mr mw mk ml mt ma mx h17_4) := hD
  refine lv_aload_n hx hb dX10_mixesLevel_20 rfl (lv_at hl 0 rfl) ?_
  refine lv_aload_n hx hb dX10_mixesLevel_21 rfl (lv_at hl 0 rfl) ?_
  refine lv_iload_n hx hb dX10_mixesLevel_22 rfl (lv_at hl 1 rfl) ?_
  refine z_calli hP hD hS hA (va_runV (As := [.int (zI lv9)]) (rest := [.ref (β 0)]) hC (c_X10_crossings l D τ β δ ms mb mo mp mf mn mi mc mq mr mw mk ml mt ma mx h17_4 lv9 (by first | assumption | rfl | omega) (by first | assumption | rfl | omega) _) (cwV 1 hts (gV hB wl_X10_171 wn_X10_crossings ws_X10_crossings wi_X10 wc_X10_crossings) rfl rfl rfl hd_X10_crossings ⟨Nat.le_of_ble_eq_true rfl, Nat.le_of_ble_eq_true rfl⟩) (zp_V hK hP hD hS hA hG (ci := 10) (q0 := 0) rfl rfl rfl) rfl rfl hl.1 rfl (lv_room (Nat.le_of_ble_eq_true rfl)) dX10_mixesLevel_23 ⟨Nat.le_of_ble_eq_true rfl, Nat.le_of_ble_eq_true rfl⟩) (fun r w1 H locs hq9 hP hD hS => ?_)
  obtain ⟨m23_5, c23_6, q23_7, v23_8, hv23_0, hv23_1, rfl, rfl⟩ := hq9
  have hP : va_P D vwCl (wM β δ ms mb mo mp mf mn m23_5 c23_6 q23_7 mr mw mk ml mt ma mx h17_4) H := hP
  have hD : va_D A (wM β δ ms mb mo mp mf mn m23_5 c23_6 q23_7 mr mw mk ml mt ma mx h17_4) := hD
  refine lv_i2l (v := zL v23_8) hx hb dX10_mixesLevel_26 (zL_of ⟨by omega, by omega⟩) ?_
  refine z_callv hP hD hS hA (va_runV (As := [.long (zL v23_8)]) (rest := []) hC (c_X10_mix l D τ β δ ms mb mo mp mf mn m23_5 c23_6 q23_7 mr mw mk ml mt ma mx h17_4 (zL v23_8) _) (cwV 1 hts (gV hB wl_X10_252 wn_X10_mix ws_X10_mix wi_X10 wc_X10_mix) rfl rfl rfl hd_X10_mix ⟨Nat.le_of_ble_eq_true rfl, Nat.le_of_ble_eq_true rfl⟩) (zp_V hK hP hD hS hA hG (ci := 10) (q0 := 0) rfl rfl rfl) rfl rfl hl.1 rfl (lv_room (Nat.le_of_ble_eq_true rfl)) dX10_mixesLevel_27 ⟨Nat.le_of_ble_eq_true rfl, Nat.le_of_ble_eq_true rfl⟩) (fun w1 H locs hq9 hP hD hS => ?_)
  obtain ⟨h27_9, hv27_0, rfl⟩ := hq9
  have hP : va_P D vwCl (wM β δ ms mb mo mp mf mn m23_5 c23_6 q23_7 mr mw mk ml mt ma mx h27_9) H := hP
  have hD : va_D A (wM β δ ms mb mo mp mf mn m23_5 c23_6 q23_7 mr mw mk ml mt ma mx h27_9) := hD
  refine lv_aload_n hx hb dX10_mixesLevel_30 rfl (lv_at hl 0 rfl) ?_
  refine lv_aload_n hx hb dX10_mixesLevel_31 rfl (lv_at hl 0 rfl) ?_
  refine lv_iload_n hx hb dX10_mixesLevel_32 rfl (lv_at hl 1 rfl) ?_
  refine z_calli hP hD hS hA (va_runV (As := [.int (zI lv9)]) (rest := [.ref (β 0)]) hC (c_X10_crossings l D τ β δ ms mb mo mp mf mn m23_5 c23_6 q23_7 mr mw mk ml mt ma mx h27_9 lv9 (by first | assumption | rfl | omega) (by first | assumption | rfl | omega) _) (cwV 1 hts (gV hB wl_X10_171 wn_X10_crossings ws_X10_crossings wi_X10 wc_X10_crossings) rfl rfl rfl hd_X10_crossings ⟨Nat.le_of_ble_eq_true rfl, Nat.le_of_ble_eq_true rfl⟩) (zp_V hK hP hD hS hA hG (ci := 10) (q0 := 0) rfl rfl rfl) rfl rfl hl.1 rfl (lv_room (Nat.le_of_ble_eq_true rfl)) dX10_mixesLevel_33 ⟨Nat.le_of_ble_eq_true rfl, Nat.le_of_ble_eq_true rfl⟩) (fun r w1 H locs hq9 hP hD hS => ?_)
  obtain ⟨m33_10, c33_11, q33_12, v33_13, hv33_0, hv33_1, rfl, rfl⟩ := hq9
  have hP : va_P D vwCl (wM β δ ms mb mo mp mf mn m33_10 c33_11 q33_12 mr mw mk ml mt ma mx h27_9) H := hP
  have hD : va_D A (wM β δ ms mb mo mp mf mn m33_10 c33_11 q33_12 mr mw mk ml mt ma mx h27_9) := hD
  refine lv_i2l (v := zL v33_13) hx hb dX10_mixesLevel_36 (zL_of ⟨by omega, by omega⟩) ?_
  refine z_callv hP hD hS hA (va_runV (As := [.long (zL v33_13)]) (rest := []) hC (c_X10_mix l D τ β δ ms mb mo mp mf mn m33_10 c33_11 q33_12 mr mw mk ml mt ma mx h27_9 (zL v33_13) _) (cwV 1 hts (gV hB wl_X10_252 wn_X10_mix ws_X10_mix wi_X10 wc_X10_mix) rfl rfl rfl hd_X10_mix ⟨Nat.le_of_ble_eq_true rfl, Nat.le_of_ble_eq_true rfl⟩) (zp_V hK hP hD hS hA hG (ci := 10) (q0 := 0) rfl rfl rfl) rfl rfl hl.1 rfl (lv_room (Nat.le_of_ble_eq_true rfl)) dX10_mixesLevel_37 ⟨Nat.le_of_ble_eq_true rfl, Nat.le_of_ble_eq_true rfl⟩) (fun w1 H locs hq9 hP hD hS => ?_)
  obtain ⟨h37_14, hv37_0, rfl⟩ := hq9
  have hP : va_P D vwCl (wM β δ ms mb mo mp mf mn m33_10 c33_11 q33_12 mr mw mk ml mt ma mx h37_14) H := hP
  have hD : va_D A (wM β δ ms mb mo mp mf mn m33_10 c33_11 q33_12 mr mw mk ml mt ma mx h37_14) := hD
  refine lv_aload_n hx hb dX10_mixesLevel_40 rfl (lv_at hl 0 rfl) ?_
  refine lv_aload_n hx hb dX10_mixesLevel_41 rfl (lv_at hl 0 rfl) ?_
  refine lv_iload_n hx hb dX10_mixesLevel_42 rfl (lv_at hl 1 rfl) ?_
  refine lv_iconst (v := zI 0) hx hb dX10_mixesLevel_43 rfl ?_
  refine z_calli hP hD hS hA (va_runV (As := [.int (zI lv9), .int (bI false)]) (rest := [.ref (β 0)]) hC (c_X10_lines l D τ β δ ms mb mo mp mf mn m33_10 c33_11 q33_12 mr mw mk ml mt ma mx h37_14 lv9 false (by first | assumption | rfl | omega) (by first | assumption | rfl | omega) _) (cwV 2 hts (gV hB wl_X10_174 wn_X10_lines ws_X10_lines wi_X10 wc_X10_lines) rfl rfl rfl hd_X10_lines ⟨Nat.le_of_ble_eq_true rfl, Nat.le_of_ble_eq_true rfl⟩) (zp_V hK hP hD hS hA hG (ci := 10) (q0 := 0) rfl rfl rfl) rfl rfl hl.1 rfl (lv_room (Nat.le_of_ble_eq_true rfl)) dX10_mixesLevel_44 ⟨Nat.le_of_ble_eq_true rfl, Nat.le_of_ble_eq_true rfl⟩) (fun r w1 H locs hq9 hP hD hS => ?_)
  obtain ⟨m44_15, c44_16, q44_17, v44_18, hv44_0, hv44_1, rfl, rfl⟩ := hq9
  have hP : va_P D vwCl (wM β δ ms mb mo mp mf mn m44_15 c44_16 q44_17 mr mw mk ml mt ma mx h37_14) H := hP
  have hD : va_D A (wM β δ ms mb mo mp mf mn m44_15 c44_16 q44_17 mr mw mk ml mt ma mx h37_14) := hD
  refine lv_i2l (v := zL v44_18) hx hb dX10_mixesLevel_47 (zL_of ⟨by omega, by omega⟩) ?_
  refine z_callv hP hD hS hA (va_runV (As := [.long (zL v44_18)]) (rest := []) hC (c_X10_mix l D τ β δ ms mb mo mp mf mn m44_15 c44_16 q44_17 mr mw mk ml mt ma mx h37_14 (zL v44_18) _) (cwV 1 hts (gV hB wl_X10_252 wn_X10_mix ws_X10_mix wi_X10 wc_X10_mix) rfl rfl rfl hd_X10_mix ⟨Nat.le_of_ble_eq_true rfl, Nat.le_of_ble_eq_true rfl⟩) (zp_V hK hP hD hS hA hG (ci := 10) (q0 := 0) rfl rfl rfl) rfl rfl hl.1 rfl (lv_room (Nat.le_of_ble_eq_true rfl)) dX10_mixesLevel_48 ⟨Nat.le_of_ble_eq_true rfl, Nat.le_of_ble_eq_true rfl⟩) (fun w1 H locs hq9 hP hD hS => ?_)
  obtain ⟨h48_19, hv48_0, rfl⟩ := hq9
  have hP : va_P D vwCl (wM β δ ms mb mo mp mf mn m44_15 c44_16 q44_17 mr mw mk ml mt ma mx h48_19) H := hP
  have hD : va_D A (wM β δ ms mb mo mp mf mn m44_15 c44_16 q44_17 mr mw mk ml mt ma mx h48_19) := hD
  refine lv_aload_n hx hb dX10_mixesLevel_51 rfl (lv_at hl 0 rfl) ?_
  refine lv_aload_n hx hb dX10_mixesLevel_52 rfl (lv_at hl 0 rfl) ?_
  refine lv_iload_n hx hb dX10_mixesLevel_53 rfl (lv_at hl 1 rfl) ?_
  refine lv_iconst (v := zI 0) hx hb dX10_mixesLevel_54 rfl ?_
  refine z_calli hP hD hS hA (va_runV (As := [.int (zI lv9), .int (bI false)]) (rest := [.ref (β 0)]) hC (c_X10_lines l D τ β δ ms mb mo mp mf mn m44_15 c44_16 q44_17 mr mw mk ml mt ma mx h48_19 lv9 false (by first | assumption | rfl | omega) (by first | assumption | rfl | omega) _) (cwV 2 hts (gV hB wl_X10_174 wn_X10_lines ws_X10_lines wi_X10 wc_X10_lines) rfl rfl rfl hd_X10_lines ⟨Nat.le_of_ble_eq_true rfl, Nat.le_of_ble_eq_true rfl⟩) (zp_V hK hP hD hS hA hG (ci := 10) (q0 := 0) rfl rfl rfl) rfl rfl hl.1 rfl (lv_room (Nat.le_of_ble_eq_true rfl)) dX10_mixesLevel_55 ⟨Nat.le_of_ble_eq_true rfl, Nat.le_of_ble_eq_true rfl⟩) (fun r w1 H locs hq9 hP hD hS => ?_)
  obtain ⟨m55_20, c55_21, q55_22, v55_23, hv55_0, hv55_1, rfl, rfl⟩ := hq9
  have hP : va_P D vwCl (wM β δ ms mb mo mp mf mn m55_20 c55_21 q55_22 mr mw mk ml mt ma mx h48_19) H := hP
  have hD : va_D A (wM β δ ms mb mo mp mf mn m55_20 c55_21 q55_22 mr mw mk ml mt ma mx h48_19) := hD
  refine lv_i2l (v := zL v55_23) hx hb dX10_mixesLevel_58 (zL_of ⟨by omega, by omega⟩) ?_
  refine z_callv hP hD hS hA (va_runV (As := [.long (zL v55_23)]) (rest := []) hC (c_X10_mix l D τ β δ ms mb mo mp mf mn m55_20 c55_21 q55_22 mr mw mk ml mt ma mx h48_19 (zL v55_23) _) (cwV 1 hts (gV hB wl_X10_252 wn_X10_mix ws_X10_mix wi_X10 wc_X10_mix) rfl rfl rfl hd_X10_mix ⟨Nat.le_of_ble_eq_true rfl, Nat.le_of_ble_eq_true rfl⟩) (zp_V hK hP hD hS hA hG (ci := 10) (q0 := 0) rfl rfl rfl) rfl rfl hl.1 rfl (lv_room (Nat.le_of_ble_eq_true rfl)) dX10_mixesLevel_59 ⟨Nat.le_of_ble_eq_true rfl, Nat.le_of_ble_eq_true rfl⟩) (fun w1 H locs hq9 hP hD hS => ?_)
  obtain ⟨h59_24, hv59_0, rfl⟩ := hq9
  have hP : va_P D vwCl (wM β δ ms mb mo mp mf mn m55_20 c55_21 q55_22 mr mw mk ml mt ma mx h59_24) H := hP
  have hD : va_D A (wM β δ ms mb mo mp mf mn m55_20 c55_21 q55_22 mr mw mk ml mt ma mx h59_24) := hD
  refine lv_aload_n hx hb dX10_mixesLevel_62 rfl (lv_at hl 0 rfl) ?_
  refine lv_aload_n hx hb dX10_mixesLevel_63 rfl (lv_at hl 0 rfl) ?_
  refine lv_iload_n hx hb dX10_mixesLevel_64 rfl (lv_at hl 1 rfl) ?_
  refine lv_iconst (v := zI 1) hx hb dX10_mixesLevel_65 rfl ?_
  refine z_calli hP hD hS hA (va_runV (As := [.int (zI lv9), .int (bI true)]) (rest := [.ref (β 0)]) hC (c_X10_lines l D τ β δ ms mb mo mp mf mn m55_20 c55_21 q55_22 mr mw mk ml mt ma mx h59_24 lv9 true (by first | assumption | rfl | omega) (by first | assumption | rfl | omega) _) (cwV 2 hts (gV hB wl_X10_174 wn_X10_lines ws_X10_lines wi_X10 wc_X10_lines) rfl rfl rfl hd_X10_lines ⟨Nat.le_of_ble_eq_true rfl, Nat.le_of_ble_eq_true rfl⟩) (zp_V hK hP hD hS hA hG (ci := 10) (q0 := 0) rfl rfl rfl) rfl rfl hl.1 rfl (lv_room (Nat.le_of_ble_eq_true rfl)) dX10_mixesLevel_66 ⟨Nat.le_of_ble_eq_true rfl, Nat.le_of_ble_eq_true rfl⟩) (fun r w1 H locs hq9 hP hD hS => ?_)
  obtain ⟨m66_25, c66_26, q66_27, v66_28, hv66_0, hv66_1, rfl, rfl⟩ := hq9
  have hP : va_P D vwCl (wM β δ ms mb mo mp mf mn m66_25 c66_26 q66_27 mr mw mk ml mt ma mx h59_24) H := hP
  have hD : va_D A (wM β δ ms mb mo mp mf mn m66_25 c66_26 q66_27 mr mw mk ml mt ma mx h59_24) := hD
  refine lv_i2l (v := zL v66_28) hx hb dX10_mixesLevel_69 (zL_of ⟨by omega, by omega⟩) ?_
  refine z_callv hP hD hS hA (va_runV (As := [.long (zL v66_28)]) (rest := []) hC (c_X10_mix l D τ β δ ms mb mo mp mf mn m66_25 c66_26 q66_27 mr mw mk ml mt ma mx h59_24 (zL v66_28) _) (cwV 1 hts (gV hB wl_X10_252 wn_X10_mix ws_X10_mix wi_X10 wc_X10_mix) rfl rfl rfl hd_X10_mix ⟨Nat.le_of_ble_eq_true rfl, Nat.le_of_ble_eq_true rfl⟩) (zp_V hK hP hD hS hA hG (ci := 10) (q0 := 0) rfl rfl rfl) rfl rfl hl.1 rfl (lv_room (Nat.le_of_ble_eq_true rfl)) dX10_mixesLevel_70 ⟨Nat.le_of_ble_eq_true rfl, Nat.le_of_ble_eq_true rfl⟩) (fun w1 H locs hq9 hP hD hS => ?_)
  obtain ⟨h70_29, hv70_0, rfl⟩ := hq9
  have hP : va_P D vwCl (wM β δ ms mb mo mp mf mn m66_25 c66_26 q66_27 mr mw mk ml mt ma mx h70_29) H := hP
  have hD : va_D A (wM β δ ms mb mo mp mf mn m66_25 c66_26 q66_27 mr mw mk ml mt ma mx h70_29) := hD
  refine lv_aload_n hx hb dX10_mixesLevel_73 rfl (lv_at hl 0 rfl) ?_
  refine lv_aload_n hx hb dX10_mixesLevel_74 rfl (lv_at hl 0 rfl) ?_
  refine lv_iload_n hx hb dX10_mixesLevel_75 rfl (lv_at hl 1 rfl) ?_
  refine z_calli hP hD hS hA (va_runV (As := [.int (zI lv9)]) (rest := [.ref (β 0)]) hC (c_X10_longest l D τ β δ ms mb mo mp mf mn m66_25 c66_26 q66_27 mr mw mk ml mt ma mx h70_29 lv9 (by first | assumption | rfl | omega) (by first | assumption | rfl | omega) _) (cwV 1 hts (gV hB wl_X10_178 wn_X10_longest ws_X10_longest wi_X10 wc_X10_longest) rfl rfl rfl hd_X10_longest ⟨Nat.le_of_ble_eq_true rfl, Nat.le_of_ble_eq_true rfl⟩) (zp_V hK hP hD hS hA hG (ci := 10) (q0 := 0) rfl rfl rfl) rfl rfl hl.1 rfl (lv_room (Nat.le_of_ble_eq_true rfl)) dX10_mixesLevel_76 ⟨Nat.le_of_ble_eq_true rfl, Nat.le_of_ble_eq_true rfl⟩) (fun r w1 H locs hq9 hP hD hS => ?_)
  obtain ⟨m76_30, c76_31, q76_32, v76_33, hv76_0, hv76_1, rfl, rfl⟩ := hq9
  have hP : va_P D vwCl (wM β δ ms mb mo mp mf mn m76_30 c76_31 q76_32 mr mw mk ml mt ma mx h70_29) H := hP
  have hD : va_D A (wM β δ ms mb mo mp mf mn m76_30 c76_31 q76_32 mr mw mk ml mt ma mx h70_29) := hD
  refine lv_i2l (v := zL v76_33) hx hb dX10_mixesLevel_79 (zL_of ⟨by omega, by omega⟩) ?_
  refine z_callv hP hD hS hA (va_runV (As := [.long (zL v76_33)]) (rest := []) hC (c_X10_mix l D τ β δ ms mb mo mp mf mn m76_30 c76_31 q76_32 mr mw mk ml mt ma mx h70_29 (zL v76_33) _) (cwV 1 hts (gV hB wl_X10_252 wn_X10_mix ws_X10_mix wi_X10 wc_X10_mix) rfl rfl rfl hd_X10_mix ⟨Nat.le_of_ble_eq_true rfl, Nat.le_of_ble_eq_true rfl⟩) (zp_V hK hP hD hS hA hG (ci := 10) (q0 := 0) rfl rfl rfl) rfl rfl hl.1 rfl (lv_room (Nat.le_of_ble_eq_true rfl)) dX10_mixesLevel_80 ⟨Nat.le_of_ble_eq_true rfl, Nat.le_of_ble_eq_true rfl⟩) (fun w1 H locs hq9 hP hD hS => ?_)
  obtain ⟨h80_34, hv80_0, rfl⟩ := hq9
  have hP : va_P D vwCl (wM β δ ms mb mo mp mf mn m76_30 c76_31 q76_32 mr mw mk ml mt ma mx h80_34) H := hP
  have hD : va_D A (wM β δ ms mb mo mp mf mn m76_30 c76_31 q76_32 mr mw mk ml mt ma mx h80_34) := hD
  refine lv_aload_n hx hb dX10_mixesLevel_83 rfl (lv_at hl 0 rfl) ?_
  refine lv_aload_n hx hb dX10_mixesLevel_84 rfl (lv_at hl 0 rfl) ?_
  refine lv_iload_n hx hb dX10_mixesLevel_85 rfl (lv_at hl 1 rfl) ?_
  refine lv_iconst (v := zI 1) hx hb dX10_mixesLevel_86 rfl ?_
  refine z_calli hP hD hS hA (va_runV (As := [.int (zI lv9), .int (bI true)]) (rest := [.ref (β 0)]) hC (c_X10_regionsOf l D τ β δ ms mb mo mp mf mn m76_30 c76_31 q76_32 mr mw mk ml mt ma mx h80_34 lv9 true (by first | assumption | rfl | omega) (by first | assumption | rfl | omega) _) (cwV 2 hts (gV hB wl_X10_181 wn_X10_regionsOf ws_X10_regionsOf wi_X10 wc_X10_regionsOf) rfl rfl rfl hd_X10_regionsOf ⟨Nat.le_of_ble_eq_true rfl, Nat.le_of_ble_eq_true rfl⟩) (zp_V hK hP hD hS hA hG (ci := 10) (q0 := 0) rfl rfl rfl) rfl rfl hl.1 rfl (lv_room (Nat.le_of_ble_eq_true rfl)) dX10_mixesLevel_87 ⟨Nat.le_of_ble_eq_true rfl, Nat.le_of_ble_eq_true rfl⟩) (fun r w1 H locs hq9 hP hD hS => ?_)
  obtain ⟨r87_35, v87_36, hv87_0, hv87_1, rfl, rfl⟩ := hq9
  have hP : va_P D vwCl (wM β δ ms mb mo mp mf mn m76_30 c76_31 q76_32 r87_35 mw mk ml mt ma mx h80_34) H := hP
  have hD : va_D A (wM β δ ms mb mo mp mf mn m76_30 c76_31 q76_32 r87_35 mw mk ml mt ma mx h80_34) := hD
  refine lv_i2l (v := zL v87_36) hx hb dX10_mixesLevel_90 (zL_of ⟨by omega, by omega⟩) ?_
  refine z_callv hP hD hS hA (va_runV (As := [.long (zL v87_36)]) (rest := []) hC (c_X10_mix l D τ β δ ms mb mo mp mf mn m76_30 c76_31 q76_32 r87_35 mw mk ml mt ma mx h80_34 (zL v87_36) _) (cwV 1 hts (gV hB wl_X10_252 wn_X10_mix ws_X10_mix wi_X10 wc_X10_mix) rfl rfl rfl hd_X10_mix ⟨Nat.le_of_ble_eq_true rfl, Nat.le_of_ble_eq_true rfl⟩) (zp_V hK hP hD hS hA hG (ci := 10) (q0 := 0) rfl rfl rfl) rfl rfl hl.1 rfl (lv_room (Nat.le_of_ble_eq_true rfl)) dX10_mixesLevel_91 ⟨Nat.le_of_ble_eq_true rfl, Nat.le_of_ble_eq_true rfl⟩) (fun w1 H locs hq9 hP hD hS => ?_)
  obtain ⟨h91_37, hv91_0, rfl⟩ := hq9
  have hP : va_P D vwCl (wM β δ ms mb mo mp mf mn m76_30 c76_31 q76_32 r87_35 mw mk ml mt ma mx h91_37) H := hP
  have hD : va_D A (wM β δ ms mb mo mp mf mn m76_30 c76_31 q76_32 r87_35 mw mk ml mt ma mx h91_37) := hD
  refine lv_aload_n hx hb dX10_mixesLevel_94 rfl (lv_at hl 0 rfl) ?_
  refine lv_aload_n hx hb dX10_mixesLevel_95 rfl (lv_at hl 0 rfl) ?_
  refine lv_iload_n hx hb dX10_mixesLevel_96 rfl (lv_at hl 1 rfl) ?_
  refine lv_iconst (v := zI 0) hx hb dX10_mixesLevel_97 rfl ?_
  refine z_calli hP hD hS hA (va_runV (As := [.int (zI lv9), .int (bI false)]) (rest := [.ref (β 0)]) hC (c_X10_regionsOf l D τ β δ ms mb mo mp mf mn m76_30 c76_31 q76_32 r87_35 mw mk ml mt ma mx h91_37 lv9 false (by first | assumption | rfl | omega) (by first | assumption | rfl | omega) _) (cwV 2 hts (gV hB wl_X10_181 wn_X10_regionsOf ws_X10_regionsOf wi_X10 wc_X10_regionsOf) rfl rfl rfl hd_X10_regionsOf ⟨Nat.le_of_ble_eq_true rfl, Nat.le_of_ble_eq_true rfl⟩) (zp_V hK hP hD hS hA hG (ci := 10) (q0 := 0) rfl rfl rfl) rfl rfl hl.1 rfl (lv_room (Nat.le_of_ble_eq_true rfl)) dX10_mixesLevel_98 ⟨Nat.le_of_ble_eq_true rfl, Nat.le_of_ble_eq_true rfl⟩) (fun r w1 H locs hq9 hP hD hS => ?_)
  obtain ⟨r98_38, v98_39, hv98_0, hv98_1, rfl, rfl⟩ := hq9
  have hP : va_P D vwCl (wM β δ ms mb mo mp mf mn m76_30 c76_31 q76_32 r98_38 mw mk ml mt ma mx h91_37) H := hP
  have hD : va_D A (wM β δ ms mb mo mp mf mn m76_30 c76_31 q76_32 r98_38 mw mk ml mt ma mx h91_37) := hD
  refine lv_i2l (v := zL v98_39) hx hb dX10_mixesLevel_101 (zL_of ⟨by omega, by omega⟩) ?_
  refine z_callv hP hD hS hA (va_runV (As := [.long (zL v98_39)]) (rest := []) hC (c_X10_mix l D τ β δ ms mb mo mp mf mn m76_30 c76_31 q76_32 r98_38 mw mk ml mt ma mx h91_37 (zL v98_39) _) (cwV 1 hts (gV hB wl_X10_252 wn_X10_mix ws_X10_mix wi_X10 wc_X10_mix) rfl rfl rfl hd_X10_mix ⟨Nat.le_of_ble_eq_true rfl, Nat.le_of_ble_eq_true rfl⟩) (zp_V hK hP hD hS hA hG (ci := 10) (q0 := 0) rfl rfl rfl) rfl rfl hl.1 rfl (lv_room (Nat.le_of_ble_eq_true rfl)) dX10_mixesLevel_102 ⟨Nat.le_of_ble_eq_true rfl, Nat.le_of_ble_eq_true rfl⟩) (fun w1 H locs hq9 hP hD hS => ?_)
  obtain ⟨h102_40, hv102_0, rfl⟩ := hq9
  have hP : va_P D vwCl (wM β δ ms mb mo mp mf mn m76_30 c76_31 q76_32 r98_38 mw mk ml mt ma mx h102_40) H := hP
  have hD : va_D A (wM β δ ms mb mo mp mf mn m76_30 c76_31 q76_32 r98_38 mw mk ml mt ma mx h102_40) := hD
  exact z_vret hC hr hlk hQ hP hD hS ⟨m76_30, c76_31, q76_32, r98_38, h102_40, (by unfold S_dlev mixI; rw [hv102_0, hv91_0, hv80_0, hv70_0, hv59_0, hv48_0, hv37_0, hv27_0, hv17_0, hv7_0, hv3_0, hv13_0, hv23_0, hv33_0, hv44_0, hv55_0, hv66_0, hv76_0, hv87_0, hv98_0, lines_f, lines_t, regs_t, regs_f]), rfl⟩ dX10_mixesLevel_105

abbrev wz_X10_digest : List Cond := .code yX10_digest cX10_digest 2 (some .long) :: W0
abbrev rm_X10_digest : Room := { frames := 7, cells := 0, slots := 0, locals := 174 }
theorem hd_X10_digest : yX10_digest.cls = RX10 ∧ yX10_digest.cls ≠ "java/lang/invoke/MethodHandle" ∧ yX10_digest.cls ≠ "java/lang/invoke/VarHandle" ∧ (parseMethodDescriptor yX10_digest.desc).map (fun d => d.parameters.length) = some 0 := by decide +kernel
set_option maxHeartbeats 4000000 in
set_option maxRecDepth 100000 in
theorem c_X10_digest (l : Launch) (D : va_G) (τ : Nat → Nat) (β : Nat → Nat) (δ : Nat → ClassId) (ms : IA) (mb : IA) (mo : IA) (mp : BA) (mf : IA) (mn : IA) (mi : IA) (mc : IA) (mq : BA) (mr : IA) (mw : IA) (mk : Int) (ml : Int) (mt : Int) (ma : Int) (mx : Bool) (mh : Int64) (hms : ∀ k, 0 ≤ k → k < 49 → 0 ≤ ms k ∧ ms k ≤ 99) (hml9 : 0 ≤ ml ∧ ml ≤ 60) (hmf : ∀ k, 0 ≤ k → k < ml → 33 ≤ mf k ∧ mf k ≤ 126) (hmk : 0 ≤ mk ∧ mk ≤ 6) : cM l yX10_digest wz_X10_digest rm_X10_digest D τ (tyM δ) [.ref (β 0)] (wM β δ ms mb mo mp mf mn mi mc mq mr mw mk ml mt ma mx mh) (zQl (fun r w => ∃ (w2 : IA), ∃ (m2 : IA), ∃ (c2 : IA), ∃ (q2 : BA), ∃ (r2 : IA), ∃ (h2 : Int64), ∃ (v : Int64), (v = S_dig ms mk mp mf ml) ∧ v = r ∧ wM β δ ms mb mo mp mf mn m2 c2 q2 r2 w2 mk ml 0 ma mx h2 = w)) := by
  refine z_ofM (cc := cX10_digest) (maxL := 2) (ret := (some .long)) (by decide +kernel) rfl (Nat.le_of_ble_eq_true rfl) ?_
  intro pg e s m args below meth c hC hr hlk hnm hK hP A hD hG hA hS ls hl Q hQ
  have hx := hC.1
  have hb := hC.2.1
  have hml := hC.2.2.1
  have hown := hC.2.2.2.1
  have hts := hC.2.2.2.2
  have hB : ∀ w ∈ W0, w ∈ wz_X10_digest := fun _ h => List.mem_cons_of_mem _ h
  have hW0 : ∀ w ∈ W0, w.before args s = true := fun w h => hts w (hB w h)
  have hl : lv_has ls 2 [(0, .ref (β 0))] := hl
  refine lv_aload_n hx hb dX10_digest_0 rfl (lv_at hl 0 rfl) ?_
  refine lv_iconst (v := zI 0) hx hb dX10_digest_1 rfl ?_
  refine va_put (D := D) (ci := 10) (v := .int (zI 0)) (ty := .int) (C := RX10) (T := TX10) (N := 17) hx hb hts (fun w h => List.mem_cons_of_mem _ (wx_X10 w h)) tyX10 tyX10_ok nmX10 hown hK hP hD hS 0 rfl rfl 7 (by decide) (hW0 _ wf_X10_44) (fun _ h9 => h9) rfl (by decide +kernel) rfl rfl (Nat.le_of_ble_eq_true rfl) dX10_digest_2 (fun H locs hP hD hS => ?_)
  have hP : va_P D vwCl (wM β δ ms mb mo mp mf mn mi mc mq mr mw mk ml 0 ma mx mh) H := hP
  have hD : va_D A (wM β δ ms mb mo mp mf mn mi mc mq mr mw mk ml 0 ma mx mh) := hD
  refine lv_aload_n hx hb dX10_digest_5 rfl (lv_at hl 0 rfl) ?_
  refine z_ldc2 (n := 4373) hx hb hown (hW0 _ wo_X10_256) (by decide +kernel) dX10_digest_6 ?_
  refine va_put (D := D) (ci := 10) (v := .long (zL 4373)) (ty := .long) (C := RX10) (T := TX10) (N := 17) hx hb hts (fun w h => List.mem_cons_of_mem _ (wx_X10 w h)) tyX10 tyX10_ok nmX10 hown hK hP hD hS 0 rfl rfl 16 (by decide) (hW0 _ wf_X10_248) (fun _ h9 => h9) rfl (by decide +kernel) rfl rfl (Nat.le_of_ble_eq_true rfl) dX10_digest_9 (fun H locs hP hD hS => ?_)
  have hP : va_P D vwCl (wM β δ ms mb mo mp mf mn mi mc mq mr mw mk ml 0 ma mx (zL 4373)) H := hP
  have hD : va_D A (wM β δ ms mb mo mp mf mn mi mc mq mr mw mk ml 0 ma mx (zL 4373)) := hD
  refine lv_aload_n hx hb dX10_digest_12 rfl (lv_at hl 0 rfl) ?_
  refine z_callv hP hD hS hA (va_runV (As := []) (rest := []) hC (c_X10_floods l D τ β δ ms mb mo mp mf mn mi mc mq mr mw mk ml 0 ma mx (zL 4373) (by first | assumption | rfl | omega) _) (cwV 0 hts (gV hB wl_X10_205 wn_X10_floods ws_X10_floods wi_X10 wc_X10_floods) rfl rfl rfl hd_X10_floods ⟨Nat.le_of_ble_eq_true rfl, Nat.le_of_ble_eq_true rfl⟩) (zp_V hK hP hD hS hA hG (ci := 10) (q0 := 0) rfl rfl rfl) rfl rfl hl.1 rfl (lv_room (Nat.le_of_ble_eq_true rfl)) dX10_digest_13 ⟨Nat.le_of_ble_eq_true rfl, Nat.le_of_ble_eq_true rfl⟩) (fun w1 H locs hq9 hP hD hS => ?_)
  obtain ⟨w13_1, hv13_0, rfl⟩ := hq9
  have hP : va_P D vwCl (wM β δ ms mb mo mp mf mn mi mc mq mr w13_1 mk ml 0 ma mx (zL 4373)) H := hP
  have hD : va_D A (wM β δ ms mb mo mp mf mn mi mc mq mr w13_1 mk ml 0 ma mx (zL 4373)) := hD
  have hwr : ∀ k, 0 ≤ k → k < 49 → 0 ≤ w13_1 k ∧ w13_1 k ≤ 100 := fun k z1 z2 => by rw [hv13_0 k z1 z2]; exact S_spill_b ms k
  refine lv_iconst (v := zI 0) hx hb dX10_digest_16 rfl ?_
  refine lv_istore_n (lv' := [(1, .int (zI 0)), (0, .ref (β 0))]) hx hb dX10_digest_17 rfl hl (by decide) rfl (fun ls hl => ?_)
  suffices HL_18 : ∀ (n_18 : Nat), ∀ (h1 : Int64) (i : Int) (H : Heap) (locs : List Loc) (hP : va_P D vwCl (wM β δ ms mb mo mp mf mn mi mc mq mr w13_1 mk ml 0 ma mx h1) H) (hD : va_D A (wM β δ ms mb mo mp mf mn mi mc mq mr w13_1 mk ml 0 ma mx h1)) (hS : va_S A s.heap H locs) (ls : Array Slot) (hl : lv_has ls 2 [(1, .int (zI i)), (0, .ref (β 0))]) (hi : 0 ≤ i ∧ i ≤ 49) (hh1 : h1 = itI (S_dp1 ms) i (zL 4373)) (hm : (49 - i).toNat < n_18), W pg l e rm_X10_digest s m args below meth c H locs 0 0 Q (F0 m 18 ls []) from HL_18 _ (zL 4373) 0 _ _ hP hD hS _ (lv_sub hl [0, 1] rfl) (by first | assumption | rfl | omega) (by exact (itI_0 _ _).symm) (Nat.lt_succ_self _)
  intro n_18
  induction n_18 with
  | zero => intro h1 i H locs hP hD hS ls hl hi hh1 hm; exact absurd hm (Nat.not_lt_zero _)
  | succ n_18 ih_18 =>
    intro h1 i H locs hP hD hS ls hl hi hh1 hm
    refine lv_iload_n hx hb dX10_digest_18 rfl (lv_at hl 0 rfl) ?_
    refine lv_bipush (v := zI 49) hx hb dX10_digest_19 (zI_b8 (by decide)) ?_
    refine z_icge (tgt := 151) hx hb ⟨by omega, by omega⟩ ⟨by omega, by omega⟩ dX10_digest_21 (by decide) (fun c_21 => ?_) (fun c_21 => ?_)
    · refine lv_aload_n hx hb dX10_digest_151 rfl (lv_at hl 1 rfl) ?_
      refine lv_aload_n hx hb dX10_digest_152 rfl (lv_at hl 1 rfl) ?_
      refine z_calli hP hD hS hA (va_runV (As := []) (rest := [.ref (β 0)]) hC (c_X10_highest l D τ β δ ms mb mo mp mf mn mi mc mq mr w13_1 mk ml 0 ma mx h1 (by first | assumption | rfl | omega) _) (cwV 0 hts (gV hB wl_X10_123 wn_X10_highest ws_X10_highest wi_X10 wc_X10_highest) rfl rfl rfl hd_X10_highest ⟨Nat.le_of_ble_eq_true rfl, Nat.le_of_ble_eq_true rfl⟩) (zp_V hK hP hD hS hA hG (ci := 10) (q0 := 0) rfl rfl rfl) rfl rfl hl.1 rfl (lv_room (Nat.le_of_ble_eq_true rfl)) dX10_digest_153 ⟨Nat.le_of_ble_eq_true rfl, Nat.le_of_ble_eq_true rfl⟩) (fun r w1 H locs hq9 hP hD hS => ?_)
      obtain ⟨v153_2, hv153_0, hv153_1, rfl, rfl⟩ := hq9
      have hP : va_P D vwCl (wM β δ ms mb mo mp mf mn mi mc mq mr w13_1 mk ml 0 ma mx h1) H := hP
      have hD : va_D A (wM β δ ms mb mo mp mf mn mi mc mq mr w13_1 mk ml 0 ma mx h1) := hD
      refine lv_i2l (v := zL v153_2) hx hb dX10_digest_156 (zL_of ⟨by omega, by omega⟩) ?_
      refine z_callv hP hD hS hA (va_runV (As := [.long (zL v153_2)]) (rest := []) hC (c_X10_mix l D τ β δ ms mb mo mp mf mn mi mc mq mr w13_1 mk ml 0 ma mx h1 (zL v153_2) _) (cwV 1 hts (gV hB wl_X10_252 wn_X10_mix ws_X10_mix wi_X10 wc_X10_mix) rfl rfl rfl hd_X10_mix ⟨Nat.le_of_ble_eq_true rfl, Nat.le_of_ble_eq_true rfl⟩) (zp_V hK hP hD hS hA hG (ci := 10) (q0 := 0) rfl rfl rfl) rfl rfl hl.1 rfl (lv_room (Nat.le_of_ble_eq_true rfl)) dX10_digest_157 ⟨Nat.le_of_ble_eq_true rfl, Nat.le_of_ble_eq_true rfl⟩) (fun w1 H locs hq9 hP hD hS => ?_)
      obtain ⟨h157_3, hv157_0, rfl⟩ := hq9
      have hP : va_P D vwCl (wM β δ ms mb mo mp mf mn mi mc mq mr w13_1 mk ml 0 ma mx h157_3) H := hP
      have hD : va_D A (wM β δ ms mb mo mp mf mn mi mc mq mr w13_1 mk ml 0 ma mx h157_3) := hD
      refine lv_aload_n hx hb dX10_digest_160 rfl (lv_at hl 1 rfl) ?_
      refine lv_aload_n hx hb dX10_digest_161 rfl (lv_at hl 1 rfl) ?_
      refine z_calli hP hD hS hA (va_runV (As := []) (rest := [.ref (β 0)]) hC (c_X10_sum l D τ β δ ms mb mo mp mf mn mi mc mq mr w13_1 mk ml 0 ma mx h157_3 (by first | assumption | rfl | omega) _) (cwV 0 hts (gV hB wl_X10_126 wn_X10_sum ws_X10_sum wi_X10 wc_X10_sum) rfl rfl rfl hd_X10_sum ⟨Nat.le_of_ble_eq_true rfl, Nat.le_of_ble_eq_true rfl⟩) (zp_V hK hP hD hS hA hG (ci := 10) (q0 := 0) rfl rfl rfl) rfl rfl hl.1 rfl (lv_room (Nat.le_of_ble_eq_true rfl)) dX10_digest_162 ⟨Nat.le_of_ble_eq_true rfl, Nat.le_of_ble_eq_true rfl⟩) (fun r w1 H locs hq9 hP hD hS => ?_)
      obtain ⟨v162_4, hv162_0, hv162_1, rfl, rfl⟩ := hq9
      have hP : va_P D vwCl (wM β δ ms mb mo mp mf mn mi mc mq mr w13_1 mk ml 0 ma mx h157_3) H := hP
      have hD : va_D A (wM β δ ms mb mo mp mf mn mi mc mq mr w13_1 mk ml 0 ma mx h157_3) := hD
      refine lv_i2l (v := zL v162_4) hx hb dX10_digest_165 (zL_of ⟨by omega, by omega⟩) ?_
      refine z_callv hP hD hS hA (va_runV (As := [.long (zL v162_4)]) (rest := []) hC (c_X10_mix l D τ β δ ms mb mo mp mf mn mi mc mq mr w13_1 mk ml 0 ma mx h157_3 (zL v162_4) _) (cwV 1 hts (gV hB wl_X10_252 wn_X10_mix ws_X10_mix wi_X10 wc_X10_mix) rfl rfl rfl hd_X10_mix ⟨Nat.le_of_ble_eq_true rfl, Nat.le_of_ble_eq_true rfl⟩) (zp_V hK hP hD hS hA hG (ci := 10) (q0 := 0) rfl rfl rfl) rfl rfl hl.1 rfl (lv_room (Nat.le_of_ble_eq_true rfl)) dX10_digest_166 ⟨Nat.le_of_ble_eq_true rfl, Nat.le_of_ble_eq_true rfl⟩) (fun w1 H locs hq9 hP hD hS => ?_)
      obtain ⟨h166_5, hv166_0, rfl⟩ := hq9
      have hP : va_P D vwCl (wM β δ ms mb mo mp mf mn mi mc mq mr w13_1 mk ml 0 ma mx h166_5) H := hP
      have hD : va_D A (wM β δ ms mb mo mp mf mn mi mc mq mr w13_1 mk ml 0 ma mx h166_5) := hD
      refine lv_aload_n hx hb dX10_digest_169 rfl (lv_at hl 1 rfl) ?_
      refine lv_bipush (v := zI 10) hx hb dX10_digest_170 (zI_b8 (by decide)) ?_
      refine z_callv hP hD hS hA (va_runV (As := [.int (zI 10)]) (rest := []) hC (c_X10_mixesLevel l D τ β δ ms mb mo mp mf mn mi mc mq mr w13_1 mk ml 0 ma mx h166_5 10 (by first | assumption | rfl | omega) (by first | assumption | rfl | omega) _) (cwV 1 hts (gV hB wl_X10_258 wn_X10_mixesLevel ws_X10_mixesLevel wi_X10 wc_X10_mixesLevel) rfl rfl rfl hd_X10_mixesLevel ⟨Nat.le_of_ble_eq_true rfl, Nat.le_of_ble_eq_true rfl⟩) (zp_V hK hP hD hS hA hG (ci := 10) (q0 := 0) rfl rfl rfl) rfl rfl hl.1 rfl (lv_room (Nat.le_of_ble_eq_true rfl)) dX10_digest_172 ⟨Nat.le_of_ble_eq_true rfl, Nat.le_of_ble_eq_true rfl⟩) (fun w1 H locs hq9 hP hD hS => ?_)
      obtain ⟨m172_6, c172_7, q172_8, r172_9, h172_10, hv172_0, rfl⟩ := hq9
      have hP : va_P D vwCl (wM β δ ms mb mo mp mf mn m172_6 c172_7 q172_8 r172_9 w13_1 mk ml 0 ma mx h172_10) H := hP
      have hD : va_D A (wM β δ ms mb mo mp mf mn m172_6 c172_7 q172_8 r172_9 w13_1 mk ml 0 ma mx h172_10) := hD
      refine lv_aload_n hx hb dX10_digest_175 rfl (lv_at hl 1 rfl) ?_
      refine lv_bipush (v := zI 30) hx hb dX10_digest_176 (zI_b8 (by decide)) ?_
      refine z_callv hP hD hS hA (va_runV (As := [.int (zI 30)]) (rest := []) hC (c_X10_mixesLevel l D τ β δ ms mb mo mp mf mn m172_6 c172_7 q172_8 r172_9 w13_1 mk ml 0 ma mx h172_10 30 (by first | assumption | rfl | omega) (by first | assumption | rfl | omega) _) (cwV 1 hts (gV hB wl_X10_258 wn_X10_mixesLevel ws_X10_mixesLevel wi_X10 wc_X10_mixesLevel) rfl rfl rfl hd_X10_mixesLevel ⟨Nat.le_of_ble_eq_true rfl, Nat.le_of_ble_eq_true rfl⟩) (zp_V hK hP hD hS hA hG (ci := 10) (q0 := 0) rfl rfl rfl) rfl rfl hl.1 rfl (lv_room (Nat.le_of_ble_eq_true rfl)) dX10_digest_178 ⟨Nat.le_of_ble_eq_true rfl, Nat.le_of_ble_eq_true rfl⟩) (fun w1 H locs hq9 hP hD hS => ?_)
      obtain ⟨m178_11, c178_12, q178_13, r178_14, h178_15, hv178_0, rfl⟩ := hq9
      have hP : va_P D vwCl (wM β δ ms mb mo mp mf mn m178_11 c178_12 q178_13 r178_14 w13_1 mk ml 0 ma mx h178_15) H := hP
      have hD : va_D A (wM β δ ms mb mo mp mf mn m178_11 c178_12 q178_13 r178_14 w13_1 mk ml 0 ma mx h178_15) := hD
      refine lv_aload_n hx hb dX10_digest_181 rfl (lv_at hl 1 rfl) ?_
      refine lv_bipush (v := zI 50) hx hb dX10_digest_182 (zI_b8 (by decide)) ?_
      refine z_callv hP hD hS hA (va_runV (As := [.int (zI 50)]) (rest := []) hC (c_X10_mixesLevel l D τ β δ ms mb mo mp mf mn m178_11 c178_12 q178_13 r178_14 w13_1 mk ml 0 ma mx h178_15 50 (by first | assumption | rfl | omega) (by first | assumption | rfl | omega) _) (cwV 1 hts (gV hB wl_X10_258 wn_X10_mixesLevel ws_X10_mixesLevel wi_X10 wc_X10_mixesLevel) rfl rfl rfl hd_X10_mixesLevel ⟨Nat.le_of_ble_eq_true rfl, Nat.le_of_ble_eq_true rfl⟩) (zp_V hK hP hD hS hA hG (ci := 10) (q0 := 0) rfl rfl rfl) rfl rfl hl.1 rfl (lv_room (Nat.le_of_ble_eq_true rfl)) dX10_digest_184 ⟨Nat.le_of_ble_eq_true rfl, Nat.le_of_ble_eq_true rfl⟩) (fun w1 H locs hq9 hP hD hS => ?_)
      obtain ⟨m184_16, c184_17, q184_18, r184_19, h184_20, hv184_0, rfl⟩ := hq9
      have hP : va_P D vwCl (wM β δ ms mb mo mp mf mn m184_16 c184_17 q184_18 r184_19 w13_1 mk ml 0 ma mx h184_20) H := hP
      have hD : va_D A (wM β δ ms mb mo mp mf mn m184_16 c184_17 q184_18 r184_19 w13_1 mk ml 0 ma mx h184_20) := hD
      refine lv_aload_n hx hb dX10_digest_187 rfl (lv_at hl 1 rfl) ?_
      refine lv_bipush (v := zI 70) hx hb dX10_digest_188 (zI_b8 (by decide)) ?_
      refine z_callv hP hD hS hA (va_runV (As := [.int (zI 70)]) (rest := []) hC (c_X10_mixesLevel l D τ β δ ms mb mo mp mf mn m184_16 c184_17 q184_18 r184_19 w13_1 mk ml 0 ma mx h184_20 70 (by first | assumption | rfl | omega) (by first | assumption | rfl | omega) _) (cwV 1 hts (gV hB wl_X10_258 wn_X10_mixesLevel ws_X10_mixesLevel wi_X10 wc_X10_mixesLevel) rfl rfl rfl hd_X10_mixesLevel ⟨Nat.le_of_ble_eq_true rfl, Nat.le_of_ble_eq_true rfl⟩) (zp_V hK hP hD hS hA hG (ci := 10) (q0 := 0) rfl rfl rfl) rfl rfl hl.1 rfl (lv_room (Nat.le_of_ble_eq_true rfl)) dX10_digest_190 ⟨Nat.le_of_ble_eq_true rfl, Nat.le_of_ble_eq_true rfl⟩) (fun w1 H locs hq9 hP hD hS => ?_)
      obtain ⟨m190_21, c190_22, q190_23, r190_24, h190_25, hv190_0, rfl⟩ := hq9
      have hP : va_P D vwCl (wM β δ ms mb mo mp mf mn m190_21 c190_22 q190_23 r190_24 w13_1 mk ml 0 ma mx h190_25) H := hP
      have hD : va_D A (wM β δ ms mb mo mp mf mn m190_21 c190_22 q190_23 r190_24 w13_1 mk ml 0 ma mx h190_25) := hD
      refine lv_aload_n hx hb dX10_digest_193 rfl (lv_at hl 1 rfl) ?_
      refine lv_aload_n hx hb dX10_digest_194 rfl (lv_at hl 1 rfl) ?_
      refine z_calli hP hD hS hA (va_runV (As := []) (rest := [.ref (β 0)]) hC (c_X10_allSinks l D τ β δ ms mb mo mp mf mn m190_21 c190_22 q190_23 r190_24 w13_1 mk ml 0 ma mx h190_25 (by first | assumption | rfl | omega) _) (cwV 0 hts (gV hB wl_X10_196 wn_X10_allSinks ws_X10_allSinks wi_X10 wc_X10_allSinks) rfl rfl rfl hd_X10_allSinks ⟨Nat.le_of_ble_eq_true rfl, Nat.le_of_ble_eq_true rfl⟩) (zp_V hK hP hD hS hA hG (ci := 10) (q0 := 0) rfl rfl rfl) rfl rfl hl.1 rfl (lv_room (Nat.le_of_ble_eq_true rfl)) dX10_digest_195 ⟨Nat.le_of_ble_eq_true rfl, Nat.le_of_ble_eq_true rfl⟩) (fun r w1 H locs hq9 hP hD hS => ?_)
      obtain ⟨v195_26, hv195_0, hv195_1, rfl, rfl⟩ := hq9
      have hP : va_P D vwCl (wM β δ ms mb mo mp mf mn m190_21 c190_22 q190_23 r190_24 w13_1 mk ml 0 ma mx h190_25) H := hP
      have hD : va_D A (wM β δ ms mb mo mp mf mn m190_21 c190_22 q190_23 r190_24 w13_1 mk ml 0 ma mx h190_25) := hD
      refine lv_i2l (v := zL v195_26) hx hb dX10_digest_198 (zL_of ⟨by omega, by omega⟩) ?_
      refine z_callv hP hD hS hA (va_runV (As := [.long (zL v195_26)]) (rest := []) hC (c_X10_mix l D τ β δ ms mb mo mp mf mn m190_21 c190_22 q190_23 r190_24 w13_1 mk ml 0 ma mx h190_25 (zL v195_26) _) (cwV 1 hts (gV hB wl_X10_252 wn_X10_mix ws_X10_mix wi_X10 wc_X10_mix) rfl rfl rfl hd_X10_mix ⟨Nat.le_of_ble_eq_true rfl, Nat.le_of_ble_eq_true rfl⟩) (zp_V hK hP hD hS hA hG (ci := 10) (q0 := 0) rfl rfl rfl) rfl rfl hl.1 rfl (lv_room (Nat.le_of_ble_eq_true rfl)) dX10_digest_199 ⟨Nat.le_of_ble_eq_true rfl, Nat.le_of_ble_eq_true rfl⟩) (fun w1 H locs hq9 hP hD hS => ?_)
      obtain ⟨h199_27, hv199_0, rfl⟩ := hq9
      have hP : va_P D vwCl (wM β δ ms mb mo mp mf mn m190_21 c190_22 q190_23 r190_24 w13_1 mk ml 0 ma mx h199_27) H := hP
      have hD : va_D A (wM β δ ms mb mo mp mf mn m190_21 c190_22 q190_23 r190_24 w13_1 mk ml 0 ma mx h199_27) := hD
      refine lv_aload_n hx hb dX10_digest_202 rfl (lv_at hl 1 rfl) ?_
      refine lv_aload_n hx hb dX10_digest_203 rfl (lv_at hl 1 rfl) ?_
      refine z_calli hP hD hS hA (va_runV (As := []) (rest := [.ref (β 0)]) hC (c_X10_greatest l D τ β δ ms mb mo mp mf mn m190_21 c190_22 q190_23 r190_24 w13_1 mk ml 0 ma mx h199_27 (by first | assumption | rfl | omega) _) (cwV 0 hts (gV hB wl_X10_199 wn_X10_greatest ws_X10_greatest wi_X10 wc_X10_greatest) rfl rfl rfl hd_X10_greatest ⟨Nat.le_of_ble_eq_true rfl, Nat.le_of_ble_eq_true rfl⟩) (zp_V hK hP hD hS hA hG (ci := 10) (q0 := 0) rfl rfl rfl) rfl rfl hl.1 rfl (lv_room (Nat.le_of_ble_eq_true rfl)) dX10_digest_204 ⟨Nat.le_of_ble_eq_true rfl, Nat.le_of_ble_eq_true rfl⟩) (fun r w1 H locs hq9 hP hD hS => ?_)
      obtain ⟨v204_28, hv204_0, hv204_1, rfl, rfl⟩ := hq9
      have hP : va_P D vwCl (wM β δ ms mb mo mp mf mn m190_21 c190_22 q190_23 r190_24 w13_1 mk ml 0 ma mx h199_27) H := hP
      have hD : va_D A (wM β δ ms mb mo mp mf mn m190_21 c190_22 q190_23 r190_24 w13_1 mk ml 0 ma mx h199_27) := hD
      refine lv_i2l (v := zL v204_28) hx hb dX10_digest_207 (zL_of ⟨by omega, by omega⟩) ?_
      refine z_callv hP hD hS hA (va_runV (As := [.long (zL v204_28)]) (rest := []) hC (c_X10_mix l D τ β δ ms mb mo mp mf mn m190_21 c190_22 q190_23 r190_24 w13_1 mk ml 0 ma mx h199_27 (zL v204_28) _) (cwV 1 hts (gV hB wl_X10_252 wn_X10_mix ws_X10_mix wi_X10 wc_X10_mix) rfl rfl rfl hd_X10_mix ⟨Nat.le_of_ble_eq_true rfl, Nat.le_of_ble_eq_true rfl⟩) (zp_V hK hP hD hS hA hG (ci := 10) (q0 := 0) rfl rfl rfl) rfl rfl hl.1 rfl (lv_room (Nat.le_of_ble_eq_true rfl)) dX10_digest_208 ⟨Nat.le_of_ble_eq_true rfl, Nat.le_of_ble_eq_true rfl⟩) (fun w1 H locs hq9 hP hD hS => ?_)
      obtain ⟨h208_29, hv208_0, rfl⟩ := hq9
      have hP : va_P D vwCl (wM β δ ms mb mo mp mf mn m190_21 c190_22 q190_23 r190_24 w13_1 mk ml 0 ma mx h208_29) H := hP
      have hD : va_D A (wM β δ ms mb mo mp mf mn m190_21 c190_22 q190_23 r190_24 w13_1 mk ml 0 ma mx h208_29) := hD
      refine lv_aload_n hx hb dX10_digest_211 rfl (lv_at hl 1 rfl) ?_
      refine lv_aload_n hx hb dX10_digest_212 rfl (lv_at hl 1 rfl) ?_
      refine z_calli hP hD hS hA (va_runV (As := []) (rest := [.ref (β 0)]) hC (c_X10_allWater l D τ β δ ms mb mo mp mf mn m190_21 c190_22 q190_23 r190_24 w13_1 mk ml 0 ma mx h208_29 (by first | assumption | rfl | omega) _) (cwV 0 hts (gV hB wl_X10_211 wn_X10_allWater ws_X10_allWater wi_X10 wc_X10_allWater) rfl rfl rfl hd_X10_allWater ⟨Nat.le_of_ble_eq_true rfl, Nat.le_of_ble_eq_true rfl⟩) (zp_V hK hP hD hS hA hG (ci := 10) (q0 := 0) rfl rfl rfl) rfl rfl hl.1 rfl (lv_room (Nat.le_of_ble_eq_true rfl)) dX10_digest_213 ⟨Nat.le_of_ble_eq_true rfl, Nat.le_of_ble_eq_true rfl⟩) (fun r w1 H locs hq9 hP hD hS => ?_)
      obtain ⟨w213_30, v213_31, hv213_0, hv213_1, rfl, rfl⟩ := hq9
      have hP : va_P D vwCl (wM β δ ms mb mo mp mf mn m190_21 c190_22 q190_23 r190_24 w213_30 mk ml 0 ma mx h208_29) H := hP
      have hD : va_D A (wM β δ ms mb mo mp mf mn m190_21 c190_22 q190_23 r190_24 w213_30 mk ml 0 ma mx h208_29) := hD
      refine lv_i2l (v := zL v213_31) hx hb dX10_digest_216 (zL_of ⟨by omega, by omega⟩) ?_
      refine z_callv hP hD hS hA (va_runV (As := [.long (zL v213_31)]) (rest := []) hC (c_X10_mix l D τ β δ ms mb mo mp mf mn m190_21 c190_22 q190_23 r190_24 w213_30 mk ml 0 ma mx h208_29 (zL v213_31) _) (cwV 1 hts (gV hB wl_X10_252 wn_X10_mix ws_X10_mix wi_X10 wc_X10_mix) rfl rfl rfl hd_X10_mix ⟨Nat.le_of_ble_eq_true rfl, Nat.le_of_ble_eq_true rfl⟩) (zp_V hK hP hD hS hA hG (ci := 10) (q0 := 0) rfl rfl rfl) rfl rfl hl.1 rfl (lv_room (Nat.le_of_ble_eq_true rfl)) dX10_digest_217 ⟨Nat.le_of_ble_eq_true rfl, Nat.le_of_ble_eq_true rfl⟩) (fun w1 H locs hq9 hP hD hS => ?_)
      obtain ⟨h217_32, hv217_0, rfl⟩ := hq9
      have hP : va_P D vwCl (wM β δ ms mb mo mp mf mn m190_21 c190_22 q190_23 r190_24 w213_30 mk ml 0 ma mx h217_32) H := hP
      have hD : va_D A (wM β δ ms mb mo mp mf mn m190_21 c190_22 q190_23 r190_24 w213_30 mk ml 0 ma mx h217_32) := hD
      refine lv_aload_n hx hb dX10_digest_220 rfl (lv_at hl 1 rfl) ?_
      refine lv_aload_n hx hb dX10_digest_221 rfl (lv_at hl 1 rfl) ?_
      refine z_calli hP hD hS hA (va_runV (As := []) (rest := [.ref (β 0)]) hC (c_X10_allPonds l D τ β δ ms mb mo mp mf mn m190_21 c190_22 q190_23 r190_24 w213_30 mk ml 0 ma mx h217_32 (by first | assumption | rfl | omega) _) (cwV 0 hts (gV hB wl_X10_214 wn_X10_allPonds ws_X10_allPonds wi_X10 wc_X10_allPonds) rfl rfl rfl hd_X10_allPonds ⟨Nat.le_of_ble_eq_true rfl, Nat.le_of_ble_eq_true rfl⟩) (zp_V hK hP hD hS hA hG (ci := 10) (q0 := 0) rfl rfl rfl) rfl rfl hl.1 rfl (lv_room (Nat.le_of_ble_eq_true rfl)) dX10_digest_222 ⟨Nat.le_of_ble_eq_true rfl, Nat.le_of_ble_eq_true rfl⟩) (fun r w1 H locs hq9 hP hD hS => ?_)
      obtain ⟨w222_33, r222_34, v222_35, hv222_0, hv222_1, rfl, rfl⟩ := hq9
      have hP : va_P D vwCl (wM β δ ms mb mo mp mf mn m190_21 c190_22 q190_23 r222_34 w222_33 mk ml 0 ma mx h217_32) H := hP
      have hD : va_D A (wM β δ ms mb mo mp mf mn m190_21 c190_22 q190_23 r222_34 w222_33 mk ml 0 ma mx h217_32) := hD
      refine lv_i2l (v := zL v222_35) hx hb dX10_digest_225 (zL_of ⟨by omega, by omega⟩) ?_
      refine z_callv hP hD hS hA (va_runV (As := [.long (zL v222_35)]) (rest := []) hC (c_X10_mix l D τ β δ ms mb mo mp mf mn m190_21 c190_22 q190_23 r222_34 w222_33 mk ml 0 ma mx h217_32 (zL v222_35) _) (cwV 1 hts (gV hB wl_X10_252 wn_X10_mix ws_X10_mix wi_X10 wc_X10_mix) rfl rfl rfl hd_X10_mix ⟨Nat.le_of_ble_eq_true rfl, Nat.le_of_ble_eq_true rfl⟩) (zp_V hK hP hD hS hA hG (ci := 10) (q0 := 0) rfl rfl rfl) rfl rfl hl.1 rfl (lv_room (Nat.le_of_ble_eq_true rfl)) dX10_digest_226 ⟨Nat.le_of_ble_eq_true rfl, Nat.le_of_ble_eq_true rfl⟩) (fun w1 H locs hq9 hP hD hS => ?_)
      obtain ⟨h226_36, hv226_0, rfl⟩ := hq9
      have hP : va_P D vwCl (wM β δ ms mb mo mp mf mn m190_21 c190_22 q190_23 r222_34 w222_33 mk ml 0 ma mx h226_36) H := hP
      have hD : va_D A (wM β δ ms mb mo mp mf mn m190_21 c190_22 q190_23 r222_34 w222_33 mk ml 0 ma mx h226_36) := hD
      refine lv_aload_n hx hb dX10_digest_229 rfl (lv_at hl 1 rfl) ?_
      refine lv_aload_n hx hb dX10_digest_230 rfl (lv_at hl 1 rfl) ?_
      refine z_calli hP hD hS hA (va_runV (As := []) (rest := [.ref (β 0)]) hC (c_X10_outlook l D τ β δ ms mb mo mp mf mn m190_21 c190_22 q190_23 r222_34 w222_33 mk ml 0 ma mx h226_36 (by first | assumption | rfl | omega) _) (cwV 0 hts (gV hB wl_X10_233 wn_X10_outlook ws_X10_outlook wi_X10 wc_X10_outlook) rfl rfl rfl hd_X10_outlook ⟨Nat.le_of_ble_eq_true rfl, Nat.le_of_ble_eq_true rfl⟩) (zp_V hK hP hD hS hA hG (ci := 10) (q0 := 0) rfl rfl rfl) rfl rfl hl.1 rfl (lv_room (Nat.le_of_ble_eq_true rfl)) dX10_digest_231 ⟨Nat.le_of_ble_eq_true rfl, Nat.le_of_ble_eq_true rfl⟩) (fun r w1 H locs hq9 hP hD hS => ?_)
      obtain ⟨v231_37, hv231_0, hv231_1, rfl, rfl⟩ := hq9
      have hP : va_P D vwCl (wM β δ ms mb mo mp mf mn m190_21 c190_22 q190_23 r222_34 w222_33 mk ml 0 ma mx h226_36) H := hP
      have hD : va_D A (wM β δ ms mb mo mp mf mn m190_21 c190_22 q190_23 r222_34 w222_33 mk ml 0 ma mx h226_36) := hD
      refine lv_i2l (v := zL v231_37) hx hb dX10_digest_234 (zL_of ⟨by omega, by omega⟩) ?_
      refine z_callv hP hD hS hA (va_runV (As := [.long (zL v231_37)]) (rest := []) hC (c_X10_mix l D τ β δ ms mb mo mp mf mn m190_21 c190_22 q190_23 r222_34 w222_33 mk ml 0 ma mx h226_36 (zL v231_37) _) (cwV 1 hts (gV hB wl_X10_252 wn_X10_mix ws_X10_mix wi_X10 wc_X10_mix) rfl rfl rfl hd_X10_mix ⟨Nat.le_of_ble_eq_true rfl, Nat.le_of_ble_eq_true rfl⟩) (zp_V hK hP hD hS hA hG (ci := 10) (q0 := 0) rfl rfl rfl) rfl rfl hl.1 rfl (lv_room (Nat.le_of_ble_eq_true rfl)) dX10_digest_235 ⟨Nat.le_of_ble_eq_true rfl, Nat.le_of_ble_eq_true rfl⟩) (fun w1 H locs hq9 hP hD hS => ?_)
      obtain ⟨h235_38, hv235_0, rfl⟩ := hq9
      have hP : va_P D vwCl (wM β δ ms mb mo mp mf mn m190_21 c190_22 q190_23 r222_34 w222_33 mk ml 0 ma mx h235_38) H := hP
      have hD : va_D A (wM β δ ms mb mo mp mf mn m190_21 c190_22 q190_23 r222_34 w222_33 mk ml 0 ma mx h235_38) := hD
      refine lv_aload_n hx hb dX10_digest_238 rfl (lv_at hl 1 rfl) ?_
      refine lv_aload_n hx hb dX10_digest_239 rfl (lv_at hl 1 rfl) ?_
      refine va_get (D := D) (ci := 10) (v := .int (zI mk)) (C := RX10) (T := TX10) (N := 17) hx hb hts (fun w h => List.mem_cons_of_mem _ (wx_X10 w h)) hown hK hP 0 rfl rfl 2 (by decide) (hW0 _ wf_X10_52) (fun _ h9 => h9) rfl dX10_digest_240 ?_
      refine lv_i2l (v := zL mk) hx hb dX10_digest_243 (zL_of ⟨by omega, by omega⟩) ?_
      refine z_callv hP hD hS hA (va_runV (As := [.long (zL mk)]) (rest := []) hC (c_X10_mix l D τ β δ ms mb mo mp mf mn m190_21 c190_22 q190_23 r222_34 w222_33 mk ml 0 ma mx h235_38 (zL mk) _) (cwV 1 hts (gV hB wl_X10_252 wn_X10_mix ws_X10_mix wi_X10 wc_X10_mix) rfl rfl rfl hd_X10_mix ⟨Nat.le_of_ble_eq_true rfl, Nat.le_of_ble_eq_true rfl⟩) (zp_V hK hP hD hS hA hG (ci := 10) (q0 := 0) rfl rfl rfl) rfl rfl hl.1 rfl (lv_room (Nat.le_of_ble_eq_true rfl)) dX10_digest_244 ⟨Nat.le_of_ble_eq_true rfl, Nat.le_of_ble_eq_true rfl⟩) (fun w1 H locs hq9 hP hD hS => ?_)
      obtain ⟨h244_39, hv244_0, rfl⟩ := hq9
      have hP : va_P D vwCl (wM β δ ms mb mo mp mf mn m190_21 c190_22 q190_23 r222_34 w222_33 mk ml 0 ma mx h244_39) H := hP
      have hD : va_D A (wM β δ ms mb mo mp mf mn m190_21 c190_22 q190_23 r222_34 w222_33 mk ml 0 ma mx h244_39) := hD
      refine lv_aload_n hx hb dX10_digest_247 rfl (lv_at hl 1 rfl) ?_
      refine lv_aload_n hx hb dX10_digest_248 rfl (lv_at hl 1 rfl) ?_
      have hdr := S_dsum_b hms
      refine z_calld hP hD hS hA (va_runV (As := []) (rest := [.ref (β 0)]) hC (c_X10_mean l D τ β δ ms mb mo mp mf mn m190_21 c190_22 q190_23 r222_34 w222_33 mk ml 0 ma mx h244_39 (by first | assumption | rfl | omega) _) (cwV 0 hts (gV hB wl_X10_238 wn_X10_mean ws_X10_mean wi_X10 wc_X10_mean) rfl rfl rfl hd_X10_mean ⟨Nat.le_of_ble_eq_true rfl, Nat.le_of_ble_eq_true rfl⟩) (zp_V hK hP hD hS hA hG (ci := 10) (q0 := 0) rfl rfl rfl) rfl rfl hl.1 rfl (lv_room (Nat.le_of_ble_eq_true rfl)) dX10_digest_249 ⟨Nat.le_of_ble_eq_true rfl, Nat.le_of_ble_eq_true rfl⟩) (fun r w1 H locs hq9 hP hD hS => ?_)
      obtain ⟨v249_40, hv249_0, rfl, rfl⟩ := hq9
      have hP : va_P D vwCl (wM β δ ms mb mo mp mf mn m190_21 c190_22 q190_23 r222_34 w222_33 mk ml 0 ma mx h244_39) H := hP
      have hD : va_D A (wM β δ ms mb mo mp mf mn m190_21 c190_22 q190_23 r222_34 w222_33 mk ml 0 ma mx h244_39) := hD
      refine lv_bipush (v := zI 52) hx hb dX10_digest_252 (zI_b8 (by decide)) ?_
      refine lv_sipush (v := zI 1023) hx hb dX10_digest_254 (zI_b16 (by decide)) ?_
      refine z_calll hP hD hS hA (va_runS (As := [.double v249_40, .int (zI 52), .int (zI 1023)]) (rest := [.ref (β 0)]) hC (c_X10_bitsOf l D τ _ _ v249_40 52 1023 (by rw [hv249_0]; exact dmean_DOK hdr) (by rfl) (by rfl) _) (va_cwS 3 hts (gS hB wl_X10_261 wt_X10_bitsOf wi_X10 wc_X10_bitsOf) rfl rfl rfl hd_X10_bitsOf.2 ⟨Nat.le_of_ble_eq_true rfl, Nat.le_of_ble_eq_true rfl⟩) (zp_S hK hP hD hS hA hG) rfl rfl hl.1 rfl (lv_room (Nat.le_of_ble_eq_true rfl)) dX10_digest_257 ⟨Nat.le_of_ble_eq_true rfl, Nat.le_of_ble_eq_true rfl⟩) (fun r w1 H locs hq9 hP hD hS => ?_)
      obtain ⟨v257_41, hv257_0, rfl, rfl⟩ := hq9
      refine z_callv hP hD hS hA (va_runV (As := [.long v257_41]) (rest := []) hC (c_X10_mix l D τ β δ ms mb mo mp mf mn m190_21 c190_22 q190_23 r222_34 w222_33 mk ml 0 ma mx h244_39 v257_41 _) (cwV 1 hts (gV hB wl_X10_252 wn_X10_mix ws_X10_mix wi_X10 wc_X10_mix) rfl rfl rfl hd_X10_mix ⟨Nat.le_of_ble_eq_true rfl, Nat.le_of_ble_eq_true rfl⟩) (zp_V hK hP hD hS hA hG (ci := 10) (q0 := 0) rfl rfl rfl) rfl rfl hl.1 rfl (lv_room (Nat.le_of_ble_eq_true rfl)) dX10_digest_260 ⟨Nat.le_of_ble_eq_true rfl, Nat.le_of_ble_eq_true rfl⟩) (fun w1 H locs hq9 hP hD hS => ?_)
      obtain ⟨h260_42, hv260_0, rfl⟩ := hq9
      have hP : va_P D vwCl (wM β δ ms mb mo mp mf mn m190_21 c190_22 q190_23 r222_34 w222_33 mk ml 0 ma mx h260_42) H := hP
      have hD : va_D A (wM β δ ms mb mo mp mf mn m190_21 c190_22 q190_23 r222_34 w222_33 mk ml 0 ma mx h260_42) := hD
      refine lv_aload_n hx hb dX10_digest_263 rfl (lv_at hl 1 rfl) ?_
      refine lv_aload_n hx hb dX10_digest_264 rfl (lv_at hl 1 rfl) ?_
      refine va_get (D := D) (ci := 10) (v := .ref (β 4)) (C := RX10) (T := TX10) (N := 17) hx hb hts (fun w h => List.mem_cons_of_mem _ (wx_X10 w h)) hown hK hP 0 rfl rfl 4 (by decide) (hW0 _ wf_X10_19) (fun _ h9 => h9) rfl dX10_digest_265 ?_
      refine lv_iconst (v := zI 0) hx hb dX10_digest_268 rfl ?_
      refine z_zald (f := mp) hx hb hK hP 4 3 rfl rfl ⟨⟨by omega, by omega⟩, by decide⟩ dX10_digest_269 ?_
      refine z_ifeqB (tgt := 277) hx hb dX10_digest_270 (by decide) (fun c_270 => ?_) (fun c_270 => ?_)
      · refine lv_lconst (v := zL 0) hx hb dX10_digest_277 rfl ?_
        refine z_callv hP hD hS hA (va_runV (As := [.long (zL 0)]) (rest := []) hC (c_X10_mix l D τ β δ ms mb mo mp mf mn m190_21 c190_22 q190_23 r222_34 w222_33 mk ml 0 ma mx h260_42 (zL 0) _) (cwV 1 hts (gV hB wl_X10_252 wn_X10_mix ws_X10_mix wi_X10 wc_X10_mix) rfl rfl rfl hd_X10_mix ⟨Nat.le_of_ble_eq_true rfl, Nat.le_of_ble_eq_true rfl⟩) (zp_V hK hP hD hS hA hG (ci := 10) (q0 := 0) rfl rfl rfl) rfl rfl hl.1 rfl (lv_room (Nat.le_of_ble_eq_true rfl)) dX10_digest_278 ⟨Nat.le_of_ble_eq_true rfl, Nat.le_of_ble_eq_true rfl⟩) (fun w1 H locs hq9 hP hD hS => ?_)
        obtain ⟨h278_43, hv278_0, rfl⟩ := hq9
        have hP : va_P D vwCl (wM β δ ms mb mo mp mf mn m190_21 c190_22 q190_23 r222_34 w222_33 mk ml 0 ma mx h278_43) H := hP
        have hD : va_D A (wM β δ ms mb mo mp mf mn m190_21 c190_22 q190_23 r222_34 w222_33 mk ml 0 ma mx h278_43) := hD
        refine lv_aload_n hx hb dX10_digest_281 rfl (lv_at hl 1 rfl) ?_
        refine lv_aload_n hx hb dX10_digest_282 rfl (lv_at hl 1 rfl) ?_
        refine va_get (D := D) (ci := 10) (v := .ref (β 4)) (C := RX10) (T := TX10) (N := 17) hx hb hts (fun w h => List.mem_cons_of_mem _ (wx_X10 w h)) hown hK hP 0 rfl rfl 4 (by decide) (hW0 _ wf_X10_19) (fun _ h9 => h9) rfl dX10_digest_283 ?_
        refine lv_iconst (v := zI 1) hx hb dX10_digest_286 rfl ?_
        refine z_zald (f := mp) hx hb hK hP 4 3 rfl rfl ⟨⟨by omega, by omega⟩, by decide⟩ dX10_digest_287 ?_
        refine z_ifeqB (tgt := 295) hx hb dX10_digest_288 (by decide) (fun c_288 => ?_) (fun c_288 => ?_)
        · refine lv_lconst (v := zL 0) hx hb dX10_digest_295 rfl ?_
          refine z_callv hP hD hS hA (va_runV (As := [.long (zL 0)]) (rest := []) hC (c_X10_mix l D τ β δ ms mb mo mp mf mn m190_21 c190_22 q190_23 r222_34 w222_33 mk ml 0 ma mx h278_43 (zL 0) _) (cwV 1 hts (gV hB wl_X10_252 wn_X10_mix ws_X10_mix wi_X10 wc_X10_mix) rfl rfl rfl hd_X10_mix ⟨Nat.le_of_ble_eq_true rfl, Nat.le_of_ble_eq_true rfl⟩) (zp_V hK hP hD hS hA hG (ci := 10) (q0 := 0) rfl rfl rfl) rfl rfl hl.1 rfl (lv_room (Nat.le_of_ble_eq_true rfl)) dX10_digest_296 ⟨Nat.le_of_ble_eq_true rfl, Nat.le_of_ble_eq_true rfl⟩) (fun w1 H locs hq9 hP hD hS => ?_)
          obtain ⟨h296_44, hv296_0, rfl⟩ := hq9
          have hP : va_P D vwCl (wM β δ ms mb mo mp mf mn m190_21 c190_22 q190_23 r222_34 w222_33 mk ml 0 ma mx h296_44) H := hP
          have hD : va_D A (wM β δ ms mb mo mp mf mn m190_21 c190_22 q190_23 r222_34 w222_33 mk ml 0 ma mx h296_44) := hD
          refine lv_aload_n hx hb dX10_digest_299 rfl (lv_at hl 1 rfl) ?_
          refine lv_aload_n hx hb dX10_digest_300 rfl (lv_at hl 1 rfl) ?_
          refine va_get (D := D) (ci := 10) (v := .int (zI ml)) (C := RX10) (T := TX10) (N := 17) hx hb hts (fun w h => List.mem_cons_of_mem _ (wx_X10 w h)) hown hK hP 0 rfl rfl 6 (by decide) (hW0 _ wf_X10_96) (fun _ h9 => h9) rfl dX10_digest_301 ?_
          refine lv_i2l (v := zL ml) hx hb dX10_digest_304 (zL_of ⟨by omega, by omega⟩) ?_
          refine z_callv hP hD hS hA (va_runV (As := [.long (zL ml)]) (rest := []) hC (c_X10_mix l D τ β δ ms mb mo mp mf mn m190_21 c190_22 q190_23 r222_34 w222_33 mk ml 0 ma mx h296_44 (zL ml) _) (cwV 1 hts (gV hB wl_X10_252 wn_X10_mix ws_X10_mix wi_X10 wc_X10_mix) rfl rfl rfl hd_X10_mix ⟨Nat.le_of_ble_eq_true rfl, Nat.le_of_ble_eq_true rfl⟩) (zp_V hK hP hD hS hA hG (ci := 10) (q0 := 0) rfl rfl rfl) rfl rfl hl.1 rfl (lv_room (Nat.le_of_ble_eq_true rfl)) dX10_digest_305 ⟨Nat.le_of_ble_eq_true rfl, Nat.le_of_ble_eq_true rfl⟩) (fun w1 H locs hq9 hP hD hS => ?_)
          obtain ⟨h305_45, hv305_0, rfl⟩ := hq9
          have hP : va_P D vwCl (wM β δ ms mb mo mp mf mn m190_21 c190_22 q190_23 r222_34 w222_33 mk ml 0 ma mx h305_45) H := hP
          have hD : va_D A (wM β δ ms mb mo mp mf mn m190_21 c190_22 q190_23 r222_34 w222_33 mk ml 0 ma mx h305_45) := hD
          obtain ⟨hH, hhH⟩ : ∃ z : Int64, z = h305_45 := ⟨_, rfl⟩
          refine lv_iconst (v := zI 0) hx hb dX10_digest_308 rfl ?_
          refine lv_istore_n (lv' := [(1, .int (zI 0)), (0, .ref (β 0))]) hx hb dX10_digest_309 rfl hl (by decide) rfl (fun ls hl => ?_)
          suffices HL_310 : ∀ (n_310 : Nat), ∀ (h3 : Int64) (j : Int) (H : Heap) (locs : List Loc) (hP : va_P D vwCl (wM β δ ms mb mo mp mf mn m190_21 c190_22 q190_23 r222_34 w222_33 mk ml 0 ma mx h3) H) (hD : va_D A (wM β δ ms mb mo mp mf mn m190_21 c190_22 q190_23 r222_34 w222_33 mk ml 0 ma mx h3)) (hS : va_S A s.heap H locs) (ls : Array Slot) (hl : lv_has ls 2 [(1, .int (zI j)), (0, .ref (β 0))]) (hj : 0 ≤ j ∧ j ≤ ml) (hh3 : h3 = itI (fun k x => mixI x (mf k)) j hH) (hm : (ml - j).toNat < n_310), W pg l e rm_X10_digest s m args below meth c H locs 0 0 Q (F0 m 310 ls []) from HL_310 _ h305_45 0 _ _ hP hD hS _ (lv_sub hl [0, 1] rfl) (by first | assumption | rfl | omega) (by rw [hhH]; exact (itI_0 _ _).symm) (Nat.lt_succ_self _)
          intro n_310
          induction n_310 with
          | zero => intro h3 j H locs hP hD hS ls hl hj hh3 hm; exact absurd hm (Nat.not_lt_zero _)
          | succ n_310 ih_310 =>
            intro h3 j H locs hP hD hS ls hl hj hh3 hm
            refine lv_iload_n hx hb dX10_digest_310 rfl (lv_at hl 0 rfl) ?_
            refine lv_aload_n hx hb dX10_digest_311 rfl (lv_at hl 1 rfl) ?_
            refine va_get (D := D) (ci := 10) (v := .int (zI ml)) (C := RX10) (T := TX10) (N := 17) hx hb hts (fun w h => List.mem_cons_of_mem _ (wx_X10 w h)) hown hK hP 0 rfl rfl 6 (by decide) (hW0 _ wf_X10_96) (fun _ h9 => h9) rfl dX10_digest_312 ?_
            refine z_icge (tgt := 335) hx hb ⟨by omega, by omega⟩ ⟨by omega, by omega⟩ dX10_digest_315 (by decide) (fun c_315 => ?_) (fun c_315 => ?_)
            · refine lv_aload_n hx hb dX10_digest_335 rfl (lv_at hl 1 rfl) ?_
              refine va_get (D := D) (ci := 10) (v := .long h3) (C := RX10) (T := TX10) (N := 17) hx hb hts (fun w h => List.mem_cons_of_mem _ (wx_X10 w h)) hown hK hP 0 rfl rfl 16 (by decide) (hW0 _ wf_X10_248) (fun _ h9 => h9) rfl dX10_digest_336 ?_
              exact z_lret hC hr hlk hQ hP hD hS ⟨w222_33, m190_21, c190_22, q190_23, r222_34, h3, h3, (by rw [hh3, show j = ml by omega, hhH]; unfold S_dig S_dmid mixI; rw [hv305_0, hv296_0, hv278_0, hv260_0, hv257_0, hv249_0, hv244_0, hv235_0, hv231_0, hv226_0, hv222_0, hv217_0, hv213_0, hv208_0, hv204_0, hv199_0, hv195_0, hv190_0, hv184_0, hv178_0, hv172_0, hv166_0, hv162_0, hv157_0, hv153_0, hh1, show i = 49 by omega, c_270, c_288]; first | done | rfl), rfl, rfl⟩ dX10_digest_339
            · refine lv_aload_n hx hb dX10_digest_318 rfl (lv_at hl 1 rfl) ?_
              refine lv_aload_n hx hb dX10_digest_319 rfl (lv_at hl 1 rfl) ?_
              refine va_get (D := D) (ci := 10) (v := .ref (β 5)) (C := RX10) (T := TX10) (N := 17) hx hb hts (fun w h => List.mem_cons_of_mem _ (wx_X10 w h)) hown hK hP 0 rfl rfl 5 (by decide) (hW0 _ wf_X10_23) (fun _ h9 => h9) rfl dX10_digest_320 ?_
              refine lv_iload_n hx hb dX10_digest_323 rfl (lv_at hl 0 rfl) ?_
              refine z_iald (f := mf) hx hb hK hP 5 4 rfl rfl ⟨⟨by omega, by omega⟩, by decide⟩ dX10_digest_324 ?_
              have hb_324 := hmf j (by omega) (by omega)
              refine lv_i2l (v := zL (mf j)) hx hb dX10_digest_325 (zL_of ⟨by omega, by omega⟩) ?_
              refine z_callv hP hD hS hA (va_runV (As := [.long (zL (mf j))]) (rest := []) hC (c_X10_mix l D τ β δ ms mb mo mp mf mn m190_21 c190_22 q190_23 r222_34 w222_33 mk ml 0 ma mx h3 (zL (mf j)) _) (cwV 1 hts (gV hB wl_X10_252 wn_X10_mix ws_X10_mix wi_X10 wc_X10_mix) rfl rfl rfl hd_X10_mix ⟨Nat.le_of_ble_eq_true rfl, Nat.le_of_ble_eq_true rfl⟩) (zp_V hK hP hD hS hA hG (ci := 10) (q0 := 0) rfl rfl rfl) rfl rfl hl.1 rfl (lv_room (Nat.le_of_ble_eq_true rfl)) dX10_digest_326 ⟨Nat.le_of_ble_eq_true rfl, Nat.le_of_ble_eq_true rfl⟩) (fun w1 H locs hq9 hP hD hS => ?_)
              obtain ⟨h326_46, hv326_0, rfl⟩ := hq9
              have hP : va_P D vwCl (wM β δ ms mb mo mp mf mn m190_21 c190_22 q190_23 r222_34 w222_33 mk ml 0 ma mx h326_46) H := hP
              have hD : va_D A (wM β δ ms mb mo mp mf mn m190_21 c190_22 q190_23 r222_34 w222_33 mk ml 0 ma mx h326_46) := hD
              refine z_iinc (k := 0) (v := j + 1) (lv' := [(1, .int (zI (j + 1))), (0, .ref (β 0))]) hx hb dX10_digest_329 hl rfl rfl (by decide) rfl (fun ls hl => ?_)
              refine lv_goto (tgt := 310) hx hb dX10_digest_332 (by decide) ?_
              exact ih_310 h326_46 (j + 1) _ _ hP hD hS _ (lv_sub hl [0, 1] rfl) (by first | assumption | rfl | omega) (by rw [hv326_0, hh3, itI_up hj.1]; rfl) (by omega)
        · refine lv_lconst (v := zL 1) hx hb dX10_digest_291 rfl ?_
          refine lv_goto (tgt := 296) hx hb dX10_digest_292 (by decide) ?_
          refine z_callv hP hD hS hA (va_runV (As := [.long (zL 1)]) (rest := []) hC (c_X10_mix l D τ β δ ms mb mo mp mf mn m190_21 c190_22 q190_23 r222_34 w222_33 mk ml 0 ma mx h278_43 (zL 1) _) (cwV 1 hts (gV hB wl_X10_252 wn_X10_mix ws_X10_mix wi_X10 wc_X10_mix) rfl rfl rfl hd_X10_mix ⟨Nat.le_of_ble_eq_true rfl, Nat.le_of_ble_eq_true rfl⟩) (zp_V hK hP hD hS hA hG (ci := 10) (q0 := 0) rfl rfl rfl) rfl rfl hl.1 rfl (lv_room (Nat.le_of_ble_eq_true rfl)) dX10_digest_296 ⟨Nat.le_of_ble_eq_true rfl, Nat.le_of_ble_eq_true rfl⟩) (fun w1 H locs hq9 hP hD hS => ?_)
          obtain ⟨h296_47, hv296_0, rfl⟩ := hq9
          have hP : va_P D vwCl (wM β δ ms mb mo mp mf mn m190_21 c190_22 q190_23 r222_34 w222_33 mk ml 0 ma mx h296_47) H := hP
          have hD : va_D A (wM β δ ms mb mo mp mf mn m190_21 c190_22 q190_23 r222_34 w222_33 mk ml 0 ma mx h296_47) := hD
          refine lv_aload_n hx hb dX10_digest_299 rfl (lv_at hl 1 rfl) ?_
          refine lv_aload_n hx hb dX10_digest_300 rfl (lv_at hl 1 rfl) ?_
          refine va_get (D := D) (ci := 10) (v := .int (zI ml)) (C := RX10) (T := TX10) (N := 17) hx hb hts (fun w h => List.mem_cons_of_mem _ (wx_X10 w h)) hown hK hP 0 rfl rfl 6 (by decide) (hW0 _ wf_X10_96) (fun _ h9 => h9) rfl dX10_digest_301 ?_
          refine lv_i2l (v := zL ml) hx hb dX10_digest_304 (zL_of ⟨by omega, by omega⟩) ?_
          refine z_callv hP hD hS hA (va_runV (As := [.long (zL ml)]) (rest := []) hC (c_X10_mix l D τ β δ ms mb mo mp mf mn m190_21 c190_22 q190_23 r222_34 w222_33 mk ml 0 ma mx h296_47 (zL ml) _) (cwV 1 hts (gV hB wl_X10_252 wn_X10_mix ws_X10_mix wi_X10 wc_X10_mix) rfl rfl rfl hd_X10_mix ⟨Nat.le_of_ble_eq_true rfl, Nat.le_of_ble_eq_true rfl⟩) (zp_V hK hP hD hS hA hG (ci := 10) (q0 := 0) rfl rfl rfl) rfl rfl hl.1 rfl (lv_room (Nat.le_of_ble_eq_true rfl)) dX10_digest_305 ⟨Nat.le_of_ble_eq_true rfl, Nat.le_of_ble_eq_true rfl⟩) (fun w1 H locs hq9 hP hD hS => ?_)
          obtain ⟨h305_48, hv305_0, rfl⟩ := hq9
          have hP : va_P D vwCl (wM β δ ms mb mo mp mf mn m190_21 c190_22 q190_23 r222_34 w222_33 mk ml 0 ma mx h305_48) H := hP
          have hD : va_D A (wM β δ ms mb mo mp mf mn m190_21 c190_22 q190_23 r222_34 w222_33 mk ml 0 ma mx h305_48) := hD
          obtain ⟨hH, hhH⟩ : ∃ z : Int64, z = h305_48 := ⟨_, rfl⟩
          refine lv_iconst (v := zI 0) hx hb dX10_digest_308 rfl ?_
          refine lv_istore_n (lv' := [(1, .int (zI 0)), (0, .ref (β 0))]) hx hb dX10_digest_309 rfl hl (by decide) rfl (fun ls hl => ?_)
          suffices HL_310 : ∀ (n_310 : Nat), ∀ (h3 : Int64) (j : Int) (H : Heap) (locs : List Loc) (hP : va_P D vwCl (wM β δ ms mb mo mp mf mn m190_21 c190_22 q190_23 r222_34 w222_33 mk ml 0 ma mx h3) H) (hD : va_D A (wM β δ ms mb mo mp mf mn m190_21 c190_22 q190_23 r222_34 w222_33 mk ml 0 ma mx h3)) (hS : va_S A s.heap H locs) (ls : Array Slot) (hl : lv_has ls 2 [(1, .int (zI j)), (0, .ref (β 0))]) (hj : 0 ≤ j ∧ j ≤ ml) (hh3 : h3 = itI (fun k x => mixI x (mf k)) j hH) (hm : (ml - j).toNat < n_310), W pg l e rm_X10_digest s m args below meth c H locs 0 0 Q (F0 m 310 ls []) from HL_310 _ h305_48 0 _ _ hP hD hS _ (lv_sub hl [0, 1] rfl) (by first | assumption | rfl | omega) (by rw [hhH]; exact (itI_0 _ _).symm) (Nat.lt_succ_self _)
          intro n_310
          induction n_310 with
          | zero => intro h3 j H locs hP hD hS ls hl hj hh3 hm; exact absurd hm (Nat.not_lt_zero _)
          | succ n_310 ih_310 =>
            intro h3 j H locs hP hD hS ls hl hj hh3 hm
            refine lv_iload_n hx hb dX10_digest_310 rfl (lv_at hl 0 rfl) ?_
            refine lv_aload_n hx hb dX10_digest_311 rfl (lv_at hl 1 rfl) ?_
            refine va_get (D := D) (ci := 10) (v := .int (zI ml)) (C := RX10) (T := TX10) (N := 17) hx hb hts (fun w h => List.mem_cons_of_mem _ (wx_X10 w h)) hown hK hP 0 rfl rfl 6 (by decide) (hW0 _ wf_X10_96) (fun _ h9 => h9) rfl dX10_digest_312 ?_
            refine z_icge (tgt := 335) hx hb ⟨by omega, by omega⟩ ⟨by omega, by omega⟩ dX10_digest_315 (by decide) (fun c_315 => ?_) (fun c_315 => ?_)
            · refine lv_aload_n hx hb dX10_digest_335 rfl (lv_at hl 1 rfl) ?_
              refine va_get (D := D) (ci := 10) (v := .long h3) (C := RX10) (T := TX10) (N := 17) hx hb hts (fun w h => List.mem_cons_of_mem _ (wx_X10 w h)) hown hK hP 0 rfl rfl 16 (by decide) (hW0 _ wf_X10_248) (fun _ h9 => h9) rfl dX10_digest_336 ?_
              exact z_lret hC hr hlk hQ hP hD hS ⟨w222_33, m190_21, c190_22, q190_23, r222_34, h3, h3, (by rw [hh3, show j = ml by omega, hhH]; unfold S_dig S_dmid mixI; rw [hv305_0, hv296_0, hv278_0, hv260_0, hv257_0, hv249_0, hv244_0, hv235_0, hv231_0, hv226_0, hv222_0, hv217_0, hv213_0, hv208_0, hv204_0, hv199_0, hv195_0, hv190_0, hv184_0, hv178_0, hv172_0, hv166_0, hv162_0, hv157_0, hv153_0, hh1, show i = 49 by omega, c_270, c_288]; first | done | rfl), rfl, rfl⟩ dX10_digest_339
            · refine lv_aload_n hx hb dX10_digest_318 rfl (lv_at hl 1 rfl) ?_
              refine lv_aload_n hx hb dX10_digest_319 rfl (lv_at hl 1 rfl) ?_
              refine va_get (D := D) (ci := 10) (v := .ref (β 5)) (C := RX10) (T := TX10) (N := 17) hx hb hts (fun w h => List.mem_cons_of_mem _ (wx_X10 w h)) hown hK hP 0 rfl rfl 5 (by decide) (hW0 _ wf_X10_23) (fun _ h9 => h9) rfl dX10_digest_320 ?_
              refine lv_iload_n hx hb dX10_digest_323 rfl (lv_at hl 0 rfl) ?_
              refine z_iald (f := mf) hx hb hK hP 5 4 rfl rfl ⟨⟨by omega, by omega⟩, by decide⟩ dX10_digest_324 ?_
              have hb_324 := hmf j (by omega) (by omega)
              refine lv_i2l (v := zL (mf j)) hx hb dX10_digest_325 (zL_of ⟨by omega, by omega⟩) ?_
              refine z_callv hP hD hS hA (va_runV (As := [.long (zL (mf j))]) (rest := []) hC (c_X10_mix l D τ β δ ms mb mo mp mf mn m190_21 c190_22 q190_23 r222_34 w222_33 mk ml 0 ma mx h3 (zL (mf j)) _) (cwV 1 hts (gV hB wl_X10_252 wn_X10_mix ws_X10_mix wi_X10 wc_X10_mix) rfl rfl rfl hd_X10_mix ⟨Nat.le_of_ble_eq_true rfl, Nat.le_of_ble_eq_true rfl⟩) (zp_V hK hP hD hS hA hG (ci := 10) (q0 := 0) rfl rfl rfl) rfl rfl hl.1 rfl (lv_room (Nat.le_of_ble_eq_true rfl)) dX10_digest_326 ⟨Nat.le_of_ble_eq_true rfl, Nat.le_of_ble_eq_true rfl⟩) (fun w1 H locs hq9 hP hD hS => ?_)
              obtain ⟨h326_49, hv326_0, rfl⟩ := hq9
              have hP : va_P D vwCl (wM β δ ms mb mo mp mf mn m190_21 c190_22 q190_23 r222_34 w222_33 mk ml 0 ma mx h326_49) H := hP
              have hD : va_D A (wM β δ ms mb mo mp mf mn m190_21 c190_22 q190_23 r222_34 w222_33 mk ml 0 ma mx h326_49) := hD
              refine z_iinc (k := 0) (v := j + 1) (lv' := [(1, .int (zI (j + 1))), (0, .ref (β 0))]) hx hb dX10_digest_329 hl rfl rfl (by decide) rfl (fun ls hl => ?_)
              refine lv_goto (tgt := 310) hx hb dX10_digest_332 (by decide) ?_
              exact ih_310 h326_49 (j + 1) _ _ hP hD hS _ (lv_sub hl [0, 1] rfl) (by first | assumption | rfl | omega) (by rw [hv326_0, hh3, itI_up hj.1]; rfl) (by omega)
      · refine lv_lconst (v := zL 1) hx hb dX10_digest_273 rfl ?_
        refine lv_goto (tgt := 278) hx hb dX10_digest_274 (by decide) ?_
        refine z_callv hP hD hS hA (va_runV (As := [.long (zL 1)]) (rest := []) hC (c_X10_mix l D τ β δ ms mb mo mp mf mn m190_21 c190_22 q190_23 r222_34 w222_33 mk ml 0 ma mx h260_42 (zL 1) _) (cwV 1 hts (gV hB wl_X10_252 wn_X10_mix ws_X10_mix wi_X10 wc_X10_mix) rfl rfl rfl hd_X10_mix ⟨Nat.le_of_ble_eq_true rfl, Nat.le_of_ble_eq_true rfl⟩) (zp_V hK hP hD hS hA hG (ci := 10) (q0 := 0) rfl rfl rfl) rfl rfl hl.1 rfl (lv_room (Nat.le_of_ble_eq_true rfl)) dX10_digest_278 ⟨Nat.le_of_ble_eq_true rfl, Nat.le_of_ble_eq_true rfl⟩) (fun w1 H locs hq9 hP hD hS => ?_)
        obtain ⟨h278_50, hv278_0, rfl⟩ := hq9
        have hP : va_P D vwCl (wM β δ ms mb mo mp mf mn m190_21 c190_22 q190_23 r222_34 w222_33 mk ml 0 ma mx h278_50) H := hP
        have hD : va_D A (wM β δ ms mb mo mp mf mn m190_21 c190_22 q190_23 r222_34 w222_33 mk ml 0 ma mx h278_50) := hD
        refine lv_aload_n hx hb dX10_digest_281 rfl (lv_at hl 1 rfl) ?_
        refine lv_aload_n hx hb dX10_digest_282 rfl (lv_at hl 1 rfl) ?_
        refine va_get (D := D) (ci := 10) (v := .ref (β 4)) (C := RX10) (T := TX10) (N := 17) hx hb hts (fun w h => List.mem_cons_of_mem _ (wx_X10 w h)) hown hK hP 0 rfl rfl 4 (by decide) (hW0 _ wf_X10_19) (fun _ h9 => h9) rfl dX10_digest_283 ?_
        refine lv_iconst (v := zI 1) hx hb dX10_digest_286 rfl ?_
        refine z_zald (f := mp) hx hb hK hP 4 3 rfl rfl ⟨⟨by omega, by omega⟩, by decide⟩ dX10_digest_287 ?_
        refine z_ifeqB (tgt := 295) hx hb dX10_digest_288 (by decide) (fun c_288 => ?_) (fun c_288 => ?_)
        · refine lv_lconst (v := zL 0) hx hb dX10_digest_295 rfl ?_
          refine z_callv hP hD hS hA (va_runV (As := [.long (zL 0)]) (rest := []) hC (c_X10_mix l D τ β δ ms mb mo mp mf mn m190_21 c190_22 q190_23 r222_34 w222_33 mk ml 0 ma mx h278_50 (zL 0) _) (cwV 1 hts (gV hB wl_X10_252 wn_X10_mix ws_X10_mix wi_X10 wc_X10_mix) rfl rfl rfl hd_X10_mix ⟨Nat.le_of_ble_eq_true rfl, Nat.le_of_ble_eq_true rfl⟩) (zp_V hK hP hD hS hA hG (ci := 10) (q0 := 0) rfl rfl rfl) rfl rfl hl.1 rfl (lv_room (Nat.le_of_ble_eq_true rfl)) dX10_digest_296 ⟨Nat.le_of_ble_eq_true rfl, Nat.le_of_ble_eq_true rfl⟩) (fun w1 H locs hq9 hP hD hS => ?_)
          obtain ⟨h296_51, hv296_0, rfl⟩ := hq9
          have hP : va_P D vwCl (wM β δ ms mb mo mp mf mn m190_21 c190_22 q190_23 r222_34 w222_33 mk ml 0 ma mx h296_51) H := hP
          have hD : va_D A (wM β δ ms mb mo mp mf mn m190_21 c190_22 q190_23 r222_34 w222_33 mk ml 0 ma mx h296_51) := hD
          refine lv_aload_n hx hb dX10_digest_299 rfl (lv_at hl 1 rfl) ?_
          refine lv_aload_n hx hb dX10_digest_300 rfl (lv_at hl 1 rfl) ?_
          refine va_get (D := D) (ci := 10) (v := .int (zI ml)) (C := RX10) (T := TX10) (N := 17) hx hb hts (fun w h => List.mem_cons_of_mem _ (wx_X10 w h)) hown hK hP 0 rfl rfl 6 (by decide) (hW0 _ wf_X10_96) (fun _ h9 => h9) rfl dX10_digest_301 ?_
          refine lv_i2l (v := zL ml) hx hb dX10_digest_304 (zL_of ⟨by omega, by omega⟩) ?_
          refine z_callv hP hD hS hA (va_runV (As := [.long (zL ml)]) (rest := []) hC (c_X10_mix l D τ β δ ms mb mo mp mf mn m190_21 c190_22 q190_23 r222_34 w222_33 mk ml 0 ma mx h296_51 (zL ml) _) (cwV 1 hts (gV hB wl_X10_252 wn_X10_mix ws_X10_mix wi_X10 wc_X10_mix) rfl rfl rfl hd_X10_mix ⟨Nat.le_of_ble_eq_true rfl, Nat.le_of_ble_eq_true rfl⟩) (zp_V hK hP hD hS hA hG (ci := 10) (q0 := 0) rfl rfl rfl) rfl rfl hl.1 rfl (lv_room (Nat.le_of_ble_eq_true rfl)) dX10_digest_305 ⟨Nat.le_of_ble_eq_true rfl, Nat.le_of_ble_eq_true rfl⟩) (fun w1 H locs hq9 hP hD hS => ?_)
          obtain ⟨h305_52, hv305_0, rfl⟩ := hq9
          have hP : va_P D vwCl (wM β δ ms mb mo mp mf mn m190_21 c190_22 q190_23 r222_34 w222_33 mk ml 0 ma mx h305_52) H := hP
          have hD : va_D A (wM β δ ms mb mo mp mf mn m190_21 c190_22 q190_23 r222_34 w222_33 mk ml 0 ma mx h305_52) := hD
          obtain ⟨hH, hhH⟩ : ∃ z : Int64, z = h305_52 := ⟨_, rfl⟩
          refine lv_iconst (v := zI 0) hx hb dX10_digest_308 rfl ?_
          refine lv_istore_n (lv' := [(1, .int (zI 0)), (0, .ref (β 0))]) hx hb dX10_digest_309 rfl hl (by decide) rfl (fun ls hl => ?_)
          suffices HL_310 : ∀ (n_310 : Nat), ∀ (h3 : Int64) (j : Int) (H : Heap) (locs : List Loc) (hP : va_P D vwCl (wM β δ ms mb mo mp mf mn m190_21 c190_22 q190_23 r222_34 w222_33 mk ml 0 ma mx h3) H) (hD : va_D A (wM β δ ms mb mo mp mf mn m190_21 c190_22 q190_23 r222_34 w222_33 mk ml 0 ma mx h3)) (hS : va_S A s.heap H locs) (ls : Array Slot) (hl : lv_has ls 2 [(1, .int (zI j)), (0, .ref (β 0))]) (hj : 0 ≤ j ∧ j ≤ ml) (hh3 : h3 = itI (fun k x => mixI x (mf k)) j hH) (hm : (ml - j).toNat < n_310), W pg l e rm_X10_digest s m args below meth c H locs 0 0 Q (F0 m 310 ls []) from HL_310 _ h305_52 0 _ _ hP hD hS _ (lv_sub hl [0, 1] rfl) (by first | assumption | rfl | omega) (by rw [hhH]; exact (itI_0 _ _).symm) (Nat.lt_succ_self _)
          intro n_310
          induction n_310 with
          | zero => intro h3 j H locs hP hD hS ls hl hj hh3 hm; exact absurd hm (Nat.not_lt_zero _)
          | succ n_310 ih_310 =>
            intro h3 j H locs hP hD hS ls hl hj hh3 hm
            refine lv_iload_n hx hb dX10_digest_310 rfl (lv_at hl 0 rfl) ?_
            refine lv_aload_n hx hb dX10_digest_311 rfl (lv_at hl 1 rfl) ?_
            refine va_get (D := D) (ci := 10) (v := .int (zI ml)) (C := RX10) (T := TX10) (N := 17) hx hb hts (fun w h => List.mem_cons_of_mem _ (wx_X10 w h)) hown hK hP 0 rfl rfl 6 (by decide) (hW0 _ wf_X10_96) (fun _ h9 => h9) rfl dX10_digest_312 ?_
            refine z_icge (tgt := 335) hx hb ⟨by omega, by omega⟩ ⟨by omega, by omega⟩ dX10_digest_315 (by decide) (fun c_315 => ?_) (fun c_315 => ?_)
            · refine lv_aload_n hx hb dX10_digest_335 rfl (lv_at hl 1 rfl) ?_
              refine va_get (D := D) (ci := 10) (v := .long h3) (C := RX10) (T := TX10) (N := 17) hx hb hts (fun w h => List.mem_cons_of_mem _ (wx_X10 w h)) hown hK hP 0 rfl rfl 16 (by decide) (hW0 _ wf_X10_248) (fun _ h9 => h9) rfl dX10_digest_336 ?_
              exact z_lret hC hr hlk hQ hP hD hS ⟨w222_33, m190_21, c190_22, q190_23, r222_34, h3, h3, (by rw [hh3, show j = ml by omega, hhH]; unfold S_dig S_dmid mixI; rw [hv305_0, hv296_0, hv278_0, hv260_0, hv257_0, hv249_0, hv244_0, hv235_0, hv231_0, hv226_0, hv222_0, hv217_0, hv213_0, hv208_0, hv204_0, hv199_0, hv195_0, hv190_0, hv184_0, hv178_0, hv172_0, hv166_0, hv162_0, hv157_0, hv153_0, hh1, show i = 49 by omega, c_270, c_288]; first | done | rfl), rfl, rfl⟩ dX10_digest_339
            · refine lv_aload_n hx hb dX10_digest_318 rfl (lv_at hl 1 rfl) ?_
              refine lv_aload_n hx hb dX10_digest_319 rfl (lv_at hl 1 rfl) ?_
              refine va_get (D := D) (ci := 10) (v := .ref (β 5)) (C := RX10) (T := TX10) (N := 17) hx hb hts (fun w h => List.mem_cons_of_mem _ (wx_X10 w h)) hown hK hP 0 rfl rfl 5 (by decide) (hW0 _ wf_X10_23) (fun _ h9 => h9) rfl dX10_digest_320 ?_
              refine lv_iload_n hx hb dX10_digest_323 rfl (lv_at hl 0 rfl) ?_
              refine z_iald (f := mf) hx hb hK hP 5 4 rfl rfl ⟨⟨by omega, by omega⟩, by decide⟩ dX10_digest_324 ?_
              have hb_324 := hmf j (by omega) (by omega)
              refine lv_i2l (v := zL (mf j)) hx hb dX10_digest_325 (zL_of ⟨by omega, by omega⟩) ?_
              refine z_callv hP hD hS hA (va_runV (As := [.long (zL (mf j))]) (rest := []) hC (c_X10_mix l D τ β δ ms mb mo mp mf mn m190_21 c190_22 q190_23 r222_34 w222_33 mk ml 0 ma mx h3 (zL (mf j)) _) (cwV 1 hts (gV hB wl_X10_252 wn_X10_mix ws_X10_mix wi_X10 wc_X10_mix) rfl rfl rfl hd_X10_mix ⟨Nat.le_of_ble_eq_true rfl, Nat.le_of_ble_eq_true rfl⟩) (zp_V hK hP hD hS hA hG (ci := 10) (q0 := 0) rfl rfl rfl) rfl rfl hl.1 rfl (lv_room (Nat.le_of_ble_eq_true rfl)) dX10_digest_326 ⟨Nat.le_of_ble_eq_true rfl, Nat.le_of_ble_eq_true rfl⟩) (fun w1 H locs hq9 hP hD hS => ?_)
              obtain ⟨h326_53, hv326_0, rfl⟩ := hq9
              have hP : va_P D vwCl (wM β δ ms mb mo mp mf mn m190_21 c190_22 q190_23 r222_34 w222_33 mk ml 0 ma mx h326_53) H := hP
              have hD : va_D A (wM β δ ms mb mo mp mf mn m190_21 c190_22 q190_23 r222_34 w222_33 mk ml 0 ma mx h326_53) := hD
              refine z_iinc (k := 0) (v := j + 1) (lv' := [(1, .int (zI (j + 1))), (0, .ref (β 0))]) hx hb dX10_digest_329 hl rfl rfl (by decide) rfl (fun ls hl => ?_)
              refine lv_goto (tgt := 310) hx hb dX10_digest_332 (by decide) ?_
              exact ih_310 h326_53 (j + 1) _ _ hP hD hS _ (lv_sub hl [0, 1] rfl) (by first | assumption | rfl | omega) (by rw [hv326_0, hh3, itI_up hj.1]; rfl) (by omega)
        · refine lv_lconst (v := zL 1) hx hb dX10_digest_291 rfl ?_
          refine lv_goto (tgt := 296) hx hb dX10_digest_292 (by decide) ?_
          refine z_callv hP hD hS hA (va_runV (As := [.long (zL 1)]) (rest := []) hC (c_X10_mix l D τ β δ ms mb mo mp mf mn m190_21 c190_22 q190_23 r222_34 w222_33 mk ml 0 ma mx h278_50 (zL 1) _) (cwV 1 hts (gV hB wl_X10_252 wn_X10_mix ws_X10_mix wi_X10 wc_X10_mix) rfl rfl rfl hd_X10_mix ⟨Nat.le_of_ble_eq_true rfl, Nat.le_of_ble_eq_true rfl⟩) (zp_V hK hP hD hS hA hG (ci := 10) (q0 := 0) rfl rfl rfl) rfl rfl hl.1 rfl (lv_room (Nat.le_of_ble_eq_true rfl)) dX10_digest_296 ⟨Nat.le_of_ble_eq_true rfl, Nat.le_of_ble_eq_true rfl⟩) (fun w1 H locs hq9 hP hD hS => ?_)
          obtain ⟨h296_54, hv296_0, rfl⟩ := hq9
          have hP : va_P D vwCl (wM β δ ms mb mo mp mf mn m190_21 c190_22 q190_23 r222_34 w222_33 mk ml 0 ma mx h296_54) H := hP
          have hD : va_D A (wM β δ ms mb mo mp mf mn m190_21 c190_22 q190_23 r222_34 w222_33 mk ml 0 ma mx h296_54) := hD
          refine lv_aload_n hx hb dX10_digest_299 rfl (lv_at hl 1 rfl) ?_
          refine lv_aload_n hx hb dX10_digest_300 rfl (lv_at hl 1 rfl) ?_
          refine va_get (D := D) (ci := 10) (v := .int (zI ml)) (C := RX10) (T := TX10) (N := 17) hx hb hts (fun w h => List.mem_cons_of_mem _ (wx_X10 w h)) hown hK hP 0 rfl rfl 6 (by decide) (hW0 _ wf_X10_96) (fun _ h9 => h9) rfl dX10_digest_301 ?_
          refine lv_i2l (v := zL ml) hx hb dX10_digest_304 (zL_of ⟨by omega, by omega⟩) ?_
          refine z_callv hP hD hS hA (va_runV (As := [.long (zL ml)]) (rest := []) hC (c_X10_mix l D τ β δ ms mb mo mp mf mn m190_21 c190_22 q190_23 r222_34 w222_33 mk ml 0 ma mx h296_54 (zL ml) _) (cwV 1 hts (gV hB wl_X10_252 wn_X10_mix ws_X10_mix wi_X10 wc_X10_mix) rfl rfl rfl hd_X10_mix ⟨Nat.le_of_ble_eq_true rfl, Nat.le_of_ble_eq_true rfl⟩) (zp_V hK hP hD hS hA hG (ci := 10) (q0 := 0) rfl rfl rfl) rfl rfl hl.1 rfl (lv_room (Nat.le_of_ble_eq_true rfl)) dX10_digest_305 ⟨Nat.le_of_ble_eq_true rfl, Nat.le_of_ble_eq_true rfl⟩) (fun w1 H locs hq9 hP hD hS => ?_)
          obtain ⟨h305_55, hv305_0, rfl⟩ := hq9
          have hP : va_P D vwCl (wM β δ ms mb mo mp mf mn m190_21 c190_22 q190_23 r222_34 w222_33 mk ml 0 ma mx h305_55) H := hP
          have hD : va_D A (wM β δ ms mb mo mp mf mn m190_21 c190_22 q190_23 r222_34 w222_33 mk ml 0 ma mx h305_55) := hD
          obtain ⟨hH, hhH⟩ : ∃ z : Int64, z = h305_55 := ⟨_, rfl⟩
          refine lv_iconst (v := zI 0) hx hb dX10_digest_308 rfl ?_
          refine lv_istore_n (lv' := [(1, .int (zI 0)), (0, .ref (β 0))]) hx hb dX10_digest_309 rfl hl (by decide) rfl (fun ls hl => ?_)
          suffices HL_310 : ∀ (n_310 : Nat), ∀ (h3 : Int64) (j : Int) (H : Heap) (locs : List Loc) (hP : va_P D vwCl (wM β δ ms mb mo mp mf mn m190_21 c190_22 q190_23 r222_34 w222_33 mk ml 0 ma mx h3) H) (hD : va_D A (wM β δ ms mb mo mp mf mn m190_21 c190_22 q190_23 r222_34 w222_33 mk ml 0 ma mx h3)) (hS : va_S A s.heap H locs) (ls : Array Slot) (hl : lv_has ls 2 [(1, .int (zI j)), (0, .ref (β 0))]) (hj : 0 ≤ j ∧ j ≤ ml) (hh3 : h3 = itI (fun k x => mixI x (mf k)) j hH) (hm : (ml - j).toNat < n_310), W pg l e rm_X10_digest s m args below meth c H locs 0 0 Q (F0 m 310 ls []) from HL_310 _ h305_55 0 _ _ hP hD hS _ (lv_sub hl [0, 1] rfl) (by first | assumption | rfl | omega) (by rw [hhH]; exact (itI_0 _ _).symm) (Nat.lt_succ_self _)
          intro n_310
          induction n_310 with
          | zero => intro h3 j H locs hP hD hS ls hl hj hh3 hm; exact absurd hm (Nat.not_lt_zero _)
          | succ n_310 ih_310 =>
            intro h3 j H locs hP hD hS ls hl hj hh3 hm
            refine lv_iload_n hx hb dX10_digest_310 rfl (lv_at hl 0 rfl) ?_
            refine lv_aload_n hx hb dX10_digest_311 rfl (lv_at hl 1 rfl) ?_
            refine va_get (D := D) (ci := 10) (v := .int (zI ml)) (C := RX10) (T := TX10) (N := 17) hx hb hts (fun w h => List.mem_cons_of_mem _ (wx_X10 w h)) hown hK hP 0 rfl rfl 6 (by decide) (hW0 _ wf_X10_96) (fun _ h9 => h9) rfl dX10_digest_312 ?_
            refine z_icge (tgt := 335) hx hb ⟨by omega, by omega⟩ ⟨by omega, by omega⟩ dX10_digest_315 (by decide) (fun c_315 => ?_) (fun c_315 => ?_)
            · refine lv_aload_n hx hb dX10_digest_335 rfl (lv_at hl 1 rfl) ?_
              refine va_get (D := D) (ci := 10) (v := .long h3) (C := RX10) (T := TX10) (N := 17) hx hb hts (fun w h => List.mem_cons_of_mem _ (wx_X10 w h)) hown hK hP 0 rfl rfl 16 (by decide) (hW0 _ wf_X10_248) (fun _ h9 => h9) rfl dX10_digest_336 ?_
              exact z_lret hC hr hlk hQ hP hD hS ⟨w222_33, m190_21, c190_22, q190_23, r222_34, h3, h3, (by rw [hh3, show j = ml by omega, hhH]; unfold S_dig S_dmid mixI; rw [hv305_0, hv296_0, hv278_0, hv260_0, hv257_0, hv249_0, hv244_0, hv235_0, hv231_0, hv226_0, hv222_0, hv217_0, hv213_0, hv208_0, hv204_0, hv199_0, hv195_0, hv190_0, hv184_0, hv178_0, hv172_0, hv166_0, hv162_0, hv157_0, hv153_0, hh1, show i = 49 by omega, c_270, c_288]; first | done | rfl), rfl, rfl⟩ dX10_digest_339
            · refine lv_aload_n hx hb dX10_digest_318 rfl (lv_at hl 1 rfl) ?_
              refine lv_aload_n hx hb dX10_digest_319 rfl (lv_at hl 1 rfl) ?_
              refine va_get (D := D) (ci := 10) (v := .ref (β 5)) (C := RX10) (T := TX10) (N := 17) hx hb hts (fun w h => List.mem_cons_of_mem _ (wx_X10 w h)) hown hK hP 0 rfl rfl 5 (by decide) (hW0 _ wf_X10_23) (fun _ h9 => h9) rfl dX10_digest_320 ?_
              refine lv_iload_n hx hb dX10_digest_323 rfl (lv_at hl 0 rfl) ?_
              refine z_iald (f := mf) hx hb hK hP 5 4 rfl rfl ⟨⟨by omega, by omega⟩, by decide⟩ dX10_digest_324 ?_
              have hb_324 := hmf j (by omega) (by omega)
              refine lv_i2l (v := zL (mf j)) hx hb dX10_digest_325 (zL_of ⟨by omega, by omega⟩) ?_
              refine z_callv hP hD hS hA (va_runV (As := [.long (zL (mf j))]) (rest := []) hC (c_X10_mix l D τ β δ ms mb mo mp mf mn m190_21 c190_22 q190_23 r222_34 w222_33 mk ml 0 ma mx h3 (zL (mf j)) _) (cwV 1 hts (gV hB wl_X10_252 wn_X10_mix ws_X10_mix wi_X10 wc_X10_mix) rfl rfl rfl hd_X10_mix ⟨Nat.le_of_ble_eq_true rfl, Nat.le_of_ble_eq_true rfl⟩) (zp_V hK hP hD hS hA hG (ci := 10) (q0 := 0) rfl rfl rfl) rfl rfl hl.1 rfl (lv_room (Nat.le_of_ble_eq_true rfl)) dX10_digest_326 ⟨Nat.le_of_ble_eq_true rfl, Nat.le_of_ble_eq_true rfl⟩) (fun w1 H locs hq9 hP hD hS => ?_)
              obtain ⟨h326_56, hv326_0, rfl⟩ := hq9
              have hP : va_P D vwCl (wM β δ ms mb mo mp mf mn m190_21 c190_22 q190_23 r222_34 w222_33 mk ml 0 ma mx h326_56) H := hP
              have hD : va_D A (wM β δ ms mb mo mp mf mn m190_21 c190_22 q190_23 r222_34 w222_33 mk ml 0 ma mx h326_56) := hD
              refine z_iinc (k := 0) (v := j + 1) (lv' := [(1, .int (zI (j + 1))), (0, .ref (β 0))]) hx hb dX10_digest_329 hl rfl rfl (by decide) rfl (fun ls hl => ?_)
              refine lv_goto (tgt := 310) hx hb dX10_digest_332 (by decide) ?_
              exact ih_310 h326_56 (j + 1) _ _ hP hD hS _ (lv_sub hl [0, 1] rfl) (by first | assumption | rfl | omega) (by rw [hv326_0, hh3, itI_up hj.1]; rfl) (by omega)
    · refine lv_aload_n hx hb dX10_digest_24 rfl (lv_at hl 1 rfl) ?_
      refine lv_aload_n hx hb dX10_digest_25 rfl (lv_at hl 1 rfl) ?_
      refine va_get (D := D) (ci := 10) (v := .ref (β 1)) (C := RX10) (T := TX10) (N := 17) hx hb hts (fun w h => List.mem_cons_of_mem _ (wx_X10 w h)) hown hK hP 0 rfl rfl 0 (by decide) (hW0 _ wf_X10_7) (fun _ h9 => h9) rfl dX10_digest_26 ?_
      refine lv_iload_n hx hb dX10_digest_29 rfl (lv_at hl 0 rfl) ?_
      refine z_iald (f := ms) hx hb hK hP 1 0 rfl rfl ⟨⟨by omega, by omega⟩, by decide⟩ dX10_digest_30 ?_
      have hb_30 := hms i (by omega) (by omega)
      refine lv_i2l (v := zL (ms i)) hx hb dX10_digest_31 (zL_of ⟨by omega, by omega⟩) ?_
      refine z_callv hP hD hS hA (va_runV (As := [.long (zL (ms i))]) (rest := []) hC (c_X10_mix l D τ β δ ms mb mo mp mf mn mi mc mq mr w13_1 mk ml 0 ma mx h1 (zL (ms i)) _) (cwV 1 hts (gV hB wl_X10_252 wn_X10_mix ws_X10_mix wi_X10 wc_X10_mix) rfl rfl rfl hd_X10_mix ⟨Nat.le_of_ble_eq_true rfl, Nat.le_of_ble_eq_true rfl⟩) (zp_V hK hP hD hS hA hG (ci := 10) (q0 := 0) rfl rfl rfl) rfl rfl hl.1 rfl (lv_room (Nat.le_of_ble_eq_true rfl)) dX10_digest_32 ⟨Nat.le_of_ble_eq_true rfl, Nat.le_of_ble_eq_true rfl⟩) (fun w1 H locs hq9 hP hD hS => ?_)
      obtain ⟨h32_57, hv32_0, rfl⟩ := hq9
      have hP : va_P D vwCl (wM β δ ms mb mo mp mf mn mi mc mq mr w13_1 mk ml 0 ma mx h32_57) H := hP
      have hD : va_D A (wM β δ ms mb mo mp mf mn mi mc mq mr w13_1 mk ml 0 ma mx h32_57) := hD
      refine lv_aload_n hx hb dX10_digest_35 rfl (lv_at hl 1 rfl) ?_
      refine lv_aload_n hx hb dX10_digest_36 rfl (lv_at hl 1 rfl) ?_
      refine lv_iload_n hx hb dX10_digest_37 rfl (lv_at hl 0 rfl) ?_
      refine z_calli hP hD hS hA (va_runV (As := [.int (zI i)]) (rest := [.ref (β 0)]) hC (c_X10_drop l D τ β δ ms mb mo mp mf mn mi mc mq mr w13_1 mk ml 0 ma mx h32_57 i (by first | assumption | rfl | omega) (by first | assumption | rfl | omega) _) (cwV 1 hts (gV hB wl_X10_77 wn_X10_drop ws_X10_drop wi_X10 wc_X10_drop) rfl rfl rfl hd_X10_drop ⟨Nat.le_of_ble_eq_true rfl, Nat.le_of_ble_eq_true rfl⟩) (zp_V hK hP hD hS hA hG (ci := 10) (q0 := 0) rfl rfl rfl) rfl rfl hl.1 rfl (lv_room (Nat.le_of_ble_eq_true rfl)) dX10_digest_38 ⟨Nat.le_of_ble_eq_true rfl, Nat.le_of_ble_eq_true rfl⟩) (fun r w1 H locs hq9 hP hD hS => ?_)
      obtain ⟨v38_58, hv38_0, hv38_1, rfl, rfl⟩ := hq9
      have hP : va_P D vwCl (wM β δ ms mb mo mp mf mn mi mc mq mr w13_1 mk ml 0 ma mx h32_57) H := hP
      have hD : va_D A (wM β δ ms mb mo mp mf mn mi mc mq mr w13_1 mk ml 0 ma mx h32_57) := hD
      refine lv_i2l (v := zL v38_58) hx hb dX10_digest_41 (zL_of ⟨by omega, by omega⟩) ?_
      refine z_callv hP hD hS hA (va_runV (As := [.long (zL v38_58)]) (rest := []) hC (c_X10_mix l D τ β δ ms mb mo mp mf mn mi mc mq mr w13_1 mk ml 0 ma mx h32_57 (zL v38_58) _) (cwV 1 hts (gV hB wl_X10_252 wn_X10_mix ws_X10_mix wi_X10 wc_X10_mix) rfl rfl rfl hd_X10_mix ⟨Nat.le_of_ble_eq_true rfl, Nat.le_of_ble_eq_true rfl⟩) (zp_V hK hP hD hS hA hG (ci := 10) (q0 := 0) rfl rfl rfl) rfl rfl hl.1 rfl (lv_room (Nat.le_of_ble_eq_true rfl)) dX10_digest_42 ⟨Nat.le_of_ble_eq_true rfl, Nat.le_of_ble_eq_true rfl⟩) (fun w1 H locs hq9 hP hD hS => ?_)
      obtain ⟨h42_59, hv42_0, rfl⟩ := hq9
      have hP : va_P D vwCl (wM β δ ms mb mo mp mf mn mi mc mq mr w13_1 mk ml 0 ma mx h42_59) H := hP
      have hD : va_D A (wM β δ ms mb mo mp mf mn mi mc mq mr w13_1 mk ml 0 ma mx h42_59) := hD
      refine lv_aload_n hx hb dX10_digest_45 rfl (lv_at hl 1 rfl) ?_
      refine lv_aload_n hx hb dX10_digest_46 rfl (lv_at hl 1 rfl) ?_
      refine lv_iload_n hx hb dX10_digest_47 rfl (lv_at hl 0 rfl) ?_
      refine z_calli hP hD hS hA (va_runV (As := [.int (zI i)]) (rest := [.ref (β 0)]) hC (c_X10_sink l D τ β δ ms mb mo mp mf mn mi mc mq mr w13_1 mk ml 0 ma mx h42_59 i (by first | assumption | rfl | omega) (by first | assumption | rfl | omega) _) (cwV 1 hts (gV hB wl_X10_187 wn_X10_sink ws_X10_sink wi_X10 wc_X10_sink) rfl rfl rfl hd_X10_sink ⟨Nat.le_of_ble_eq_true rfl, Nat.le_of_ble_eq_true rfl⟩) (zp_V hK hP hD hS hA hG (ci := 10) (q0 := 0) rfl rfl rfl) rfl rfl hl.1 rfl (lv_room (Nat.le_of_ble_eq_true rfl)) dX10_digest_48 ⟨Nat.le_of_ble_eq_true rfl, Nat.le_of_ble_eq_true rfl⟩) (fun r w1 H locs hq9 hP hD hS => ?_)
      obtain ⟨v48_60, hv48_0, hv48_1, rfl, rfl⟩ := hq9
      have hP : va_P D vwCl (wM β δ ms mb mo mp mf mn mi mc mq mr w13_1 mk ml 0 ma mx h42_59) H := hP
      have hD : va_D A (wM β δ ms mb mo mp mf mn mi mc mq mr w13_1 mk ml 0 ma mx h42_59) := hD
      refine lv_i2l (v := zL v48_60) hx hb dX10_digest_51 (zL_of ⟨by omega, by omega⟩) ?_
      refine z_callv hP hD hS hA (va_runV (As := [.long (zL v48_60)]) (rest := []) hC (c_X10_mix l D τ β δ ms mb mo mp mf mn mi mc mq mr w13_1 mk ml 0 ma mx h42_59 (zL v48_60) _) (cwV 1 hts (gV hB wl_X10_252 wn_X10_mix ws_X10_mix wi_X10 wc_X10_mix) rfl rfl rfl hd_X10_mix ⟨Nat.le_of_ble_eq_true rfl, Nat.le_of_ble_eq_true rfl⟩) (zp_V hK hP hD hS hA hG (ci := 10) (q0 := 0) rfl rfl rfl) rfl rfl hl.1 rfl (lv_room (Nat.le_of_ble_eq_true rfl)) dX10_digest_52 ⟨Nat.le_of_ble_eq_true rfl, Nat.le_of_ble_eq_true rfl⟩) (fun w1 H locs hq9 hP hD hS => ?_)
      obtain ⟨h52_61, hv52_0, rfl⟩ := hq9
      have hP : va_P D vwCl (wM β δ ms mb mo mp mf mn mi mc mq mr w13_1 mk ml 0 ma mx h52_61) H := hP
      have hD : va_D A (wM β δ ms mb mo mp mf mn mi mc mq mr w13_1 mk ml 0 ma mx h52_61) := hD
      refine lv_aload_n hx hb dX10_digest_55 rfl (lv_at hl 1 rfl) ?_
      refine lv_aload_n hx hb dX10_digest_56 rfl (lv_at hl 1 rfl) ?_
      refine lv_iload_n hx hb dX10_digest_57 rfl (lv_at hl 0 rfl) ?_
      refine z_calli hP hD hS hA (va_runV (As := [.int (zI i)]) (rest := [.ref (β 0)]) hC (c_X10_flow l D τ β δ ms mb mo mp mf mn mi mc mq mr w13_1 mk ml 0 ma mx h52_61 i (by first | assumption | rfl | omega) (by first | assumption | rfl | omega) _) (cwV 1 hts (gV hB wl_X10_184 wn_X10_flow ws_X10_flow wi_X10 wc_X10_flow) rfl rfl rfl hd_X10_flow ⟨Nat.le_of_ble_eq_true rfl, Nat.le_of_ble_eq_true rfl⟩) (zp_V hK hP hD hS hA hG (ci := 10) (q0 := 0) rfl rfl rfl) rfl rfl hl.1 rfl (lv_room (Nat.le_of_ble_eq_true rfl)) dX10_digest_58 ⟨Nat.le_of_ble_eq_true rfl, Nat.le_of_ble_eq_true rfl⟩) (fun r w1 H locs hq9 hP hD hS => ?_)
      obtain ⟨v58_62, hv58_0, hv58_1, rfl, rfl⟩ := hq9
      have hP : va_P D vwCl (wM β δ ms mb mo mp mf mn mi mc mq mr w13_1 mk ml 0 ma mx h52_61) H := hP
      have hD : va_D A (wM β δ ms mb mo mp mf mn mi mc mq mr w13_1 mk ml 0 ma mx h52_61) := hD
      refine lv_i2l (v := zL v58_62) hx hb dX10_digest_61 (zL_of ⟨by omega, by omega⟩) ?_
      refine z_callv hP hD hS hA (va_runV (As := [.long (zL v58_62)]) (rest := []) hC (c_X10_mix l D τ β δ ms mb mo mp mf mn mi mc mq mr w13_1 mk ml 0 ma mx h52_61 (zL v58_62) _) (cwV 1 hts (gV hB wl_X10_252 wn_X10_mix ws_X10_mix wi_X10 wc_X10_mix) rfl rfl rfl hd_X10_mix ⟨Nat.le_of_ble_eq_true rfl, Nat.le_of_ble_eq_true rfl⟩) (zp_V hK hP hD hS hA hG (ci := 10) (q0 := 0) rfl rfl rfl) rfl rfl hl.1 rfl (lv_room (Nat.le_of_ble_eq_true rfl)) dX10_digest_62 ⟨Nat.le_of_ble_eq_true rfl, Nat.le_of_ble_eq_true rfl⟩) (fun w1 H locs hq9 hP hD hS => ?_)
      obtain ⟨h62_63, hv62_0, rfl⟩ := hq9
      have hP : va_P D vwCl (wM β δ ms mb mo mp mf mn mi mc mq mr w13_1 mk ml 0 ma mx h62_63) H := hP
      have hD : va_D A (wM β δ ms mb mo mp mf mn mi mc mq mr w13_1 mk ml 0 ma mx h62_63) := hD
      refine lv_aload_n hx hb dX10_digest_65 rfl (lv_at hl 1 rfl) ?_
      refine lv_aload_n hx hb dX10_digest_66 rfl (lv_at hl 1 rfl) ?_
      refine lv_iload_n hx hb dX10_digest_67 rfl (lv_at hl 0 rfl) ?_
      refine z_calli hP hD hS hA (va_runV (As := [.int (zI i)]) (rest := [.ref (β 0)]) hC (c_X10_steps l D τ β δ ms mb mo mp mf mn mi mc mq mr w13_1 mk ml 0 ma mx h62_63 i (by first | assumption | rfl | omega) (by first | assumption | rfl | omega) _) (cwV 1 hts (gV hB wl_X10_193 wn_X10_steps ws_X10_steps wi_X10 wc_X10_steps) rfl rfl rfl hd_X10_steps ⟨Nat.le_of_ble_eq_true rfl, Nat.le_of_ble_eq_true rfl⟩) (zp_V hK hP hD hS hA hG (ci := 10) (q0 := 0) rfl rfl rfl) rfl rfl hl.1 rfl (lv_room (Nat.le_of_ble_eq_true rfl)) dX10_digest_68 ⟨Nat.le_of_ble_eq_true rfl, Nat.le_of_ble_eq_true rfl⟩) (fun r w1 H locs hq9 hP hD hS => ?_)
      obtain ⟨v68_64, hv68_0, hv68_1, rfl, rfl⟩ := hq9
      have hP : va_P D vwCl (wM β δ ms mb mo mp mf mn mi mc mq mr w13_1 mk ml 0 ma mx h62_63) H := hP
      have hD : va_D A (wM β δ ms mb mo mp mf mn mi mc mq mr w13_1 mk ml 0 ma mx h62_63) := hD
      refine lv_i2l (v := zL v68_64) hx hb dX10_digest_71 (zL_of ⟨by omega, by omega⟩) ?_
      refine z_callv hP hD hS hA (va_runV (As := [.long (zL v68_64)]) (rest := []) hC (c_X10_mix l D τ β δ ms mb mo mp mf mn mi mc mq mr w13_1 mk ml 0 ma mx h62_63 (zL v68_64) _) (cwV 1 hts (gV hB wl_X10_252 wn_X10_mix ws_X10_mix wi_X10 wc_X10_mix) rfl rfl rfl hd_X10_mix ⟨Nat.le_of_ble_eq_true rfl, Nat.le_of_ble_eq_true rfl⟩) (zp_V hK hP hD hS hA hG (ci := 10) (q0 := 0) rfl rfl rfl) rfl rfl hl.1 rfl (lv_room (Nat.le_of_ble_eq_true rfl)) dX10_digest_72 ⟨Nat.le_of_ble_eq_true rfl, Nat.le_of_ble_eq_true rfl⟩) (fun w1 H locs hq9 hP hD hS => ?_)
      obtain ⟨h72_65, hv72_0, rfl⟩ := hq9
      have hP : va_P D vwCl (wM β δ ms mb mo mp mf mn mi mc mq mr w13_1 mk ml 0 ma mx h72_65) H := hP
      have hD : va_D A (wM β δ ms mb mo mp mf mn mi mc mq mr w13_1 mk ml 0 ma mx h72_65) := hD
      refine lv_aload_n hx hb dX10_digest_75 rfl (lv_at hl 1 rfl) ?_
      refine lv_aload_n hx hb dX10_digest_76 rfl (lv_at hl 1 rfl) ?_
      refine lv_iload_n hx hb dX10_digest_77 rfl (lv_at hl 0 rfl) ?_
      refine z_calli hP hD hS hA (va_runV (As := [.int (zI i)]) (rest := [.ref (β 0)]) hC (c_X10_basin l D τ β δ ms mb mo mp mf mn mi mc mq mr w13_1 mk ml 0 ma mx h72_65 i (by first | assumption | rfl | omega) (by first | assumption | rfl | omega) _) (cwV 1 hts (gV hB wl_X10_190 wn_X10_basin ws_X10_basin wi_X10 wc_X10_basin) rfl rfl rfl hd_X10_basin ⟨Nat.le_of_ble_eq_true rfl, Nat.le_of_ble_eq_true rfl⟩) (zp_V hK hP hD hS hA hG (ci := 10) (q0 := 0) rfl rfl rfl) rfl rfl hl.1 rfl (lv_room (Nat.le_of_ble_eq_true rfl)) dX10_digest_78 ⟨Nat.le_of_ble_eq_true rfl, Nat.le_of_ble_eq_true rfl⟩) (fun r w1 H locs hq9 hP hD hS => ?_)
      obtain ⟨v78_66, hv78_0, hv78_1, rfl, rfl⟩ := hq9
      have hP : va_P D vwCl (wM β δ ms mb mo mp mf mn mi mc mq mr w13_1 mk ml 0 ma mx h72_65) H := hP
      have hD : va_D A (wM β δ ms mb mo mp mf mn mi mc mq mr w13_1 mk ml 0 ma mx h72_65) := hD
      refine lv_i2l (v := zL v78_66) hx hb dX10_digest_81 (zL_of ⟨by omega, by omega⟩) ?_
      refine z_callv hP hD hS hA (va_runV (As := [.long (zL v78_66)]) (rest := []) hC (c_X10_mix l D τ β δ ms mb mo mp mf mn mi mc mq mr w13_1 mk ml 0 ma mx h72_65 (zL v78_66) _) (cwV 1 hts (gV hB wl_X10_252 wn_X10_mix ws_X10_mix wi_X10 wc_X10_mix) rfl rfl rfl hd_X10_mix ⟨Nat.le_of_ble_eq_true rfl, Nat.le_of_ble_eq_true rfl⟩) (zp_V hK hP hD hS hA hG (ci := 10) (q0 := 0) rfl rfl rfl) rfl rfl hl.1 rfl (lv_room (Nat.le_of_ble_eq_true rfl)) dX10_digest_82 ⟨Nat.le_of_ble_eq_true rfl, Nat.le_of_ble_eq_true rfl⟩) (fun w1 H locs hq9 hP hD hS => ?_)
      obtain ⟨h82_67, hv82_0, rfl⟩ := hq9
      have hP : va_P D vwCl (wM β δ ms mb mo mp mf mn mi mc mq mr w13_1 mk ml 0 ma mx h82_67) H := hP
      have hD : va_D A (wM β δ ms mb mo mp mf mn mi mc mq mr w13_1 mk ml 0 ma mx h82_67) := hD
      refine lv_aload_n hx hb dX10_digest_85 rfl (lv_at hl 1 rfl) ?_
      refine lv_aload_n hx hb dX10_digest_86 rfl (lv_at hl 1 rfl) ?_
      refine lv_iload_n hx hb dX10_digest_87 rfl (lv_at hl 0 rfl) ?_
      refine z_calli hP hD hS hA (va_runV (As := [.int (zI i)]) (rest := [.ref (β 0)]) hC (c_X10_basin l D τ β δ ms mb mo mp mf mn mi mc mq mr w13_1 mk ml 0 ma mx h82_67 i (by first | assumption | rfl | omega) (by first | assumption | rfl | omega) _) (cwV 1 hts (gV hB wl_X10_190 wn_X10_basin ws_X10_basin wi_X10 wc_X10_basin) rfl rfl rfl hd_X10_basin ⟨Nat.le_of_ble_eq_true rfl, Nat.le_of_ble_eq_true rfl⟩) (zp_V hK hP hD hS hA hG (ci := 10) (q0 := 0) rfl rfl rfl) rfl rfl hl.1 rfl (lv_room (Nat.le_of_ble_eq_true rfl)) dX10_digest_88 ⟨Nat.le_of_ble_eq_true rfl, Nat.le_of_ble_eq_true rfl⟩) (fun r w1 H locs hq9 hP hD hS => ?_)
      obtain ⟨v88_68, hv88_0, hv88_1, rfl, rfl⟩ := hq9
      have hP : va_P D vwCl (wM β δ ms mb mo mp mf mn mi mc mq mr w13_1 mk ml 0 ma mx h82_67) H := hP
      have hD : va_D A (wM β δ ms mb mo mp mf mn mi mc mq mr w13_1 mk ml 0 ma mx h82_67) := hD
      refine lv_i2l (v := zL v88_68) hx hb dX10_digest_91 (zL_of ⟨by omega, by omega⟩) ?_
      refine z_callv hP hD hS hA (va_runV (As := [.long (zL v88_68)]) (rest := []) hC (c_X10_mix l D τ β δ ms mb mo mp mf mn mi mc mq mr w13_1 mk ml 0 ma mx h82_67 (zL v88_68) _) (cwV 1 hts (gV hB wl_X10_252 wn_X10_mix ws_X10_mix wi_X10 wc_X10_mix) rfl rfl rfl hd_X10_mix ⟨Nat.le_of_ble_eq_true rfl, Nat.le_of_ble_eq_true rfl⟩) (zp_V hK hP hD hS hA hG (ci := 10) (q0 := 0) rfl rfl rfl) rfl rfl hl.1 rfl (lv_room (Nat.le_of_ble_eq_true rfl)) dX10_digest_92 ⟨Nat.le_of_ble_eq_true rfl, Nat.le_of_ble_eq_true rfl⟩) (fun w1 H locs hq9 hP hD hS => ?_)
      obtain ⟨h92_69, hv92_0, rfl⟩ := hq9
      have hP : va_P D vwCl (wM β δ ms mb mo mp mf mn mi mc mq mr w13_1 mk ml 0 ma mx h92_69) H := hP
      have hD : va_D A (wM β δ ms mb mo mp mf mn mi mc mq mr w13_1 mk ml 0 ma mx h92_69) := hD
      refine lv_aload_n hx hb dX10_digest_95 rfl (lv_at hl 1 rfl) ?_
      refine lv_aload_n hx hb dX10_digest_96 rfl (lv_at hl 1 rfl) ?_
      refine va_get (D := D) (ci := 10) (v := .ref (β 11)) (C := RX10) (T := TX10) (N := 17) hx hb hts (fun w h => List.mem_cons_of_mem _ (wx_X10 w h)) hown hK hP 0 rfl rfl 15 (by decide) (hW0 _ wf_X10_41) (fun _ h9 => h9) rfl dX10_digest_97 ?_
      refine lv_iload_n hx hb dX10_digest_100 rfl (lv_at hl 0 rfl) ?_
      refine z_iald (f := w13_1) hx hb hK hP 11 10 rfl rfl ⟨⟨by omega, by omega⟩, by decide⟩ dX10_digest_101 ?_
      have hb_101 := hwr i (by omega) (by omega)
      refine lv_i2l (v := zL (w13_1 i)) hx hb dX10_digest_102 (zL_of ⟨by omega, by omega⟩) ?_
      refine z_callv hP hD hS hA (va_runV (As := [.long (zL (w13_1 i))]) (rest := []) hC (c_X10_mix l D τ β δ ms mb mo mp mf mn mi mc mq mr w13_1 mk ml 0 ma mx h92_69 (zL (w13_1 i)) _) (cwV 1 hts (gV hB wl_X10_252 wn_X10_mix ws_X10_mix wi_X10 wc_X10_mix) rfl rfl rfl hd_X10_mix ⟨Nat.le_of_ble_eq_true rfl, Nat.le_of_ble_eq_true rfl⟩) (zp_V hK hP hD hS hA hG (ci := 10) (q0 := 0) rfl rfl rfl) rfl rfl hl.1 rfl (lv_room (Nat.le_of_ble_eq_true rfl)) dX10_digest_103 ⟨Nat.le_of_ble_eq_true rfl, Nat.le_of_ble_eq_true rfl⟩) (fun w1 H locs hq9 hP hD hS => ?_)
      obtain ⟨h103_70, hv103_0, rfl⟩ := hq9
      have hP : va_P D vwCl (wM β δ ms mb mo mp mf mn mi mc mq mr w13_1 mk ml 0 ma mx h103_70) H := hP
      have hD : va_D A (wM β δ ms mb mo mp mf mn mi mc mq mr w13_1 mk ml 0 ma mx h103_70) := hD
      refine lv_aload_n hx hb dX10_digest_106 rfl (lv_at hl 1 rfl) ?_
      refine lv_aload_n hx hb dX10_digest_107 rfl (lv_at hl 1 rfl) ?_
      refine va_get (D := D) (ci := 10) (v := .ref (β 11)) (C := RX10) (T := TX10) (N := 17) hx hb hts (fun w h => List.mem_cons_of_mem _ (wx_X10 w h)) hown hK hP 0 rfl rfl 15 (by decide) (hW0 _ wf_X10_41) (fun _ h9 => h9) rfl dX10_digest_108 ?_
      refine lv_iload_n hx hb dX10_digest_111 rfl (lv_at hl 0 rfl) ?_
      refine z_iald (f := w13_1) hx hb hK hP 11 10 rfl rfl ⟨⟨by omega, by omega⟩, by decide⟩ dX10_digest_112 ?_
      have hb_112 := hwr i (by omega) (by omega)
      refine lv_i2l (v := zL (w13_1 i)) hx hb dX10_digest_113 (zL_of ⟨by omega, by omega⟩) ?_
      refine z_callv hP hD hS hA (va_runV (As := [.long (zL (w13_1 i))]) (rest := []) hC (c_X10_mix l D τ β δ ms mb mo mp mf mn mi mc mq mr w13_1 mk ml 0 ma mx h103_70 (zL (w13_1 i)) _) (cwV 1 hts (gV hB wl_X10_252 wn_X10_mix ws_X10_mix wi_X10 wc_X10_mix) rfl rfl rfl hd_X10_mix ⟨Nat.le_of_ble_eq_true rfl, Nat.le_of_ble_eq_true rfl⟩) (zp_V hK hP hD hS hA hG (ci := 10) (q0 := 0) rfl rfl rfl) rfl rfl hl.1 rfl (lv_room (Nat.le_of_ble_eq_true rfl)) dX10_digest_114 ⟨Nat.le_of_ble_eq_true rfl, Nat.le_of_ble_eq_true rfl⟩) (fun w1 H locs hq9 hP hD hS => ?_)
      obtain ⟨h114_71, hv114_0, rfl⟩ := hq9
      have hP : va_P D vwCl (wM β δ ms mb mo mp mf mn mi mc mq mr w13_1 mk ml 0 ma mx h114_71) H := hP
      have hD : va_D A (wM β δ ms mb mo mp mf mn mi mc mq mr w13_1 mk ml 0 ma mx h114_71) := hD
      refine lv_aload_n hx hb dX10_digest_117 rfl (lv_at hl 1 rfl) ?_
      refine lv_aload_n hx hb dX10_digest_118 rfl (lv_at hl 1 rfl) ?_
      refine va_get (D := D) (ci := 10) (v := .ref (β 11)) (C := RX10) (T := TX10) (N := 17) hx hb hts (fun w h => List.mem_cons_of_mem _ (wx_X10 w h)) hown hK hP 0 rfl rfl 15 (by decide) (hW0 _ wf_X10_41) (fun _ h9 => h9) rfl dX10_digest_119 ?_
      refine lv_iload_n hx hb dX10_digest_122 rfl (lv_at hl 0 rfl) ?_
      refine z_iald (f := w13_1) hx hb hK hP 11 10 rfl rfl ⟨⟨by omega, by omega⟩, by decide⟩ dX10_digest_123 ?_
      have hb_123 := hwr i (by omega) (by omega)
      refine lv_aload_n hx hb dX10_digest_124 rfl (lv_at hl 1 rfl) ?_
      refine va_get (D := D) (ci := 10) (v := .ref (β 1)) (C := RX10) (T := TX10) (N := 17) hx hb hts (fun w h => List.mem_cons_of_mem _ (wx_X10 w h)) hown hK hP 0 rfl rfl 0 (by decide) (hW0 _ wf_X10_7) (fun _ h9 => h9) rfl dX10_digest_125 ?_
      refine lv_iload_n hx hb dX10_digest_128 rfl (lv_at hl 0 rfl) ?_
      refine z_iald (f := ms) hx hb hK hP 1 0 rfl rfl ⟨⟨by omega, by omega⟩, by decide⟩ dX10_digest_129 ?_
      have hb_129 := hms i (by omega) (by omega)
      refine z_isub hx hb dX10_digest_130 ?_
      refine lv_i2l (v := zL ((w13_1 i) - (ms i))) hx hb dX10_digest_131 (zL_of ⟨by omega, by omega⟩) ?_
      refine z_callv hP hD hS hA (va_runV (As := [.long (zL ((w13_1 i) - (ms i)))]) (rest := []) hC (c_X10_mix l D τ β δ ms mb mo mp mf mn mi mc mq mr w13_1 mk ml 0 ma mx h114_71 (zL ((w13_1 i) - (ms i))) _) (cwV 1 hts (gV hB wl_X10_252 wn_X10_mix ws_X10_mix wi_X10 wc_X10_mix) rfl rfl rfl hd_X10_mix ⟨Nat.le_of_ble_eq_true rfl, Nat.le_of_ble_eq_true rfl⟩) (zp_V hK hP hD hS hA hG (ci := 10) (q0 := 0) rfl rfl rfl) rfl rfl hl.1 rfl (lv_room (Nat.le_of_ble_eq_true rfl)) dX10_digest_132 ⟨Nat.le_of_ble_eq_true rfl, Nat.le_of_ble_eq_true rfl⟩) (fun w1 H locs hq9 hP hD hS => ?_)
      obtain ⟨h132_72, hv132_0, rfl⟩ := hq9
      have hP : va_P D vwCl (wM β δ ms mb mo mp mf mn mi mc mq mr w13_1 mk ml 0 ma mx h132_72) H := hP
      have hD : va_D A (wM β δ ms mb mo mp mf mn mi mc mq mr w13_1 mk ml 0 ma mx h132_72) := hD
      refine lv_aload_n hx hb dX10_digest_135 rfl (lv_at hl 1 rfl) ?_
      refine lv_aload_n hx hb dX10_digest_136 rfl (lv_at hl 1 rfl) ?_
      refine lv_iload_n hx hb dX10_digest_137 rfl (lv_at hl 0 rfl) ?_
      refine z_calli hP hD hS hA (va_runV (As := [.int (zI i)]) (rest := [.ref (β 0)]) hC (c_X10_seen l D τ β δ ms mb mo mp mf mn mi mc mq mr w13_1 mk ml 0 ma mx h132_72 i (by first | assumption | rfl | omega) (by first | assumption | rfl | omega) _) (cwV 1 hts (gV hB wl_X10_230 wn_X10_seen ws_X10_seen wi_X10 wc_X10_seen) rfl rfl rfl hd_X10_seen ⟨Nat.le_of_ble_eq_true rfl, Nat.le_of_ble_eq_true rfl⟩) (zp_V hK hP hD hS hA hG (ci := 10) (q0 := 0) rfl rfl rfl) rfl rfl hl.1 rfl (lv_room (Nat.le_of_ble_eq_true rfl)) dX10_digest_138 ⟨Nat.le_of_ble_eq_true rfl, Nat.le_of_ble_eq_true rfl⟩) (fun r w1 H locs hq9 hP hD hS => ?_)
      obtain ⟨v138_73, hv138_0, hv138_1, rfl, rfl⟩ := hq9
      have hP : va_P D vwCl (wM β δ ms mb mo mp mf mn mi mc mq mr w13_1 mk ml 0 ma mx h132_72) H := hP
      have hD : va_D A (wM β δ ms mb mo mp mf mn mi mc mq mr w13_1 mk ml 0 ma mx h132_72) := hD
      refine lv_i2l (v := zL v138_73) hx hb dX10_digest_141 (zL_of ⟨by omega, by omega⟩) ?_
      refine z_callv hP hD hS hA (va_runV (As := [.long (zL v138_73)]) (rest := []) hC (c_X10_mix l D τ β δ ms mb mo mp mf mn mi mc mq mr w13_1 mk ml 0 ma mx h132_72 (zL v138_73) _) (cwV 1 hts (gV hB wl_X10_252 wn_X10_mix ws_X10_mix wi_X10 wc_X10_mix) rfl rfl rfl hd_X10_mix ⟨Nat.le_of_ble_eq_true rfl, Nat.le_of_ble_eq_true rfl⟩) (zp_V hK hP hD hS hA hG (ci := 10) (q0 := 0) rfl rfl rfl) rfl rfl hl.1 rfl (lv_room (Nat.le_of_ble_eq_true rfl)) dX10_digest_142 ⟨Nat.le_of_ble_eq_true rfl, Nat.le_of_ble_eq_true rfl⟩) (fun w1 H locs hq9 hP hD hS => ?_)
      obtain ⟨h142_74, hv142_0, rfl⟩ := hq9
      have hP : va_P D vwCl (wM β δ ms mb mo mp mf mn mi mc mq mr w13_1 mk ml 0 ma mx h142_74) H := hP
      have hD : va_D A (wM β δ ms mb mo mp mf mn mi mc mq mr w13_1 mk ml 0 ma mx h142_74) := hD
      refine z_iinc (k := 0) (v := i + 1) (lv' := [(1, .int (zI (i + 1))), (0, .ref (β 0))]) hx hb dX10_digest_145 hl rfl rfl (by decide) rfl (fun ls hl => ?_)
      refine lv_goto (tgt := 18) hx hb dX10_digest_148 (by decide) ?_
      exact ih_18 h142_74 (i + 1) _ _ hP hD hS _ (lv_sub hl [0, 1] rfl) (by first | assumption | rfl | omega) (by rw [itI_up hi.1, ← hh1]; unfold S_dp1 mixI; rw [hv142_0, hv132_0, hv114_0, hv103_0, hv92_0, hv82_0, hv72_0, hv62_0, hv52_0, hv42_0, hv32_0, hv38_0, hv48_0, hv58_0, hv68_0, hv78_0, hv88_0, hv138_0, hv13_0 i hi.1 (by omega)]) (by omega)

