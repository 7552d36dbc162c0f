abbrev wz_X10_highest : List Cond := .code yX10_highest cX10_highest 3 (some .int) :: W0
abbrev rm_X10_highest : Room := { frames := 0, cells := 0, slots := 0, locals := 0 }
theorem hd_X10_highest : yX10_highest.cls = RX10 ∧ yX10_highest.cls ≠ "java/lang/invoke/MethodHandle" ∧ yX10_highest.cls ≠ "java/lang/invoke/VarHandle" ∧ (parseMethodDescriptor yX10_highest.desc).map (fun d => d.parameters.length) = some 0 := by decide +kernel
set_option maxHeartbeats 4000000 in
set_option maxRecDepth 100000 in
theorem c_X10_highest (l : Launch) (D : va_G) (τ : Nat → Nat) (β : Nat → Nat) (δ : Nat → ClassId) (ms : IA) (mb : IA) (mo : IA) (mp : BA) (mf : IA) (mn : IA) (mi : IA) (mc : IA) (mq : BA) (mr : IA) (mw : IA) (mk : Int) (ml : Int) (mt : Int) (ma : Int) (mx : Bool) (mh : Int64) (hms : ∀ k, 0 ≤ k → k < 49 → 0 ≤ ms k ∧ ms k ≤ 99) : cM l yX10_highest wz_X10_highest rm_X10_highest D τ (tyM δ) [.ref (β 0)] (wM β δ ms mb mo mp mf mn mi mc mq mr mw mk ml mt ma mx mh) (zQi (fun r w => ∃ (v : Int), (v = S_arg ms 49) ∧ (0 ≤ v ∧ v < 49) ∧ r = zI v ∧ wM β δ ms mb mo mp mf mn mi mc mq mr mw mk ml mt ma mx mh = w)) := by
  refine z_ofM (cc := cX10_highest) (maxL := 3) (ret := (some .int)) (by decide +kernel) rfl (Nat.le_of_ble_eq_true rfl) ?_
  intro pg e s m args below meth c hC hr hlk hnm hK hP A hD hG hA hS ls hl Q hQ
  have hx := hC.1
  have hb := hC.2.1
  have hml := hC.2.2.1
  have hown := hC.2.2.2.1
  have hts := hC.2.2.2.2
  have hB : ∀ w ∈ W0, w ∈ wz_X10_highest := fun _ h => List.mem_cons_of_mem _ h
  have hW0 : ∀ w ∈ W0, w.before args s = true := fun w h => hts w (hB w h)
  have hl : lv_has ls 3 [(0, .ref (β 0))] := hl
  refine lv_iconst (v := zI 0) hx hb dX10_highest_0 rfl ?_
  refine lv_istore_n (lv' := [(1, .int (zI 0)), (0, .ref (β 0))]) hx hb dX10_highest_1 rfl hl (by decide) rfl (fun ls hl => ?_)
  refine lv_iconst (v := zI 1) hx hb dX10_highest_2 rfl ?_
  refine lv_istore_n (lv' := [(2, .int (zI 1)), (1, .int (zI 0)), (0, .ref (β 0))]) hx hb dX10_highest_3 rfl hl (by decide) rfl (fun ls hl => ?_)
  suffices HL_4 : ∀ (n_4 : Nat), ∀ (q : Int) (i : Int) (H : Heap) (locs : List Loc) (hP : va_P D vwCl (wM β δ ms mb mo mp mf mn mi mc mq mr mw mk ml mt ma mx mh) H) (hD : va_D A (wM β δ ms mb mo mp mf mn mi mc mq mr mw mk ml mt ma mx mh)) (hS : va_S A s.heap H locs) (ls : Array Slot) (hl : lv_has ls 3 [(1, .int (zI q)), (2, .int (zI i)), (0, .ref (β 0))]) (hi : 1 ≤ i ∧ i ≤ 49) (hq : q = S_arg ms i) (hqb : 0 ≤ q ∧ q < 49) (hm : (49 - i).toNat < n_4), W pg l e rm_X10_highest s m args below meth c H locs 0 0 Q (F0 m 4 ls []) from HL_4 _ 0 1 _ _ hP hD hS _ (lv_sub hl [1, 0, 2] rfl) (by first | assumption | rfl | omega) (by exact (S_arg_1 _).symm) (by first | assumption | rfl | omega) (Nat.lt_succ_self _)
  intro n_4
  induction n_4 with
  | zero => intro q i H locs hP hD hS ls hl hi hq hqb hm; exact absurd hm (Nat.not_lt_zero _)
  | succ n_4 ih_4 =>
    intro q i H locs hP hD hS ls hl hi hq hqb hm
    refine lv_iload_n hx hb dX10_highest_4 rfl (lv_at hl 1 rfl) ?_
    refine lv_bipush (v := zI 49) hx hb dX10_highest_5 (zI_b8 (by decide)) ?_
    refine z_icge (tgt := 37) hx hb ⟨by omega, by omega⟩ ⟨by omega, by omega⟩ dX10_highest_7 (by decide) (fun c_7 => ?_) (fun c_7 => ?_)
    · refine lv_iload_n hx hb dX10_highest_37 rfl (lv_at hl 0 rfl) ?_
      exact z_iret hC hr hlk hQ hP hD hS ⟨q, (by rw [hq, show i = 49 by omega]), (by omega), rfl, rfl⟩ dX10_highest_38
    · refine lv_aload_n hx hb dX10_highest_10 rfl (lv_at hl 2 rfl) ?_
      refine va_get (D := D) (ci := 10) (v := .ref (β 1)) (C := RX10) (T := TX10) (N := 17) hx hb hts (fun w h => List.mem_cons_of_mem _ (wx_X10 w h)) hown hK hP 0 rfl rfl 0 (by decide) (hW0 _ wf_X10_7) (fun _ h9 => h9) rfl dX10_highest_11 ?_
      refine lv_iload_n hx hb dX10_highest_14 rfl (lv_at hl 1 rfl) ?_
      refine z_iald (f := ms) hx hb hK hP 1 0 rfl rfl ⟨⟨by omega, by omega⟩, by decide⟩ dX10_highest_15 ?_
      have hb_15 := hms i (by omega) (by omega)
      refine lv_aload_n hx hb dX10_highest_16 rfl (lv_at hl 2 rfl) ?_
      refine va_get (D := D) (ci := 10) (v := .ref (β 1)) (C := RX10) (T := TX10) (N := 17) hx hb hts (fun w h => List.mem_cons_of_mem _ (wx_X10 w h)) hown hK hP 0 rfl rfl 0 (by decide) (hW0 _ wf_X10_7) (fun _ h9 => h9) rfl dX10_highest_17 ?_
      refine lv_iload_n hx hb dX10_highest_20 rfl (lv_at hl 0 rfl) ?_
      refine z_iald (f := ms) hx hb hK hP 1 0 rfl rfl ⟨⟨by omega, by omega⟩, by decide⟩ dX10_highest_21 ?_
      have hb_21 := hms q (by omega) (by omega)
      refine z_icle (tgt := 29) hx hb ⟨by omega, by omega⟩ ⟨by omega, by omega⟩ dX10_highest_22 (by decide) (fun c_22 => ?_) (fun c_22 => ?_)
      · refine lv_iload_n hx hb dX10_highest_29 rfl (lv_at hl 0 rfl) ?_
        refine lv_istore_n (lv' := [(1, .int (zI q)), (2, .int (zI i)), (0, .ref (β 0))]) hx hb dX10_highest_30 rfl hl (by decide) rfl (fun ls hl => ?_)
        refine z_iinc (k := 1) (v := i + 1) (lv' := [(2, .int (zI (i + 1))), (1, .int (zI q)), (0, .ref (β 0))]) hx hb dX10_highest_31 hl rfl rfl (by decide) rfl (fun ls hl => ?_)
        refine lv_goto (tgt := 4) hx hb dX10_highest_34 (by decide) ?_
        exact ih_4 q (i + 1) _ _ hP hD hS _ (lv_sub hl [1, 0, 2] rfl) (by first | assumption | rfl | omega) (by rw [S_arg_up (by omega), ← hq]; first | (rw [if_pos (by omega)]; done) | (rw [if_neg (by omega)]; done)) (by first | assumption | rfl | omega) (by omega)
      · refine lv_iload_n hx hb dX10_highest_25 rfl (lv_at hl 1 rfl) ?_
        refine lv_goto (tgt := 30) hx hb dX10_highest_26 (by decide) ?_
        refine lv_istore_n (lv' := [(1, .int (zI i)), (2, .int (zI i)), (0, .ref (β 0))]) hx hb dX10_highest_30 rfl hl (by decide) rfl (fun ls hl => ?_)
        refine z_iinc (k := 1) (v := i + 1) (lv' := [(2, .int (zI (i + 1))), (1, .int (zI i)), (0, .ref (β 0))]) hx hb dX10_highest_31 hl rfl rfl (by decide) rfl (fun ls hl => ?_)
        refine lv_goto (tgt := 4) hx hb dX10_highest_34 (by decide) ?_
        exact ih_4 i (i + 1) _ _ hP hD hS _ (lv_sub hl [1, 0, 2] rfl) (by first | assumption | rfl | omega) (by rw [S_arg_up (by omega), ← hq]; first | (rw [if_pos (by omega)]; done) | (rw [if_neg (by omega)]; done)) (by first | assumption | rfl | omega) (by omega)

abbrev wz_X10_summit : List Cond := .code yX10_summit cX10_summit 1 (some .int) :: W0
abbrev rm_X10_summit : Room := { frames := 1, cells := 0, slots := 0, locals := 22 }
theorem hd_X10_summit : yX10_summit.cls = RX10 ∧ yX10_summit.cls ≠ "java/lang/invoke/MethodHandle" ∧ yX10_summit.cls ≠ "java/lang/invoke/VarHandle" ∧ (parseMethodDescriptor yX10_summit.desc).map (fun d => d.parameters.length) = some 0 := by decide +kernel
set_option maxHeartbeats 4000000 in
set_option maxRecDepth 100000 in
theorem c_X10_summit (l : Launch) (D : va_G) (τ : Nat → Nat) (β : Nat → Nat) (δ : Nat → ClassId) (ms : IA) (mb : IA) (mo : IA) (mp : BA) (mf : IA) (mn : IA) (mi : IA) (mc : IA) (mq : BA) (mr : IA) (mw : IA) (mk : Int) (ml : Int) (mt : Int) (ma : Int) (mx : Bool) (mh : Int64) (hms : ∀ k, 0 ≤ k → k < 49 → 0 ≤ ms k ∧ ms k ≤ 99) : cM l yX10_summit wz_X10_summit rm_X10_summit D τ (tyM δ) [.ref (β 0)] (wM β δ ms mb mo mp mf mn mi mc mq mr mw mk ml mt ma mx mh) (zQi (fun r w => ∃ (v : Int), (v = S_arg ms 49) ∧ (0 ≤ v ∧ v < 49) ∧ r = zI v ∧ wM β δ ms mb mo mp mf mn mi mc mq mr mw mk ml 0 ma mx mh = w)) := by
  refine z_ofM (cc := cX10_summit) (maxL := 1) (ret := (some .int)) (by decide +kernel) rfl (Nat.le_of_ble_eq_true rfl) ?_
  intro pg e s m args below meth c hC hr hlk hnm hK hP A hD hG hA hS ls hl Q hQ
  have hx := hC.1
  have hb := hC.2.1
  have hml := hC.2.2.1
  have hown := hC.2.2.2.1
  have hts := hC.2.2.2.2
  have hB : ∀ w ∈ W0, w ∈ wz_X10_summit := fun _ h => List.mem_cons_of_mem _ h
  have hW0 : ∀ w ∈ W0, w.before args s = true := fun w h => hts w (hB w h)
  have hl : lv_has ls 1 [(0, .ref (β 0))] := hl
  refine lv_aload_n hx hb dX10_summit_0 rfl (lv_at hl 0 rfl) ?_
  refine lv_iconst (v := zI 0) hx hb dX10_summit_1 rfl ?_
  refine va_put (D := D) (ci := 10) (v := .int (zI 0)) (ty := .int) (C := RX10) (T := TX10) (N := 17) hx hb hts (fun w h => List.mem_cons_of_mem _ (wx_X10 w h)) tyX10 tyX10_ok nmX10 hown hK hP hD hS 0 rfl rfl 7 (by decide) (hW0 _ wf_X10_44) (fun _ h9 => h9) rfl (by decide +kernel) rfl rfl (Nat.le_of_ble_eq_true rfl) dX10_summit_2 (fun H locs hP hD hS => ?_)
  have hP : va_P D vwCl (wM β δ ms mb mo mp mf mn mi mc mq mr mw mk ml 0 ma mx mh) H := hP
  have hD : va_D A (wM β δ ms mb mo mp mf mn mi mc mq mr mw mk ml 0 ma mx mh) := hD
  refine lv_aload_n hx hb dX10_summit_5 rfl (lv_at hl 0 rfl) ?_
  refine z_calli hP hD hS hA (va_runV (As := []) (rest := []) hC (c_X10_highest l D τ β δ ms mb mo mp mf mn mi mc mq mr mw mk ml 0 ma mx mh (by first | assumption | rfl | omega) _) (cwV 0 hts (gV hB wl_X10_123 wn_X10_highest ws_X10_highest wi_X10 wc_X10_highest) rfl rfl rfl hd_X10_highest ⟨Nat.le_of_ble_eq_true rfl, Nat.le_of_ble_eq_true rfl⟩) (zp_V hK hP hD hS hA hG (ci := 10) (q0 := 0) rfl rfl rfl) rfl rfl hl.1 rfl (lv_room (Nat.le_of_ble_eq_true rfl)) dX10_summit_6 ⟨Nat.le_of_ble_eq_true rfl, Nat.le_of_ble_eq_true rfl⟩) (fun r w1 H locs hq9 hP hD hS => ?_)
  obtain ⟨v6_1, hv6_0, hv6_1, rfl, rfl⟩ := hq9
  have hP : va_P D vwCl (wM β δ ms mb mo mp mf mn mi mc mq mr mw mk ml 0 ma mx mh) H := hP
  have hD : va_D A (wM β δ ms mb mo mp mf mn mi mc mq mr mw mk ml 0 ma mx mh) := hD
  exact z_iret hC hr hlk hQ hP hD hS ⟨v6_1, (by first | assumption | rfl | omega), (by first | assumption | rfl | omega), rfl, rfl⟩ dX10_summit_9

abbrev wz_X10_sum : List Cond := .code yX10_sum cX10_sum 3 (some .int) :: W0
abbrev rm_X10_sum : Room := { frames := 0, cells := 0, slots := 0, locals := 0 }
theorem hd_X10_sum : yX10_sum.cls = RX10 ∧ yX10_sum.cls ≠ "java/lang/invoke/MethodHandle" ∧ yX10_sum.cls ≠ "java/lang/invoke/VarHandle" ∧ (parseMethodDescriptor yX10_sum.desc).map (fun d => d.parameters.length) = some 0 := by decide +kernel
set_option maxHeartbeats 4000000 in
set_option maxRecDepth 100000 in
theorem c_X10_sum (l : Launch) (D : va_G) (τ : Nat → Nat) (β : Nat → Nat) (δ : Nat → ClassId) (ms : IA) (mb : IA) (mo : IA) (mp : BA) (mf : IA) (mn : IA) (mi : IA) (mc : IA) (mq : BA) (mr : IA) (mw : IA) (mk : Int) (ml : Int) (mt : Int) (ma : Int) (mx : Bool) (mh : Int64) (hms : ∀ k, 0 ≤ k → k < 49 → 0 ≤ ms k ∧ ms k ≤ 99) : cM l yX10_sum wz_X10_sum rm_X10_sum D τ (tyM δ) [.ref (β 0)] (wM β δ ms mb mo mp mf mn mi mc mq mr mw mk ml mt ma mx mh) (zQi (fun r w => ∃ (v : Int), (v = zS ms 49) ∧ (0 ≤ v ∧ v ≤ 4851) ∧ r = zI v ∧ wM β δ ms mb mo mp mf mn mi mc mq mr mw mk ml mt ma mx mh = w)) := by
  refine z_ofM (cc := cX10_sum) (maxL := 3) (ret := (some .int)) (by decide +kernel) rfl (Nat.le_of_ble_eq_true rfl) ?_
  intro pg e s m args below meth c hC hr hlk hnm hK hP A hD hG hA hS ls hl Q hQ
  have hx := hC.1
  have hb := hC.2.1
  have hml := hC.2.2.1
  have hown := hC.2.2.2.1
  have hts := hC.2.2.2.2
  have hB : ∀ w ∈ W0, w ∈ wz_X10_sum := fun _ h => List.mem_cons_of_mem _ h
  have hW0 : ∀ w ∈ W0, w.before args s = true := fun w h => hts w (hB w h)
  have hl : lv_has ls 3 [(0, .ref (β 0))] := hl
  refine lv_iconst (v := zI 0) hx hb dX10_sum_0 rfl ?_
  refine lv_istore_n (lv' := [(1, .int (zI 0)), (0, .ref (β 0))]) hx hb dX10_sum_1 rfl hl (by decide) rfl (fun ls hl => ?_)
  refine lv_iconst (v := zI 0) hx hb dX10_sum_2 rfl ?_
  refine lv_istore_n (lv' := [(2, .int (zI 0)), (1, .int (zI 0)), (0, .ref (β 0))]) hx hb dX10_sum_3 rfl hl (by decide) rfl (fun ls hl => ?_)
  suffices HL_4 : ∀ (n_4 : Nat), ∀ (g : Int) (i : Int) (H : Heap) (locs : List Loc) (hP : va_P D vwCl (wM β δ ms mb mo mp mf mn mi mc mq mr mw mk ml mt ma mx mh) H) (hD : va_D A (wM β δ ms mb mo mp mf mn mi mc mq mr mw mk ml mt ma mx mh)) (hS : va_S A s.heap H locs) (ls : Array Slot) (hl : lv_has ls 3 [(1, .int (zI g)), (2, .int (zI i)), (0, .ref (β 0))]) (hi : 0 ≤ i ∧ i ≤ 49) (hg : g = zS ms i) (hgb : 0 ≤ g ∧ g ≤ 99 * i) (hm : (49 - i).toNat < n_4), W pg l e rm_X10_sum s m args below meth c H locs 0 0 Q (F0 m 4 ls []) from HL_4 _ 0 0 _ _ hP hD hS _ (lv_sub hl [1, 0, 2] rfl) (by first | assumption | rfl | omega) (by exact (zS_0 _).symm) (by first | assumption | rfl | omega) (Nat.lt_succ_self _)
  intro n_4
  induction n_4 with
  | zero => intro g i H locs hP hD hS ls hl hi hg hgb hm; exact absurd hm (Nat.not_lt_zero _)
  | succ n_4 ih_4 =>
    intro g i H locs hP hD hS ls hl hi hg hgb hm
    refine lv_iload_n hx hb dX10_sum_4 rfl (lv_at hl 1 rfl) ?_
    refine lv_bipush (v := zI 49) hx hb dX10_sum_5 (zI_b8 (by decide)) ?_
    refine z_icge (tgt := 25) hx hb ⟨by omega, by omega⟩ ⟨by omega, by omega⟩ dX10_sum_7 (by decide) (fun c_7 => ?_) (fun c_7 => ?_)
    · refine lv_iload_n hx hb dX10_sum_25 rfl (lv_at hl 0 rfl) ?_
      exact z_iret hC hr hlk hQ hP hD hS ⟨g, (by rw [hg, show i = 49 by omega]), (by omega), rfl, rfl⟩ dX10_sum_26
    · refine lv_iload_n hx hb dX10_sum_10 rfl (lv_at hl 0 rfl) ?_
      refine lv_aload_n hx hb dX10_sum_11 rfl (lv_at hl 2 rfl) ?_
      refine va_get (D := D) (ci := 10) (v := .ref (β 1)) (C := RX10) (T := TX10) (N := 17) hx hb hts (fun w h => List.mem_cons_of_mem _ (wx_X10 w h)) hown hK hP 0 rfl rfl 0 (by decide) (hW0 _ wf_X10_7) (fun _ h9 => h9) rfl dX10_sum_12 ?_
      refine lv_iload_n hx hb dX10_sum_15 rfl (lv_at hl 1 rfl) ?_
      refine z_iald (f := ms) hx hb hK hP 1 0 rfl rfl ⟨⟨by omega, by omega⟩, by decide⟩ dX10_sum_16 ?_
      have hb_16 := hms i (by omega) (by omega)
      refine z_iadd hx hb dX10_sum_17 ?_
      refine lv_istore_n (lv' := [(1, .int (zI (g + (ms i)))), (2, .int (zI i)), (0, .ref (β 0))]) hx hb dX10_sum_18 rfl hl (by decide) rfl (fun ls hl => ?_)
      refine z_iinc (k := 1) (v := i + 1) (lv' := [(2, .int (zI (i + 1))), (1, .int (zI (g + (ms i)))), (0, .ref (β 0))]) hx hb dX10_sum_19 hl rfl rfl (by decide) rfl (fun ls hl => ?_)
      refine lv_goto (tgt := 4) hx hb dX10_sum_22 (by decide) ?_
      exact ih_4 (g + (ms i)) (i + 1) _ _ hP hD hS _ (lv_sub hl [1, 0, 2] rfl) (by first | assumption | rfl | omega) (by rw [zS_up hi.1, ← hg]) (by first | assumption | rfl | omega) (by omega)

abbrev wz_X10_bulk : List Cond := .code yX10_bulk cX10_bulk 1 (some .int) :: W0
abbrev rm_X10_bulk : Room := { frames := 1, cells := 0, slots := 0, locals := 22 }
theorem hd_X10_bulk : yX10_bulk.cls = RX10 ∧ yX10_bulk.cls ≠ "java/lang/invoke/MethodHandle" ∧ yX10_bulk.cls ≠ "java/lang/invoke/VarHandle" ∧ (parseMethodDescriptor yX10_bulk.desc).map (fun d => d.parameters.length) = some 0 := by decide +kernel
set_option maxHeartbeats 4000000 in
set_option maxRecDepth 100000 in
theorem c_X10_bulk (l : Launch) (D : va_G) (τ : Nat → Nat) (β : Nat → Nat) (δ : Nat → ClassId) (ms : IA) (mb : IA) (mo : IA) (mp : BA) (mf : IA) (mn : IA) (mi : IA) (mc : IA) (mq : BA) (mr : IA) (mw : IA) (mk : Int) (ml : Int) (mt : Int) (ma : Int) (mx : Bool) (mh : Int64) (hms : ∀ k, 0 ≤ k → k < 49 → 0 ≤ ms k ∧ ms k ≤ 99) : cM l yX10_bulk wz_X10_bulk rm_X10_bulk D τ (tyM δ) [.ref (β 0)] (wM β δ ms mb mo mp mf mn mi mc mq mr mw mk ml mt ma mx mh) (zQi (fun r w => ∃ (v : Int), (v = zS ms 49) ∧ (0 ≤ v ∧ v ≤ 4851) ∧ r = zI v ∧ wM β δ ms mb mo mp mf mn mi mc mq mr mw mk ml 0 ma mx mh = w)) := by
  refine z_ofM (cc := cX10_bulk) (maxL := 1) (ret := (some .int)) (by decide +kernel) rfl (Nat.le_of_ble_eq_true rfl) ?_
  intro pg e s m args below meth c hC hr hlk hnm hK hP A hD hG hA hS ls hl Q hQ
  have hx := hC.1
  have hb := hC.2.1
  have hml := hC.2.2.1
  have hown := hC.2.2.2.1
  have hts := hC.2.2.2.2
  have hB : ∀ w ∈ W0, w ∈ wz_X10_bulk := fun _ h => List.mem_cons_of_mem _ h
  have hW0 : ∀ w ∈ W0, w.before args s = true := fun w h => hts w (hB w h)
  have hl : lv_has ls 1 [(0, .ref (β 0))] := hl
  refine lv_aload_n hx hb dX10_bulk_0 rfl (lv_at hl 0 rfl) ?_
  refine lv_iconst (v := zI 0) hx hb dX10_bulk_1 rfl ?_
  refine va_put (D := D) (ci := 10) (v := .int (zI 0)) (ty := .int) (C := RX10) (T := TX10) (N := 17) hx hb hts (fun w h => List.mem_cons_of_mem _ (wx_X10 w h)) tyX10 tyX10_ok nmX10 hown hK hP hD hS 0 rfl rfl 7 (by decide) (hW0 _ wf_X10_44) (fun _ h9 => h9) rfl (by decide +kernel) rfl rfl (Nat.le_of_ble_eq_true rfl) dX10_bulk_2 (fun H locs hP hD hS => ?_)
  have hP : va_P D vwCl (wM β δ ms mb mo mp mf mn mi mc mq mr mw mk ml 0 ma mx mh) H := hP
  have hD : va_D A (wM β δ ms mb mo mp mf mn mi mc mq mr mw mk ml 0 ma mx mh) := hD
  refine lv_aload_n hx hb dX10_bulk_5 rfl (lv_at hl 0 rfl) ?_
  refine z_calli hP hD hS hA (va_runV (As := []) (rest := []) hC (c_X10_sum l D τ β δ ms mb mo mp mf mn mi mc mq mr mw mk ml 0 ma mx mh (by first | assumption | rfl | omega) _) (cwV 0 hts (gV hB wl_X10_126 wn_X10_sum ws_X10_sum wi_X10 wc_X10_sum) rfl rfl rfl hd_X10_sum ⟨Nat.le_of_ble_eq_true rfl, Nat.le_of_ble_eq_true rfl⟩) (zp_V hK hP hD hS hA hG (ci := 10) (q0 := 0) rfl rfl rfl) rfl rfl hl.1 rfl (lv_room (Nat.le_of_ble_eq_true rfl)) dX10_bulk_6 ⟨Nat.le_of_ble_eq_true rfl, Nat.le_of_ble_eq_true rfl⟩) (fun r w1 H locs hq9 hP hD hS => ?_)
  obtain ⟨v6_1, hv6_0, hv6_1, rfl, rfl⟩ := hq9
  have hP : va_P D vwCl (wM β δ ms mb mo mp mf mn mi mc mq mr mw mk ml 0 ma mx mh) H := hP
  have hD : va_D A (wM β δ ms mb mo mp mf mn mi mc mq mr mw mk ml 0 ma mx mh) := hD
  exact z_iret hC hr hlk hQ hP hD hS ⟨v6_1, (by first | assumption | rfl | omega), (by first | assumption | rfl | omega), rfl, rfl⟩ dX10_bulk_9

abbrev wz_X10_isAbove : List Cond := .code yX10_isAbove cX10_isAbove 3 (some .boolean) :: W0
abbrev rm_X10_isAbove : Room := { frames := 0, cells := 0, slots := 0, locals := 0 }
theorem hd_X10_isAbove : yX10_isAbove.cls = RX10 ∧ yX10_isAbove.cls ≠ "java/lang/invoke/MethodHandle" ∧ yX10_isAbove.cls ≠ "java/lang/invoke/VarHandle" ∧ (parseMethodDescriptor yX10_isAbove.desc).map (fun d => d.parameters.length) = some 2 := by decide +kernel
set_option maxHeartbeats 4000000 in
set_option maxRecDepth 100000 in
theorem c_X10_isAbove (l : Launch) (D : va_G) (τ : Nat → Nat) (β : Nat → Nat) (δ : Nat → ClassId) (ms : IA) (mb : IA) (mo : IA) (mp : BA) (mf : IA) (mn : IA) (mi : IA) (mc : IA) (mq : BA) (mr : IA) (mw : IA) (mk : Int) (ml : Int) (mt : Int) (ma : Int) (mx : Bool) (mh : Int64) (p : Int) (lv9 : Int) (hp : 0 ≤ p ∧ p < 49) (hlv : 0 ≤ lv9 ∧ lv9 ≤ 98) (hms : ∀ k, 0 ≤ k → k < 49 → 0 ≤ ms k ∧ ms k ≤ 99) : cM l yX10_isAbove wz_X10_isAbove rm_X10_isAbove D τ (tyM δ) [.ref (β 0), .int (zI p), .int (zI lv9)] (wM β δ ms mb mo mp mf mn mi mc mq mr mw mk ml mt ma mx mh) (zQi (fun r w => ∃ (v : Bool), (v = S_hi ms lv9 p) ∧ r = bI v ∧ wM β δ ms mb mo mp mf mn mi mc mq mr mw mk ml mt ma mx mh = w)) := by
  refine z_ofM (cc := cX10_isAbove) (maxL := 3) (ret := (some .boolean)) (by decide +kernel) rfl (Nat.le_of_ble_eq_true rfl) ?_
  intro pg e s m args below meth c hC hr hlk hnm hK hP A hD hG hA hS ls hl Q hQ
  have hx := hC.1
  have hb := hC.2.1
  have hml := hC.2.2.1
  have hown := hC.2.2.2.1
  have hts := hC.2.2.2.2
  have hB : ∀ w ∈ W0, w ∈ wz_X10_isAbove := fun _ h => List.mem_cons_of_mem _ h
  have hW0 : ∀ w ∈ W0, w.before args s = true := fun w h => hts w (hB w h)
  have hl : lv_has ls 3 [(0, .ref (β 0)), (1, .int (zI p)), (2, .int (zI lv9))] := hl
  refine lv_aload_n hx hb dX10_isAbove_0 rfl (lv_at hl 0 rfl) ?_
  refine va_get (D := D) (ci := 10) (v := .ref (β 1)) (C := RX10) (T := TX10) (N := 17) hx hb hts (fun w h => List.mem_cons_of_mem _ (wx_X10 w h)) hown hK hP 0 rfl rfl 0 (by decide) (hW0 _ wf_X10_7) (fun _ h9 => h9) rfl dX10_isAbove_1 ?_
  refine lv_iload_n hx hb dX10_isAbove_4 rfl (lv_at hl 1 rfl) ?_
  refine z_iald (f := ms) hx hb hK hP 1 0 rfl rfl ⟨⟨by omega, by omega⟩, by decide⟩ dX10_isAbove_5 ?_
  have hb_5 := hms p (by omega) (by omega)
  refine lv_iload_n hx hb dX10_isAbove_6 rfl (lv_at hl 2 rfl) ?_
  refine z_icle (tgt := 14) hx hb ⟨by omega, by omega⟩ ⟨by omega, by omega⟩ dX10_isAbove_7 (by decide) (fun c_7 => ?_) (fun c_7 => ?_)
  · refine lv_iconst (v := zI 0) hx hb dX10_isAbove_14 rfl ?_
    refine W.eq (g2 := F0 m 15 ls [.int (bI false)]) rfl ?_
    exact z_zret hC hr hlk hQ hP hD hS ⟨false, (by unfold S_hi; first | exact (decide_eq_true (by omega)).symm | exact (decide_eq_false (by omega)).symm), rfl, rfl⟩ dX10_isAbove_15
  · refine lv_iconst (v := zI 1) hx hb dX10_isAbove_10 rfl ?_
    refine lv_goto (tgt := 15) hx hb dX10_isAbove_11 (by decide) ?_
    refine W.eq (g2 := F0 m 15 ls [.int (bI true)]) rfl ?_
    exact z_zret hC hr hlk hQ hP hD hS ⟨true, (by unfold S_hi; first | exact (decide_eq_true (by omega)).symm | exact (decide_eq_false (by omega)).symm), rfl, rfl⟩ dX10_isAbove_15

abbrev wz_X10_above : List Cond := .code yX10_above cX10_above 4 (some .int) :: W0
abbrev rm_X10_above : Room := { frames := 1, cells := 0, slots := 0, locals := 22 }
theorem hd_X10_above : yX10_above.cls = RX10 ∧ yX10_above.cls ≠ "java/lang/invoke/MethodHandle" ∧ yX10_above.cls ≠ "java/lang/invoke/VarHandle" ∧ (parseMethodDescriptor yX10_above.desc).map (fun d => d.parameters.length) = some 1 := by decide +kernel
set_option maxHeartbeats 4000000 in
set_option maxRecDepth 100000 in
theorem c_X10_above (l : Launch) (D : va_G) (τ : Nat → Nat) (β : Nat → Nat) (δ : Nat → ClassId) (ms : IA) (mb : IA) (mo : IA) (mp : BA) (mf : IA) (mn : IA) (mi : IA) (mc : IA) (mq : BA) (mr : IA) (mw : IA) (mk : Int) (ml : Int) (mt : Int) (ma : Int) (mx : Bool) (mh : Int64) (lv9 : Int) (hlv : 0 ≤ lv9 ∧ lv9 ≤ 98) (hms : ∀ k, 0 ≤ k → k < 49 → 0 ≤ ms k ∧ ms k ≤ 99) : cM l yX10_above wz_X10_above rm_X10_above D τ (tyM δ) [.ref (β 0), .int (zI lv9)] (wM β δ ms mb mo mp mf mn mi mc mq mr mw mk ml mt ma mx mh) (zQi (fun r w => ∃ (v : Int), (v = zC (S_hi ms lv9) 49) ∧ (0 ≤ v ∧ v ≤ 49) ∧ r = zI v ∧ wM β δ ms mb mo mp mf mn mi mc mq mr mw mk ml mt ma mx mh = w)) := by
  refine z_ofM (cc := cX10_above) (maxL := 4) (ret := (some .int)) (by decide +kernel) rfl (Nat.le_of_ble_eq_true rfl) ?_
  intro pg e s m args below meth c hC hr hlk hnm hK hP A hD hG hA hS ls hl Q hQ
  have hx := hC.1
  have hb := hC.2.1
  have hml := hC.2.2.1
  have hown := hC.2.2.2.1
  have hts := hC.2.2.2.2
  have hB : ∀ w ∈ W0, w ∈ wz_X10_above := fun _ h => List.mem_cons_of_mem _ h
  have hW0 : ∀ w ∈ W0, w.before args s = true := fun w h => hts w (hB w h)
  have hl : lv_has ls 4 [(0, .ref (β 0)), (1, .int (zI lv9))] := hl
  refine lv_iconst (v := zI 0) hx hb dX10_above_0 rfl ?_
  refine lv_istore_n (lv' := [(2, .int (zI 0)), (0, .ref (β 0)), (1, .int (zI lv9))]) hx hb dX10_above_1 rfl hl (by decide) rfl (fun ls hl => ?_)
  refine lv_iconst (v := zI 0) hx hb dX10_above_2 rfl ?_
  refine lv_istore_n (lv' := [(3, .int (zI 0)), (2, .int (zI 0)), (0, .ref (β 0)), (1, .int (zI lv9))]) hx hb dX10_above_3 rfl hl (by decide) rfl (fun ls hl => ?_)
  suffices HL_4 : ∀ (n_4 : Nat), ∀ (g : Int) (i : Int) (H : Heap) (locs : List Loc) (hP : va_P D vwCl (wM β δ ms mb mo mp mf mn mi mc mq mr mw mk ml mt ma mx mh) H) (hD : va_D A (wM β δ ms mb mo mp mf mn mi mc mq mr mw mk ml mt ma mx mh)) (hS : va_S A s.heap H locs) (ls : Array Slot) (hl : lv_has ls 4 [(2, .int (zI g)), (3, .int (zI i)), (0, .ref (β 0)), (1, .int (zI lv9))]) (hi : 0 ≤ i ∧ i ≤ 49) (hg : g = zC (S_hi ms lv9) i) (hgb : 0 ≤ g ∧ g ≤ i) (hm : (49 - i).toNat < n_4), W pg l e rm_X10_above s m args below meth c H locs 0 0 Q (F0 m 4 ls []) from HL_4 _ 0 0 _ _ hP hD hS _ (lv_sub hl [1, 0, 2, 3] rfl) (by first | assumption | rfl | omega) (by exact (zC_0 _).symm) (by first | assumption | rfl | omega) (Nat.lt_succ_self _)
  intro n_4
  induction n_4 with
  | zero => intro g i H locs hP hD hS ls hl hi hg hgb hm; exact absurd hm (Nat.not_lt_zero _)
  | succ n_4 ih_4 =>
    intro g i H locs hP hD hS ls hl hi hg hgb hm
    refine lv_iload_n hx hb dX10_above_4 rfl (lv_at hl 1 rfl) ?_
    refine lv_bipush (v := zI 49) hx hb dX10_above_5 (zI_b8 (by decide)) ?_
    refine z_icge (tgt := 33) hx hb ⟨by omega, by omega⟩ ⟨by omega, by omega⟩ dX10_above_7 (by decide) (fun c_7 => ?_) (fun c_7 => ?_)
    · refine lv_iload_n hx hb dX10_above_33 rfl (lv_at hl 0 rfl) ?_
      exact z_iret hC hr hlk hQ hP hD hS ⟨g, (by rw [hg, show i = 49 by omega]), (by omega), rfl, rfl⟩ dX10_above_34
    · refine lv_iload_n hx hb dX10_above_10 rfl (lv_at hl 0 rfl) ?_
      refine lv_aload_n hx hb dX10_above_11 rfl (lv_at hl 2 rfl) ?_
      refine lv_iload_n hx hb dX10_above_12 rfl (lv_at hl 1 rfl) ?_
      refine lv_iload_n hx hb dX10_above_13 rfl (lv_at hl 3 rfl) ?_
      refine z_calli hP hD hS hA (va_runV (As := [.int (zI i), .int (zI lv9)]) (rest := [.int (zI g)]) hC (c_X10_isAbove l D τ β δ ms mb mo mp mf mn mi mc mq mr mw mk ml mt ma mx mh i lv9 (by first | assumption | rfl | omega) (by first | assumption | rfl | omega) (by first | assumption | rfl | omega) _) (cwV 2 hts (gV hB wl_X10_129 wn_X10_isAbove ws_X10_isAbove wi_X10 wc_X10_isAbove) rfl rfl rfl hd_X10_isAbove ⟨Nat.le_of_ble_eq_true rfl, Nat.le_of_ble_eq_true rfl⟩) (zp_V hK hP hD hS hA hG (ci := 10) (q0 := 0) rfl rfl rfl) rfl rfl hl.1 rfl (lv_room (Nat.le_of_ble_eq_true rfl)) dX10_above_14 ⟨Nat.le_of_ble_eq_true rfl, Nat.le_of_ble_eq_true rfl⟩) (fun r w1 H locs hq9 hP hD hS => ?_)
      obtain ⟨v14_1, hv14_0, rfl, rfl⟩ := hq9
      have hP : va_P D vwCl (wM β δ ms mb mo mp mf mn mi mc mq mr mw mk ml mt ma mx mh) H := hP
      have hD : va_D A (wM β δ ms mb mo mp mf mn mi mc mq mr mw mk ml mt ma mx mh) := hD
      refine z_ifeqB (tgt := 24) hx hb dX10_above_17 (by decide) (fun c_17 => ?_) (fun c_17 => ?_)
      · refine lv_iconst (v := zI 0) hx hb dX10_above_24 rfl ?_
        refine z_iadd hx hb dX10_above_25 ?_
        refine lv_istore_n (lv' := [(2, .int (zI (g + 0))), (3, .int (zI i)), (0, .ref (β 0)), (1, .int (zI lv9))]) hx hb dX10_above_26 rfl hl (by decide) rfl (fun ls hl => ?_)
        refine z_iinc (k := 1) (v := i + 1) (lv' := [(3, .int (zI (i + 1))), (2, .int (zI (g + 0))), (0, .ref (β 0)), (1, .int (zI lv9))]) hx hb dX10_above_27 hl rfl rfl (by decide) rfl (fun ls hl => ?_)
        refine lv_goto (tgt := 4) hx hb dX10_above_30 (by decide) ?_
        exact ih_4 (g + 0) (i + 1) _ _ hP hD hS _ (lv_sub hl [1, 0, 2, 3] rfl) (by first | assumption | rfl | omega) (by rw [zC_up hi.1, ← hg]; first | (rw [z1_t (hv14_0.symm.trans c_17)]; done) | (rw [z1_f (hv14_0.symm.trans c_17)]; done)) (by first | assumption | rfl | omega) (by omega)
      · refine lv_iconst (v := zI 1) hx hb dX10_above_20 rfl ?_
        refine lv_goto (tgt := 25) hx hb dX10_above_21 (by decide) ?_
        refine z_iadd hx hb dX10_above_25 ?_
        refine lv_istore_n (lv' := [(2, .int (zI (g + 1))), (3, .int (zI i)), (0, .ref (β 0)), (1, .int (zI lv9))]) hx hb dX10_above_26 rfl hl (by decide) rfl (fun ls hl => ?_)
        refine z_iinc (k := 1) (v := i + 1) (lv' := [(3, .int (zI (i + 1))), (2, .int (zI (g + 1))), (0, .ref (β 0)), (1, .int (zI lv9))]) hx hb dX10_above_27 hl rfl rfl (by decide) rfl (fun ls hl => ?_)
        refine lv_goto (tgt := 4) hx hb dX10_above_30 (by decide) ?_
        exact ih_4 (g + 1) (i + 1) _ _ hP hD hS _ (lv_sub hl [1, 0, 2, 3] rfl) (by first | assumption | rfl | omega) (by rw [zC_up hi.1, ← hg]; first | (rw [z1_t (hv14_0.symm.trans c_17)]; done) | (rw [z1_f (hv14_0.symm.trans c_17)]; done)) (by first | assumption | rfl | omega) (by omega)

abbrev wz_X10_pointsAbove : List Cond := .code yX10_pointsAbove cX10_pointsAbove 2 (some .int) :: W0
abbrev rm_X10_pointsAbove : Room := { frames := 2, cells := 0, slots := 0, locals := 45 }
theorem hd_X10_pointsAbove : yX10_pointsAbove.cls = RX10 ∧ yX10_pointsAbove.cls ≠ "java/lang/invoke/MethodHandle" ∧ yX10_pointsAbove.cls ≠ "java/lang/invoke/VarHandle" ∧ (parseMethodDescriptor yX10_pointsAbove.desc).map (fun d => d.parameters.length) = some 1 := by decide +kernel
set_option maxHeartbeats 4000000 in
set_option maxRecDepth 100000 in
theorem c_X10_pointsAbove (l : Launch) (D : va_G) (τ : Nat → Nat) (β : Nat → Nat) (δ : Nat → ClassId) (ms : IA) (mb : IA) (mo : IA) (mp : BA) (mf : IA) (mn : IA) (mi : IA) (mc : IA) (mq : BA) (mr : IA) (mw : IA) (mk : Int) (ml : Int) (mt : Int) (ma : Int) (mx : Bool) (mh : Int64) (lv9 : Int) (hlv : -2147483648 ≤ lv9 ∧ lv9 < 2147483648) (hms : ∀ k, 0 ≤ k → k < 49 → 0 ≤ ms k ∧ ms k ≤ 99) : cM l yX10_pointsAbove wz_X10_pointsAbove rm_X10_pointsAbove D τ (tyM δ) [.ref (β 0), .int (zI lv9)] (wM β δ ms mb mo mp mf mn mi mc mq mr mw mk ml mt ma mx mh) (zQi (fun r w => ∃ (t2 : Int), ∃ (v : Int), (t2 = S_tlev lv9) ∧ (t2 = 0 → v = zC (S_hi ms lv9) 49) ∧ r = zI v ∧ wM β δ ms mb mo mp mf mn mi mc mq mr mw mk ml t2 ma mx mh = w)) := by
  refine z_ofM (cc := cX10_pointsAbove) (maxL := 2) (ret := (some .int)) (by decide +kernel) rfl (Nat.le_of_ble_eq_true rfl) ?_
  intro pg e s m args below meth c hC hr hlk hnm hK hP A hD hG hA hS ls hl Q hQ
  have hx := hC.1
  have hb := hC.2.1
  have hml := hC.2.2.1
  have hown := hC.2.2.2.1
  have hts := hC.2.2.2.2
  have hB : ∀ w ∈ W0, w ∈ wz_X10_pointsAbove := fun _ h => List.mem_cons_of_mem _ h
  have hW0 : ∀ w ∈ W0, w.before args s = true := fun w h => hts w (hB w h)
  have hl : lv_has ls 2 [(0, .ref (β 0)), (1, .int (zI lv9))] := hl
  refine lv_aload_n hx hb dX10_pointsAbove_0 rfl (lv_at hl 0 rfl) ?_
  refine lv_iload_n hx hb dX10_pointsAbove_1 rfl (lv_at hl 1 rfl) ?_
  refine z_calli hP hD hS hA (va_runV (As := [.int (zI lv9)]) (rest := []) hC (c_X10_isLevel l D τ β δ ms mb mo mp mf mn mi mc mq mr mw mk ml mt ma mx mh lv9 (by first | assumption | rfl | omega) _) (cwV 1 hts (gV hB wl_X10_132 wn_X10_isLevel ws_X10_isLevel wi_X10 wc_X10_isLevel) rfl rfl rfl hd_X10_isLevel ⟨Nat.le_of_ble_eq_true rfl, Nat.le_of_ble_eq_true rfl⟩) (zp_V hK hP hD hS hA hG (ci := 10) (q0 := 0) rfl rfl rfl) rfl rfl hl.1 rfl (lv_room (Nat.le_of_ble_eq_true rfl)) dX10_pointsAbove_2 ⟨Nat.le_of_ble_eq_true rfl, Nat.le_of_ble_eq_true rfl⟩) (fun r w1 H locs hq9 hP hD hS => ?_)
  obtain ⟨t2_1, v2_2, hv2_0, hv2_1, rfl, rfl⟩ := hq9
  have hP : va_P D vwCl (wM β δ ms mb mo mp mf mn mi mc mq mr mw mk ml t2_1 ma mx mh) H := hP
  have hD : va_D A (wM β δ ms mb mo mp mf mn mi mc mq mr mw mk ml t2_1 ma mx mh) := hD
  refine z_ifeqB (tgt := 16) hx hb dX10_pointsAbove_5 (by decide) (fun c_5 => ?_) (fun c_5 => ?_)
  · have hb_5 := zb_neg hv2_0 c_5
    refine lv_iconst (v := zI 0) hx hb dX10_pointsAbove_16 rfl ?_
    exact z_iret hC hr hlk hQ hP hD hS ⟨t2_1, 0, (by exact hv2_1), (by first | exact fun _ => hv10_0 | (intro h9; rw [hv2_1] at h9; unfold S_tlev at h9; rw [if_neg hb_5] at h9; exact absurd h9 (by decide))), rfl, rfl⟩ dX10_pointsAbove_17
  · have hb_5 := hv2_0.mp c_5
    refine lv_aload_n hx hb dX10_pointsAbove_8 rfl (lv_at hl 0 rfl) ?_
    refine lv_iload_n hx hb dX10_pointsAbove_9 rfl (lv_at hl 1 rfl) ?_
    refine z_calli hP hD hS hA (va_runV (As := [.int (zI lv9)]) (rest := []) hC (c_X10_above l D τ β δ ms mb mo mp mf mn mi mc mq mr mw mk ml t2_1 ma mx mh lv9 (by exact hb_5) (by first | assumption | rfl | omega) _) (cwV 1 hts (gV hB wl_X10_136 wn_X10_above ws_X10_above wi_X10 wc_X10_above) rfl rfl rfl hd_X10_above ⟨Nat.le_of_ble_eq_true rfl, Nat.le_of_ble_eq_true rfl⟩) (zp_V hK hP hD hS hA hG (ci := 10) (q0 := 0) rfl rfl rfl) rfl rfl hl.1 rfl (lv_room (Nat.le_of_ble_eq_true rfl)) dX10_pointsAbove_10 ⟨Nat.le_of_ble_eq_true rfl, Nat.le_of_ble_eq_true rfl⟩) (fun r w1 H locs hq9 hP hD hS => ?_)
    obtain ⟨v10_3, hv10_0, hv10_1, rfl, rfl⟩ := hq9
    have hP : va_P D vwCl (wM β δ ms mb mo mp mf mn mi mc mq mr mw mk ml t2_1 ma mx mh) H := hP
    have hD : va_D A (wM β δ ms mb mo mp mf mn mi mc mq mr mw mk ml t2_1 ma mx mh) := hD
    refine lv_goto (tgt := 17) hx hb dX10_pointsAbove_13 (by decide) ?_
    exact z_iret hC hr hlk hQ hP hD hS ⟨t2_1, v10_3, (by exact hv2_1), (by first | exact fun _ => hv10_0 | (intro h9; rw [hv2_1] at h9; unfold S_tlev at h9; rw [if_neg hb_5] at h9; exact absurd h9 (by decide))), rfl, rfl⟩ dX10_pointsAbove_17

abbrev wz_X10_sumAbove : List Cond := .code yX10_sumAbove cX10_sumAbove 4 (some .int) :: W0
abbrev rm_X10_sumAbove : Room := { frames := 1, cells := 0, slots := 0, locals := 22 }
theorem hd_X10_sumAbove : yX10_sumAbove.cls = RX10 ∧ yX10_sumAbove.cls ≠ "java/lang/invoke/MethodHandle" ∧ yX10_sumAbove.cls ≠ "java/lang/invoke/VarHandle" ∧ (parseMethodDescriptor yX10_sumAbove.desc).map (fun d => d.parameters.length) = some 1 := by decide +kernel
set_option maxHeartbeats 4000000 in
set_option maxRecDepth 100000 in
theorem c_X10_sumAbove (l : Launch) (D : va_G) (τ : Nat → Nat) (β : Nat → Nat) (δ : Nat → ClassId) (ms : IA) (mb : IA) (mo : IA) (mp : BA) (mf : IA) (mn : IA) (mi : IA) (mc : IA) (mq : BA) (mr : IA) (mw : IA) (mk : Int) (ml : Int) (mt : Int) (ma : Int) (mx : Bool) (mh : Int64) (lv9 : Int) (hlv : 0 ≤ lv9 ∧ lv9 ≤ 98) (hms : ∀ k, 0 ≤ k → k < 49 → 0 ≤ ms k ∧ ms k ≤ 99) : cM l yX10_sumAbove wz_X10_sumAbove rm_X10_sumAbove D τ (tyM δ) [.ref (β 0), .int (zI lv9)] (wM β δ ms mb mo mp mf mn mi mc mq mr mw mk ml mt ma mx mh) (zQi (fun r w => ∃ (v : Int), (v = S_sab ms lv9) ∧ (0 ≤ v ∧ v ≤ 4851) ∧ r = zI v ∧ wM β δ ms mb mo mp mf mn mi mc mq mr mw mk ml mt ma mx mh = w)) := by
  refine z_ofM (cc := cX10_sumAbove) (maxL := 4) (ret := (some .int)) (by decide +kernel) rfl (Nat.le_of_ble_eq_true rfl) ?_
  intro pg e s m args below meth c hC hr hlk hnm hK hP A hD hG hA hS ls hl Q hQ
  have hx := hC.1
  have hb := hC.2.1
  have hml := hC.2.2.1
  have hown := hC.2.2.2.1
  have hts := hC.2.2.2.2
  have hB : ∀ w ∈ W0, w ∈ wz_X10_sumAbove := fun _ h => List.mem_cons_of_mem _ h
  have hW0 : ∀ w ∈ W0, w.before args s = true := fun w h => hts w (hB w h)
  have hl : lv_has ls 4 [(0, .ref (β 0)), (1, .int (zI lv9))] := hl
  refine lv_iconst (v := zI 0) hx hb dX10_sumAbove_0 rfl ?_
  refine lv_istore_n (lv' := [(2, .int (zI 0)), (0, .ref (β 0)), (1, .int (zI lv9))]) hx hb dX10_sumAbove_1 rfl hl (by decide) rfl (fun ls hl => ?_)
  refine lv_iconst (v := zI 0) hx hb dX10_sumAbove_2 rfl ?_
  refine lv_istore_n (lv' := [(3, .int (zI 0)), (2, .int (zI 0)), (0, .ref (β 0)), (1, .int (zI lv9))]) hx hb dX10_sumAbove_3 rfl hl (by decide) rfl (fun ls hl => ?_)
  suffices HL_4 : ∀ (n_4 : Nat), ∀ (g : Int) (i : Int) (H : Heap) (locs : List Loc) (hP : va_P D vwCl (wM β δ ms mb mo mp mf mn mi mc mq mr mw mk ml mt ma mx mh) H) (hD : va_D A (wM β δ ms mb mo mp mf mn mi mc mq mr mw mk ml mt ma mx mh)) (hS : va_S A s.heap H locs) (ls : Array Slot) (hl : lv_has ls 4 [(2, .int (zI g)), (3, .int (zI i)), (0, .ref (β 0)), (1, .int (zI lv9))]) (hi : 0 ≤ i ∧ i ≤ 49) (hg : g = zS (fun k => if lv9 < ms k then ms k - lv9 else 0) i) (hgb : 0 ≤ g ∧ g ≤ 99 * i) (hm : (49 - i).toNat < n_4), W pg l e rm_X10_sumAbove s m args below meth c H locs 0 0 Q (F0 m 4 ls []) from HL_4 _ 0 0 _ _ hP hD hS _ (lv_sub hl [1, 0, 2, 3] rfl) (by first | assumption | rfl | omega) (by exact (zS_0 _).symm) (by first | assumption | rfl | omega) (Nat.lt_succ_self _)
  intro n_4
  induction n_4 with
  | zero => intro g i H locs hP hD hS ls hl hi hg hgb hm; exact absurd hm (Nat.not_lt_zero _)
  | succ n_4 ih_4 =>
    intro g i H locs hP hD hS ls hl hi hg hgb hm
    refine lv_iload_n hx hb dX10_sumAbove_4 rfl (lv_at hl 1 rfl) ?_
    refine lv_bipush (v := zI 49) hx hb dX10_sumAbove_5 (zI_b8 (by decide)) ?_
    refine z_icge (tgt := 40) hx hb ⟨by omega, by omega⟩ ⟨by omega, by omega⟩ dX10_sumAbove_7 (by decide) (fun c_7 => ?_) (fun c_7 => ?_)
    · refine lv_iload_n hx hb dX10_sumAbove_40 rfl (lv_at hl 0 rfl) ?_
      exact z_iret hC hr hlk hQ hP hD hS ⟨g, (by rw [hg, show i = 49 by omega]; rfl), (by omega), rfl, rfl⟩ dX10_sumAbove_41
    · refine lv_iload_n hx hb dX10_sumAbove_10 rfl (lv_at hl 0 rfl) ?_
      refine lv_aload_n hx hb dX10_sumAbove_11 rfl (lv_at hl 2 rfl) ?_
      refine lv_iload_n hx hb dX10_sumAbove_12 rfl (lv_at hl 1 rfl) ?_
      refine lv_iload_n hx hb dX10_sumAbove_13 rfl (lv_at hl 3 rfl) ?_
      refine z_calli hP hD hS hA (va_runV (As := [.int (zI i), .int (zI lv9)]) (rest := [.int (zI g)]) hC (c_X10_isAbove l D τ β δ ms mb mo mp mf mn mi mc mq mr mw mk ml mt ma mx mh i lv9 (by first | assumption | rfl | omega) (by first | assumption | rfl | omega) (by first | assumption | rfl | omega) _) (cwV 2 hts (gV hB wl_X10_129 wn_X10_isAbove ws_X10_isAbove wi_X10 wc_X10_isAbove) rfl rfl rfl hd_X10_isAbove ⟨Nat.le_of_ble_eq_true rfl, Nat.le_of_ble_eq_true rfl⟩) (zp_V hK hP hD hS hA hG (ci := 10) (q0 := 0) rfl rfl rfl) rfl rfl hl.1 rfl (lv_room (Nat.le_of_ble_eq_true rfl)) dX10_sumAbove_14 ⟨Nat.le_of_ble_eq_true rfl, Nat.le_of_ble_eq_true rfl⟩) (fun r w1 H locs hq9 hP hD hS => ?_)
      obtain ⟨v14_1, hv14_0, rfl, rfl⟩ := hq9
      have hP : va_P D vwCl (wM β δ ms mb mo mp mf mn mi mc mq mr mw mk ml mt ma mx mh) H := hP
      have hD : va_D A (wM β δ ms mb mo mp mf mn mi mc mq mr mw mk ml mt ma mx mh) := hD
      refine z_ifeqB (tgt := 31) hx hb dX10_sumAbove_17 (by decide) (fun c_17 => ?_) (fun c_17 => ?_)
      · refine lv_iconst (v := zI 0) hx hb dX10_sumAbove_31 rfl ?_
        refine z_iadd hx hb dX10_sumAbove_32 ?_
        refine lv_istore_n (lv' := [(2, .int (zI (g + 0))), (3, .int (zI i)), (0, .ref (β 0)), (1, .int (zI lv9))]) hx hb dX10_sumAbove_33 rfl hl (by decide) rfl (fun ls hl => ?_)
        refine z_iinc (k := 1) (v := i + 1) (lv' := [(3, .int (zI (i + 1))), (2, .int (zI (g + 0))), (0, .ref (β 0)), (1, .int (zI lv9))]) hx hb dX10_sumAbove_34 hl rfl rfl (by decide) rfl (fun ls hl => ?_)
        refine lv_goto (tgt := 4) hx hb dX10_sumAbove_37 (by decide) ?_
        exact ih_4 (g + 0) (i + 1) _ _ hP hD hS _ (lv_sub hl [1, 0, 2, 3] rfl) (by first | assumption | rfl | omega) (by rw [zS_up hi.1, ← hg]; have z9 := hv14_0.symm.trans c_17; unfold S_hi at z9; first | (rw [if_pos (of_decide_eq_true z9)]; done) | (rw [if_neg (of_decide_eq_false z9)]; done)) (by have z9 := hv14_0.symm.trans c_17; unfold S_hi at z9; first | (have z8 := of_decide_eq_true z9; clear z9; omega) | omega) (by omega)
      · refine lv_aload_n hx hb dX10_sumAbove_20 rfl (lv_at hl 2 rfl) ?_
        refine va_get (D := D) (ci := 10) (v := .ref (β 1)) (C := RX10) (T := TX10) (N := 17) hx hb hts (fun w h => List.mem_cons_of_mem _ (wx_X10 w h)) hown hK hP 0 rfl rfl 0 (by decide) (hW0 _ wf_X10_7) (fun _ h9 => h9) rfl dX10_sumAbove_21 ?_
        refine lv_iload_n hx hb dX10_sumAbove_24 rfl (lv_at hl 1 rfl) ?_
        refine z_iald (f := ms) hx hb hK hP 1 0 rfl rfl ⟨⟨by omega, by omega⟩, by decide⟩ dX10_sumAbove_25 ?_
        have hb_25 := hms i (by omega) (by omega)
        refine lv_iload_n hx hb dX10_sumAbove_26 rfl (lv_at hl 3 rfl) ?_
        refine z_isub hx hb dX10_sumAbove_27 ?_
        refine lv_goto (tgt := 32) hx hb dX10_sumAbove_28 (by decide) ?_
        refine z_iadd hx hb dX10_sumAbove_32 ?_
        refine lv_istore_n (lv' := [(2, .int (zI (g + ((ms i) - lv9)))), (3, .int (zI i)), (0, .ref (β 0)), (1, .int (zI lv9))]) hx hb dX10_sumAbove_33 rfl hl (by decide) rfl (fun ls hl => ?_)
        refine z_iinc (k := 1) (v := i + 1) (lv' := [(3, .int (zI (i + 1))), (2, .int (zI (g + ((ms i) - lv9)))), (0, .ref (β 0)), (1, .int (zI lv9))]) hx hb dX10_sumAbove_34 hl rfl rfl (by decide) rfl (fun ls hl => ?_)
        refine lv_goto (tgt := 4) hx hb dX10_sumAbove_37 (by decide) ?_
        exact ih_4 (g + ((ms i) - lv9)) (i + 1) _ _ hP hD hS _ (lv_sub hl [1, 0, 2, 3] rfl) (by first | assumption | rfl | omega) (by rw [zS_up hi.1, ← hg]; have z9 := hv14_0.symm.trans c_17; unfold S_hi at z9; first | (rw [if_pos (of_decide_eq_true z9)]; done) | (rw [if_neg (of_decide_eq_false z9)]; done)) (by have z9 := hv14_0.symm.trans c_17; unfold S_hi at z9; first | (have z8 := of_decide_eq_true z9; clear z9; omega) | omega) (by omega)

abbrev wz_X10_bulkAbove : List Cond := .code yX10_bulkAbove cX10_bulkAbove 2 (some .int) :: W0
abbrev rm_X10_bulkAbove : Room := { frames := 2, cells := 0, slots := 0, locals := 45 }
theorem hd_X10_bulkAbove : yX10_bulkAbove.cls = RX10 ∧ yX10_bulkAbove.cls ≠ "java/lang/invoke/MethodHandle" ∧ yX10_bulkAbove.cls ≠ "java/lang/invoke/VarHandle" ∧ (parseMethodDescriptor yX10_bulkAbove.desc).map (fun d => d.parameters.length) = some 1 := by decide +kernel
set_option maxHeartbeats 4000000 in
set_option maxRecDepth 100000 in
theorem c_X10_bulkAbove (l : Launch) (D : va_G) (τ : Nat → Nat) (β : Nat → Nat) (δ : Nat → ClassId) (ms : IA) (mb : IA) (mo : IA) (mp : BA) (mf : IA) (mn : IA) (mi : IA) (mc : IA) (mq : BA) (mr : IA) (mw : IA) (mk : Int) (ml : Int) (mt : Int) (ma : Int) (mx : Bool) (mh : Int64) (lv9 : Int) (hlv : -2147483648 ≤ lv9 ∧ lv9 < 2147483648) (hms : ∀ k, 0 ≤ k → k < 49 → 0 ≤ ms k ∧ ms k ≤ 99) : cM l yX10_bulkAbove wz_X10_bulkAbove rm_X10_bulkAbove D τ (tyM δ) [.ref (β 0), .int (zI lv9)] (wM β δ ms mb mo mp mf mn mi mc mq mr mw mk ml mt ma mx mh) (zQi (fun r w => ∃ (t2 : Int), ∃ (v : Int), (t2 = S_tlev lv9) ∧ (t2 = 0 → v = S_sab ms lv9) ∧ r = zI v ∧ wM β δ ms mb mo mp mf mn mi mc mq mr mw mk ml t2 ma mx mh = w)) := by
  refine z_ofM (cc := cX10_bulkAbove) (maxL := 2) (ret := (some .int)) (by decide +kernel) rfl (Nat.le_of_ble_eq_true rfl) ?_
  intro pg e s m args below meth c hC hr hlk hnm hK hP A hD hG hA hS ls hl Q hQ
  have hx := hC.1
  have hb := hC.2.1
  have hml := hC.2.2.1
  have hown := hC.2.2.2.1
  have hts := hC.2.2.2.2
  have hB : ∀ w ∈ W0, w ∈ wz_X10_bulkAbove := fun _ h => List.mem_cons_of_mem _ h
  have hW0 : ∀ w ∈ W0, w.before args s = true := fun w h => hts w (hB w h)
  have hl : lv_has ls 2 [(0, .ref (β 0)), (1, .int (zI lv9))] := hl
  refine lv_aload_n hx hb dX10_bulkAbove_0 rfl (lv_at hl 0 rfl) ?_
  refine lv_iload_n hx hb dX10_bulkAbove_1 rfl (lv_at hl 1 rfl) ?_
  refine z_calli hP hD hS hA (va_runV (As := [.int (zI lv9)]) (rest := []) hC (c_X10_isLevel l D τ β δ ms mb mo mp mf mn mi mc mq mr mw mk ml mt ma mx mh lv9 (by first | assumption | rfl | omega) _) (cwV 1 hts (gV hB wl_X10_132 wn_X10_isLevel ws_X10_isLevel wi_X10 wc_X10_isLevel) rfl rfl rfl hd_X10_isLevel ⟨Nat.le_of_ble_eq_true rfl, Nat.le_of_ble_eq_true rfl⟩) (zp_V hK hP hD hS hA hG (ci := 10) (q0 := 0) rfl rfl rfl) rfl rfl hl.1 rfl (lv_room (Nat.le_of_ble_eq_true rfl)) dX10_bulkAbove_2 ⟨Nat.le_of_ble_eq_true rfl, Nat.le_of_ble_eq_true rfl⟩) (fun r w1 H locs hq9 hP hD hS => ?_)
  obtain ⟨t2_1, v2_2, hv2_0, hv2_1, rfl, rfl⟩ := hq9
  have hP : va_P D vwCl (wM β δ ms mb mo mp mf mn mi mc mq mr mw mk ml t2_1 ma mx mh) H := hP
  have hD : va_D A (wM β δ ms mb mo mp mf mn mi mc mq mr mw mk ml t2_1 ma mx mh) := hD
  refine z_ifeqB (tgt := 16) hx hb dX10_bulkAbove_5 (by decide) (fun c_5 => ?_) (fun c_5 => ?_)
  · have hb_5 := zb_neg hv2_0 c_5
    refine lv_iconst (v := zI 0) hx hb dX10_bulkAbove_16 rfl ?_
    exact z_iret hC hr hlk hQ hP hD hS ⟨t2_1, 0, (by exact hv2_1), (by first | exact fun _ => hv10_0 | (intro h9; rw [hv2_1] at h9; unfold S_tlev at h9; rw [if_neg hb_5] at h9; exact absurd h9 (by decide))), rfl, rfl⟩ dX10_bulkAbove_17
  · have hb_5 := hv2_0.mp c_5
    refine lv_aload_n hx hb dX10_bulkAbove_8 rfl (lv_at hl 0 rfl) ?_
    refine lv_iload_n hx hb dX10_bulkAbove_9 rfl (lv_at hl 1 rfl) ?_
    refine z_calli hP hD hS hA (va_runV (As := [.int (zI lv9)]) (rest := []) hC (c_X10_sumAbove l D τ β δ ms mb mo mp mf mn mi mc mq mr mw mk ml t2_1 ma mx mh lv9 (by exact hb_5) (by first | assumption | rfl | omega) _) (cwV 1 hts (gV hB wl_X10_139 wn_X10_sumAbove ws_X10_sumAbove wi_X10 wc_X10_sumAbove) rfl rfl rfl hd_X10_sumAbove ⟨Nat.le_of_ble_eq_true rfl, Nat.le_of_ble_eq_true rfl⟩) (zp_V hK hP hD hS hA hG (ci := 10) (q0 := 0) rfl rfl rfl) rfl rfl hl.1 rfl (lv_room (Nat.le_of_ble_eq_true rfl)) dX10_bulkAbove_10 ⟨Nat.le_of_ble_eq_true rfl, Nat.le_of_ble_eq_true rfl⟩) (fun r w1 H locs hq9 hP hD hS => ?_)
    obtain ⟨v10_3, hv10_0, hv10_1, rfl, rfl⟩ := hq9
    have hP : va_P D vwCl (wM β δ ms mb mo mp mf mn mi mc mq mr mw mk ml t2_1 ma mx mh) H := hP
    have hD : va_D A (wM β δ ms mb mo mp mf mn mi mc mq mr mw mk ml t2_1 ma mx mh) := hD
    refine lv_goto (tgt := 17) hx hb dX10_bulkAbove_13 (by decide) ?_
    exact z_iret hC hr hlk hQ hP hD hS ⟨t2_1, v10_3, (by exact hv2_1), (by first | exact fun _ => hv10_0 | (intro h9; rw [hv2_1] at h9; unfold S_tlev at h9; rw [if_neg hb_5] at h9; exact absurd h9 (by decide))), rfl, rfl⟩ dX10_bulkAbove_17

abbrev wz_X10_right : List Cond := .code yX10_right cX10_right 2 (some .int) :: W0
abbrev rm_X10_right : Room := { frames := 0, cells := 0, slots := 0, locals := 0 }
theorem hd_X10_right : yX10_right.cls = RX10 ∧ yX10_right.cls ≠ "java/lang/invoke/MethodHandle" ∧ yX10_right.cls ≠ "java/lang/invoke/VarHandle" ∧ (parseMethodDescriptor yX10_right.desc).map (fun d => d.parameters.length) = some 2 := by decide +kernel
set_option maxHeartbeats 4000000 in
set_option maxRecDepth 100000 in
theorem c_X10_right (l : Launch) (D : va_G) (τ : Nat → Nat) (ws : va_W) (tys : List (ClassId × FieldType)) (a : Int) (b : Int) : cM l yX10_right wz_X10_right rm_X10_right D τ tys [.int (zI a), .int (zI b)] (ws) (zQi (fun r w => ∃ (v : Int), (v = 6 * a + b) ∧ r = zI v ∧ ws = w)) := by
  refine z_ofM (cc := cX10_right) (maxL := 2) (ret := (some .int)) (by decide +kernel) rfl (Nat.le_of_ble_eq_true rfl) ?_
  intro pg e s m args below meth c hC hr hlk hnm hK hP A hD hG hA hS ls hl Q hQ
  have hx := hC.1
  have hb := hC.2.1
  have hml := hC.2.2.1
  have hown := hC.2.2.2.1
  have hts := hC.2.2.2.2
  have hB : ∀ w ∈ W0, w ∈ wz_X10_right := fun _ h => List.mem_cons_of_mem _ h
  have hW0 : ∀ w ∈ W0, w.before args s = true := fun w h => hts w (hB w h)
  have hl : lv_has ls 2 [(0, .int (zI a)), (1, .int (zI b))] := hl
  refine lv_bipush (v := zI 6) hx hb dX10_right_0 (zI_b8 (by decide)) ?_
  refine lv_iload_n hx hb dX10_right_2 rfl (lv_at hl 0 rfl) ?_
  refine z_imul hx hb dX10_right_3 ?_
  refine lv_iload_n hx hb dX10_right_4 rfl (lv_at hl 1 rfl) ?_
  refine z_iadd hx hb dX10_right_5 ?_
  exact z_iret hC hr hlk hQ hP hD hS ⟨(6 * a) + b, (by first | assumption | rfl | omega), rfl, rfl⟩ dX10_right_6

abbrev wz_X10_below : List Cond := .code yX10_below cX10_below 2 (some .int) :: W0
abbrev rm_X10_below : Room := { frames := 0, cells := 0, slots := 0, locals := 0 }
theorem hd_X10_below : yX10_below.cls = RX10 ∧ yX10_below.cls ≠ "java/lang/invoke/MethodHandle" ∧ yX10_below.cls ≠ "java/lang/invoke/VarHandle" ∧ (parseMethodDescriptor yX10_below.desc).map (fun d => d.parameters.length) = some 2 := by decide +kernel
set_option maxHeartbeats 4000000 in
set_option maxRecDepth 100000 in
theorem c_X10_below (l : Launch) (D : va_G) (τ : Nat → Nat) (ws : va_W) (tys : List (ClassId × FieldType)) (a : Int) (b : Int) : cM l yX10_below wz_X10_below rm_X10_below D τ tys [.int (zI a), .int (zI b)] (ws) (zQi (fun r w => ∃ (v : Int), (v = 42 + 7 * a + b) ∧ r = zI v ∧ ws = w)) := by
  refine z_ofM (cc := cX10_below) (maxL := 2) (ret := (some .int)) (by decide +kernel) rfl (Nat.le_of_ble_eq_true rfl) ?_
  intro pg e s m args below meth c hC hr hlk hnm hK hP A hD hG hA hS ls hl Q hQ
  have hx := hC.1
  have hb := hC.2.1
  have hml := hC.2.2.1
  have hown := hC.2.2.2.1
  have hts := hC.2.2.2.2
  have hB : ∀ w ∈ W0, w ∈ wz_X10_below := fun _ h => List.mem_cons_of_mem _ h
  have hW0 : ∀ w ∈ W0, w.before args s = true := fun w h => hts w (hB w h)
  have hl : lv_has ls 2 [(0, .int (zI a)), (1, .int (zI b))] := hl
  refine lv_bipush (v := zI 42) hx hb dX10_below_0 (zI_b8 (by decide)) ?_
  refine lv_bipush (v := zI 7) hx hb dX10_below_2 (zI_b8 (by decide)) ?_
  refine lv_iload_n hx hb dX10_below_4 rfl (lv_at hl 0 rfl) ?_
  refine z_imul hx hb dX10_below_5 ?_
  refine z_iadd hx hb dX10_below_6 ?_
  refine lv_iload_n hx hb dX10_below_7 rfl (lv_at hl 1 rfl) ?_
  refine z_iadd hx hb dX10_below_8 ?_
  exact z_iret hC hr hlk hQ hP hD hS ⟨(42 + (7 * a)) + b, (by first | assumption | rfl | omega), rfl, rfl⟩ dX10_below_9

abbrev wz_X10_isCrossed : List Cond := .code yX10_isCrossed cX10_isCrossed 4 (some .boolean) :: W0
abbrev rm_X10_isCrossed : Room := { frames := 1, cells := 0, slots := 0, locals := 22 }
theorem hd_X10_isCrossed : yX10_isCrossed.cls = RX10 ∧ yX10_isCrossed.cls ≠ "java/lang/invoke/MethodHandle" ∧ yX10_isCrossed.cls ≠ "java/lang/invoke/VarHandle" ∧ (parseMethodDescriptor yX10_isCrossed.desc).map (fun d => d.parameters.length) = some 3 := by decide +kernel
set_option maxHeartbeats 4000000 in
set_option maxRecDepth 100000 in
theorem c_X10_isCrossed (l : Launch) (D : va_G) (τ : Nat → Nat) (β : Nat → Nat) (δ : Nat → ClassId) (ms : IA) (mb : IA) (mo : IA) (mp : BA) (mf : IA) (mn : IA) (mi : IA) (mc : IA) (mq : BA) (mr : IA) (mw : IA) (mk : Int) (ml : Int) (mt : Int) (ma : Int) (mx : Bool) (mh : Int64) (p : Int) (p2 : Int) (lv9 : Int) (hp : 0 ≤ p ∧ p < 49) (hp2 : 0 ≤ p2 ∧ p2 < 49) (hlv : 0 ≤ lv9 ∧ lv9 ≤ 98) (hms : ∀ k, 0 ≤ k → k < 49 → 0 ≤ ms k ∧ ms k ≤ 99) : cM l yX10_isCrossed wz_X10_isCrossed rm_X10_isCrossed D τ (tyM δ) [.ref (β 0), .int (zI p), .int (zI p2), .int (zI lv9)] (wM β δ ms mb mo mp mf mn mi mc mq mr mw mk ml mt ma mx mh) (zQi (fun r w => ∃ (v : Bool), (v = (S_hi ms lv9 p != S_hi ms lv9 p2)) ∧ r = bI v ∧ wM β δ ms mb mo mp mf mn mi mc mq mr mw mk ml mt ma mx mh = w)) := by
  refine z_ofM (cc := cX10_isCrossed) (maxL := 4) (ret := (some .boolean)) (by decide +kernel) rfl (Nat.le_of_ble_eq_true rfl) ?_
  intro pg e s m args below meth c hC hr hlk hnm hK hP A hD hG hA hS ls hl Q hQ
  have hx := hC.1
  have hb := hC.2.1
  have hml := hC.2.2.1
  have hown := hC.2.2.2.1
  have hts := hC.2.2.2.2
  have hB : ∀ w ∈ W0, w ∈ wz_X10_isCrossed := fun _ h => List.mem_cons_of_mem _ h
  have hW0 : ∀ w ∈ W0, w.before args s = true := fun w h => hts w (hB w h)
  have hl : lv_has ls 4 [(0, .ref (β 0)), (1, .int (zI p)), (2, .int (zI p2)), (3, .int (zI lv9))] := hl
  refine lv_aload_n hx hb dX10_isCrossed_0 rfl (lv_at hl 0 rfl) ?_
  refine lv_iload_n hx hb dX10_isCrossed_1 rfl (lv_at hl 1 rfl) ?_
  refine lv_iload_n hx hb dX10_isCrossed_2 rfl (lv_at hl 3 rfl) ?_
  refine z_calli hP hD hS hA (va_runV (As := [.int (zI p), .int (zI lv9)]) (rest := []) hC (c_X10_isAbove l D τ β δ ms mb mo mp mf mn mi mc mq mr mw mk ml mt ma mx mh p lv9 (by first | assumption | rfl | omega) (by first | assumption | rfl | omega) (by first | assumption | rfl | omega) _) (cwV 2 hts (gV hB wl_X10_129 wn_X10_isAbove ws_X10_isAbove wi_X10 wc_X10_isAbove) rfl rfl rfl hd_X10_isAbove ⟨Nat.le_of_ble_eq_true rfl, Nat.le_of_ble_eq_true rfl⟩) (zp_V hK hP hD hS hA hG (ci := 10) (q0 := 0) rfl rfl rfl) rfl rfl hl.1 rfl (lv_room (Nat.le_of_ble_eq_true rfl)) dX10_isCrossed_3 ⟨Nat.le_of_ble_eq_true rfl, Nat.le_of_ble_eq_true rfl⟩) (fun r w1 H locs hq9 hP hD hS => ?_)
  obtain ⟨v3_1, hv3_0, rfl, rfl⟩ := hq9
  have hP : va_P D vwCl (wM β δ ms mb mo mp mf mn mi mc mq mr mw mk ml mt ma mx mh) H := hP
  have hD : va_D A (wM β δ ms mb mo mp mf mn mi mc mq mr mw mk ml mt ma mx mh) := hD
  refine lv_aload_n hx hb dX10_isCrossed_6 rfl (lv_at hl 0 rfl) ?_
  refine lv_iload_n hx hb dX10_isCrossed_7 rfl (lv_at hl 2 rfl) ?_
  refine lv_iload_n hx hb dX10_isCrossed_8 rfl (lv_at hl 3 rfl) ?_
  refine z_calli hP hD hS hA (va_runV (As := [.int (zI p2), .int (zI lv9)]) (rest := [.int (bI v3_1)]) hC (c_X10_isAbove l D τ β δ ms mb mo mp mf mn mi mc mq mr mw mk ml mt ma mx mh p2 lv9 (by first | assumption | rfl | omega) (by first | assumption | rfl | omega) (by first | assumption | rfl | omega) _) (cwV 2 hts (gV hB wl_X10_129 wn_X10_isAbove ws_X10_isAbove wi_X10 wc_X10_isAbove) rfl rfl rfl hd_X10_isAbove ⟨Nat.le_of_ble_eq_true rfl, Nat.le_of_ble_eq_true rfl⟩) (zp_V hK hP hD hS hA hG (ci := 10) (q0 := 0) rfl rfl rfl) rfl rfl hl.1 rfl (lv_room (Nat.le_of_ble_eq_true rfl)) dX10_isCrossed_9 ⟨Nat.le_of_ble_eq_true rfl, Nat.le_of_ble_eq_true rfl⟩) (fun r w1 H locs hq9 hP hD hS => ?_)
  obtain ⟨v9_2, hv9_0, rfl, rfl⟩ := hq9
  have hP : va_P D vwCl (wM β δ ms mb mo mp mf mn mi mc mq mr mw mk ml mt ma mx mh) H := hP
  have hD : va_D A (wM β δ ms mb mo mp mf mn mi mc mq mr mw mk ml mt ma mx mh) := hD
  refine z_iceqB (tgt := 19) hx hb dX10_isCrossed_12 (by decide) (fun c_12 => ?_) (fun c_12 => ?_)
  · refine lv_iconst (v := zI 0) hx hb dX10_isCrossed_19 rfl ?_
    refine W.eq (g2 := F0 m 20 ls [.int (bI false)]) rfl ?_
    exact z_zret hC hr hlk hQ hP hD hS ⟨false, (by rw [← hv3_0, ← hv9_0]; first | exact bne_f9 c_12 | exact bne_t9 c_12), rfl, rfl⟩ dX10_isCrossed_20
  · refine lv_iconst (v := zI 1) hx hb dX10_isCrossed_15 rfl ?_
    refine lv_goto (tgt := 20) hx hb dX10_isCrossed_16 (by decide) ?_
    refine W.eq (g2 := F0 m 20 ls [.int (bI true)]) rfl ?_
    exact z_zret hC hr hlk hQ hP hD hS ⟨true, (by rw [← hv3_0, ← hv9_0]; first | exact bne_f9 c_12 | exact bne_t9 c_12), rfl, rfl⟩ dX10_isCrossed_20

abbrev wz_X10_piecesAt : List Cond := .code yX10_piecesAt cX10_piecesAt 6 (some .int) :: W0
abbrev rm_X10_piecesAt : Room := { frames := 2, cells := 0, slots := 0, locals := 45 }
theorem hd_X10_piecesAt : yX10_piecesAt.cls = RX10 ∧ yX10_piecesAt.cls ≠ "java/lang/invoke/MethodHandle" ∧ yX10_piecesAt.cls ≠ "java/lang/invoke/VarHandle" ∧ (parseMethodDescriptor yX10_piecesAt.desc).map (fun d => d.parameters.length) = some 3 := by decide +kernel
set_option maxHeartbeats 4000000 in
set_option maxRecDepth 100000 in
theorem c_X10_piecesAt (l : Launch) (D : va_G) (τ : Nat → Nat) (β : Nat → Nat) (δ : Nat → ClassId) (ms : IA) (mb : IA) (mo : IA) (mp : BA) (mf : IA) (mn : IA) (mi : IA) (mc : IA) (mq : BA) (mr : IA) (mw : IA) (mk : Int) (ml : Int) (mt : Int) (ma : Int) (mx : Bool) (mh : Int64) (r9 : Int) (c9 : Int) (lv9 : Int) (hr9 : 0 ≤ r9 ∧ r9 < 6) (hc9 : 0 ≤ c9 ∧ c9 < 6) (hlv : 0 ≤ lv9 ∧ lv9 ≤ 98) (hms : ∀ k, 0 ≤ k → k < 49 → 0 ≤ ms k ∧ ms k ≤ 99) : cM l yX10_piecesAt wz_X10_piecesAt rm_X10_piecesAt D τ (tyM δ) [.ref (β 0), .int (zI r9), .int (zI c9), .int (zI lv9)] (wM β δ ms mb mo mp mf mn mi mc mq mr mw mk ml mt ma mx mh) (zQi (fun r w => ∃ (v : Int), (v = S_pie ms r9 c9 lv9) ∧ (0 ≤ v ∧ v ≤ 2) ∧ r = zI v ∧ wM β δ ms mb mo mp mf mn mi mc mq mr mw mk ml mt ma mx mh = w)) := by
  refine z_ofM (cc := cX10_piecesAt) (maxL := 6) (ret := (some .int)) (by decide +kernel) rfl (Nat.le_of_ble_eq_true rfl) ?_
  intro pg e s m args below meth c hC hr hlk hnm hK hP A hD hG hA hS ls hl Q hQ
  have hx := hC.1
  have hb := hC.2.1
  have hml := hC.2.2.1
  have hown := hC.2.2.2.1
  have hts := hC.2.2.2.2
  have hB : ∀ w ∈ W0, w ∈ wz_X10_piecesAt := fun _ h => List.mem_cons_of_mem _ h
  have hW0 : ∀ w ∈ W0, w.before args s = true := fun w h => hts w (hB w h)
  have hl : lv_has ls 6 [(0, .ref (β 0)), (1, .int (zI r9)), (2, .int (zI c9)), (3, .int (zI lv9))] := hl
  refine lv_bipush (v := zI 7) hx hb dX10_piecesAt_0 (zI_b8 (by decide)) ?_
  refine lv_iload_n hx hb dX10_piecesAt_2 rfl (lv_at hl 1 rfl) ?_
  refine z_imul hx hb dX10_piecesAt_3 ?_
  refine lv_iload_n hx hb dX10_piecesAt_4 rfl (lv_at hl 2 rfl) ?_
  refine z_iadd hx hb dX10_piecesAt_5 ?_
  refine lv_istore (lv' := [(4, .int (zI ((7 * r9) + c9))), (0, .ref (β 0)), (1, .int (zI r9)), (2, .int (zI c9)), (3, .int (zI lv9))]) hx hb dX10_piecesAt_6 hl (by decide) rfl (fun ls hl => ?_)
  refine lv_aload_n hx hb dX10_piecesAt_8 rfl (lv_at hl 1 rfl) ?_
  refine lv_iload hx hb dX10_piecesAt_9 (lv_at hl 0 rfl) ?_
  refine lv_iload hx hb dX10_piecesAt_11 (lv_at hl 0 rfl) ?_
  refine lv_iconst (v := zI 1) hx hb dX10_piecesAt_13 rfl ?_
  refine z_iadd hx hb dX10_piecesAt_14 ?_
  refine lv_iload_n hx hb dX10_piecesAt_15 rfl (lv_at hl 4 rfl) ?_
  refine z_calli hP hD hS hA (va_runV (As := [.int (zI ((7 * r9) + c9)), .int (zI (((7 * r9) + c9) + 1)), .int (zI lv9)]) (rest := []) hC (c_X10_isCrossed l D τ β δ ms mb mo mp mf mn mi mc mq mr mw mk ml mt ma mx mh ((7 * r9) + c9) (((7 * r9) + c9) + 1) lv9 (by first | assumption | rfl | omega) (by first | assumption | rfl | omega) (by first | assumption | rfl | omega) (by first | assumption | rfl | omega) _) (cwV 3 hts (gV hB wl_X10_142 wn_X10_isCrossed ws_X10_isCrossed wi_X10 wc_X10_isCrossed) rfl rfl rfl hd_X10_isCrossed ⟨Nat.le_of_ble_eq_true rfl, Nat.le_of_ble_eq_true rfl⟩) (zp_V hK hP hD hS hA hG (ci := 10) (q0 := 0) rfl rfl rfl) rfl rfl hl.1 rfl (lv_room (Nat.le_of_ble_eq_true rfl)) dX10_piecesAt_16 ⟨Nat.le_of_ble_eq_true rfl, Nat.le_of_ble_eq_true rfl⟩) (fun r w1 H locs hq9 hP hD hS => ?_)
  obtain ⟨v16_1, hv16_0, rfl, rfl⟩ := hq9
  have hP : va_P D vwCl (wM β δ ms mb mo mp mf mn mi mc mq mr mw mk ml mt ma mx mh) H := hP
  have hD : va_D A (wM β δ ms mb mo mp mf mn mi mc mq mr mw mk ml mt ma mx mh) := hD
  refine z_ifeqB (tgt := 26) hx hb dX10_piecesAt_19 (by decide) (fun c_19 => ?_) (fun c_19 => ?_)
  · refine lv_iconst (v := zI 0) hx hb dX10_piecesAt_26 rfl ?_
    refine lv_istore (lv' := [(5, .int (zI 0)), (4, .int (zI ((7 * r9) + c9))), (0, .ref (β 0)), (1, .int (zI r9)), (2, .int (zI c9)), (3, .int (zI lv9))]) hx hb dX10_piecesAt_27 hl (by decide) rfl (fun ls hl => ?_)
    refine lv_iload hx hb dX10_piecesAt_29 (lv_at hl 0 rfl) ?_
    refine lv_aload_n hx hb dX10_piecesAt_31 rfl (lv_at hl 2 rfl) ?_
    refine lv_iload hx hb dX10_piecesAt_32 (lv_at hl 1 rfl) ?_
    refine lv_iconst (v := zI 1) hx hb dX10_piecesAt_34 rfl ?_
    refine z_iadd hx hb dX10_piecesAt_35 ?_
    refine lv_iload hx hb dX10_piecesAt_36 (lv_at hl 1 rfl) ?_
    refine lv_bipush (v := zI 8) hx hb dX10_piecesAt_38 (zI_b8 (by decide)) ?_
    refine z_iadd hx hb dX10_piecesAt_40 ?_
    refine lv_iload_n hx hb dX10_piecesAt_41 rfl (lv_at hl 5 rfl) ?_
    refine z_calli hP hD hS hA (va_runV (As := [.int (zI (((7 * r9) + c9) + 1)), .int (zI (((7 * r9) + c9) + 8)), .int (zI lv9)]) (rest := [.int (zI 0)]) hC (c_X10_isCrossed l D τ β δ ms mb mo mp mf mn mi mc mq mr mw mk ml mt ma mx mh (((7 * r9) + c9) + 1) (((7 * r9) + c9) + 8) lv9 (by first | assumption | rfl | omega) (by first | assumption | rfl | omega) (by first | assumption | rfl | omega) (by first | assumption | rfl | omega) _) (cwV 3 hts (gV hB wl_X10_142 wn_X10_isCrossed ws_X10_isCrossed wi_X10 wc_X10_isCrossed) rfl rfl rfl hd_X10_isCrossed ⟨Nat.le_of_ble_eq_true rfl, Nat.le_of_ble_eq_true rfl⟩) (zp_V hK hP hD hS hA hG (ci := 10) (q0 := 0) rfl rfl rfl) rfl rfl hl.1 rfl (lv_room (Nat.le_of_ble_eq_true rfl)) dX10_piecesAt_42 ⟨Nat.le_of_ble_eq_true rfl, Nat.le_of_ble_eq_true rfl⟩) (fun r w1 H locs hq9 hP hD hS => ?_)
    obtain ⟨v42_2, hv42_0, rfl, rfl⟩ := hq9
    have hP : va_P D vwCl (wM β δ ms mb mo mp mf mn mi mc mq mr mw mk ml mt ma mx mh) H := hP
    have hD : va_D A (wM β δ ms mb mo mp mf mn mi mc mq mr mw mk ml mt ma mx mh) := hD
    refine z_ifeqB (tgt := 52) hx hb dX10_piecesAt_45 (by decide) (fun c_45 => ?_) (fun c_45 => ?_)
    · refine lv_iconst (v := zI 0) hx hb dX10_piecesAt_52 rfl ?_
      refine z_iadd hx hb dX10_piecesAt_53 ?_
      refine lv_istore (lv' := [(5, .int (zI (0 + 0))), (4, .int (zI ((7 * r9) + c9))), (0, .ref (β 0)), (1, .int (zI r9)), (2, .int (zI c9)), (3, .int (zI lv9))]) hx hb dX10_piecesAt_54 hl (by decide) rfl (fun ls hl => ?_)
      refine lv_iload hx hb dX10_piecesAt_56 (lv_at hl 0 rfl) ?_
      refine lv_aload_n hx hb dX10_piecesAt_58 rfl (lv_at hl 2 rfl) ?_
      refine lv_iload hx hb dX10_piecesAt_59 (lv_at hl 1 rfl) ?_
      refine lv_bipush (v := zI 7) hx hb dX10_piecesAt_61 (zI_b8 (by decide)) ?_
      refine z_iadd hx hb dX10_piecesAt_63 ?_
      refine lv_iload hx hb dX10_piecesAt_64 (lv_at hl 1 rfl) ?_
      refine lv_bipush (v := zI 8) hx hb dX10_piecesAt_66 (zI_b8 (by decide)) ?_
      refine z_iadd hx hb dX10_piecesAt_68 ?_
      refine lv_iload_n hx hb dX10_piecesAt_69 rfl (lv_at hl 5 rfl) ?_
      refine z_calli hP hD hS hA (va_runV (As := [.int (zI (((7 * r9) + c9) + 7)), .int (zI (((7 * r9) + c9) + 8)), .int (zI lv9)]) (rest := [.int (zI (0 + 0))]) hC (c_X10_isCrossed l D τ β δ ms mb mo mp mf mn mi mc mq mr mw mk ml mt ma mx mh (((7 * r9) + c9) + 7) (((7 * r9) + c9) + 8) lv9 (by first | assumption | rfl | omega) (by first | assumption | rfl | omega) (by first | assumption | rfl | omega) (by first | assumption | rfl | omega) _) (cwV 3 hts (gV hB wl_X10_142 wn_X10_isCrossed ws_X10_isCrossed wi_X10 wc_X10_isCrossed) rfl rfl rfl hd_X10_isCrossed ⟨Nat.le_of_ble_eq_true rfl, Nat.le_of_ble_eq_true rfl⟩) (zp_V hK hP hD hS hA hG (ci := 10) (q0 := 0) rfl rfl rfl) rfl rfl hl.1 rfl (lv_room (Nat.le_of_ble_eq_true rfl)) dX10_piecesAt_70 ⟨Nat.le_of_ble_eq_true rfl, Nat.le_of_ble_eq_true rfl⟩) (fun r w1 H locs hq9 hP hD hS => ?_)
      obtain ⟨v70_3, hv70_0, rfl, rfl⟩ := hq9
      have hP : va_P D vwCl (wM β δ ms mb mo mp mf mn mi mc mq mr mw mk ml mt ma mx mh) H := hP
      have hD : va_D A (wM β δ ms mb mo mp mf mn mi mc mq mr mw mk ml mt ma mx mh) := hD
      refine z_ifeqB (tgt := 80) hx hb dX10_piecesAt_73 (by decide) (fun c_73 => ?_) (fun c_73 => ?_)
      · refine lv_iconst (v := zI 0) hx hb dX10_piecesAt_80 rfl ?_
        refine z_iadd hx hb dX10_piecesAt_81 ?_
        refine lv_istore (lv' := [(5, .int (zI ((0 + 0) + 0))), (4, .int (zI ((7 * r9) + c9))), (0, .ref (β 0)), (1, .int (zI r9)), (2, .int (zI c9)), (3, .int (zI lv9))]) hx hb dX10_piecesAt_82 hl (by decide) rfl (fun ls hl => ?_)
        refine lv_iload hx hb dX10_piecesAt_84 (lv_at hl 0 rfl) ?_
        refine lv_aload_n hx hb dX10_piecesAt_86 rfl (lv_at hl 2 rfl) ?_
        refine lv_iload hx hb dX10_piecesAt_87 (lv_at hl 1 rfl) ?_
        refine lv_iload hx hb dX10_piecesAt_89 (lv_at hl 1 rfl) ?_
        refine lv_bipush (v := zI 7) hx hb dX10_piecesAt_91 (zI_b8 (by decide)) ?_
        refine z_iadd hx hb dX10_piecesAt_93 ?_
        refine lv_iload_n hx hb dX10_piecesAt_94 rfl (lv_at hl 5 rfl) ?_
        refine z_calli hP hD hS hA (va_runV (As := [.int (zI ((7 * r9) + c9)), .int (zI (((7 * r9) + c9) + 7)), .int (zI lv9)]) (rest := [.int (zI ((0 + 0) + 0))]) hC (c_X10_isCrossed l D τ β δ ms mb mo mp mf mn mi mc mq mr mw mk ml mt ma mx mh ((7 * r9) + c9) (((7 * r9) + c9) + 7) lv9 (by first | assumption | rfl | omega) (by first | assumption | rfl | omega) (by first | assumption | rfl | omega) (by first | assumption | rfl | omega) _) (cwV 3 hts (gV hB wl_X10_142 wn_X10_isCrossed ws_X10_isCrossed wi_X10 wc_X10_isCrossed) rfl rfl rfl hd_X10_isCrossed ⟨Nat.le_of_ble_eq_true rfl, Nat.le_of_ble_eq_true rfl⟩) (zp_V hK hP hD hS hA hG (ci := 10) (q0 := 0) rfl rfl rfl) rfl rfl hl.1 rfl (lv_room (Nat.le_of_ble_eq_true rfl)) dX10_piecesAt_95 ⟨Nat.le_of_ble_eq_true rfl, Nat.le_of_ble_eq_true rfl⟩) (fun r w1 H locs hq9 hP hD hS => ?_)
        obtain ⟨v95_4, hv95_0, rfl, rfl⟩ := hq9
        have hP : va_P D vwCl (wM β δ ms mb mo mp mf mn mi mc mq mr mw mk ml mt ma mx mh) H := hP
        have hD : va_D A (wM β δ ms mb mo mp mf mn mi mc mq mr mw mk ml mt ma mx mh) := hD
        refine z_ifeqB (tgt := 105) hx hb dX10_piecesAt_98 (by decide) (fun c_98 => ?_) (fun c_98 => ?_)
        · refine lv_iconst (v := zI 0) hx hb dX10_piecesAt_105 rfl ?_
          refine z_iadd hx hb dX10_piecesAt_106 ?_
          refine lv_istore (lv' := [(5, .int (zI (((0 + 0) + 0) + 0))), (4, .int (zI ((7 * r9) + c9))), (0, .ref (β 0)), (1, .int (zI r9)), (2, .int (zI c9)), (3, .int (zI lv9))]) hx hb dX10_piecesAt_107 hl (by decide) rfl (fun ls hl => ?_)
          refine lv_iload hx hb dX10_piecesAt_109 (lv_at hl 0 rfl) ?_
          refine lv_iconst (v := zI 2) hx hb dX10_piecesAt_111 rfl ?_
          refine z_idiv hx hb ⟨⟨by omega, by omega⟩, by omega, by omega⟩ dX10_piecesAt_112 ?_
          exact z_iret hC hr hlk hQ hP hD hS ⟨(((0 + 0) + 0) + 0) / 2, (by unfold S_pie; rw [pA4 hr9 hc9, ← hv16_0, ← hv42_0, ← hv70_0, ← hv95_0, c_19, c_45, c_73, c_98]; rfl), (by omega), rfl, rfl⟩ dX10_piecesAt_113
        · refine lv_iconst (v := zI 1) hx hb dX10_piecesAt_101 rfl ?_
          refine lv_goto (tgt := 106) hx hb dX10_piecesAt_102 (by decide) ?_
          refine z_iadd hx hb dX10_piecesAt_106 ?_
          refine lv_istore (lv' := [(5, .int (zI (((0 + 0) + 0) + 1))), (4, .int (zI ((7 * r9) + c9))), (0, .ref (β 0)), (1, .int (zI r9)), (2, .int (zI c9)), (3, .int (zI lv9))]) hx hb dX10_piecesAt_107 hl (by decide) rfl (fun ls hl => ?_)
          refine lv_iload hx hb dX10_piecesAt_109 (lv_at hl 0 rfl) ?_
          refine lv_iconst (v := zI 2) hx hb dX10_piecesAt_111 rfl ?_
          refine z_idiv hx hb ⟨⟨by omega, by omega⟩, by omega, by omega⟩ dX10_piecesAt_112 ?_
          exact z_iret hC hr hlk hQ hP hD hS ⟨(((0 + 0) + 0) + 1) / 2, (by unfold S_pie; rw [pA4 hr9 hc9, ← hv16_0, ← hv42_0, ← hv70_0, ← hv95_0, c_19, c_45, c_73, c_98]; rfl), (by omega), rfl, rfl⟩ dX10_piecesAt_113
      · refine lv_iconst (v := zI 1) hx hb dX10_piecesAt_76 rfl ?_
        refine lv_goto (tgt := 81) hx hb dX10_piecesAt_77 (by decide) ?_
        refine z_iadd hx hb dX10_piecesAt_81 ?_
        refine lv_istore (lv' := [(5, .int (zI ((0 + 0) + 1))), (4, .int (zI ((7 * r9) + c9))), (0, .ref (β 0)), (1, .int (zI r9)), (2, .int (zI c9)), (3, .int (zI lv9))]) hx hb dX10_piecesAt_82 hl (by decide) rfl (fun ls hl => ?_)
        refine lv_iload hx hb dX10_piecesAt_84 (lv_at hl 0 rfl) ?_
        refine lv_aload_n hx hb dX10_piecesAt_86 rfl (lv_at hl 2 rfl) ?_
        refine lv_iload hx hb dX10_piecesAt_87 (lv_at hl 1 rfl) ?_
        refine lv_iload hx hb dX10_piecesAt_89 (lv_at hl 1 rfl) ?_
        refine lv_bipush (v := zI 7) hx hb dX10_piecesAt_91 (zI_b8 (by decide)) ?_
        refine z_iadd hx hb dX10_piecesAt_93 ?_
        refine lv_iload_n hx hb dX10_piecesAt_94 rfl (lv_at hl 5 rfl) ?_
        refine z_calli hP hD hS hA (va_runV (As := [.int (zI ((7 * r9) + c9)), .int (zI (((7 * r9) + c9) + 7)), .int (zI lv9)]) (rest := [.int (zI ((0 + 0) + 1))]) hC (c_X10_isCrossed l D τ β δ ms mb mo mp mf mn mi mc mq mr mw mk ml mt ma mx mh ((7 * r9) + c9) (((7 * r9) + c9) + 7) lv9 (by first | assumption | rfl | omega) (by first | assumption | rfl | omega) (by first | assumption | rfl | omega) (by first | assumption | rfl | omega) _) (cwV 3 hts (gV hB wl_X10_142 wn_X10_isCrossed ws_X10_isCrossed wi_X10 wc_X10_isCrossed) rfl rfl rfl hd_X10_isCrossed ⟨Nat.le_of_ble_eq_true rfl, Nat.le_of_ble_eq_true rfl⟩) (zp_V hK hP hD hS hA hG (ci := 10) (q0 := 0) rfl rfl rfl) rfl rfl hl.1 rfl (lv_room (Nat.le_of_ble_eq_true rfl)) dX10_piecesAt_95 ⟨Nat.le_of_ble_eq_true rfl, Nat.le_of_ble_eq_true rfl⟩) (fun r w1 H locs hq9 hP hD hS => ?_)
        obtain ⟨v95_5, hv95_0, rfl, rfl⟩ := hq9
        have hP : va_P D vwCl (wM β δ ms mb mo mp mf mn mi mc mq mr mw mk ml mt ma mx mh) H := hP
        have hD : va_D A (wM β δ ms mb mo mp mf mn mi mc mq mr mw mk ml mt ma mx mh) := hD
        refine z_ifeqB (tgt := 105) hx hb dX10_piecesAt_98 (by decide) (fun c_98 => ?_) (fun c_98 => ?_)
        · refine lv_iconst (v := zI 0) hx hb dX10_piecesAt_105 rfl ?_
          refine z_iadd hx hb dX10_piecesAt_106 ?_
          refine lv_istore (lv' := [(5, .int (zI (((0 + 0) + 1) + 0))), (4, .int (zI ((7 * r9) + c9))), (0, .ref (β 0)), (1, .int (zI r9)), (2, .int (zI c9)), (3, .int (zI lv9))]) hx hb dX10_piecesAt_107 hl (by decide) rfl (fun ls hl => ?_)
          refine lv_iload hx hb dX10_piecesAt_109 (lv_at hl 0 rfl) ?_
          refine lv_iconst (v := zI 2) hx hb dX10_piecesAt_111 rfl ?_
          refine z_idiv hx hb ⟨⟨by omega, by omega⟩, by omega, by omega⟩ dX10_piecesAt_112 ?_
          exact z_iret hC hr hlk hQ hP hD hS ⟨(((0 + 0) + 1) + 0) / 2, (by unfold S_pie; rw [pA4 hr9 hc9, ← hv16_0, ← hv42_0, ← hv70_0, ← hv95_0, c_19, c_45, c_73, c_98]; rfl), (by omega), rfl, rfl⟩ dX10_piecesAt_113
        · refine lv_iconst (v := zI 1) hx hb dX10_piecesAt_101 rfl ?_
          refine lv_goto (tgt := 106) hx hb dX10_piecesAt_102 (by decide) ?_
          refine z_iadd hx hb dX10_piecesAt_106 ?_
          refine lv_istore (lv' := [(5, .int (zI (((0 + 0) + 1) + 1))), (4, .int (zI ((7 * r9) + c9))), (0, .ref (β 0)), (1, .int (zI r9)), (2, .int (zI c9)), (3, .int (zI lv9))]) hx hb dX10_piecesAt_107 hl (by decide) rfl (fun ls hl => ?_)
          refine lv_iload hx hb dX10_piecesAt_109 (lv_at hl 0 rfl) ?_
          refine lv_iconst (v := zI 2) hx hb dX10_piecesAt_111 rfl ?_
          refine z_idiv hx hb ⟨⟨by omega, by omega⟩, by omega, by omega⟩ dX10_piecesAt_112 ?_
          exact z_iret hC hr hlk hQ hP hD hS ⟨(((0 + 0) + 1) + 1) / 2, (by unfold S_pie; rw [pA4 hr9 hc9, ← hv16_0, ← hv42_0, ← hv70_0, ← hv95_0, c_19, c_45, c_73, c_98]; rfl), (by omega), rfl, rfl⟩ dX10_piecesAt_113
    · refine lv_iconst (v := zI 1) hx hb dX10_piecesAt_48 rfl ?_
      refine lv_goto (tgt := 53) hx hb dX10_piecesAt_49 (by decide) ?_
      refine z_iadd hx hb dX10_piecesAt_53 ?_
      refine lv_istore (lv' := [(5, .int (zI (0 + 1))), (4, .int (zI ((7 * r9) + c9))), (0, .ref (β 0)), (1, .int (zI r9)), (2, .int (zI c9)), (3, .int (zI lv9))]) hx hb dX10_piecesAt_54 hl (by decide) rfl (fun ls hl => ?_)
      refine lv_iload hx hb dX10_piecesAt_56 (lv_at hl 0 rfl) ?_
      refine lv_aload_n hx hb dX10_piecesAt_58 rfl (lv_at hl 2 rfl) ?_
      refine lv_iload hx hb dX10_piecesAt_59 (lv_at hl 1 rfl) ?_
      refine lv_bipush (v := zI 7) hx hb dX10_piecesAt_61 (zI_b8 (by decide)) ?_
      refine z_iadd hx hb dX10_piecesAt_63 ?_
      refine lv_iload hx hb dX10_piecesAt_64 (lv_at hl 1 rfl) ?_
      refine lv_bipush (v := zI 8) hx hb dX10_piecesAt_66 (zI_b8 (by decide)) ?_
      refine z_iadd hx hb dX10_piecesAt_68 ?_
      refine lv_iload_n hx hb dX10_piecesAt_69 rfl (lv_at hl 5 rfl) ?_
      refine z_calli hP hD hS hA (va_runV (As := [.int (zI (((7 * r9) + c9) + 7)), .int (zI (((7 * r9) + c9) + 8)), .int (zI lv9)]) (rest := [.int (zI (0 + 1))]) hC (c_X10_isCrossed l D τ β δ ms mb mo mp mf mn mi mc mq mr mw mk ml mt ma mx mh (((7 * r9) + c9) + 7) (((7 * r9) + c9) + 8) lv9 (by first | assumption | rfl | omega) (by first | assumption | rfl | omega) (by first | assumption | rfl | omega) (by first | assumption | rfl | omega) _) (cwV 3 hts (gV hB wl_X10_142 wn_X10_isCrossed ws_X10_isCrossed wi_X10 wc_X10_isCrossed) rfl rfl rfl hd_X10_isCrossed ⟨Nat.le_of_ble_eq_true rfl, Nat.le_of_ble_eq_true rfl⟩) (zp_V hK hP hD hS hA hG (ci := 10) (q0 := 0) rfl rfl rfl) rfl rfl hl.1 rfl (lv_room (Nat.le_of_ble_eq_true rfl)) dX10_piecesAt_70 ⟨Nat.le_of_ble_eq_true rfl, Nat.le_of_ble_eq_true rfl⟩) (fun r w1 H locs hq9 hP hD hS => ?_)
      obtain ⟨v70_6, hv70_0, rfl, rfl⟩ := hq9
      have hP : va_P D vwCl (wM β δ ms mb mo mp mf mn mi mc mq mr mw mk ml mt ma mx mh) H := hP
      have hD : va_D A (wM β δ ms mb mo mp mf mn mi mc mq mr mw mk ml mt ma mx mh) := hD
      refine z_ifeqB (tgt := 80) hx hb dX10_piecesAt_73 (by decide) (fun c_73 => ?_) (fun c_73 => ?_)
      · refine lv_iconst (v := zI 0) hx hb dX10_piecesAt_80 rfl ?_
        refine z_iadd hx hb dX10_piecesAt_81 ?_
        refine lv_istore (lv' := [(5, .int (zI ((0 + 1) + 0))), (4, .int (zI ((7 * r9) + c9))), (0, .ref (β 0)), (1, .int (zI r9)), (2, .int (zI c9)), (3, .int (zI lv9))]) hx hb dX10_piecesAt_82 hl (by decide) rfl (fun ls hl => ?_)
        refine lv_iload hx hb dX10_piecesAt_84 (lv_at hl 0 rfl) ?_
        refine lv_aload_n hx hb dX10_piecesAt_86 rfl (lv_at hl 2 rfl) ?_
        refine lv_iload hx hb dX10_piecesAt_87 (lv_at hl 1 rfl) ?_
        refine lv_iload hx hb dX10_piecesAt_89 (lv_at hl 1 rfl) ?_
        refine lv_bipush (v := zI 7) hx hb dX10_piecesAt_91 (zI_b8 (by decide)) ?_
        refine z_iadd hx hb dX10_piecesAt_93 ?_
        refine lv_iload_n hx hb dX10_piecesAt_94 rfl (lv_at hl 5 rfl) ?_
        refine z_calli hP hD hS hA (va_runV (As := [.int (zI ((7 * r9) + c9)), .int (zI (((7 * r9) + c9) + 7)), .int (zI lv9)]) (rest := [.int (zI ((0 + 1) + 0))]) hC (c_X10_isCrossed l D τ β δ ms mb mo mp mf mn mi mc mq mr mw mk ml mt ma mx mh ((7 * r9) + c9) (((7 * r9) + c9) + 7) lv9 (by first | assumption | rfl | omega) (by first | assumption | rfl | omega) (by first | assumption | rfl | omega) (by first | assumption | rfl | omega) _) (cwV 3 hts (gV hB wl_X10_142 wn_X10_isCrossed ws_X10_isCrossed wi_X10 wc_X10_isCrossed) rfl rfl rfl hd_X10_isCrossed ⟨Nat.le_of_ble_eq_true rfl, Nat.le_of_ble_eq_true rfl⟩) (zp_V hK hP hD hS hA hG (ci := 10) (q0 := 0) rfl rfl rfl) rfl rfl hl.1 rfl (lv_room (Nat.le_of_ble_eq_true rfl)) dX10_piecesAt_95 ⟨Nat.le_of_ble_eq_true rfl, Nat.le_of_ble_eq_true rfl⟩) (fun r w1 H locs hq9 hP hD hS => ?_)
        obtain ⟨v95_7, hv95_0, rfl, rfl⟩ := hq9
        have hP : va_P D vwCl (wM β δ ms mb mo mp mf mn mi mc mq mr mw mk ml mt ma mx mh) H := hP
        have hD : va_D A (wM β δ ms mb mo mp mf mn mi mc mq mr mw mk ml mt ma mx mh) := hD
        refine z_ifeqB (tgt := 105) hx hb dX10_piecesAt_98 (by decide) (fun c_98 => ?_) (fun c_98 => ?_)
        · refine lv_iconst (v := zI 0) hx hb dX10_piecesAt_105 rfl ?_
          refine z_iadd hx hb dX10_piecesAt_106 ?_
          refine lv_istore (lv' := [(5, .int (zI (((0 + 1) + 0) + 0))), (4, .int (zI ((7 * r9) + c9))), (0, .ref (β 0)), (1, .int (zI r9)), (2, .int (zI c9)), (3, .int (zI lv9))]) hx hb dX10_piecesAt_107 hl (by decide) rfl (fun ls hl => ?_)
          refine lv_iload hx hb dX10_piecesAt_109 (lv_at hl 0 rfl) ?_
          refine lv_iconst (v := zI 2) hx hb dX10_piecesAt_111 rfl ?_
          refine z_idiv hx hb ⟨⟨by omega, by omega⟩, by omega, by omega⟩ dX10_piecesAt_112 ?_
          exact z_iret hC hr hlk hQ hP hD hS ⟨(((0 + 1) + 0) + 0) / 2, (by unfold S_pie; rw [pA4 hr9 hc9, ← hv16_0, ← hv42_0, ← hv70_0, ← hv95_0, c_19, c_45, c_73, c_98]; rfl), (by omega), rfl, rfl⟩ dX10_piecesAt_113
        · refine lv_iconst (v := zI 1) hx hb dX10_piecesAt_101 rfl ?_
          refine lv_goto (tgt := 106) hx hb dX10_piecesAt_102 (by decide) ?_
          refine z_iadd hx hb dX10_piecesAt_106 ?_
          refine lv_istore (lv' := [(5, .int (zI (((0 + 1) + 0) + 1))), (4, .int (zI ((7 * r9) + c9))), (0, .ref (β 0)), (1, .int (zI r9)), (2, .int (zI c9)), (3, .int (zI lv9))]) hx hb dX10_piecesAt_107 hl (by decide) rfl (fun ls hl => ?_)
          refine lv_iload hx hb dX10_piecesAt_109 (lv_at hl 0 rfl) ?_
          refine lv_iconst (v := zI 2) hx hb dX10_piecesAt_111 rfl ?_
          refine z_idiv hx hb ⟨⟨by omega, by omega⟩, by omega, by omega⟩ dX10_piecesAt_112 ?_
          exact z_iret hC hr hlk hQ hP hD hS ⟨(((0 + 1) + 0) + 1) / 2, (by unfold S_pie; rw [pA4 hr9 hc9, ← hv16_0, ← hv42_0, ← hv70_0, ← hv95_0, c_19, c_45, c_73, c_98]; rfl), (by omega), rfl, rfl⟩ dX10_piecesAt_113
      · refine lv_iconst (v := zI 1) hx hb dX10_piecesAt_76 rfl ?_
        refine lv_goto (tgt := 81) hx hb dX10_piecesAt_77 (by decide) ?_
        refine z_iadd hx hb dX10_piecesAt_81 ?_
        refine lv_istore (lv' := [(5, .int (zI ((0 + 1) + 1))), (4, .int (zI ((7 * r9) + c9))), (0, .ref (β 0)), (1, .int (zI r9)), (2, .int (zI c9)), (3, .int (zI lv9))]) hx hb dX10_piecesAt_82 hl (by decide) rfl (fun ls hl => ?_)
        refine lv_iload hx hb dX10_piecesAt_84 (lv_at hl 0 rfl) ?_
        refine lv_aload_n hx hb dX10_piecesAt_86 rfl (lv_at hl 2 rfl) ?_
        refine lv_iload hx hb dX10_piecesAt_87 (lv_at hl 1 rfl) ?_
        refine lv_iload hx hb dX10_piecesAt_89 (lv_at hl 1 rfl) ?_
        refine lv_bipush (v := zI 7) hx hb dX10_piecesAt_91 (zI_b8 (by decide)) ?_
        refine z_iadd hx hb dX10_piecesAt_93 ?_
        refine lv_iload_n hx hb dX10_piecesAt_94 rfl (lv_at hl 5 rfl) ?_
        refine z_calli hP hD hS hA (va_runV (As := [.int (zI ((7 * r9) + c9)), .int (zI (((7 * r9) + c9) + 7)), .int (zI lv9)]) (rest := [.int (zI ((0 + 1) + 1))]) hC (c_X10_isCrossed l D τ β δ ms mb mo mp mf mn mi mc mq mr mw mk ml mt ma mx mh ((7 * r9) + c9) (((7 * r9) + c9) + 7) lv9 (by first | assumption | rfl | omega) (by first | assumption | rfl | omega) (by first | assumption | rfl | omega) (by first | assumption | rfl | omega) _) (cwV 3 hts (gV hB wl_X10_142 wn_X10_isCrossed ws_X10_isCrossed wi_X10 wc_X10_isCrossed) rfl rfl rfl hd_X10_isCrossed ⟨Nat.le_of_ble_eq_true rfl, Nat.le_of_ble_eq_true rfl⟩) (zp_V hK hP hD hS hA hG (ci := 10) (q0 := 0) rfl rfl rfl) rfl rfl hl.1 rfl (lv_room (Nat.le_of_ble_eq_true rfl)) dX10_piecesAt_95 ⟨Nat.le_of_ble_eq_true rfl, Nat.le_of_ble_eq_true rfl⟩) (fun r w1 H locs hq9 hP hD hS => ?_)
        obtain ⟨v95_8, hv95_0, rfl, rfl⟩ := hq9
        have hP : va_P D vwCl (wM β δ ms mb mo mp mf mn mi mc mq mr mw mk ml mt ma mx mh) H := hP
        have hD : va_D A (wM β δ ms mb mo mp mf mn mi mc mq mr mw mk ml mt ma mx mh) := hD
        refine z_ifeqB (tgt := 105) hx hb dX10_piecesAt_98 (by decide) (fun c_98 => ?_) (fun c_98 => ?_)
        · refine lv_iconst (v := zI 0) hx hb dX10_piecesAt_105 rfl ?_
          refine z_iadd hx hb dX10_piecesAt_106 ?_
          refine lv_istore (lv' := [(5, .int (zI (((0 + 1) + 1) + 0))), (4, .int (zI ((7 * r9) + c9))), (0, .ref (β 0)), (1, .int (zI r9)), (2, .int (zI c9)), (3, .int (zI lv9))]) hx hb dX10_piecesAt_107 hl (by decide) rfl (fun ls hl => ?_)
          refine lv_iload hx hb dX10_piecesAt_109 (lv_at hl 0 rfl) ?_
          refine lv_iconst (v := zI 2) hx hb dX10_piecesAt_111 rfl ?_
          refine z_idiv hx hb ⟨⟨by omega, by omega⟩, by omega, by omega⟩ dX10_piecesAt_112 ?_
          exact z_iret hC hr hlk hQ hP hD hS ⟨(((0 + 1) + 1) + 0) / 2, (by unfold S_pie; rw [pA4 hr9 hc9, ← hv16_0, ← hv42_0, ← hv70_0, ← hv95_0, c_19, c_45, c_73, c_98]; rfl), (by omega), rfl, rfl⟩ dX10_piecesAt_113
        · refine lv_iconst (v := zI 1) hx hb dX10_piecesAt_101 rfl ?_
          refine lv_goto (tgt := 106) hx hb dX10_piecesAt_102 (by decide) ?_
          refine z_iadd hx hb dX10_piecesAt_106 ?_
          refine lv_istore (lv' := [(5, .int (zI (((0 + 1) + 1) + 1))), (4, .int (zI ((7 * r9) + c9))), (0, .ref (β 0)), (1, .int (zI r9)), (2, .int (zI c9)), (3, .int (zI lv9))]) hx hb dX10_piecesAt_107 hl (by decide) rfl (fun ls hl => ?_)
          refine lv_iload hx hb dX10_piecesAt_109 (lv_at hl 0 rfl) ?_
          refine lv_iconst (v := zI 2) hx hb dX10_piecesAt_111 rfl ?_
          refine z_idiv hx hb ⟨⟨by omega, by omega⟩, by omega, by omega⟩ dX10_piecesAt_112 ?_
          exact z_iret hC hr hlk hQ hP hD hS ⟨(((0 + 1) + 1) + 1) / 2, (by unfold S_pie; rw [pA4 hr9 hc9, ← hv16_0, ← hv42_0, ← hv70_0, ← hv95_0, c_19, c_45, c_73, c_98]; rfl), (by omega), rfl, rfl⟩ dX10_piecesAt_113
  · refine lv_iconst (v := zI 1) hx hb dX10_piecesAt_22 rfl ?_
    refine lv_goto (tgt := 27) hx hb dX10_piecesAt_23 (by decide) ?_
    refine lv_istore (lv' := [(5, .int (zI 1)), (4, .int (zI ((7 * r9) + c9))), (0, .ref (β 0)), (1, .int (zI r9)), (2, .int (zI c9)), (3, .int (zI lv9))]) hx hb dX10_piecesAt_27 hl (by decide) rfl (fun ls hl => ?_)
    refine lv_iload hx hb dX10_piecesAt_29 (lv_at hl 0 rfl) ?_
    refine lv_aload_n hx hb dX10_piecesAt_31 rfl (lv_at hl 2 rfl) ?_
    refine lv_iload hx hb dX10_piecesAt_32 (lv_at hl 1 rfl) ?_
    refine lv_iconst (v := zI 1) hx hb dX10_piecesAt_34 rfl ?_
    refine z_iadd hx hb dX10_piecesAt_35 ?_
    refine lv_iload hx hb dX10_piecesAt_36 (lv_at hl 1 rfl) ?_
    refine lv_bipush (v := zI 8) hx hb dX10_piecesAt_38 (zI_b8 (by decide)) ?_
    refine z_iadd hx hb dX10_piecesAt_40 ?_
    refine lv_iload_n hx hb dX10_piecesAt_41 rfl (lv_at hl 5 rfl) ?_
    refine z_calli hP hD hS hA (va_runV (As := [.int (zI (((7 * r9) + c9) + 1)), .int (zI (((7 * r9) + c9) + 8)), .int (zI lv9)]) (rest := [.int (zI 1)]) hC (c_X10_isCrossed l D τ β δ ms mb mo mp mf mn mi mc mq mr mw mk ml mt ma mx mh (((7 * r9) + c9) + 1) (((7 * r9) + c9) + 8) lv9 (by first | assumption | rfl | omega) (by first | assumption | rfl | omega) (by first | assumption | rfl | omega) (by first | assumption | rfl | omega) _) (cwV 3 hts (gV hB wl_X10_142 wn_X10_isCrossed ws_X10_isCrossed wi_X10 wc_X10_isCrossed) rfl rfl rfl hd_X10_isCrossed ⟨Nat.le_of_ble_eq_true rfl, Nat.le_of_ble_eq_true rfl⟩) (zp_V hK hP hD hS hA hG (ci := 10) (q0 := 0) rfl rfl rfl) rfl rfl hl.1 rfl (lv_room (Nat.le_of_ble_eq_true rfl)) dX10_piecesAt_42 ⟨Nat.le_of_ble_eq_true rfl, Nat.le_of_ble_eq_true rfl⟩) (fun r w1 H locs hq9 hP hD hS => ?_)
    obtain ⟨v42_9, hv42_0, rfl, rfl⟩ := hq9
    have hP : va_P D vwCl (wM β δ ms mb mo mp mf mn mi mc mq mr mw mk ml mt ma mx mh) H := hP
    have hD : va_D A (wM β δ ms mb mo mp mf mn mi mc mq mr mw mk ml mt ma mx mh) := hD
    refine z_ifeqB (tgt := 52) hx hb dX10_piecesAt_45 (by decide) (fun c_45 => ?_) (fun c_45 => ?_)
    · refine lv_iconst (v := zI 0) hx hb dX10_piecesAt_52 rfl ?_
      refine z_iadd hx hb dX10_piecesAt_53 ?_
      refine lv_istore (lv' := [(5, .int (zI (1 + 0))), (4, .int (zI ((7 * r9) + c9))), (0, .ref (β 0)), (1, .int (zI r9)), (2, .int (zI c9)), (3, .int (zI lv9))]) hx hb dX10_piecesAt_54 hl (by decide) rfl (fun ls hl => ?_)
      refine lv_iload hx hb dX10_piecesAt_56 (lv_at hl 0 rfl) ?_
      refine lv_aload_n hx hb dX10_piecesAt_58 rfl (lv_at hl 2 rfl) ?_
      refine lv_iload hx hb dX10_piecesAt_59 (lv_at hl 1 rfl) ?_
      refine lv_bipush (v := zI 7) hx hb dX10_piecesAt_61 (zI_b8 (by decide)) ?_
      refine z_iadd hx hb dX10_piecesAt_63 ?_
      refine lv_iload hx hb dX10_piecesAt_64 (lv_at hl 1 rfl) ?_
      refine lv_bipush (v := zI 8) hx hb dX10_piecesAt_66 (zI_b8 (by decide)) ?_
      refine z_iadd hx hb dX10_piecesAt_68 ?_
      refine lv_iload_n hx hb dX10_piecesAt_69 rfl (lv_at hl 5 rfl) ?_
      refine z_calli hP hD hS hA (va_runV (As := [.int (zI (((7 * r9) + c9) + 7)), .int (zI (((7 * r9) + c9) + 8)), .int (zI lv9)]) (rest := [.int (zI (1 + 0))]) hC (c_X10_isCrossed l D τ β δ ms mb mo mp mf mn mi mc mq mr mw mk ml mt ma mx mh (((7 * r9) + c9) + 7) (((7 * r9) + c9) + 8) lv9 (by first | assumption | rfl | omega) (by first | assumption | rfl | omega) (by first | assumption | rfl | omega) (by first | assumption | rfl | omega) _) (cwV 3 hts (gV hB wl_X10_142 wn_X10_isCrossed ws_X10_isCrossed wi_X10 wc_X10_isCrossed) rfl rfl rfl hd_X10_isCrossed ⟨Nat.le_of_ble_eq_true rfl, Nat.le_of_ble_eq_true rfl⟩) (zp_V hK hP hD hS hA hG (ci := 10) (q0 := 0) rfl rfl rfl) rfl rfl hl.1 rfl (lv_room (Nat.le_of_ble_eq_true rfl)) dX10_piecesAt_70 ⟨Nat.le_of_ble_eq_true rfl, Nat.le_of_ble_eq_true rfl⟩) (fun r w1 H locs hq9 hP hD hS => ?_)
      obtain ⟨v70_10, hv70_0, rfl, rfl⟩ := hq9
      have hP : va_P D vwCl (wM β δ ms mb mo mp mf mn mi mc mq mr mw mk ml mt ma mx mh) H := hP
      have hD : va_D A (wM β δ ms mb mo mp mf mn mi mc mq mr mw mk ml mt ma mx mh) := hD
      refine z_ifeqB (tgt := 80) hx hb dX10_piecesAt_73 (by decide) (fun c_73 => ?_) (fun c_73 => ?_)
      · refine lv_iconst (v := zI 0) hx hb dX10_piecesAt_80 rfl ?_
        refine z_iadd hx hb dX10_piecesAt_81 ?_
        refine lv_istore (lv' := [(5, .int (zI ((1 + 0) + 0))), (4, .int (zI ((7 * r9) + c9))), (0, .ref (β 0)), (1, .int (zI r9)), (2, .int (zI c9)), (3, .int (zI lv9))]) hx hb dX10_piecesAt_82 hl (by decide) rfl (fun ls hl => ?_)
        refine lv_iload hx hb dX10_piecesAt_84 (lv_at hl 0 rfl) ?_
        refine lv_aload_n hx hb dX10_piecesAt_86 rfl (lv_at hl 2 rfl) ?_
        refine lv_iload hx hb dX10_piecesAt_87 (lv_at hl 1 rfl) ?_
        refine lv_iload hx hb dX10_piecesAt_89 (lv_at hl 1 rfl) ?_
        refine lv_bipush (v := zI 7) hx hb dX10_piecesAt_91 (zI_b8 (by decide)) ?_
        refine z_iadd hx hb dX10_piecesAt_93 ?_
        refine lv_iload_n hx hb dX10_piecesAt_94 rfl (lv_at hl 5 rfl) ?_
        refine z_calli hP hD hS hA (va_runV (As := [.int (zI ((7 * r9) + c9)), .int (zI (((7 * r9) + c9) + 7)), .int (zI lv9)]) (rest := [.int (zI ((1 + 0) + 0))]) hC (c_X10_isCrossed l D τ β δ ms mb mo mp mf mn mi mc mq mr mw mk ml mt ma mx mh ((7 * r9) + c9) (((7 * r9) + c9) + 7) lv9 (by first | assumption | rfl | omega) (by first | assumption | rfl | omega) (by first | assumption | rfl | omega) (by first | assumption | rfl | omega) _) (cwV 3 hts (gV hB wl_X10_142 wn_X10_isCrossed ws_X10_isCrossed wi_X10 wc_X10_isCrossed) rfl rfl rfl hd_X10_isCrossed ⟨Nat.le_of_ble_eq_true rfl, Nat.le_of_ble_eq_true rfl⟩) (zp_V hK hP hD hS hA hG (ci := 10) (q0 := 0) rfl rfl rfl) rfl rfl hl.1 rfl (lv_room (Nat.le_of_ble_eq_true rfl)) dX10_piecesAt_95 ⟨Nat.le_of_ble_eq_true rfl, Nat.le_of_ble_eq_true rfl⟩) (fun r w1 H locs hq9 hP hD hS => ?_)
        obtain ⟨v95_11, hv95_0, rfl, rfl⟩ := hq9
        have hP : va_P D vwCl (wM β δ ms mb mo mp mf mn mi mc mq mr mw mk ml mt ma mx mh) H := hP
        have hD : va_D A (wM β δ ms mb mo mp mf mn mi mc mq mr mw mk ml mt ma mx mh) := hD
        refine z_ifeqB (tgt := 105) hx hb dX10_piecesAt_98 (by decide) (fun c_98 => ?_) (fun c_98 => ?_)
        · refine lv_iconst (v := zI 0) hx hb dX10_piecesAt_105 rfl ?_
          refine z_iadd hx hb dX10_piecesAt_106 ?_
          refine lv_istore (lv' := [(5, .int (zI (((1 + 0) + 0) + 0))), (4, .int (zI ((7 * r9) + c9))), (0, .ref (β 0)), (1, .int (zI r9)), (2, .int (zI c9)), (3, .int (zI lv9))]) hx hb dX10_piecesAt_107 hl (by decide) rfl (fun ls hl => ?_)
          refine lv_iload hx hb dX10_piecesAt_109 (lv_at hl 0 rfl) ?_
          refine lv_iconst (v := zI 2) hx hb dX10_piecesAt_111 rfl ?_
          refine z_idiv hx hb ⟨⟨by omega, by omega⟩, by omega, by omega⟩ dX10_piecesAt_112 ?_
          exact z_iret hC hr hlk hQ hP hD hS ⟨(((1 + 0) + 0) + 0) / 2, (by unfold S_pie; rw [pA4 hr9 hc9, ← hv16_0, ← hv42_0, ← hv70_0, ← hv95_0, c_19, c_45, c_73, c_98]; rfl), (by omega), rfl, rfl⟩ dX10_piecesAt_113
        · refine lv_iconst (v := zI 1) hx hb dX10_piecesAt_101 rfl ?_
          refine lv_goto (tgt := 106) hx hb dX10_piecesAt_102 (by decide) ?_
          refine z_iadd hx hb dX10_piecesAt_106 ?_
          refine lv_istore (lv' := [(5, .int (zI (((1 + 0) + 0) + 1))), (4, .int (zI ((7 * r9) + c9))), (0, .ref (β 0)), (1, .int (zI r9)), (2, .int (zI c9)), (3, .int (zI lv9))]) hx hb dX10_piecesAt_107 hl (by decide) rfl (fun ls hl => ?_)
          refine lv_iload hx hb dX10_piecesAt_109 (lv_at hl 0 rfl) ?_
          refine lv_iconst (v := zI 2) hx hb dX10_piecesAt_111 rfl ?_
          refine z_idiv hx hb ⟨⟨by omega, by omega⟩, by omega, by omega⟩ dX10_piecesAt_112 ?_
          exact z_iret hC hr hlk hQ hP hD hS ⟨(((1 + 0) + 0) + 1) / 2, (by unfold S_pie; rw [pA4 hr9 hc9, ← hv16_0, ← hv42_0, ← hv70_0, ← hv95_0, c_19, c_45, c_73, c_98]; rfl), (by omega), rfl, rfl⟩ dX10_piecesAt_113
      · refine lv_iconst (v := zI 1) hx hb dX10_piecesAt_76 rfl ?_
        refine lv_goto (tgt := 81) hx hb dX10_piecesAt_77 (by decide) ?_
        refine z_iadd hx hb dX10_piecesAt_81 ?_
        refine lv_istore (lv' := [(5, .int (zI ((1 + 0) + 1))), (4, .int (zI ((7 * r9) + c9))), (0, .ref (β 0)), (1, .int (zI r9)), (2, .int (zI c9)), (3, .int (zI lv9))]) hx hb dX10_piecesAt_82 hl (by decide) rfl (fun ls hl => ?_)
        refine lv_iload hx hb dX10_piecesAt_84 (lv_at hl 0 rfl) ?_
        refine lv_aload_n hx hb dX10_piecesAt_86 rfl (lv_at hl 2 rfl) ?_
        refine lv_iload hx hb dX10_piecesAt_87 (lv_at hl 1 rfl) ?_
        refine lv_iload hx hb dX10_piecesAt_89 (lv_at hl 1 rfl) ?_
        refine lv_bipush (v := zI 7) hx hb dX10_piecesAt_91 (zI_b8 (by decide)) ?_
        refine z_iadd hx hb dX10_piecesAt_93 ?_
        refine lv_iload_n hx hb dX10_piecesAt_94 rfl (lv_at hl 5 rfl) ?_
        refine z_calli hP hD hS hA (va_runV (As := [.int (zI ((7 * r9) + c9)), .int (zI (((7 * r9) + c9) + 7)), .int (zI lv9)]) (rest := [.int (zI ((1 + 0) + 1))]) hC (c_X10_isCrossed l D τ β δ ms mb mo mp mf mn mi mc mq mr mw mk ml mt ma mx mh ((7 * r9) + c9) (((7 * r9) + c9) + 7) lv9 (by first | assumption | rfl | omega) (by first | assumption | rfl | omega) (by first | assumption | rfl | omega) (by first | assumption | rfl | omega) _) (cwV 3 hts (gV hB wl_X10_142 wn_X10_isCrossed ws_X10_isCrossed wi_X10 wc_X10_isCrossed) rfl rfl rfl hd_X10_isCrossed ⟨Nat.le_of_ble_eq_true rfl, Nat.le_of_ble_eq_true rfl⟩) (zp_V hK hP hD hS hA hG (ci := 10) (q0 := 0) rfl rfl rfl) rfl rfl hl.1 rfl (lv_room (Nat.le_of_ble_eq_true rfl)) dX10_piecesAt_95 ⟨Nat.le_of_ble_eq_true rfl, Nat.le_of_ble_eq_true rfl⟩) (fun r w1 H locs hq9 hP hD hS => ?_)
        obtain ⟨v95_12, hv95_0, rfl, rfl⟩ := hq9
        have hP : va_P D vwCl (wM β δ ms mb mo mp mf mn mi mc mq mr mw mk ml mt ma mx mh) H := hP
        have hD : va_D A (wM β δ ms mb mo mp mf mn mi mc mq mr mw mk ml mt ma mx mh) := hD
        refine z_ifeqB (tgt := 105) hx hb dX10_piecesAt_98 (by decide) (fun c_98 => ?_) (fun c_98 => ?_)
        · refine lv_iconst (v := zI 0) hx hb dX10_piecesAt_105 rfl ?_
          refine z_iadd hx hb dX10_piecesAt_106 ?_
          refine lv_istore (lv' := [(5, .int (zI (((1 + 0) + 1) + 0))), (4, .int (zI ((7 * r9) + c9))), (0, .ref (β 0)), (1, .int (zI r9)), (2, .int (zI c9)), (3, .int (zI lv9))]) hx hb dX10_piecesAt_107 hl (by decide) rfl (fun ls hl => ?_)
          refine lv_iload hx hb dX10_piecesAt_109 (lv_at hl 0 rfl) ?_
          refine lv_iconst (v := zI 2) hx hb dX10_piecesAt_111 rfl ?_
          refine z_idiv hx hb ⟨⟨by omega, by omega⟩, by omega, by omega⟩ dX10_piecesAt_112 ?_
          exact z_iret hC hr hlk hQ hP hD hS ⟨(((1 + 0) + 1) + 0) / 2, (by unfold S_pie; rw [pA4 hr9 hc9, ← hv16_0, ← hv42_0, ← hv70_0, ← hv95_0, c_19, c_45, c_73, c_98]; rfl), (by omega), rfl, rfl⟩ dX10_piecesAt_113
        · refine lv_iconst (v := zI 1) hx hb dX10_piecesAt_101 rfl ?_
          refine lv_goto (tgt := 106) hx hb dX10_piecesAt_102 (by decide) ?_
          refine z_iadd hx hb dX10_piecesAt_106 ?_
          refine lv_istore (lv' := [(5, .int (zI (((1 + 0) + 1) + 1))), (4, .int (zI ((7 * r9) + c9))), (0, .ref (β 0)), (1, .int (zI r9)), (2, .int (zI c9)), (3, .int (zI lv9))]) hx hb dX10_piecesAt_107 hl (by decide) rfl (fun ls hl => ?_)
          refine lv_iload hx hb dX10_piecesAt_109 (lv_at hl 0 rfl) ?_
          refine lv_iconst (v := zI 2) hx hb dX10_piecesAt_111 rfl ?_
          refine z_idiv hx hb ⟨⟨by omega, by omega⟩, by omega, by omega⟩ dX10_piecesAt_112 ?_
          exact z_iret hC hr hlk hQ hP hD hS ⟨(((1 + 0) + 1) + 1) / 2, (by unfold S_pie; rw [pA4 hr9 hc9, ← hv16_0, ← hv42_0, ← hv70_0, ← hv95_0, c_19, c_45, c_73, c_98]; rfl), (by omega), rfl, rfl⟩ dX10_piecesAt_113
    · refine lv_iconst (v := zI 1) hx hb dX10_piecesAt_48 rfl ?_
      refine lv_goto (tgt := 53) hx hb dX10_piecesAt_49 (by decide) ?_
      refine z_iadd hx hb dX10_piecesAt_53 ?_
      refine lv_istore (lv' := [(5, .int (zI (1 + 1))), (4, .int (zI ((7 * r9) + c9))), (0, .ref (β 0)), (1, .int (zI r9)), (2, .int (zI c9)), (3, .int (zI lv9))]) hx hb dX10_piecesAt_54 hl (by decide) rfl (fun ls hl => ?_)
      refine lv_iload hx hb dX10_piecesAt_56 (lv_at hl 0 rfl) ?_
      refine lv_aload_n hx hb dX10_piecesAt_58 rfl (lv_at hl 2 rfl) ?_
      refine lv_iload hx hb dX10_piecesAt_59 (lv_at hl 1 rfl) ?_
      refine lv_bipush (v := zI 7) hx hb dX10_piecesAt_61 (zI_b8 (by decide)) ?_
      refine z_iadd hx hb dX10_piecesAt_63 ?_
      refine lv_iload hx hb dX10_piecesAt_64 (lv_at hl 1 rfl) ?_
      refine lv_bipush (v := zI 8) hx hb dX10_piecesAt_66 (zI_b8 (by decide)) ?_
      refine z_iadd hx hb dX10_piecesAt_68 ?_
      refine lv_iload_n hx hb dX10_piecesAt_69 rfl (lv_at hl 5 rfl) ?_
      refine z_calli hP hD hS hA (va_runV (As := [.int (zI (((7 * r9) + c9) + 7)), .int (zI (((7 * r9) + c9) + 8)), .int (zI lv9)]) (rest := [.int (zI (1 + 1))]) hC (c_X10_isCrossed l D τ β δ ms mb mo mp mf mn mi mc mq mr mw mk ml mt ma mx mh (((7 * r9) + c9) + 7) (((7 * r9) + c9) + 8) lv9 (by first | assumption | rfl | omega) (by first | assumption | rfl | omega) (by first | assumption | rfl | omega) (by first | assumption | rfl | omega) _) (cwV 3 hts (gV hB wl_X10_142 wn_X10_isCrossed ws_X10_isCrossed wi_X10 wc_X10_isCrossed) rfl rfl rfl hd_X10_isCrossed ⟨Nat.le_of_ble_eq_true rfl, Nat.le_of_ble_eq_true rfl⟩) (zp_V hK hP hD hS hA hG (ci := 10) (q0 := 0) rfl rfl rfl) rfl rfl hl.1 rfl (lv_room (Nat.le_of_ble_eq_true rfl)) dX10_piecesAt_70 ⟨Nat.le_of_ble_eq_true rfl, Nat.le_of_ble_eq_true rfl⟩) (fun r w1 H locs hq9 hP hD hS => ?_)
      obtain ⟨v70_13, hv70_0, rfl, rfl⟩ := hq9
      have hP : va_P D vwCl (wM β δ ms mb mo mp mf mn mi mc mq mr mw mk ml mt ma mx mh) H := hP
      have hD : va_D A (wM β δ ms mb mo mp mf mn mi mc mq mr mw mk ml mt ma mx mh) := hD
      refine z_ifeqB (tgt := 80) hx hb dX10_piecesAt_73 (by decide) (fun c_73 => ?_) (fun c_73 => ?_)
      · refine lv_iconst (v := zI 0) hx hb dX10_piecesAt_80 rfl ?_
        refine z_iadd hx hb dX10_piecesAt_81 ?_
        refine lv_istore (lv' := [(5, .int (zI ((1 + 1) + 0))), (4, .int (zI ((7 * r9) + c9))), (0, .ref (β 0)), (1, .int (zI r9)), (2, .int (zI c9)), (3, .int (zI lv9))]) hx hb dX10_piecesAt_82 hl (by decide) rfl (fun ls hl => ?_)
        refine lv_iload hx hb dX10_piecesAt_84 (lv_at hl 0 rfl) ?_
        refine lv_aload_n hx hb dX10_piecesAt_86 rfl (lv_at hl 2 rfl) ?_
        refine lv_iload hx hb dX10_piecesAt_87 (lv_at hl 1 rfl) ?_
        refine lv_iload hx hb dX10_piecesAt_89 (lv_at hl 1 rfl) ?_
        refine lv_bipush (v := zI 7) hx hb dX10_piecesAt_91 (zI_b8 (by decide)) ?_
        refine z_iadd hx hb dX10_piecesAt_93 ?_
        refine lv_iload_n hx hb dX10_piecesAt_94 rfl (lv_at hl 5 rfl) ?_
        refine z_calli hP hD hS hA (va_runV (As := [.int (zI ((7 * r9) + c9)), .int (zI (((7 * r9) + c9) + 7)), .int (zI lv9)]) (rest := [.int (zI ((1 + 1) + 0))]) hC (c_X10_isCrossed l D τ β δ ms mb mo mp mf mn mi mc mq mr mw mk ml mt ma mx mh ((7 * r9) + c9) (((7 * r9) + c9) + 7) lv9 (by first | assumption | rfl | omega) (by first | assumption | rfl | omega) (by first | assumption | rfl | omega) (by first | assumption | rfl | omega) _) (cwV 3 hts (gV hB wl_X10_142 wn_X10_isCrossed ws_X10_isCrossed wi_X10 wc_X10_isCrossed) rfl rfl rfl hd_X10_isCrossed ⟨Nat.le_of_ble_eq_true rfl, Nat.le_of_ble_eq_true rfl⟩) (zp_V hK hP hD hS hA hG (ci := 10) (q0 := 0) rfl rfl rfl) rfl rfl hl.1 rfl (lv_room (Nat.le_of_ble_eq_true rfl)) dX10_piecesAt_95 ⟨Nat.le_of_ble_eq_true rfl, Nat.le_of_ble_eq_true rfl⟩) (fun r w1 H locs hq9 hP hD hS => ?_)
        obtain ⟨v95_14, hv95_0, rfl, rfl⟩ := hq9
        have hP : va_P D vwCl (wM β δ ms mb mo mp mf mn mi mc mq mr mw mk ml mt ma mx mh) H := hP
        have hD : va_D A (wM β δ ms mb mo mp mf mn mi mc mq mr mw mk ml mt ma mx mh) := hD
        refine z_ifeqB (tgt := 105) hx hb dX10_piecesAt_98 (by decide) (fun c_98 => ?_) (fun c_98 => ?_)
        · refine lv_iconst (v := zI 0) hx hb dX10_piecesAt_105 rfl ?_
          refine z_iadd hx hb dX10_piecesAt_106 ?_
          refine lv_istore (lv' := [(5, .int (zI (((1 + 1) + 0) + 0))), (4, .int (zI ((7 * r9) + c9))), (0, .ref (β 0)), (1, .int (zI r9)), (2, .int (zI c9)), (3, .int (zI lv9))]) hx hb dX10_piecesAt_107 hl (by decide) rfl (fun ls hl => ?_)
          refine lv_iload hx hb dX10_piecesAt_109 (lv_at hl 0 rfl) ?_
          refine lv_iconst (v := zI 2) hx hb dX10_piecesAt_111 rfl ?_
          refine z_idiv hx hb ⟨⟨by omega, by omega⟩, by omega, by omega⟩ dX10_piecesAt_112 ?_
          exact z_iret hC hr hlk hQ hP hD hS ⟨(((1 + 1) + 0) + 0) / 2, (by unfold S_pie; rw [pA4 hr9 hc9, ← hv16_0, ← hv42_0, ← hv70_0, ← hv95_0, c_19, c_45, c_73, c_98]; rfl), (by omega), rfl, rfl⟩ dX10_piecesAt_113
        · refine lv_iconst (v := zI 1) hx hb dX10_piecesAt_101 rfl ?_
          refine lv_goto (tgt := 106) hx hb dX10_piecesAt_102 (by decide) ?_
          refine z_iadd hx hb dX10_piecesAt_106 ?_
          refine lv_istore (lv' := [(5, .int (zI (((1 + 1) + 0) + 1))), (4, .int (zI ((7 * r9) + c9))), (0, .ref (β 0)), (1, .int (zI r9)), (2, .int (zI c9)), (3, .int (zI lv9))]) hx hb dX10_piecesAt_107 hl (by decide) rfl (fun ls hl => ?_)
          refine lv_iload hx hb dX10_piecesAt_109 (lv_at hl 0 rfl) ?_
          refine lv_iconst (v := zI 2) hx hb dX10_piecesAt_111 rfl ?_
          refine z_idiv hx hb ⟨⟨by omega, by omega⟩, by omega, by omega⟩ dX10_piecesAt_112 ?_
          exact z_iret hC hr hlk hQ hP hD hS ⟨(((1 + 1) + 0) + 1) / 2, (by unfold S_pie; rw [pA4 hr9 hc9, ← hv16_0, ← hv42_0, ← hv70_0, ← hv95_0, c_19, c_45, c_73, c_98]; rfl), (by omega), rfl, rfl⟩ dX10_piecesAt_113
      · refine lv_iconst (v := zI 1) hx hb dX10_piecesAt_76 rfl ?_
        refine lv_goto (tgt := 81) hx hb dX10_piecesAt_77 (by decide) ?_
        refine z_iadd hx hb dX10_piecesAt_81 ?_
        refine lv_istore (lv' := [(5, .int (zI ((1 + 1) + 1))), (4, .int (zI ((7 * r9) + c9))), (0, .ref (β 0)), (1, .int (zI r9)), (2, .int (zI c9)), (3, .int (zI lv9))]) hx hb dX10_piecesAt_82 hl (by decide) rfl (fun ls hl => ?_)
        refine lv_iload hx hb dX10_piecesAt_84 (lv_at hl 0 rfl) ?_
        refine lv_aload_n hx hb dX10_piecesAt_86 rfl (lv_at hl 2 rfl) ?_
        refine lv_iload hx hb dX10_piecesAt_87 (lv_at hl 1 rfl) ?_
        refine lv_iload hx hb dX10_piecesAt_89 (lv_at hl 1 rfl) ?_
        refine lv_bipush (v := zI 7) hx hb dX10_piecesAt_91 (zI_b8 (by decide)) ?_
        refine z_iadd hx hb dX10_piecesAt_93 ?_
        refine lv_iload_n hx hb dX10_piecesAt_94 rfl (lv_at hl 5 rfl) ?_
        refine z_calli hP hD hS hA (va_runV (As := [.int (zI ((7 * r9) + c9)), .int (zI (((7 * r9) + c9) + 7)), .int (zI lv9)]) (rest := [.int (zI ((1 + 1) + 1))]) hC (c_X10_isCrossed l D τ β δ ms mb mo mp mf mn mi mc mq mr mw mk ml mt ma mx mh ((7 * r9) + c9) (((7 * r9) + c9) + 7) lv9 (by first | assumption | rfl | omega) (by first | assumption | rfl | omega) (by first | assumption | rfl | omega) (by first | assumption | rfl | omega) _) (cwV 3 hts (gV hB wl_X10_142 wn_X10_isCrossed ws_X10_isCrossed wi_X10 wc_X10_isCrossed) rfl rfl rfl hd_X10_isCrossed ⟨Nat.le_of_ble_eq_true rfl, Nat.le_of_ble_eq_true rfl⟩) (zp_V hK hP hD hS hA hG (ci := 10) (q0 := 0) rfl rfl rfl) rfl rfl hl.1 rfl (lv_room (Nat.le_of_ble_eq_true rfl)) dX10_piecesAt_95 ⟨Nat.le_of_ble_eq_true rfl, Nat.le_of_ble_eq_true rfl⟩) (fun r w1 H locs hq9 hP hD hS => ?_)
        obtain ⟨v95_15, hv95_0, rfl, rfl⟩ := hq9
        have hP : va_P D vwCl (wM β δ ms mb mo mp mf mn mi mc mq mr mw mk ml mt ma mx mh) H := hP
        have hD : va_D A (wM β δ ms mb mo mp mf mn mi mc mq mr mw mk ml mt ma mx mh) := hD
        refine z_ifeqB (tgt := 105) hx hb dX10_piecesAt_98 (by decide) (fun c_98 => ?_) (fun c_98 => ?_)
        · refine lv_iconst (v := zI 0) hx hb dX10_piecesAt_105 rfl ?_
          refine z_iadd hx hb dX10_piecesAt_106 ?_
          refine lv_istore (lv' := [(5, .int (zI (((1 + 1) + 1) + 0))), (4, .int (zI ((7 * r9) + c9))), (0, .ref (β 0)), (1, .int (zI r9)), (2, .int (zI c9)), (3, .int (zI lv9))]) hx hb dX10_piecesAt_107 hl (by decide) rfl (fun ls hl => ?_)
          refine lv_iload hx hb dX10_piecesAt_109 (lv_at hl 0 rfl) ?_
          refine lv_iconst (v := zI 2) hx hb dX10_piecesAt_111 rfl ?_
          refine z_idiv hx hb ⟨⟨by omega, by omega⟩, by omega, by omega⟩ dX10_piecesAt_112 ?_
          exact z_iret hC hr hlk hQ hP hD hS ⟨(((1 + 1) + 1) + 0) / 2, (by unfold S_pie; rw [pA4 hr9 hc9, ← hv16_0, ← hv42_0, ← hv70_0, ← hv95_0, c_19, c_45, c_73, c_98]; rfl), (by omega), rfl, rfl⟩ dX10_piecesAt_113
        · refine lv_iconst (v := zI 1) hx hb dX10_piecesAt_101 rfl ?_
          refine lv_goto (tgt := 106) hx hb dX10_piecesAt_102 (by decide) ?_
          refine z_iadd hx hb dX10_piecesAt_106 ?_
          refine lv_istore (lv' := [(5, .int (zI (((1 + 1) + 1) + 1))), (4, .int (zI ((7 * r9) + c9))), (0, .ref (β 0)), (1, .int (zI r9)), (2, .int (zI c9)), (3, .int (zI lv9))]) hx hb dX10_piecesAt_107 hl (by decide) rfl (fun ls hl => ?_)
          refine lv_iload hx hb dX10_piecesAt_109 (lv_at hl 0 rfl) ?_
          refine lv_iconst (v := zI 2) hx hb dX10_piecesAt_111 rfl ?_
          refine z_idiv hx hb ⟨⟨by omega, by omega⟩, by omega, by omega⟩ dX10_piecesAt_112 ?_
          exact z_iret hC hr hlk hQ hP hD hS ⟨(((1 + 1) + 1) + 1) / 2, (by unfold S_pie; rw [pA4 hr9 hc9, ← hv16_0, ← hv42_0, ← hv70_0, ← hv95_0, c_19, c_45, c_73, c_98]; rfl), (by omega), rfl, rfl⟩ dX10_piecesAt_113

abbrev wz_X10_piecesIn : List Cond := .code yX10_piecesIn cX10_piecesIn 4 (some .int) :: W0
abbrev rm_X10_piecesIn : Room := { frames := 3, cells := 0, slots := 0, locals := 70 }
theorem hd_X10_piecesIn : yX10_piecesIn.cls = RX10 ∧ yX10_piecesIn.cls ≠ "java/lang/invoke/MethodHandle" ∧ yX10_piecesIn.cls ≠ "java/lang/invoke/VarHandle" ∧ (parseMethodDescriptor yX10_piecesIn.desc).map (fun d => d.parameters.length) = some 3 := by decide +kernel
set_option maxHeartbeats 4000000 in
set_option maxRecDepth 100000 in
theorem c_X10_piecesIn (l : Launch) (D : va_G) (τ : Nat → Nat) (β : Nat → Nat) (δ : Nat → ClassId) (ms : IA) (mb : IA) (mo : IA) (mp : BA) (mf : IA) (mn : IA) (mi : IA) (mc : IA) (mq : BA) (mr : IA) (mw : IA) (mk : Int) (ml : Int) (mt : Int) (ma : Int) (mx : Bool) (mh : Int64) (r9 : Int) (c9 : Int) (lv9 : Int) (hr9 : -2147483648 ≤ r9 ∧ r9 < 2147483648) (hc9 : -2147483648 ≤ c9 ∧ c9 < 2147483648) (hlv : -2147483648 ≤ lv9 ∧ lv9 < 2147483648) (hms : ∀ k, 0 ≤ k → k < 49 → 0 ≤ ms k ∧ ms k ≤ 99) : cM l yX10_piecesIn wz_X10_piecesIn rm_X10_piecesIn D τ (tyM δ) [.ref (β 0), .int (zI r9), .int (zI c9), .int (zI lv9)] (wM β δ ms mb mo mp mf mn mi mc mq mr mw mk ml mt ma mx mh) (zQi (fun r w => ∃ (t2 : Int), ∃ (v : Int), (t2 = S_tpie r9 c9 lv9) ∧ (t2 = 0 → v = S_pie ms r9 c9 lv9) ∧ r = zI v ∧ wM β δ ms mb mo mp mf mn mi mc mq mr mw mk ml t2 ma mx mh = w)) := by
  refine z_ofM (cc := cX10_piecesIn) (maxL := 4) (ret := (some .int)) (by decide +kernel) rfl (Nat.le_of_ble_eq_true rfl) ?_
  intro pg e s m args below meth c hC hr hlk hnm hK hP A hD hG hA hS ls hl Q hQ
  have hx := hC.1
  have hb := hC.2.1
  have hml := hC.2.2.1
  have hown := hC.2.2.2.1
  have hts := hC.2.2.2.2
  have hB : ∀ w ∈ W0, w ∈ wz_X10_piecesIn := fun _ h => List.mem_cons_of_mem _ h
  have hW0 : ∀ w ∈ W0, w.before args s = true := fun w h => hts w (hB w h)
  have hl : lv_has ls 4 [(0, .ref (β 0)), (1, .int (zI r9)), (2, .int (zI c9)), (3, .int (zI lv9))] := hl
  refine lv_aload_n hx hb dX10_piecesIn_0 rfl (lv_at hl 0 rfl) ?_
  refine lv_iconst (v := zI 0) hx hb dX10_piecesIn_1 rfl ?_
  refine va_put (D := D) (ci := 10) (v := .int (zI 0)) (ty := .int) (C := RX10) (T := TX10) (N := 17) hx hb hts (fun w h => List.mem_cons_of_mem _ (wx_X10 w h)) tyX10 tyX10_ok nmX10 hown hK hP hD hS 0 rfl rfl 7 (by decide) (hW0 _ wf_X10_44) (fun _ h9 => h9) rfl (by decide +kernel) rfl rfl (Nat.le_of_ble_eq_true rfl) dX10_piecesIn_2 (fun H locs hP hD hS => ?_)
  have hP : va_P D vwCl (wM β δ ms mb mo mp mf mn mi mc mq mr mw mk ml 0 ma mx mh) H := hP
  have hD : va_D A (wM β δ ms mb mo mp mf mn mi mc mq mr mw mk ml 0 ma mx mh) := hD
  refine lv_iload_n hx hb dX10_piecesIn_5 rfl (lv_at hl 1 rfl) ?_
  refine lv_iconst (v := zI 0) hx hb dX10_piecesIn_6 rfl ?_
  refine lv_iconst (v := zI 5) hx hb dX10_piecesIn_7 rfl ?_
  refine z_calli hP hD hS hA (va_runS (As := [.int (zI r9), .int (zI 0), .int (zI 5)]) (rest := []) hC (c_X10_in l D τ _ _ r9 0 5 (by first | assumption | rfl | omega) (by first | assumption | rfl | omega) (by first | assumption | rfl | omega) _) (va_cwS 3 hts (gS hB wl_X10_48 wt_X10_in wi_X10 wc_X10_in) rfl rfl rfl hd_X10_in.2 ⟨Nat.le_of_ble_eq_true rfl, Nat.le_of_ble_eq_true rfl⟩) (zp_S hK hP hD hS hA hG) rfl rfl hl.1 rfl (lv_room (Nat.le_of_ble_eq_true rfl)) dX10_piecesIn_8 ⟨Nat.le_of_ble_eq_true rfl, Nat.le_of_ble_eq_true rfl⟩) (fun r w1 H locs hq9 hP hD hS => ?_)
  obtain ⟨v8_1, hv8_0, rfl, rfl⟩ := hq9
  refine z_ifeqB (tgt := 23) hx hb dX10_piecesIn_11 (by decide) (fun c_11 => ?_) (fun c_11 => ?_)
  · have hb_11 := zb_neg hv8_0 c_11
    have ht : S_tpie r9 c9 lv9 = 1 := by unfold S_tpie; first | exact if_neg (fun h9 => hb_11 h9.1) | exact if_neg (fun h9 => hb_20 h9.2)
    refine lv_aload_n hx hb dX10_piecesIn_23 rfl (lv_at hl 0 rfl) ?_
    refine lv_iconst (v := zI 1) hx hb dX10_piecesIn_24 rfl ?_
    refine z_calli hP hD hS hA (va_runV (As := [.int (zI 1)]) (rest := []) hC (c_X10_throwing l D τ β δ ms mb mo mp mf mn mi mc mq mr mw mk ml 0 ma mx mh 1 _) (cwV 1 hts (gV hB wl_X10_90 wn_X10_throwing ws_X10_throwing wi_X10 wc_X10_throwing) rfl rfl rfl hd_X10_throwing ⟨Nat.le_of_ble_eq_true rfl, Nat.le_of_ble_eq_true rfl⟩) (zp_V hK hP hD hS hA hG (ci := 10) (q0 := 0) rfl rfl rfl) rfl rfl hl.1 rfl (lv_room (Nat.le_of_ble_eq_true rfl)) dX10_piecesIn_25 ⟨Nat.le_of_ble_eq_true rfl, Nat.le_of_ble_eq_true rfl⟩) (fun r w1 H locs hq9 hP hD hS => ?_)
    obtain ⟨t25_2, v25_3, hv25_0, hv25_1, rfl, rfl⟩ := hq9
    have hP : va_P D vwCl (wM β δ ms mb mo mp mf mn mi mc mq mr mw mk ml t25_2 ma mx mh) H := hP
    have hD : va_D A (wM β δ ms mb mo mp mf mn mi mc mq mr mw mk ml t25_2 ma mx mh) := hD
    exact z_iret hC hr hlk hQ hP hD hS ⟨t25_2, v25_3, (by first | exact hv25_1.trans ht.symm | exact hv51_1.trans ht.symm | exact ht.symm), (by first | exact fun _ => hv43_0 | (intro h9; exfalso; omega)), rfl, rfl⟩ dX10_piecesIn_28
  · have hb_11 := hv8_0.mp c_11
    refine lv_iload_n hx hb dX10_piecesIn_14 rfl (lv_at hl 2 rfl) ?_
    refine lv_iconst (v := zI 0) hx hb dX10_piecesIn_15 rfl ?_
    refine lv_iconst (v := zI 5) hx hb dX10_piecesIn_16 rfl ?_
    refine z_calli hP hD hS hA (va_runS (As := [.int (zI c9), .int (zI 0), .int (zI 5)]) (rest := []) hC (c_X10_in l D τ _ _ c9 0 5 (by first | assumption | rfl | omega) (by first | assumption | rfl | omega) (by first | assumption | rfl | omega) _) (va_cwS 3 hts (gS hB wl_X10_48 wt_X10_in wi_X10 wc_X10_in) rfl rfl rfl hd_X10_in.2 ⟨Nat.le_of_ble_eq_true rfl, Nat.le_of_ble_eq_true rfl⟩) (zp_S hK hP hD hS hA hG) rfl rfl hl.1 rfl (lv_room (Nat.le_of_ble_eq_true rfl)) dX10_piecesIn_17 ⟨Nat.le_of_ble_eq_true rfl, Nat.le_of_ble_eq_true rfl⟩) (fun r w1 H locs hq9 hP hD hS => ?_)
    obtain ⟨v17_4, hv17_0, rfl, rfl⟩ := hq9
    refine z_ifneB (tgt := 29) hx hb dX10_piecesIn_20 (by decide) (fun c_20 => ?_) (fun c_20 => ?_)
    · have hb_20 := hv17_0.mp c_20
      refine lv_iload_n hx hb dX10_piecesIn_29 rfl (lv_at hl 3 rfl) ?_
      refine lv_iconst (v := zI 0) hx hb dX10_piecesIn_30 rfl ?_
      refine lv_bipush (v := zI 98) hx hb dX10_piecesIn_31 (zI_b8 (by decide)) ?_
      refine z_calli hP hD hS hA (va_runS (As := [.int (zI lv9), .int (zI 0), .int (zI 98)]) (rest := []) hC (c_X10_in l D τ _ _ lv9 0 98 (by first | assumption | rfl | omega) (by first | assumption | rfl | omega) (by first | assumption | rfl | omega) _) (va_cwS 3 hts (gS hB wl_X10_48 wt_X10_in wi_X10 wc_X10_in) rfl rfl rfl hd_X10_in.2 ⟨Nat.le_of_ble_eq_true rfl, Nat.le_of_ble_eq_true rfl⟩) (zp_S hK hP hD hS hA hG) rfl rfl hl.1 rfl (lv_room (Nat.le_of_ble_eq_true rfl)) dX10_piecesIn_33 ⟨Nat.le_of_ble_eq_true rfl, Nat.le_of_ble_eq_true rfl⟩) (fun r w1 H locs hq9 hP hD hS => ?_)
      obtain ⟨v33_5, hv33_0, rfl, rfl⟩ := hq9
      refine z_ifeqB (tgt := 49) hx hb dX10_piecesIn_36 (by decide) (fun c_36 => ?_) (fun c_36 => ?_)
      · have hb_36 := zb_neg hv33_0 c_36
        have ht : S_tpie r9 c9 lv9 = 2 := by unfold S_tpie; rw [if_pos ⟨hb_11, hb_20⟩, if_neg hb_36]
        refine lv_aload_n hx hb dX10_piecesIn_49 rfl (lv_at hl 0 rfl) ?_
        refine lv_iconst (v := zI 2) hx hb dX10_piecesIn_50 rfl ?_
        refine z_calli hP hD hS hA (va_runV (As := [.int (zI 2)]) (rest := []) hC (c_X10_throwing l D τ β δ ms mb mo mp mf mn mi mc mq mr mw mk ml 0 ma mx mh 2 _) (cwV 1 hts (gV hB wl_X10_90 wn_X10_throwing ws_X10_throwing wi_X10 wc_X10_throwing) rfl rfl rfl hd_X10_throwing ⟨Nat.le_of_ble_eq_true rfl, Nat.le_of_ble_eq_true rfl⟩) (zp_V hK hP hD hS hA hG (ci := 10) (q0 := 0) rfl rfl rfl) rfl rfl hl.1 rfl (lv_room (Nat.le_of_ble_eq_true rfl)) dX10_piecesIn_51 ⟨Nat.le_of_ble_eq_true rfl, Nat.le_of_ble_eq_true rfl⟩) (fun r w1 H locs hq9 hP hD hS => ?_)
        obtain ⟨t51_6, v51_7, hv51_0, hv51_1, rfl, rfl⟩ := hq9
        have hP : va_P D vwCl (wM β δ ms mb mo mp mf mn mi mc mq mr mw mk ml t51_6 ma mx mh) H := hP
        have hD : va_D A (wM β δ ms mb mo mp mf mn mi mc mq mr mw mk ml t51_6 ma mx mh) := hD
        exact z_iret hC hr hlk hQ hP hD hS ⟨t51_6, v51_7, (by first | exact hv25_1.trans ht.symm | exact hv51_1.trans ht.symm | exact ht.symm), (by first | exact fun _ => hv43_0 | (intro h9; exfalso; omega)), rfl, rfl⟩ dX10_piecesIn_54
      · have hb_36 := hv33_0.mp c_36
        have ht : S_tpie r9 c9 lv9 = 0 := by unfold S_tpie; rw [if_pos ⟨hb_11, hb_20⟩, if_pos hb_36]
        refine lv_aload_n hx hb dX10_piecesIn_39 rfl (lv_at hl 0 rfl) ?_
        refine lv_iload_n hx hb dX10_piecesIn_40 rfl (lv_at hl 1 rfl) ?_
        refine lv_iload_n hx hb dX10_piecesIn_41 rfl (lv_at hl 2 rfl) ?_
        refine lv_iload_n hx hb dX10_piecesIn_42 rfl (lv_at hl 3 rfl) ?_
        refine z_calli hP hD hS hA (va_runV (As := [.int (zI r9), .int (zI c9), .int (zI lv9)]) (rest := []) hC (c_X10_piecesAt l D τ β δ ms mb mo mp mf mn mi mc mq mr mw mk ml 0 ma mx mh r9 c9 lv9 (by first | assumption | rfl | omega) (by first | assumption | rfl | omega) (by first | assumption | rfl | omega) (by first | assumption | rfl | omega) _) (cwV 3 hts (gV hB wl_X10_151 wn_X10_piecesAt ws_X10_piecesAt wi_X10 wc_X10_piecesAt) rfl rfl rfl hd_X10_piecesAt ⟨Nat.le_of_ble_eq_true rfl, Nat.le_of_ble_eq_true rfl⟩) (zp_V hK hP hD hS hA hG (ci := 10) (q0 := 0) rfl rfl rfl) rfl rfl hl.1 rfl (lv_room (Nat.le_of_ble_eq_true rfl)) dX10_piecesIn_43 ⟨Nat.le_of_ble_eq_true rfl, Nat.le_of_ble_eq_true rfl⟩) (fun r w1 H locs hq9 hP hD hS => ?_)
        obtain ⟨v43_8, hv43_0, hv43_1, rfl, rfl⟩ := hq9
        have hP : va_P D vwCl (wM β δ ms mb mo mp mf mn mi mc mq mr mw mk ml 0 ma mx mh) H := hP
        have hD : va_D A (wM β δ ms mb mo mp mf mn mi mc mq mr mw mk ml 0 ma mx mh) := hD
        refine lv_goto (tgt := 54) hx hb dX10_piecesIn_46 (by decide) ?_
        exact z_iret hC hr hlk hQ hP hD hS ⟨0, v43_8, (by first | exact hv25_1.trans ht.symm | exact hv51_1.trans ht.symm | exact ht.symm), (by first | exact fun _ => hv43_0 | (intro h9; exfalso; omega)), rfl, rfl⟩ dX10_piecesIn_54
    · have hb_20 := zb_neg hv17_0 c_20
      have ht : S_tpie r9 c9 lv9 = 1 := by unfold S_tpie; first | exact if_neg (fun h9 => hb_11 h9.1) | exact if_neg (fun h9 => hb_20 h9.2)
      refine lv_aload_n hx hb dX10_piecesIn_23 rfl (lv_at hl 0 rfl) ?_
      refine lv_iconst (v := zI 1) hx hb dX10_piecesIn_24 rfl ?_
      refine z_calli hP hD hS hA (va_runV (As := [.int (zI 1)]) (rest := []) hC (c_X10_throwing l D τ β δ ms mb mo mp mf mn mi mc mq mr mw mk ml 0 ma mx mh 1 _) (cwV 1 hts (gV hB wl_X10_90 wn_X10_throwing ws_X10_throwing wi_X10 wc_X10_throwing) rfl rfl rfl hd_X10_throwing ⟨Nat.le_of_ble_eq_true rfl, Nat.le_of_ble_eq_true rfl⟩) (zp_V hK hP hD hS hA hG (ci := 10) (q0 := 0) rfl rfl rfl) rfl rfl hl.1 rfl (lv_room (Nat.le_of_ble_eq_true rfl)) dX10_piecesIn_25 ⟨Nat.le_of_ble_eq_true rfl, Nat.le_of_ble_eq_true rfl⟩) (fun r w1 H locs hq9 hP hD hS => ?_)
      obtain ⟨t25_9, v25_10, hv25_0, hv25_1, rfl, rfl⟩ := hq9
      have hP : va_P D vwCl (wM β δ ms mb mo mp mf mn mi mc mq mr mw mk ml t25_9 ma mx mh) H := hP
      have hD : va_D A (wM β δ ms mb mo mp mf mn mi mc mq mr mw mk ml t25_9 ma mx mh) := hD
      exact z_iret hC hr hlk hQ hP hD hS ⟨t25_9, v25_10, (by first | exact hv25_1.trans ht.symm | exact hv51_1.trans ht.symm | exact ht.symm), (by first | exact fun _ => hv43_0 | (intro h9; exfalso; omega)), rfl, rfl⟩ dX10_piecesIn_28

