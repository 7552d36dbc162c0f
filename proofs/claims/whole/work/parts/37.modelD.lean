abbrev wz_X10_steps : List Cond := .code yX10_steps cX10_steps 5 (some .int) :: W0
abbrev rm_X10_steps : Room := { frames := 4, cells := 0, slots := 0, locals := 91 }
theorem hd_X10_steps : yX10_steps.cls = RX10 ∧ yX10_steps.cls ≠ "java/lang/invoke/MethodHandle" ∧ yX10_steps.cls ≠ "java/lang/invoke/VarHandle" ∧ (parseMethodDescriptor yX10_steps.desc).map (fun d => d.parameters.length) = some 1 := by decide +kernel
set_option maxHeartbeats 4000000 in
set_option maxRecDepth 100000 in
theorem c_X10_steps (l : Launch) (D : va_G) (τ : Nat → Nat) (β : Nat → Nat) (δ : Nat → ClassId) (ms : IA) (mb : IA) (mo : IA) (mp : BA) (mf : IA) (mn : IA) (mi : IA) (mc : IA) (mq : BA) (mr : IA) (mw : IA) (mk : Int) (ml : Int) (mt : Int) (ma : Int) (mx : Bool) (mh : Int64) (p : Int) (hp : 0 ≤ p ∧ p < 49) (hms : ∀ k, 0 ≤ k → k < 49 → 0 ≤ ms k ∧ ms k ≤ 99) : cM l yX10_steps wz_X10_steps rm_X10_steps D τ (tyM δ) [.ref (β 0), .int (zI p)] (wM β δ ms mb mo mp mf mn mi mc mq mr mw mk ml mt ma mx mh) (zQi (fun r w => ∃ (v : Int), (v = S_steps ms p) ∧ (0 ≤ v ∧ v ≤ 49) ∧ r = zI v ∧ wM β δ ms mb mo mp mf mn mi mc mq mr mw mk ml mt ma mx mh = w)) := by
  refine z_ofM (cc := cX10_steps) (maxL := 5) (ret := (some .int)) (by decide +kernel) rfl (Nat.le_of_ble_eq_true rfl) ?_
  intro pg e s m args below meth c hC hr hlk hnm hK hP A hD hG hA hS ls hl Q hQ
  have hx := hC.1
  have hb := hC.2.1
  have hml := hC.2.2.1
  have hown := hC.2.2.2.1
  have hts := hC.2.2.2.2
  have hB : ∀ w ∈ W0, w ∈ wz_X10_steps := fun _ h => List.mem_cons_of_mem _ h
  have hW0 : ∀ w ∈ W0, w.before args s = true := fun w h => hts w (hB w h)
  have hl : lv_has ls 5 [(0, .ref (β 0)), (1, .int (zI p))] := hl
  refine lv_iconst (v := zI 0) hx hb dX10_steps_0 rfl ?_
  refine lv_istore_n (lv' := [(2, .int (zI 0)), (0, .ref (β 0)), (1, .int (zI p))]) hx hb dX10_steps_1 rfl hl (by decide) rfl (fun ls hl => ?_)
  refine lv_iload_n hx hb dX10_steps_2 rfl (lv_at hl 2 rfl) ?_
  refine lv_istore_n (lv' := [(3, .int (zI p)), (2, .int (zI 0)), (0, .ref (β 0)), (1, .int (zI p))]) hx hb dX10_steps_3 rfl hl (by decide) rfl (fun ls hl => ?_)
  refine lv_aload_n hx hb dX10_steps_4 rfl (lv_at hl 2 rfl) ?_
  refine lv_iload_n hx hb dX10_steps_5 rfl (lv_at hl 0 rfl) ?_
  refine z_calli hP hD hS hA (va_runV (As := [.int (zI p)]) (rest := []) hC (c_X10_drain l D τ β δ ms mb mo mp mf mn mi mc mq mr mw mk ml mt ma mx mh p (by first | assumption | rfl | omega) (by first | assumption | rfl | omega) _) (cwV 1 hts (gV hB wl_X10_74 wn_X10_drain ws_X10_drain wi_X10 wc_X10_drain) rfl rfl rfl hd_X10_drain ⟨Nat.le_of_ble_eq_true rfl, Nat.le_of_ble_eq_true rfl⟩) (zp_V hK hP hD hS hA hG (ci := 10) (q0 := 0) rfl rfl rfl) rfl rfl hl.1 rfl (lv_room (Nat.le_of_ble_eq_true rfl)) dX10_steps_6 ⟨Nat.le_of_ble_eq_true rfl, Nat.le_of_ble_eq_true rfl⟩) (fun r w1 H locs hq9 hP hD hS => ?_)
  obtain ⟨v6_1, hv6_0, hv6_1, rfl, rfl⟩ := hq9
  have hP : va_P D vwCl (wM β δ ms mb mo mp mf mn mi mc mq mr mw mk ml mt ma mx mh) H := hP
  have hD : va_D A (wM β δ ms mb mo mp mf mn mi mc mq mr mw mk ml mt ma mx mh) := hD
  refine lv_istore (lv' := [(4, .int (zI v6_1)), (3, .int (zI p)), (2, .int (zI 0)), (0, .ref (β 0)), (1, .int (zI p))]) hx hb dX10_steps_9 hl (by decide) rfl (fun ls hl => ?_)
  suffices HL_11 : ∀ (n_11 : Nat), ∀ (n : Int) (q : Int) (x : Int) (H : Heap) (locs : List Loc) (hP : va_P D vwCl (wM β δ ms mb mo mp mf mn mi mc mq mr mw mk ml mt ma mx mh) H) (hD : va_D A (wM β δ ms mb mo mp mf mn mi mc mq mr mw mk ml mt ma mx mh)) (hS : va_S A s.heap H locs) (ls : Array Slot) (hl : lv_has ls 5 [(2, .int (zI n)), (3, .int (zI q)), (4, .int (zI x)), (0, .ref (β 0)), (1, .int (zI p))]) (hq : 0 ≤ q ∧ q < 49) (hx9 : x = S_next ms q) (hsk : n + S_steps ms q = S_steps ms p) (hn : 0 ≤ n) (hm : (ms q).toNat < n_11), W pg l e rm_X10_steps s m args below meth c H locs 0 0 Q (F0 m 11 ls []) from HL_11 _ 0 p v6_1 _ _ hP hD hS _ (lv_sub hl [2, 1, 0, 3, 4] rfl) (by exact hp) (by exact hv6_0) (by rw [Int.zero_add]) (by first | assumption | rfl | omega) (Nat.lt_succ_self _)
  intro n_11
  induction n_11 with
  | zero => intro n q x H locs hP hD hS ls hl hq hx9 hsk hn hm; exact absurd hm (Nat.not_lt_zero _)
  | succ n_11 ih_11 =>
    intro n q x H locs hP hD hS ls hl hq hx9 hsk hn hm
    have hxb := S_next_b (h := ms) hq
    rw [← hx9] at hxb
    refine lv_iload hx hb dX10_steps_11 (lv_at hl 2 rfl) ?_
    refine lv_iconst (v := zI (-1)) hx hb dX10_steps_13 rfl ?_
    refine z_iceq (tgt := 33) hx hb ⟨by omega, by omega⟩ ⟨by omega, by omega⟩ dX10_steps_14 (by decide) (fun c_14 => ?_) (fun c_14 => ?_)
    · refine lv_iload_n hx hb dX10_steps_33 rfl (lv_at hl 0 rfl) ?_
      exact z_iret hC hr hlk hQ hP hD hS ⟨n, (by rw [← hsk, (S_sink_s (hx9.symm.trans c_14)).2]; omega), (by have z7 := (S_sink_s (h := ms) (x := q) (hx9.symm.trans c_14)).2; have z8 := S_stepsN_b (h := ms) 49 p; have z9 : S_stepsN ms 49 p = S_steps ms p := rfl; omega), rfl, rfl⟩ dX10_steps_34
    · have hne : S_next ms q ≠ -1 := by rw [← hx9]; exact c_14
      have hok : (0 ≤ x ∧ x < 49) ∧ ms x < ms q := by rw [hx9]; exact ⟨(S_next_ok hq hne).1, (S_next_ok hq hne).2.1⟩
      have hm9 := hms q hq.1 hq.2
      refine lv_iload hx hb dX10_steps_17 (lv_at hl 2 rfl) ?_
      refine lv_istore_n (lv' := [(3, .int (zI x)), (2, .int (zI n)), (4, .int (zI x)), (0, .ref (β 0)), (1, .int (zI p))]) hx hb dX10_steps_19 rfl hl (by decide) rfl (fun ls hl => ?_)
      refine lv_aload_n hx hb dX10_steps_20 rfl (lv_at hl 3 rfl) ?_
      refine lv_iload_n hx hb dX10_steps_21 rfl (lv_at hl 0 rfl) ?_
      refine z_calli hP hD hS hA (va_runV (As := [.int (zI x)]) (rest := []) hC (c_X10_drain l D τ β δ ms mb mo mp mf mn mi mc mq mr mw mk ml mt ma mx mh x (by exact hok.1) (by first | assumption | rfl | omega) _) (cwV 1 hts (gV hB wl_X10_74 wn_X10_drain ws_X10_drain wi_X10 wc_X10_drain) rfl rfl rfl hd_X10_drain ⟨Nat.le_of_ble_eq_true rfl, Nat.le_of_ble_eq_true rfl⟩) (zp_V hK hP hD hS hA hG (ci := 10) (q0 := 0) rfl rfl rfl) rfl rfl hl.1 rfl (lv_room (Nat.le_of_ble_eq_true rfl)) dX10_steps_22 ⟨Nat.le_of_ble_eq_true rfl, Nat.le_of_ble_eq_true rfl⟩) (fun r w1 H locs hq9 hP hD hS => ?_)
      obtain ⟨v22_2, hv22_0, hv22_1, rfl, rfl⟩ := hq9
      have hP : va_P D vwCl (wM β δ ms mb mo mp mf mn mi mc mq mr mw mk ml mt ma mx mh) H := hP
      have hD : va_D A (wM β δ ms mb mo mp mf mn mi mc mq mr mw mk ml mt ma mx mh) := hD
      refine lv_istore (lv' := [(4, .int (zI v22_2)), (3, .int (zI x)), (2, .int (zI n)), (0, .ref (β 0)), (1, .int (zI p))]) hx hb dX10_steps_25 hl (by decide) rfl (fun ls hl => ?_)
      refine z_iinc (k := 2) (v := n + 1) (lv' := [(2, .int (zI (n + 1))), (4, .int (zI v22_2)), (3, .int (zI x)), (0, .ref (β 0)), (1, .int (zI p))]) hx hb dX10_steps_27 hl rfl rfl (by decide) rfl (fun ls hl => ?_)
      refine lv_goto (tgt := 11) hx hb dX10_steps_30 (by decide) ?_
      exact ih_11 (n + 1) x v22_2 _ _ hP hD hS _ (lv_sub hl [0, 2, 1, 3, 4] rfl) (by exact hok.1) (by exact hv22_0) (by have z9 := (S_sink_un hq hne).2; rw [← hx9] at z9; omega) (by first | assumption | rfl | omega) (by have z8 := hok.2; have z9 := hms x hok.1.1 hok.1.2; omega)

abbrev wz_X10_sink : List Cond := .code yX10_sink cX10_sink 4 (some .int) :: W0
abbrev rm_X10_sink : Room := { frames := 4, cells := 0, slots := 0, locals := 91 }
theorem hd_X10_sink : yX10_sink.cls = RX10 ∧ yX10_sink.cls ≠ "java/lang/invoke/MethodHandle" ∧ yX10_sink.cls ≠ "java/lang/invoke/VarHandle" ∧ (parseMethodDescriptor yX10_sink.desc).map (fun d => d.parameters.length) = some 1 := by decide +kernel
set_option maxHeartbeats 4000000 in
set_option maxRecDepth 100000 in
theorem c_X10_sink (l : Launch) (D : va_G) (τ : Nat → Nat) (β : Nat → Nat) (δ : Nat → ClassId) (ms : IA) (mb : IA) (mo : IA) (mp : BA) (mf : IA) (mn : IA) (mi : IA) (mc : IA) (mq : BA) (mr : IA) (mw : IA) (mk : Int) (ml : Int) (mt : Int) (ma : Int) (mx : Bool) (mh : Int64) (p : Int) (hp : 0 ≤ p ∧ p < 49) (hms : ∀ k, 0 ≤ k → k < 49 → 0 ≤ ms k ∧ ms k ≤ 99) : cM l yX10_sink wz_X10_sink rm_X10_sink D τ (tyM δ) [.ref (β 0), .int (zI p)] (wM β δ ms mb mo mp mf mn mi mc mq mr mw mk ml mt ma mx mh) (zQi (fun r w => ∃ (v : Int), (v = S_sink ms p) ∧ (0 ≤ v ∧ v < 49) ∧ r = zI v ∧ wM β δ ms mb mo mp mf mn mi mc mq mr mw mk ml mt ma mx mh = w)) := by
  refine z_ofM (cc := cX10_sink) (maxL := 4) (ret := (some .int)) (by decide +kernel) rfl (Nat.le_of_ble_eq_true rfl) ?_
  intro pg e s m args below meth c hC hr hlk hnm hK hP A hD hG hA hS ls hl Q hQ
  have hx := hC.1
  have hb := hC.2.1
  have hml := hC.2.2.1
  have hown := hC.2.2.2.1
  have hts := hC.2.2.2.2
  have hB : ∀ w ∈ W0, w ∈ wz_X10_sink := fun _ h => List.mem_cons_of_mem _ h
  have hW0 : ∀ w ∈ W0, w.before args s = true := fun w h => hts w (hB w h)
  have hl : lv_has ls 4 [(0, .ref (β 0)), (1, .int (zI p))] := hl
  refine lv_iload_n hx hb dX10_sink_0 rfl (lv_at hl 1 rfl) ?_
  refine lv_istore_n (lv' := [(2, .int (zI p)), (0, .ref (β 0)), (1, .int (zI p))]) hx hb dX10_sink_1 rfl hl (by decide) rfl (fun ls hl => ?_)
  refine lv_aload_n hx hb dX10_sink_2 rfl (lv_at hl 1 rfl) ?_
  refine lv_iload_n hx hb dX10_sink_3 rfl (lv_at hl 0 rfl) ?_
  refine z_calli hP hD hS hA (va_runV (As := [.int (zI p)]) (rest := []) hC (c_X10_drain l D τ β δ ms mb mo mp mf mn mi mc mq mr mw mk ml mt ma mx mh p (by first | assumption | rfl | omega) (by first | assumption | rfl | omega) _) (cwV 1 hts (gV hB wl_X10_74 wn_X10_drain ws_X10_drain wi_X10 wc_X10_drain) rfl rfl rfl hd_X10_drain ⟨Nat.le_of_ble_eq_true rfl, Nat.le_of_ble_eq_true rfl⟩) (zp_V hK hP hD hS hA hG (ci := 10) (q0 := 0) rfl rfl rfl) rfl rfl hl.1 rfl (lv_room (Nat.le_of_ble_eq_true rfl)) dX10_sink_4 ⟨Nat.le_of_ble_eq_true rfl, Nat.le_of_ble_eq_true rfl⟩) (fun r w1 H locs hq9 hP hD hS => ?_)
  obtain ⟨v4_1, hv4_0, hv4_1, rfl, rfl⟩ := hq9
  have hP : va_P D vwCl (wM β δ ms mb mo mp mf mn mi mc mq mr mw mk ml mt ma mx mh) H := hP
  have hD : va_D A (wM β δ ms mb mo mp mf mn mi mc mq mr mw mk ml mt ma mx mh) := hD
  refine lv_istore_n (lv' := [(3, .int (zI v4_1)), (2, .int (zI p)), (0, .ref (β 0)), (1, .int (zI p))]) hx hb dX10_sink_7 rfl hl (by decide) rfl (fun ls hl => ?_)
  suffices HL_8 : ∀ (n_8 : Nat), ∀ (q : Int) (x : Int) (H : Heap) (locs : List Loc) (hP : va_P D vwCl (wM β δ ms mb mo mp mf mn mi mc mq mr mw mk ml mt ma mx mh) H) (hD : va_D A (wM β δ ms mb mo mp mf mn mi mc mq mr mw mk ml mt ma mx mh)) (hS : va_S A s.heap H locs) (ls : Array Slot) (hl : lv_has ls 4 [(2, .int (zI q)), (3, .int (zI x)), (0, .ref (β 0)), (1, .int (zI p))]) (hq : 0 ≤ q ∧ q < 49) (hx9 : x = S_next ms q) (hsk : S_sink ms q = S_sink ms p) (hm : (ms q).toNat < n_8), W pg l e rm_X10_sink s m args below meth c H locs 0 0 Q (F0 m 8 ls []) from HL_8 _ p v4_1 _ _ hP hD hS _ (lv_sub hl [1, 0, 2, 3] rfl) (by exact hp) (by exact hv4_0) (by rfl) (Nat.lt_succ_self _)
  intro n_8
  induction n_8 with
  | zero => intro q x H locs hP hD hS ls hl hq hx9 hsk hm; exact absurd hm (Nat.not_lt_zero _)
  | succ n_8 ih_8 =>
    intro q x H locs hP hD hS ls hl hq hx9 hsk hm
    have hxb := S_next_b (h := ms) hq
    rw [← hx9] at hxb
    refine lv_iload_n hx hb dX10_sink_8 rfl (lv_at hl 1 rfl) ?_
    refine lv_iconst (v := zI (-1)) hx hb dX10_sink_9 rfl ?_
    refine z_iceq (tgt := 24) hx hb ⟨by omega, by omega⟩ ⟨by omega, by omega⟩ dX10_sink_10 (by decide) (fun c_10 => ?_) (fun c_10 => ?_)
    · refine lv_iload_n hx hb dX10_sink_24 rfl (lv_at hl 0 rfl) ?_
      exact z_iret hC hr hlk hQ hP hD hS ⟨q, (by rw [← hsk, (S_sink_s (hx9.symm.trans c_10)).1]), (by exact hq), rfl, rfl⟩ dX10_sink_25
    · have hne : S_next ms q ≠ -1 := by rw [← hx9]; exact c_10
      have hok : (0 ≤ x ∧ x < 49) ∧ ms x < ms q := by rw [hx9]; exact ⟨(S_next_ok hq hne).1, (S_next_ok hq hne).2.1⟩
      have hm9 := hms q hq.1 hq.2
      refine lv_iload_n hx hb dX10_sink_13 rfl (lv_at hl 1 rfl) ?_
      refine lv_istore_n (lv' := [(2, .int (zI x)), (3, .int (zI x)), (0, .ref (β 0)), (1, .int (zI p))]) hx hb dX10_sink_14 rfl hl (by decide) rfl (fun ls hl => ?_)
      refine lv_aload_n hx hb dX10_sink_15 rfl (lv_at hl 2 rfl) ?_
      refine lv_iload_n hx hb dX10_sink_16 rfl (lv_at hl 0 rfl) ?_
      refine z_calli hP hD hS hA (va_runV (As := [.int (zI x)]) (rest := []) hC (c_X10_drain l D τ β δ ms mb mo mp mf mn mi mc mq mr mw mk ml mt ma mx mh x (by exact hok.1) (by first | assumption | rfl | omega) _) (cwV 1 hts (gV hB wl_X10_74 wn_X10_drain ws_X10_drain wi_X10 wc_X10_drain) rfl rfl rfl hd_X10_drain ⟨Nat.le_of_ble_eq_true rfl, Nat.le_of_ble_eq_true rfl⟩) (zp_V hK hP hD hS hA hG (ci := 10) (q0 := 0) rfl rfl rfl) rfl rfl hl.1 rfl (lv_room (Nat.le_of_ble_eq_true rfl)) dX10_sink_17 ⟨Nat.le_of_ble_eq_true rfl, Nat.le_of_ble_eq_true rfl⟩) (fun r w1 H locs hq9 hP hD hS => ?_)
      obtain ⟨v17_2, hv17_0, hv17_1, rfl, rfl⟩ := hq9
      have hP : va_P D vwCl (wM β δ ms mb mo mp mf mn mi mc mq mr mw mk ml mt ma mx mh) H := hP
      have hD : va_D A (wM β δ ms mb mo mp mf mn mi mc mq mr mw mk ml mt ma mx mh) := hD
      refine lv_istore_n (lv' := [(3, .int (zI v17_2)), (2, .int (zI x)), (0, .ref (β 0)), (1, .int (zI p))]) hx hb dX10_sink_20 rfl hl (by decide) rfl (fun ls hl => ?_)
      refine lv_goto (tgt := 8) hx hb dX10_sink_21 (by decide) ?_
      exact ih_8 x v17_2 _ _ hP hD hS _ (lv_sub hl [1, 0, 2, 3] rfl) (by exact hok.1) (by exact hv17_0) (by have z9 := (S_sink_un hq hne).1; rw [← hx9] at z9; rw [← z9]; exact hsk) (by have z8 := hok.2; have z9 := hms x hok.1.1 hok.1.2; omega)

abbrev wz_X10_flow : List Cond := .code yX10_flow cX10_flow 5 (some .int) :: W0
abbrev rm_X10_flow : Room := { frames := 4, cells := 0, slots := 0, locals := 91 }
theorem hd_X10_flow : yX10_flow.cls = RX10 ∧ yX10_flow.cls ≠ "java/lang/invoke/MethodHandle" ∧ yX10_flow.cls ≠ "java/lang/invoke/VarHandle" ∧ (parseMethodDescriptor yX10_flow.desc).map (fun d => d.parameters.length) = some 1 := by decide +kernel
set_option maxHeartbeats 4000000 in
set_option maxRecDepth 100000 in
theorem c_X10_flow (l : Launch) (D : va_G) (τ : Nat → Nat) (β : Nat → Nat) (δ : Nat → ClassId) (ms : IA) (mb : IA) (mo : IA) (mp : BA) (mf : IA) (mn : IA) (mi : IA) (mc : IA) (mq : BA) (mr : IA) (mw : IA) (mk : Int) (ml : Int) (mt : Int) (ma : Int) (mx : Bool) (mh : Int64) (p : Int) (hp : 0 ≤ p ∧ p < 49) (hms : ∀ k, 0 ≤ k → k < 49 → 0 ≤ ms k ∧ ms k ≤ 99) : cM l yX10_flow wz_X10_flow rm_X10_flow D τ (tyM δ) [.ref (β 0), .int (zI p)] (wM β δ ms mb mo mp mf mn mi mc mq mr mw mk ml mt ma mx mh) (zQi (fun r w => ∃ (v : Int), (v = S_flow ms p) ∧ (0 ≤ v ∧ v ≤ 49) ∧ r = zI v ∧ wM β δ ms mb mo mp mf mn mi mc mq mr mw mk ml mt ma mx mh = w)) := by
  refine z_ofM (cc := cX10_flow) (maxL := 5) (ret := (some .int)) (by decide +kernel) rfl (Nat.le_of_ble_eq_true rfl) ?_
  intro pg e s m args below meth c hC hr hlk hnm hK hP A hD hG hA hS ls hl Q hQ
  have hx := hC.1
  have hb := hC.2.1
  have hml := hC.2.2.1
  have hown := hC.2.2.2.1
  have hts := hC.2.2.2.2
  have hB : ∀ w ∈ W0, w ∈ wz_X10_flow := fun _ h => List.mem_cons_of_mem _ h
  have hW0 : ∀ w ∈ W0, w.before args s = true := fun w h => hts w (hB w h)
  have hl : lv_has ls 5 [(0, .ref (β 0)), (1, .int (zI p))] := hl
  refine lv_iconst (v := zI 0) hx hb dX10_flow_0 rfl ?_
  refine lv_istore_n (lv' := [(2, .int (zI 0)), (0, .ref (β 0)), (1, .int (zI p))]) hx hb dX10_flow_1 rfl hl (by decide) rfl (fun ls hl => ?_)
  refine lv_iconst (v := zI 0) hx hb dX10_flow_2 rfl ?_
  refine lv_istore_n (lv' := [(3, .int (zI 0)), (2, .int (zI 0)), (0, .ref (β 0)), (1, .int (zI p))]) hx hb dX10_flow_3 rfl hl (by decide) rfl (fun ls hl => ?_)
  suffices HL_4 : ∀ (n_4 : Nat), ∀ (g : Int) (i : Int) (H : Heap) (locs : List Loc) (hP : va_P D vwCl (wM β δ ms mb mo mp mf mn mi mc mq mr mw mk ml mt ma mx mh) H) (hD : va_D A (wM β δ ms mb mo mp mf mn mi mc mq mr mw mk ml mt ma mx mh)) (hS : va_S A s.heap H locs) (ls : Array Slot) (hl : lv_has ls 5 [(2, .int (zI g)), (3, .int (zI i)), (0, .ref (β 0)), (1, .int (zI p))]) (hi : 0 ≤ i ∧ i ≤ 49) (hg : g = zC (fun k => cb (Cn (S_dr ms) k p)) i) (hgb : 0 ≤ g ∧ g ≤ i) (hm : (49 - i).toNat < n_4), W pg l e rm_X10_flow s m args below meth c H locs 0 0 Q (F0 m 4 ls []) from HL_4 _ 0 0 _ _ hP hD hS _ (lv_sub hl [1, 0, 2, 3] rfl) (by first | assumption | rfl | omega) (by exact (zC_0 _).symm) (by first | assumption | rfl | omega) (Nat.lt_succ_self _)
  intro n_4
  induction n_4 with
  | zero => intro g i H locs hP hD hS ls hl hi hg hgb hm; exact absurd hm (Nat.not_lt_zero _)
  | succ n_4 ih_4 =>
    intro g i H locs hP hD hS ls hl hi hg hgb hm
    refine lv_iload_n hx hb dX10_flow_4 rfl (lv_at hl 1 rfl) ?_
    refine lv_bipush (v := zI 49) hx hb dX10_flow_5 (zI_b8 (by decide)) ?_
    refine z_icge (tgt := 56) hx hb ⟨by omega, by omega⟩ ⟨by omega, by omega⟩ dX10_flow_7 (by decide) (fun c_7 => ?_) (fun c_7 => ?_)
    · refine lv_iload_n hx hb dX10_flow_56 rfl (lv_at hl 0 rfl) ?_
      exact z_iret hC hr hlk hQ hP hD hS ⟨g, (by rw [hg, show i = 49 by omega]; rfl), (by omega), rfl, rfl⟩ dX10_flow_57
    · refine lv_iload_n hx hb dX10_flow_10 rfl (lv_at hl 1 rfl) ?_
      refine lv_istore (lv' := [(4, .int (zI i)), (2, .int (zI g)), (3, .int (zI i)), (0, .ref (β 0)), (1, .int (zI p))]) hx hb dX10_flow_11 hl (by decide) rfl (fun ls hl => ?_)
      suffices HL_13 : ∀ (n_13 : Nat), ∀ (x : Int) (H : Heap) (locs : List Loc) (hP : va_P D vwCl (wM β δ ms mb mo mp mf mn mi mc mq mr mw mk ml mt ma mx mh) H) (hD : va_D A (wM β δ ms mb mo mp mf mn mi mc mq mr mw mk ml mt ma mx mh)) (hS : va_S A s.heap H locs) (ls : Array Slot) (hl : lv_has ls 5 [(4, .int (zI x)), (2, .int (zI g)), (3, .int (zI i)), (0, .ref (β 0)), (1, .int (zI p))]) (hx9 : (x = -1 ∧ ¬ Cn (S_dr ms) i p) ∨ ((0 ≤ x ∧ x < 49) ∧ (Cn (S_dr ms) i p ↔ Cn (S_dr ms) x p))) (hm : (if x = -1 then 0 else ms x + 1).toNat < n_13), W pg l e rm_X10_flow s m args below meth c H locs 0 0 Q (F0 m 13 ls []) from HL_13 _ i _ _ hP hD hS _ (lv_sub hl [0, 1, 2, 3, 4] rfl) (by exact Or.inr ⟨by omega, Iff.rfl⟩) (Nat.lt_succ_self _)
      intro n_13
      induction n_13 with
      | zero => intro x H locs hP hD hS ls hl hx9 hm; exact absurd hm (Nat.not_lt_zero _)
      | succ n_13 ih_13 =>
        intro x H locs hP hD hS ls hl hx9 hm
        have hxb : -1 ≤ x ∧ x < 49 := by omega
        refine lv_iload hx hb dX10_flow_13 (lv_at hl 0 rfl) ?_
        refine lv_iload_n hx hb dX10_flow_15 rfl (lv_at hl 4 rfl) ?_
        refine z_iceq (tgt := 36) hx hb ⟨by omega, by omega⟩ ⟨by omega, by omega⟩ dX10_flow_16 (by decide) (fun c_16 => ?_) (fun c_16 => ?_)
        · refine lv_iload_n hx hb dX10_flow_36 rfl (lv_at hl 1 rfl) ?_
          refine lv_iload hx hb dX10_flow_37 (lv_at hl 0 rfl) ?_
          refine lv_iload_n hx hb dX10_flow_39 rfl (lv_at hl 4 rfl) ?_
          refine z_icne (tgt := 47) hx hb ⟨by omega, by omega⟩ ⟨by omega, by omega⟩ dX10_flow_40 (by decide) (fun c_40 => ?_) (fun c_40 => ?_)
          · have hno : ¬ Cn (S_dr ms) i p := by rcases hx9 with h9 | h9; (exact h9.2); (exfalso; omega)
            refine lv_iconst (v := zI 0) hx hb dX10_flow_47 rfl ?_
            refine z_iadd hx hb dX10_flow_48 ?_
            refine lv_istore_n (lv' := [(2, .int (zI (g + 0))), (4, .int (zI x)), (3, .int (zI i)), (0, .ref (β 0)), (1, .int (zI p))]) hx hb dX10_flow_49 rfl hl (by decide) rfl (fun ls hl => ?_)
            refine z_iinc (k := 2) (v := i + 1) (lv' := [(3, .int (zI (i + 1))), (2, .int (zI (g + 0))), (4, .int (zI x)), (0, .ref (β 0)), (1, .int (zI p))]) hx hb dX10_flow_50 hl rfl rfl (by decide) rfl (fun ls hl => ?_)
            refine lv_goto (tgt := 4) hx hb dX10_flow_53 (by decide) ?_
            exact ih_4 (g + 0) (i + 1) _ _ hP hD hS _ (lv_sub hl [1, 0, 3, 4] rfl) (by first | assumption | rfl | omega) (by rw [zC_up hi.1, ← hg]; first | (rw [z1_t (cb_iff.mpr hyes)]; done) | (rw [z1_f (cb_f.mpr hno)]; try omega)) (by first | assumption | rfl | omega) (by omega)
          · have hyes : Cn (S_dr ms) i p := by rcases hx9 with h9 | h9; (exact absurd h9.1 (by omega)); (refine h9.2.mpr ?_; rw [show x = p by omega]; exact Cn.rf)
            refine lv_iconst (v := zI 1) hx hb dX10_flow_43 rfl ?_
            refine lv_goto (tgt := 48) hx hb dX10_flow_44 (by decide) ?_
            refine z_iadd hx hb dX10_flow_48 ?_
            refine lv_istore_n (lv' := [(2, .int (zI (g + 1))), (4, .int (zI x)), (3, .int (zI i)), (0, .ref (β 0)), (1, .int (zI p))]) hx hb dX10_flow_49 rfl hl (by decide) rfl (fun ls hl => ?_)
            refine z_iinc (k := 2) (v := i + 1) (lv' := [(3, .int (zI (i + 1))), (2, .int (zI (g + 1))), (4, .int (zI x)), (0, .ref (β 0)), (1, .int (zI p))]) hx hb dX10_flow_50 hl rfl rfl (by decide) rfl (fun ls hl => ?_)
            refine lv_goto (tgt := 4) hx hb dX10_flow_53 (by decide) ?_
            exact ih_4 (g + 1) (i + 1) _ _ hP hD hS _ (lv_sub hl [1, 0, 3, 4] rfl) (by first | assumption | rfl | omega) (by rw [zC_up hi.1, ← hg]; first | (rw [z1_t (cb_iff.mpr hyes)]; done) | (rw [z1_f (cb_f.mpr hno)]; try omega)) (by first | assumption | rfl | omega) (by omega)
        · refine lv_iload hx hb dX10_flow_19 (lv_at hl 0 rfl) ?_
          refine lv_iconst (v := zI (-1)) hx hb dX10_flow_21 rfl ?_
          refine z_iceq (tgt := 36) hx hb ⟨by omega, by omega⟩ ⟨by omega, by omega⟩ dX10_flow_22 (by decide) (fun c_22 => ?_) (fun c_22 => ?_)
          · refine lv_iload_n hx hb dX10_flow_36 rfl (lv_at hl 1 rfl) ?_
            refine lv_iload hx hb dX10_flow_37 (lv_at hl 0 rfl) ?_
            refine lv_iload_n hx hb dX10_flow_39 rfl (lv_at hl 4 rfl) ?_
            refine z_icne (tgt := 47) hx hb ⟨by omega, by omega⟩ ⟨by omega, by omega⟩ dX10_flow_40 (by decide) (fun c_40 => ?_) (fun c_40 => ?_)
            · have hno : ¬ Cn (S_dr ms) i p := by rcases hx9 with h9 | h9; (exact h9.2); (exfalso; omega)
              refine lv_iconst (v := zI 0) hx hb dX10_flow_47 rfl ?_
              refine z_iadd hx hb dX10_flow_48 ?_
              refine lv_istore_n (lv' := [(2, .int (zI (g + 0))), (4, .int (zI x)), (3, .int (zI i)), (0, .ref (β 0)), (1, .int (zI p))]) hx hb dX10_flow_49 rfl hl (by decide) rfl (fun ls hl => ?_)
              refine z_iinc (k := 2) (v := i + 1) (lv' := [(3, .int (zI (i + 1))), (2, .int (zI (g + 0))), (4, .int (zI x)), (0, .ref (β 0)), (1, .int (zI p))]) hx hb dX10_flow_50 hl rfl rfl (by decide) rfl (fun ls hl => ?_)
              refine lv_goto (tgt := 4) hx hb dX10_flow_53 (by decide) ?_
              exact ih_4 (g + 0) (i + 1) _ _ hP hD hS _ (lv_sub hl [1, 0, 3, 4] rfl) (by first | assumption | rfl | omega) (by rw [zC_up hi.1, ← hg]; first | (rw [z1_t (cb_iff.mpr hyes)]; done) | (rw [z1_f (cb_f.mpr hno)]; try omega)) (by first | assumption | rfl | omega) (by omega)
            · have hyes : Cn (S_dr ms) i p := by rcases hx9 with h9 | h9; (exact absurd h9.1 (by omega)); (refine h9.2.mpr ?_; rw [show x = p by omega]; exact Cn.rf)
              refine lv_iconst (v := zI 1) hx hb dX10_flow_43 rfl ?_
              refine lv_goto (tgt := 48) hx hb dX10_flow_44 (by decide) ?_
              refine z_iadd hx hb dX10_flow_48 ?_
              refine lv_istore_n (lv' := [(2, .int (zI (g + 1))), (4, .int (zI x)), (3, .int (zI i)), (0, .ref (β 0)), (1, .int (zI p))]) hx hb dX10_flow_49 rfl hl (by decide) rfl (fun ls hl => ?_)
              refine z_iinc (k := 2) (v := i + 1) (lv' := [(3, .int (zI (i + 1))), (2, .int (zI (g + 1))), (4, .int (zI x)), (0, .ref (β 0)), (1, .int (zI p))]) hx hb dX10_flow_50 hl rfl rfl (by decide) rfl (fun ls hl => ?_)
              refine lv_goto (tgt := 4) hx hb dX10_flow_53 (by decide) ?_
              exact ih_4 (g + 1) (i + 1) _ _ hP hD hS _ (lv_sub hl [1, 0, 3, 4] rfl) (by first | assumption | rfl | omega) (by rw [zC_up hi.1, ← hg]; first | (rw [z1_t (cb_iff.mpr hyes)]; done) | (rw [z1_f (cb_f.mpr hno)]; try omega)) (by first | assumption | rfl | omega) (by omega)
          · have hxx := hx9.resolve_left (fun h9 => c_22 h9.1)
            have hun := S_dr_un (h := ms) hxx.1 (fun h9 => c_16 h9)
            refine lv_aload_n hx hb dX10_flow_25 rfl (lv_at hl 3 rfl) ?_
            refine lv_iload hx hb dX10_flow_26 (lv_at hl 0 rfl) ?_
            refine z_calli hP hD hS hA (va_runV (As := [.int (zI x)]) (rest := []) hC (c_X10_drain l D τ β δ ms mb mo mp mf mn mi mc mq mr mw mk ml mt ma mx mh x (by exact hxx.1) (by first | assumption | rfl | omega) _) (cwV 1 hts (gV hB wl_X10_74 wn_X10_drain ws_X10_drain wi_X10 wc_X10_drain) rfl rfl rfl hd_X10_drain ⟨Nat.le_of_ble_eq_true rfl, Nat.le_of_ble_eq_true rfl⟩) (zp_V hK hP hD hS hA hG (ci := 10) (q0 := 0) rfl rfl rfl) rfl rfl hl.1 rfl (lv_room (Nat.le_of_ble_eq_true rfl)) dX10_flow_28 ⟨Nat.le_of_ble_eq_true rfl, Nat.le_of_ble_eq_true rfl⟩) (fun r w1 H locs hq9 hP hD hS => ?_)
            obtain ⟨v28_1, hv28_0, hv28_1, rfl, rfl⟩ := hq9
            have hP : va_P D vwCl (wM β δ ms mb mo mp mf mn mi mc mq mr mw mk ml mt ma mx mh) H := hP
            have hD : va_D A (wM β δ ms mb mo mp mf mn mi mc mq mr mw mk ml mt ma mx mh) := hD
            refine lv_istore (lv' := [(4, .int (zI v28_1)), (2, .int (zI g)), (3, .int (zI i)), (0, .ref (β 0)), (1, .int (zI p))]) hx hb dX10_flow_31 hl (by decide) rfl (fun ls hl => ?_)
            refine lv_goto (tgt := 13) hx hb dX10_flow_33 (by decide) ?_
            exact ih_13 v28_1 _ _ hP hD hS _ (lv_sub hl [0, 1, 2, 3, 4] rfl) (by rw [hv28_0]; by_cases z9 : S_next ms x = -1; (exact Or.inl ⟨z9, fun z8 => (hun.mp (hxx.2.mp z8)).1 z9⟩); (exact Or.inr ⟨(S_next_ok hxx.1 z9).1, hxx.2.trans (hun.trans ⟨fun z8 => z8.2, fun z8 => ⟨z9, z8⟩⟩)⟩)) (by rw [if_neg c_22] at hm; have z8 := hms x hxx.1.1 hxx.1.2; rw [hv28_0]; by_cases z9 : S_next ms x = -1; (rw [if_pos z9]; omega); (rw [if_neg z9]; have z7 := S_next_ok hxx.1 z9; have z6 := hms _ z7.1.1 z7.1.2; omega))

abbrev wz_X10_basin : List Cond := .code yX10_basin cX10_basin 2 (some .int) :: W0
abbrev rm_X10_basin : Room := { frames := 5, cells := 0, slots := 0, locals := 115 }
theorem hd_X10_basin : yX10_basin.cls = RX10 ∧ yX10_basin.cls ≠ "java/lang/invoke/MethodHandle" ∧ yX10_basin.cls ≠ "java/lang/invoke/VarHandle" ∧ (parseMethodDescriptor yX10_basin.desc).map (fun d => d.parameters.length) = some 1 := by decide +kernel
set_option maxHeartbeats 4000000 in
set_option maxRecDepth 100000 in
theorem c_X10_basin (l : Launch) (D : va_G) (τ : Nat → Nat) (β : Nat → Nat) (δ : Nat → ClassId) (ms : IA) (mb : IA) (mo : IA) (mp : BA) (mf : IA) (mn : IA) (mi : IA) (mc : IA) (mq : BA) (mr : IA) (mw : IA) (mk : Int) (ml : Int) (mt : Int) (ma : Int) (mx : Bool) (mh : Int64) (p : Int) (hp : 0 ≤ p ∧ p < 49) (hms : ∀ k, 0 ≤ k → k < 49 → 0 ≤ ms k ∧ ms k ≤ 99) : cM l yX10_basin wz_X10_basin rm_X10_basin D τ (tyM δ) [.ref (β 0), .int (zI p)] (wM β δ ms mb mo mp mf mn mi mc mq mr mw mk ml mt ma mx mh) (zQi (fun r w => ∃ (v : Int), (v = S_basin ms p) ∧ (0 ≤ v ∧ v ≤ 49) ∧ r = zI v ∧ wM β δ ms mb mo mp mf mn mi mc mq mr mw mk ml mt ma mx mh = w)) := by
  refine z_ofM (cc := cX10_basin) (maxL := 2) (ret := (some .int)) (by decide +kernel) rfl (Nat.le_of_ble_eq_true rfl) ?_
  intro pg e s m args below meth c hC hr hlk hnm hK hP A hD hG hA hS ls hl Q hQ
  have hx := hC.1
  have hb := hC.2.1
  have hml := hC.2.2.1
  have hown := hC.2.2.2.1
  have hts := hC.2.2.2.2
  have hB : ∀ w ∈ W0, w ∈ wz_X10_basin := fun _ h => List.mem_cons_of_mem _ h
  have hW0 : ∀ w ∈ W0, w.before args s = true := fun w h => hts w (hB w h)
  have hl : lv_has ls 2 [(0, .ref (β 0)), (1, .int (zI p))] := hl
  refine lv_aload_n hx hb dX10_basin_0 rfl (lv_at hl 0 rfl) ?_
  refine lv_iload_n hx hb dX10_basin_1 rfl (lv_at hl 1 rfl) ?_
  refine z_calli hP hD hS hA (va_runV (As := [.int (zI p)]) (rest := []) hC (c_X10_drain l D τ β δ ms mb mo mp mf mn mi mc mq mr mw mk ml mt ma mx mh p (by first | assumption | rfl | omega) (by first | assumption | rfl | omega) _) (cwV 1 hts (gV hB wl_X10_74 wn_X10_drain ws_X10_drain wi_X10 wc_X10_drain) rfl rfl rfl hd_X10_drain ⟨Nat.le_of_ble_eq_true rfl, Nat.le_of_ble_eq_true rfl⟩) (zp_V hK hP hD hS hA hG (ci := 10) (q0 := 0) rfl rfl rfl) rfl rfl hl.1 rfl (lv_room (Nat.le_of_ble_eq_true rfl)) dX10_basin_2 ⟨Nat.le_of_ble_eq_true rfl, Nat.le_of_ble_eq_true rfl⟩) (fun r w1 H locs hq9 hP hD hS => ?_)
  obtain ⟨v2_1, hv2_0, hv2_1, rfl, rfl⟩ := hq9
  have hP : va_P D vwCl (wM β δ ms mb mo mp mf mn mi mc mq mr mw mk ml mt ma mx mh) H := hP
  have hD : va_D A (wM β δ ms mb mo mp mf mn mi mc mq mr mw mk ml mt ma mx mh) := hD
  refine lv_iconst (v := zI (-1)) hx hb dX10_basin_5 rfl ?_
  refine z_icne (tgt := 17) hx hb ⟨by omega, by omega⟩ ⟨by omega, by omega⟩ dX10_basin_6 (by decide) (fun c_6 => ?_) (fun c_6 => ?_)
  · refine lv_iconst (v := zI 0) hx hb dX10_basin_17 rfl ?_
    exact z_iret hC hr hlk hQ hP hD hS ⟨0, (by unfold S_basin; first | (rw [if_pos (hv2_0.symm.trans c_6)]; assumption) | (rw [if_neg (fun h9 => c_6 (hv2_0.trans h9))]; done)), (by first | assumption | rfl | omega), rfl, rfl⟩ dX10_basin_18
  · refine lv_aload_n hx hb dX10_basin_9 rfl (lv_at hl 0 rfl) ?_
    refine lv_iload_n hx hb dX10_basin_10 rfl (lv_at hl 1 rfl) ?_
    refine z_calli hP hD hS hA (va_runV (As := [.int (zI p)]) (rest := []) hC (c_X10_flow l D τ β δ ms mb mo mp mf mn mi mc mq mr mw mk ml mt ma mx mh p (by first | assumption | rfl | omega) (by first | assumption | rfl | omega) _) (cwV 1 hts (gV hB wl_X10_184 wn_X10_flow ws_X10_flow wi_X10 wc_X10_flow) rfl rfl rfl hd_X10_flow ⟨Nat.le_of_ble_eq_true rfl, Nat.le_of_ble_eq_true rfl⟩) (zp_V hK hP hD hS hA hG (ci := 10) (q0 := 0) rfl rfl rfl) rfl rfl hl.1 rfl (lv_room (Nat.le_of_ble_eq_true rfl)) dX10_basin_11 ⟨Nat.le_of_ble_eq_true rfl, Nat.le_of_ble_eq_true rfl⟩) (fun r w1 H locs hq9 hP hD hS => ?_)
    obtain ⟨v11_2, hv11_0, hv11_1, rfl, rfl⟩ := hq9
    have hP : va_P D vwCl (wM β δ ms mb mo mp mf mn mi mc mq mr mw mk ml mt ma mx mh) H := hP
    have hD : va_D A (wM β δ ms mb mo mp mf mn mi mc mq mr mw mk ml mt ma mx mh) := hD
    refine lv_goto (tgt := 18) hx hb dX10_basin_14 (by decide) ?_
    exact z_iret hC hr hlk hQ hP hD hS ⟨v11_2, (by unfold S_basin; first | (rw [if_pos (hv2_0.symm.trans c_6)]; assumption) | (rw [if_neg (fun h9 => c_6 (hv2_0.trans h9))]; done)), (by first | assumption | rfl | omega), rfl, rfl⟩ dX10_basin_18

abbrev wz_X10_drainOf : List Cond := .code yX10_drainOf cX10_drainOf 4 (some .int) :: W0
abbrev rm_X10_drainOf : Room := { frames := 4, cells := 0, slots := 0, locals := 91 }
theorem hd_X10_drainOf : yX10_drainOf.cls = RX10 ∧ yX10_drainOf.cls ≠ "java/lang/invoke/MethodHandle" ∧ yX10_drainOf.cls ≠ "java/lang/invoke/VarHandle" ∧ (parseMethodDescriptor yX10_drainOf.desc).map (fun d => d.parameters.length) = some 2 := by decide +kernel
set_option maxHeartbeats 4000000 in
set_option maxRecDepth 100000 in
theorem c_X10_drainOf (l : Launch) (D : va_G) (τ : Nat → Nat) (β : Nat → Nat) (δ : Nat → ClassId) (ms : IA) (mb : IA) (mo : IA) (mp : BA) (mf : IA) (mn : IA) (mi : IA) (mc : IA) (mq : BA) (mr : IA) (mw : IA) (mk : Int) (ml : Int) (mt : Int) (ma : Int) (mx : Bool) (mh : Int64) (r9 : Int) (c9 : Int) (hr9 : -2147483648 ≤ r9 ∧ r9 < 2147483648) (hc9 : -2147483648 ≤ c9 ∧ c9 < 2147483648) (hms : ∀ k, 0 ≤ k → k < 49 → 0 ≤ ms k ∧ ms k ≤ 99) : cM l yX10_drainOf wz_X10_drainOf rm_X10_drainOf D τ (tyM δ) [.ref (β 0), .int (zI r9), .int (zI c9)] (wM β δ ms mb mo mp mf mn mi mc mq mr mw mk ml mt ma mx mh) (zQi (fun r w => ∃ (t2 : Int), ∃ (v : Int), (t2 = S_tdr ms r9 c9) ∧ (t2 = 0 → v = S_next ms (7 * r9 + c9)) ∧ r = zI v ∧ wM β δ ms mb mo mp mf mn mi mc mq mr mw mk ml t2 ma mx mh = w)) := by
  refine z_ofM (cc := cX10_drainOf) (maxL := 4) (ret := (some .int)) (by decide +kernel) rfl (Nat.le_of_ble_eq_true rfl) ?_
  intro pg e s m args below meth c hC hr hlk hnm hK hP A hD hG hA hS ls hl Q hQ
  have hx := hC.1
  have hb := hC.2.1
  have hml := hC.2.2.1
  have hown := hC.2.2.2.1
  have hts := hC.2.2.2.2
  have hB : ∀ w ∈ W0, w ∈ wz_X10_drainOf := fun _ h => List.mem_cons_of_mem _ h
  have hW0 : ∀ w ∈ W0, w.before args s = true := fun w h => hts w (hB w h)
  have hl : lv_has ls 4 [(0, .ref (β 0)), (1, .int (zI r9)), (2, .int (zI c9))] := hl
  refine lv_aload_n hx hb dX10_drainOf_0 rfl (lv_at hl 0 rfl) ?_
  refine lv_iload_n hx hb dX10_drainOf_1 rfl (lv_at hl 1 rfl) ?_
  refine lv_iload_n hx hb dX10_drainOf_2 rfl (lv_at hl 2 rfl) ?_
  refine z_calli hP hD hS hA (va_runV (As := [.int (zI r9), .int (zI c9)]) (rest := []) hC (c_X10_isThere l D τ β δ ms mb mo mp mf mn mi mc mq mr mw mk ml mt ma mx mh r9 c9 (by first | assumption | rfl | omega) (by first | assumption | rfl | omega) _) (cwV 2 hts (gV hB wl_X10_120 wn_X10_isThere ws_X10_isThere wi_X10 wc_X10_isThere) rfl rfl rfl hd_X10_isThere ⟨Nat.le_of_ble_eq_true rfl, Nat.le_of_ble_eq_true rfl⟩) (zp_V hK hP hD hS hA hG (ci := 10) (q0 := 0) rfl rfl rfl) rfl rfl hl.1 rfl (lv_room (Nat.le_of_ble_eq_true rfl)) dX10_drainOf_3 ⟨Nat.le_of_ble_eq_true rfl, Nat.le_of_ble_eq_true rfl⟩) (fun r w1 H locs hq9 hP hD hS => ?_)
  obtain ⟨t3_1, v3_2, hv3_0, hv3_1, rfl, rfl⟩ := hq9
  have hP : va_P D vwCl (wM β δ ms mb mo mp mf mn mi mc mq mr mw mk ml t3_1 ma mx mh) H := hP
  have hD : va_D A (wM β δ ms mb mo mp mf mn mi mc mq mr mw mk ml t3_1 ma mx mh) := hD
  refine z_ifneB (tgt := 11) hx hb dX10_drainOf_6 (by decide) (fun c_6 => ?_) (fun c_6 => ?_)
  · have hb_6 := hv3_0.mp c_6
    refine lv_aload_n hx hb dX10_drainOf_11 rfl (lv_at hl 0 rfl) ?_
    refine lv_bipush (v := zI 7) hx hb dX10_drainOf_12 (zI_b8 (by decide)) ?_
    refine lv_iload_n hx hb dX10_drainOf_14 rfl (lv_at hl 1 rfl) ?_
    refine z_imul hx hb dX10_drainOf_15 ?_
    refine lv_iload_n hx hb dX10_drainOf_16 rfl (lv_at hl 2 rfl) ?_
    refine z_iadd hx hb dX10_drainOf_17 ?_
    refine z_calli hP hD hS hA (va_runV (As := [.int (zI ((7 * r9) + c9))]) (rest := []) hC (c_X10_drain l D τ β δ ms mb mo mp mf mn mi mc mq mr mw mk ml t3_1 ma mx mh ((7 * r9) + c9) (by omega) (by first | assumption | rfl | omega) _) (cwV 1 hts (gV hB wl_X10_74 wn_X10_drain ws_X10_drain wi_X10 wc_X10_drain) rfl rfl rfl hd_X10_drain ⟨Nat.le_of_ble_eq_true rfl, Nat.le_of_ble_eq_true rfl⟩) (zp_V hK hP hD hS hA hG (ci := 10) (q0 := 0) rfl rfl rfl) rfl rfl hl.1 rfl (lv_room (Nat.le_of_ble_eq_true rfl)) dX10_drainOf_18 ⟨Nat.le_of_ble_eq_true rfl, Nat.le_of_ble_eq_true rfl⟩) (fun r w1 H locs hq9 hP hD hS => ?_)
    obtain ⟨v18_3, hv18_0, hv18_1, rfl, rfl⟩ := hq9
    have hP : va_P D vwCl (wM β δ ms mb mo mp mf mn mi mc mq mr mw mk ml t3_1 ma mx mh) H := hP
    have hD : va_D A (wM β δ ms mb mo mp mf mn mi mc mq mr mw mk ml t3_1 ma mx mh) := hD
    refine lv_istore_n (lv' := [(3, .int (zI v18_3)), (0, .ref (β 0)), (1, .int (zI r9)), (2, .int (zI c9))]) hx hb dX10_drainOf_21 rfl hl (by decide) rfl (fun ls hl => ?_)
    refine lv_iload_n hx hb dX10_drainOf_22 rfl (lv_at hl 0 rfl) ?_
    refine lv_iconst (v := zI (-1)) hx hb dX10_drainOf_23 rfl ?_
    refine z_icne (tgt := 35) hx hb ⟨by omega, by omega⟩ ⟨by omega, by omega⟩ dX10_drainOf_24 (by decide) (fun c_24 => ?_) (fun c_24 => ?_)
    · refine lv_iload_n hx hb dX10_drainOf_35 rfl (lv_at hl 0 rfl) ?_
      exact z_iret hC hr hlk hQ hP hD hS ⟨t3_1, v18_3, (by first | (rw [hv3_1]; unfold S_tdr S_tpt; rw [if_neg hb_6, if_neg hb_6]; done) | (rw [hv29_1]; unfold S_tdr; rw [if_pos hb_6, if_pos (hv18_0.symm.trans c_24)]; done) | (rw [hv3_1]; unfold S_tdr S_tpt; rw [if_pos hb_6, if_pos hb_6, if_neg (fun h9 => c_24 (hv18_0.trans h9))]; done)), (by first | exact fun _ => hv18_0 | (intro h9; exfalso; rw [hv3_1] at h9; unfold S_tpt at h9; rw [if_neg hb_6] at h9; exact absurd h9 (by decide)) | (intro h9; exfalso; omega)), rfl, rfl⟩ dX10_drainOf_36
    · refine lv_aload_n hx hb dX10_drainOf_27 rfl (lv_at hl 1 rfl) ?_
      refine lv_iconst (v := zI 2) hx hb dX10_drainOf_28 rfl ?_
      refine z_calli hP hD hS hA (va_runV (As := [.int (zI 2)]) (rest := []) hC (c_X10_throwing l D τ β δ ms mb mo mp mf mn mi mc mq mr mw mk ml t3_1 ma mx mh 2 _) (cwV 1 hts (gV hB wl_X10_90 wn_X10_throwing ws_X10_throwing wi_X10 wc_X10_throwing) rfl rfl rfl hd_X10_throwing ⟨Nat.le_of_ble_eq_true rfl, Nat.le_of_ble_eq_true rfl⟩) (zp_V hK hP hD hS hA hG (ci := 10) (q0 := 0) rfl rfl rfl) rfl rfl hl.1 rfl (lv_room (Nat.le_of_ble_eq_true rfl)) dX10_drainOf_29 ⟨Nat.le_of_ble_eq_true rfl, Nat.le_of_ble_eq_true rfl⟩) (fun r w1 H locs hq9 hP hD hS => ?_)
      obtain ⟨t29_4, v29_5, hv29_0, hv29_1, rfl, rfl⟩ := hq9
      have hP : va_P D vwCl (wM β δ ms mb mo mp mf mn mi mc mq mr mw mk ml t29_4 ma mx mh) H := hP
      have hD : va_D A (wM β δ ms mb mo mp mf mn mi mc mq mr mw mk ml t29_4 ma mx mh) := hD
      refine lv_goto (tgt := 36) hx hb dX10_drainOf_32 (by decide) ?_
      exact z_iret hC hr hlk hQ hP hD hS ⟨t29_4, v29_5, (by first | (rw [hv3_1]; unfold S_tdr S_tpt; rw [if_neg hb_6, if_neg hb_6]; done) | (rw [hv29_1]; unfold S_tdr; rw [if_pos hb_6, if_pos (hv18_0.symm.trans c_24)]; done) | (rw [hv3_1]; unfold S_tdr S_tpt; rw [if_pos hb_6, if_pos hb_6, if_neg (fun h9 => c_24 (hv18_0.trans h9))]; done)), (by first | exact fun _ => hv18_0 | (intro h9; exfalso; rw [hv3_1] at h9; unfold S_tpt at h9; rw [if_neg hb_6] at h9; exact absurd h9 (by decide)) | (intro h9; exfalso; omega)), rfl, rfl⟩ dX10_drainOf_36
  · have hb_6 := zb_neg hv3_0 c_6
    refine lv_iconst (v := zI 0) hx hb dX10_drainOf_9 rfl ?_
    exact z_iret hC hr hlk hQ hP hD hS ⟨t3_1, 0, (by first | (rw [hv3_1]; unfold S_tdr S_tpt; rw [if_neg hb_6, if_neg hb_6]; done) | (rw [hv29_1]; unfold S_tdr; rw [if_pos hb_6, if_pos (hv18_0.symm.trans c_24)]; done) | (rw [hv3_1]; unfold S_tdr S_tpt; rw [if_pos hb_6, if_pos hb_6, if_neg (fun h9 => c_24 (hv18_0.trans h9))]; done)), (by first | exact fun _ => hv18_0 | (intro h9; exfalso; rw [hv3_1] at h9; unfold S_tpt at h9; rw [if_neg hb_6] at h9; exact absurd h9 (by decide)) | (intro h9; exfalso; omega)), rfl, rfl⟩ dX10_drainOf_10

abbrev wz_X10_isSink : List Cond := .code yX10_isSink cX10_isSink 3 (some .boolean) :: W0
abbrev rm_X10_isSink : Room := { frames := 4, cells := 0, slots := 0, locals := 91 }
theorem hd_X10_isSink : yX10_isSink.cls = RX10 ∧ yX10_isSink.cls ≠ "java/lang/invoke/MethodHandle" ∧ yX10_isSink.cls ≠ "java/lang/invoke/VarHandle" ∧ (parseMethodDescriptor yX10_isSink.desc).map (fun d => d.parameters.length) = some 2 := by decide +kernel
set_option maxHeartbeats 4000000 in
set_option maxRecDepth 100000 in
theorem c_X10_isSink (l : Launch) (D : va_G) (τ : Nat → Nat) (β : Nat → Nat) (δ : Nat → ClassId) (ms : IA) (mb : IA) (mo : IA) (mp : BA) (mf : IA) (mn : IA) (mi : IA) (mc : IA) (mq : BA) (mr : IA) (mw : IA) (mk : Int) (ml : Int) (mt : Int) (ma : Int) (mx : Bool) (mh : Int64) (r9 : Int) (c9 : Int) (hr9 : -2147483648 ≤ r9 ∧ r9 < 2147483648) (hc9 : -2147483648 ≤ c9 ∧ c9 < 2147483648) (hms : ∀ k, 0 ≤ k → k < 49 → 0 ≤ ms k ∧ ms k ≤ 99) : cM l yX10_isSink wz_X10_isSink rm_X10_isSink D τ (tyM δ) [.ref (β 0), .int (zI r9), .int (zI c9)] (wM β δ ms mb mo mp mf mn mi mc mq mr mw mk ml mt ma mx mh) (zQi (fun r w => ∃ (t2 : Int), ∃ (v : Bool), (t2 = S_tpt r9 c9) ∧ (t2 = 0 → (v = true ↔ S_next ms (7 * r9 + c9) = -1)) ∧ r = bI v ∧ wM β δ ms mb mo mp mf mn mi mc mq mr mw mk ml t2 ma mx mh = w)) := by
  refine z_ofM (cc := cX10_isSink) (maxL := 3) (ret := (some .boolean)) (by decide +kernel) rfl (Nat.le_of_ble_eq_true rfl) ?_
  intro pg e s m args below meth c hC hr hlk hnm hK hP A hD hG hA hS ls hl Q hQ
  have hx := hC.1
  have hb := hC.2.1
  have hml := hC.2.2.1
  have hown := hC.2.2.2.1
  have hts := hC.2.2.2.2
  have hB : ∀ w ∈ W0, w ∈ wz_X10_isSink := fun _ h => List.mem_cons_of_mem _ h
  have hW0 : ∀ w ∈ W0, w.before args s = true := fun w h => hts w (hB w h)
  have hl : lv_has ls 3 [(0, .ref (β 0)), (1, .int (zI r9)), (2, .int (zI c9))] := hl
  refine lv_aload_n hx hb dX10_isSink_0 rfl (lv_at hl 0 rfl) ?_
  refine lv_iload_n hx hb dX10_isSink_1 rfl (lv_at hl 1 rfl) ?_
  refine lv_iload_n hx hb dX10_isSink_2 rfl (lv_at hl 2 rfl) ?_
  refine z_calli hP hD hS hA (va_runV (As := [.int (zI r9), .int (zI c9)]) (rest := []) hC (c_X10_isThere l D τ β δ ms mb mo mp mf mn mi mc mq mr mw mk ml mt ma mx mh r9 c9 (by first | assumption | rfl | omega) (by first | assumption | rfl | omega) _) (cwV 2 hts (gV hB wl_X10_120 wn_X10_isThere ws_X10_isThere wi_X10 wc_X10_isThere) rfl rfl rfl hd_X10_isThere ⟨Nat.le_of_ble_eq_true rfl, Nat.le_of_ble_eq_true rfl⟩) (zp_V hK hP hD hS hA hG (ci := 10) (q0 := 0) rfl rfl rfl) rfl rfl hl.1 rfl (lv_room (Nat.le_of_ble_eq_true rfl)) dX10_isSink_3 ⟨Nat.le_of_ble_eq_true rfl, Nat.le_of_ble_eq_true rfl⟩) (fun r w1 H locs hq9 hP hD hS => ?_)
  obtain ⟨t3_1, v3_2, hv3_0, hv3_1, rfl, rfl⟩ := hq9
  have hP : va_P D vwCl (wM β δ ms mb mo mp mf mn mi mc mq mr mw mk ml t3_1 ma mx mh) H := hP
  have hD : va_D A (wM β δ ms mb mo mp mf mn mi mc mq mr mw mk ml t3_1 ma mx mh) := hD
  refine z_ifeqB (tgt := 27) hx hb dX10_isSink_6 (by decide) (fun c_6 => ?_) (fun c_6 => ?_)
  · have hb_6 := zb_neg hv3_0 c_6
    refine lv_iconst (v := zI 0) hx hb dX10_isSink_27 rfl ?_
    refine W.eq (g2 := F0 m 28 ls [.int (bI false)]) rfl ?_
    exact z_zret hC hr hlk hQ hP hD hS ⟨t3_1, false, (by exact hv3_1), (by first | exact fun _ => zb_T (hv16_0.symm.trans c_20) | exact fun _ => zb_F (fun h9 => c_20 (hv16_0.trans h9)) | (intro h9; exfalso; rw [hv3_1] at h9; unfold S_tpt at h9; rw [if_neg hb_6] at h9; exact absurd h9 (by decide))), rfl, rfl⟩ dX10_isSink_28
  · have hb_6 := hv3_0.mp c_6
    refine lv_aload_n hx hb dX10_isSink_9 rfl (lv_at hl 0 rfl) ?_
    refine lv_bipush (v := zI 7) hx hb dX10_isSink_10 (zI_b8 (by decide)) ?_
    refine lv_iload_n hx hb dX10_isSink_12 rfl (lv_at hl 1 rfl) ?_
    refine z_imul hx hb dX10_isSink_13 ?_
    refine lv_iload_n hx hb dX10_isSink_14 rfl (lv_at hl 2 rfl) ?_
    refine z_iadd hx hb dX10_isSink_15 ?_
    refine z_calli hP hD hS hA (va_runV (As := [.int (zI ((7 * r9) + c9))]) (rest := []) hC (c_X10_drain l D τ β δ ms mb mo mp mf mn mi mc mq mr mw mk ml t3_1 ma mx mh ((7 * r9) + c9) (by omega) (by first | assumption | rfl | omega) _) (cwV 1 hts (gV hB wl_X10_74 wn_X10_drain ws_X10_drain wi_X10 wc_X10_drain) rfl rfl rfl hd_X10_drain ⟨Nat.le_of_ble_eq_true rfl, Nat.le_of_ble_eq_true rfl⟩) (zp_V hK hP hD hS hA hG (ci := 10) (q0 := 0) rfl rfl rfl) rfl rfl hl.1 rfl (lv_room (Nat.le_of_ble_eq_true rfl)) dX10_isSink_16 ⟨Nat.le_of_ble_eq_true rfl, Nat.le_of_ble_eq_true rfl⟩) (fun r w1 H locs hq9 hP hD hS => ?_)
    obtain ⟨v16_3, hv16_0, hv16_1, rfl, rfl⟩ := hq9
    have hP : va_P D vwCl (wM β δ ms mb mo mp mf mn mi mc mq mr mw mk ml t3_1 ma mx mh) H := hP
    have hD : va_D A (wM β δ ms mb mo mp mf mn mi mc mq mr mw mk ml t3_1 ma mx mh) := hD
    refine lv_iconst (v := zI (-1)) hx hb dX10_isSink_19 rfl ?_
    refine z_icne (tgt := 27) hx hb ⟨by omega, by omega⟩ ⟨by omega, by omega⟩ dX10_isSink_20 (by decide) (fun c_20 => ?_) (fun c_20 => ?_)
    · refine lv_iconst (v := zI 0) hx hb dX10_isSink_27 rfl ?_
      refine W.eq (g2 := F0 m 28 ls [.int (bI false)]) rfl ?_
      exact z_zret hC hr hlk hQ hP hD hS ⟨t3_1, false, (by exact hv3_1), (by first | exact fun _ => zb_T (hv16_0.symm.trans c_20) | exact fun _ => zb_F (fun h9 => c_20 (hv16_0.trans h9)) | (intro h9; exfalso; rw [hv3_1] at h9; unfold S_tpt at h9; rw [if_neg hb_6] at h9; exact absurd h9 (by decide))), rfl, rfl⟩ dX10_isSink_28
    · refine lv_iconst (v := zI 1) hx hb dX10_isSink_23 rfl ?_
      refine lv_goto (tgt := 28) hx hb dX10_isSink_24 (by decide) ?_
      refine W.eq (g2 := F0 m 28 ls [.int (bI true)]) rfl ?_
      exact z_zret hC hr hlk hQ hP hD hS ⟨t3_1, true, (by exact hv3_1), (by first | exact fun _ => zb_T (hv16_0.symm.trans c_20) | exact fun _ => zb_F (fun h9 => c_20 (hv16_0.trans h9)) | (intro h9; exfalso; rw [hv3_1] at h9; unfold S_tpt at h9; rw [if_neg hb_6] at h9; exact absurd h9 (by decide))), rfl, rfl⟩ dX10_isSink_28

abbrev wz_X10_dropOf : List Cond := .code yX10_dropOf cX10_dropOf 3 (some .int) :: W0
abbrev rm_X10_dropOf : Room := { frames := 5, cells := 0, slots := 0, locals := 113 }
theorem hd_X10_dropOf : yX10_dropOf.cls = RX10 ∧ yX10_dropOf.cls ≠ "java/lang/invoke/MethodHandle" ∧ yX10_dropOf.cls ≠ "java/lang/invoke/VarHandle" ∧ (parseMethodDescriptor yX10_dropOf.desc).map (fun d => d.parameters.length) = some 2 := by decide +kernel
set_option maxHeartbeats 4000000 in
set_option maxRecDepth 100000 in
theorem c_X10_dropOf (l : Launch) (D : va_G) (τ : Nat → Nat) (β : Nat → Nat) (δ : Nat → ClassId) (ms : IA) (mb : IA) (mo : IA) (mp : BA) (mf : IA) (mn : IA) (mi : IA) (mc : IA) (mq : BA) (mr : IA) (mw : IA) (mk : Int) (ml : Int) (mt : Int) (ma : Int) (mx : Bool) (mh : Int64) (r9 : Int) (c9 : Int) (hr9 : -2147483648 ≤ r9 ∧ r9 < 2147483648) (hc9 : -2147483648 ≤ c9 ∧ c9 < 2147483648) (hms : ∀ k, 0 ≤ k → k < 49 → 0 ≤ ms k ∧ ms k ≤ 99) : cM l yX10_dropOf wz_X10_dropOf rm_X10_dropOf D τ (tyM δ) [.ref (β 0), .int (zI r9), .int (zI c9)] (wM β δ ms mb mo mp mf mn mi mc mq mr mw mk ml mt ma mx mh) (zQi (fun r w => ∃ (t2 : Int), ∃ (v : Int), (t2 = S_tpt r9 c9) ∧ (t2 = 0 → v = S_drop ms (7 * r9 + c9)) ∧ r = zI v ∧ wM β δ ms mb mo mp mf mn mi mc mq mr mw mk ml t2 ma mx mh = w)) := by
  refine z_ofM (cc := cX10_dropOf) (maxL := 3) (ret := (some .int)) (by decide +kernel) rfl (Nat.le_of_ble_eq_true rfl) ?_
  intro pg e s m args below meth c hC hr hlk hnm hK hP A hD hG hA hS ls hl Q hQ
  have hx := hC.1
  have hb := hC.2.1
  have hml := hC.2.2.1
  have hown := hC.2.2.2.1
  have hts := hC.2.2.2.2
  have hB : ∀ w ∈ W0, w ∈ wz_X10_dropOf := fun _ h => List.mem_cons_of_mem _ h
  have hW0 : ∀ w ∈ W0, w.before args s = true := fun w h => hts w (hB w h)
  have hl : lv_has ls 3 [(0, .ref (β 0)), (1, .int (zI r9)), (2, .int (zI c9))] := hl
  refine lv_aload_n hx hb dX10_dropOf_0 rfl (lv_at hl 0 rfl) ?_
  refine lv_iload_n hx hb dX10_dropOf_1 rfl (lv_at hl 1 rfl) ?_
  refine lv_iload_n hx hb dX10_dropOf_2 rfl (lv_at hl 2 rfl) ?_
  refine z_calli hP hD hS hA (va_runV (As := [.int (zI r9), .int (zI c9)]) (rest := []) hC (c_X10_isThere l D τ β δ ms mb mo mp mf mn mi mc mq mr mw mk ml mt ma mx mh r9 c9 (by first | assumption | rfl | omega) (by first | assumption | rfl | omega) _) (cwV 2 hts (gV hB wl_X10_120 wn_X10_isThere ws_X10_isThere wi_X10 wc_X10_isThere) rfl rfl rfl hd_X10_isThere ⟨Nat.le_of_ble_eq_true rfl, Nat.le_of_ble_eq_true rfl⟩) (zp_V hK hP hD hS hA hG (ci := 10) (q0 := 0) rfl rfl rfl) rfl rfl hl.1 rfl (lv_room (Nat.le_of_ble_eq_true rfl)) dX10_dropOf_3 ⟨Nat.le_of_ble_eq_true rfl, Nat.le_of_ble_eq_true rfl⟩) (fun r w1 H locs hq9 hP hD hS => ?_)
  obtain ⟨t3_1, v3_2, hv3_0, hv3_1, rfl, rfl⟩ := hq9
  have hP : va_P D vwCl (wM β δ ms mb mo mp mf mn mi mc mq mr mw mk ml t3_1 ma mx mh) H := hP
  have hD : va_D A (wM β δ ms mb mo mp mf mn mi mc mq mr mw mk ml t3_1 ma mx mh) := hD
  refine z_ifeqB (tgt := 22) hx hb dX10_dropOf_6 (by decide) (fun c_6 => ?_) (fun c_6 => ?_)
  · have hb_6 := zb_neg hv3_0 c_6
    refine lv_iconst (v := zI 0) hx hb dX10_dropOf_22 rfl ?_
    exact z_iret hC hr hlk hQ hP hD hS ⟨t3_1, 0, (by exact hv3_1), (by first | exact fun _ => hv16_0 | (intro h9; rw [hv3_1] at h9; unfold S_tpt at h9; rw [if_neg hb_6] at h9; exact absurd h9 (by decide))), rfl, rfl⟩ dX10_dropOf_23
  · have hb_6 := hv3_0.mp c_6
    refine lv_aload_n hx hb dX10_dropOf_9 rfl (lv_at hl 0 rfl) ?_
    refine lv_bipush (v := zI 7) hx hb dX10_dropOf_10 (zI_b8 (by decide)) ?_
    refine lv_iload_n hx hb dX10_dropOf_12 rfl (lv_at hl 1 rfl) ?_
    refine z_imul hx hb dX10_dropOf_13 ?_
    refine lv_iload_n hx hb dX10_dropOf_14 rfl (lv_at hl 2 rfl) ?_
    refine z_iadd hx hb dX10_dropOf_15 ?_
    refine z_calli hP hD hS hA (va_runV (As := [.int (zI ((7 * r9) + c9))]) (rest := []) hC (c_X10_drop l D τ β δ ms mb mo mp mf mn mi mc mq mr mw mk ml t3_1 ma mx mh ((7 * r9) + c9) (by omega) (by first | assumption | rfl | omega) _) (cwV 1 hts (gV hB wl_X10_77 wn_X10_drop ws_X10_drop wi_X10 wc_X10_drop) rfl rfl rfl hd_X10_drop ⟨Nat.le_of_ble_eq_true rfl, Nat.le_of_ble_eq_true rfl⟩) (zp_V hK hP hD hS hA hG (ci := 10) (q0 := 0) rfl rfl rfl) rfl rfl hl.1 rfl (lv_room (Nat.le_of_ble_eq_true rfl)) dX10_dropOf_16 ⟨Nat.le_of_ble_eq_true rfl, Nat.le_of_ble_eq_true rfl⟩) (fun r w1 H locs hq9 hP hD hS => ?_)
    obtain ⟨v16_3, hv16_0, hv16_1, rfl, rfl⟩ := hq9
    have hP : va_P D vwCl (wM β δ ms mb mo mp mf mn mi mc mq mr mw mk ml t3_1 ma mx mh) H := hP
    have hD : va_D A (wM β δ ms mb mo mp mf mn mi mc mq mr mw mk ml t3_1 ma mx mh) := hD
    refine lv_goto (tgt := 23) hx hb dX10_dropOf_19 (by decide) ?_
    exact z_iret hC hr hlk hQ hP hD hS ⟨t3_1, v16_3, (by exact hv3_1), (by first | exact fun _ => hv16_0 | (intro h9; rw [hv3_1] at h9; unfold S_tpt at h9; rw [if_neg hb_6] at h9; exact absurd h9 (by decide))), rfl, rfl⟩ dX10_dropOf_23

abbrev wz_X10_sinkOf : List Cond := .code yX10_sinkOf cX10_sinkOf 3 (some .int) :: W0
abbrev rm_X10_sinkOf : Room := { frames := 5, cells := 0, slots := 0, locals := 114 }
theorem hd_X10_sinkOf : yX10_sinkOf.cls = RX10 ∧ yX10_sinkOf.cls ≠ "java/lang/invoke/MethodHandle" ∧ yX10_sinkOf.cls ≠ "java/lang/invoke/VarHandle" ∧ (parseMethodDescriptor yX10_sinkOf.desc).map (fun d => d.parameters.length) = some 2 := by decide +kernel
set_option maxHeartbeats 4000000 in
set_option maxRecDepth 100000 in
theorem c_X10_sinkOf (l : Launch) (D : va_G) (τ : Nat → Nat) (β : Nat → Nat) (δ : Nat → ClassId) (ms : IA) (mb : IA) (mo : IA) (mp : BA) (mf : IA) (mn : IA) (mi : IA) (mc : IA) (mq : BA) (mr : IA) (mw : IA) (mk : Int) (ml : Int) (mt : Int) (ma : Int) (mx : Bool) (mh : Int64) (r9 : Int) (c9 : Int) (hr9 : -2147483648 ≤ r9 ∧ r9 < 2147483648) (hc9 : -2147483648 ≤ c9 ∧ c9 < 2147483648) (hms : ∀ k, 0 ≤ k → k < 49 → 0 ≤ ms k ∧ ms k ≤ 99) : cM l yX10_sinkOf wz_X10_sinkOf rm_X10_sinkOf D τ (tyM δ) [.ref (β 0), .int (zI r9), .int (zI c9)] (wM β δ ms mb mo mp mf mn mi mc mq mr mw mk ml mt ma mx mh) (zQi (fun r w => ∃ (t2 : Int), ∃ (v : Int), (t2 = S_tpt r9 c9) ∧ (t2 = 0 → v = S_sink ms (7 * r9 + c9)) ∧ r = zI v ∧ wM β δ ms mb mo mp mf mn mi mc mq mr mw mk ml t2 ma mx mh = w)) := by
  refine z_ofM (cc := cX10_sinkOf) (maxL := 3) (ret := (some .int)) (by decide +kernel) rfl (Nat.le_of_ble_eq_true rfl) ?_
  intro pg e s m args below meth c hC hr hlk hnm hK hP A hD hG hA hS ls hl Q hQ
  have hx := hC.1
  have hb := hC.2.1
  have hml := hC.2.2.1
  have hown := hC.2.2.2.1
  have hts := hC.2.2.2.2
  have hB : ∀ w ∈ W0, w ∈ wz_X10_sinkOf := fun _ h => List.mem_cons_of_mem _ h
  have hW0 : ∀ w ∈ W0, w.before args s = true := fun w h => hts w (hB w h)
  have hl : lv_has ls 3 [(0, .ref (β 0)), (1, .int (zI r9)), (2, .int (zI c9))] := hl
  refine lv_aload_n hx hb dX10_sinkOf_0 rfl (lv_at hl 0 rfl) ?_
  refine lv_iload_n hx hb dX10_sinkOf_1 rfl (lv_at hl 1 rfl) ?_
  refine lv_iload_n hx hb dX10_sinkOf_2 rfl (lv_at hl 2 rfl) ?_
  refine z_calli hP hD hS hA (va_runV (As := [.int (zI r9), .int (zI c9)]) (rest := []) hC (c_X10_isThere l D τ β δ ms mb mo mp mf mn mi mc mq mr mw mk ml mt ma mx mh r9 c9 (by first | assumption | rfl | omega) (by first | assumption | rfl | omega) _) (cwV 2 hts (gV hB wl_X10_120 wn_X10_isThere ws_X10_isThere wi_X10 wc_X10_isThere) rfl rfl rfl hd_X10_isThere ⟨Nat.le_of_ble_eq_true rfl, Nat.le_of_ble_eq_true rfl⟩) (zp_V hK hP hD hS hA hG (ci := 10) (q0 := 0) rfl rfl rfl) rfl rfl hl.1 rfl (lv_room (Nat.le_of_ble_eq_true rfl)) dX10_sinkOf_3 ⟨Nat.le_of_ble_eq_true rfl, Nat.le_of_ble_eq_true rfl⟩) (fun r w1 H locs hq9 hP hD hS => ?_)
  obtain ⟨t3_1, v3_2, hv3_0, hv3_1, rfl, rfl⟩ := hq9
  have hP : va_P D vwCl (wM β δ ms mb mo mp mf mn mi mc mq mr mw mk ml t3_1 ma mx mh) H := hP
  have hD : va_D A (wM β δ ms mb mo mp mf mn mi mc mq mr mw mk ml t3_1 ma mx mh) := hD
  refine z_ifeqB (tgt := 22) hx hb dX10_sinkOf_6 (by decide) (fun c_6 => ?_) (fun c_6 => ?_)
  · have hb_6 := zb_neg hv3_0 c_6
    refine lv_iconst (v := zI 0) hx hb dX10_sinkOf_22 rfl ?_
    exact z_iret hC hr hlk hQ hP hD hS ⟨t3_1, 0, (by exact hv3_1), (by first | exact fun _ => hv16_0 | (intro h9; rw [hv3_1] at h9; unfold S_tpt at h9; rw [if_neg hb_6] at h9; exact absurd h9 (by decide))), rfl, rfl⟩ dX10_sinkOf_23
  · have hb_6 := hv3_0.mp c_6
    refine lv_aload_n hx hb dX10_sinkOf_9 rfl (lv_at hl 0 rfl) ?_
    refine lv_bipush (v := zI 7) hx hb dX10_sinkOf_10 (zI_b8 (by decide)) ?_
    refine lv_iload_n hx hb dX10_sinkOf_12 rfl (lv_at hl 1 rfl) ?_
    refine z_imul hx hb dX10_sinkOf_13 ?_
    refine lv_iload_n hx hb dX10_sinkOf_14 rfl (lv_at hl 2 rfl) ?_
    refine z_iadd hx hb dX10_sinkOf_15 ?_
    refine z_calli hP hD hS hA (va_runV (As := [.int (zI ((7 * r9) + c9))]) (rest := []) hC (c_X10_sink l D τ β δ ms mb mo mp mf mn mi mc mq mr mw mk ml t3_1 ma mx mh ((7 * r9) + c9) (by omega) (by first | assumption | rfl | omega) _) (cwV 1 hts (gV hB wl_X10_187 wn_X10_sink ws_X10_sink wi_X10 wc_X10_sink) rfl rfl rfl hd_X10_sink ⟨Nat.le_of_ble_eq_true rfl, Nat.le_of_ble_eq_true rfl⟩) (zp_V hK hP hD hS hA hG (ci := 10) (q0 := 0) rfl rfl rfl) rfl rfl hl.1 rfl (lv_room (Nat.le_of_ble_eq_true rfl)) dX10_sinkOf_16 ⟨Nat.le_of_ble_eq_true rfl, Nat.le_of_ble_eq_true rfl⟩) (fun r w1 H locs hq9 hP hD hS => ?_)
    obtain ⟨v16_3, hv16_0, hv16_1, rfl, rfl⟩ := hq9
    have hP : va_P D vwCl (wM β δ ms mb mo mp mf mn mi mc mq mr mw mk ml t3_1 ma mx mh) H := hP
    have hD : va_D A (wM β δ ms mb mo mp mf mn mi mc mq mr mw mk ml t3_1 ma mx mh) := hD
    refine lv_goto (tgt := 23) hx hb dX10_sinkOf_19 (by decide) ?_
    exact z_iret hC hr hlk hQ hP hD hS ⟨t3_1, v16_3, (by exact hv3_1), (by first | exact fun _ => hv16_0 | (intro h9; rw [hv3_1] at h9; unfold S_tpt at h9; rw [if_neg hb_6] at h9; exact absurd h9 (by decide))), rfl, rfl⟩ dX10_sinkOf_23

abbrev wz_X10_basinByFollowing : List Cond := .code yX10_basinByFollowing cX10_basinByFollowing 3 (some .int) :: W0
abbrev rm_X10_basinByFollowing : Room := { frames := 6, cells := 0, slots := 0, locals := 136 }
theorem hd_X10_basinByFollowing : yX10_basinByFollowing.cls = RX10 ∧ yX10_basinByFollowing.cls ≠ "java/lang/invoke/MethodHandle" ∧ yX10_basinByFollowing.cls ≠ "java/lang/invoke/VarHandle" ∧ (parseMethodDescriptor yX10_basinByFollowing.desc).map (fun d => d.parameters.length) = some 2 := by decide +kernel
set_option maxHeartbeats 4000000 in
set_option maxRecDepth 100000 in
theorem c_X10_basinByFollowing (l : Launch) (D : va_G) (τ : Nat → Nat) (β : Nat → Nat) (δ : Nat → ClassId) (ms : IA) (mb : IA) (mo : IA) (mp : BA) (mf : IA) (mn : IA) (mi : IA) (mc : IA) (mq : BA) (mr : IA) (mw : IA) (mk : Int) (ml : Int) (mt : Int) (ma : Int) (mx : Bool) (mh : Int64) (r9 : Int) (c9 : Int) (hr9 : -2147483648 ≤ r9 ∧ r9 < 2147483648) (hc9 : -2147483648 ≤ c9 ∧ c9 < 2147483648) (hms : ∀ k, 0 ≤ k → k < 49 → 0 ≤ ms k ∧ ms k ≤ 99) : cM l yX10_basinByFollowing wz_X10_basinByFollowing rm_X10_basinByFollowing D τ (tyM δ) [.ref (β 0), .int (zI r9), .int (zI c9)] (wM β δ ms mb mo mp mf mn mi mc mq mr mw mk ml mt ma mx mh) (zQi (fun r w => ∃ (t2 : Int), ∃ (v : Int), (t2 = S_tpt r9 c9) ∧ (t2 = 0 → v = S_basin ms (7 * r9 + c9)) ∧ r = zI v ∧ wM β δ ms mb mo mp mf mn mi mc mq mr mw mk ml t2 ma mx mh = w)) := by
  refine z_ofM (cc := cX10_basinByFollowing) (maxL := 3) (ret := (some .int)) (by decide +kernel) rfl (Nat.le_of_ble_eq_true rfl) ?_
  intro pg e s m args below meth c hC hr hlk hnm hK hP A hD hG hA hS ls hl Q hQ
  have hx := hC.1
  have hb := hC.2.1
  have hml := hC.2.2.1
  have hown := hC.2.2.2.1
  have hts := hC.2.2.2.2
  have hB : ∀ w ∈ W0, w ∈ wz_X10_basinByFollowing := fun _ h => List.mem_cons_of_mem _ h
  have hW0 : ∀ w ∈ W0, w.before args s = true := fun w h => hts w (hB w h)
  have hl : lv_has ls 3 [(0, .ref (β 0)), (1, .int (zI r9)), (2, .int (zI c9))] := hl
  refine lv_aload_n hx hb dX10_basinByFollowing_0 rfl (lv_at hl 0 rfl) ?_
  refine lv_iload_n hx hb dX10_basinByFollowing_1 rfl (lv_at hl 1 rfl) ?_
  refine lv_iload_n hx hb dX10_basinByFollowing_2 rfl (lv_at hl 2 rfl) ?_
  refine z_calli hP hD hS hA (va_runV (As := [.int (zI r9), .int (zI c9)]) (rest := []) hC (c_X10_isThere l D τ β δ ms mb mo mp mf mn mi mc mq mr mw mk ml mt ma mx mh r9 c9 (by first | assumption | rfl | omega) (by first | assumption | rfl | omega) _) (cwV 2 hts (gV hB wl_X10_120 wn_X10_isThere ws_X10_isThere wi_X10 wc_X10_isThere) rfl rfl rfl hd_X10_isThere ⟨Nat.le_of_ble_eq_true rfl, Nat.le_of_ble_eq_true rfl⟩) (zp_V hK hP hD hS hA hG (ci := 10) (q0 := 0) rfl rfl rfl) rfl rfl hl.1 rfl (lv_room (Nat.le_of_ble_eq_true rfl)) dX10_basinByFollowing_3 ⟨Nat.le_of_ble_eq_true rfl, Nat.le_of_ble_eq_true rfl⟩) (fun r w1 H locs hq9 hP hD hS => ?_)
  obtain ⟨t3_1, v3_2, hv3_0, hv3_1, rfl, rfl⟩ := hq9
  have hP : va_P D vwCl (wM β δ ms mb mo mp mf mn mi mc mq mr mw mk ml t3_1 ma mx mh) H := hP
  have hD : va_D A (wM β δ ms mb mo mp mf mn mi mc mq mr mw mk ml t3_1 ma mx mh) := hD
  refine z_ifeqB (tgt := 22) hx hb dX10_basinByFollowing_6 (by decide) (fun c_6 => ?_) (fun c_6 => ?_)
  · have hb_6 := zb_neg hv3_0 c_6
    refine lv_iconst (v := zI 0) hx hb dX10_basinByFollowing_22 rfl ?_
    exact z_iret hC hr hlk hQ hP hD hS ⟨t3_1, 0, (by exact hv3_1), (by first | exact fun _ => hv16_0 | (intro h9; rw [hv3_1] at h9; unfold S_tpt at h9; rw [if_neg hb_6] at h9; exact absurd h9 (by decide))), rfl, rfl⟩ dX10_basinByFollowing_23
  · have hb_6 := hv3_0.mp c_6
    refine lv_aload_n hx hb dX10_basinByFollowing_9 rfl (lv_at hl 0 rfl) ?_
    refine lv_bipush (v := zI 7) hx hb dX10_basinByFollowing_10 (zI_b8 (by decide)) ?_
    refine lv_iload_n hx hb dX10_basinByFollowing_12 rfl (lv_at hl 1 rfl) ?_
    refine z_imul hx hb dX10_basinByFollowing_13 ?_
    refine lv_iload_n hx hb dX10_basinByFollowing_14 rfl (lv_at hl 2 rfl) ?_
    refine z_iadd hx hb dX10_basinByFollowing_15 ?_
    refine z_calli hP hD hS hA (va_runV (As := [.int (zI ((7 * r9) + c9))]) (rest := []) hC (c_X10_basin l D τ β δ ms mb mo mp mf mn mi mc mq mr mw mk ml t3_1 ma mx mh ((7 * r9) + c9) (by omega) (by first | assumption | rfl | omega) _) (cwV 1 hts (gV hB wl_X10_190 wn_X10_basin ws_X10_basin wi_X10 wc_X10_basin) rfl rfl rfl hd_X10_basin ⟨Nat.le_of_ble_eq_true rfl, Nat.le_of_ble_eq_true rfl⟩) (zp_V hK hP hD hS hA hG (ci := 10) (q0 := 0) rfl rfl rfl) rfl rfl hl.1 rfl (lv_room (Nat.le_of_ble_eq_true rfl)) dX10_basinByFollowing_16 ⟨Nat.le_of_ble_eq_true rfl, Nat.le_of_ble_eq_true rfl⟩) (fun r w1 H locs hq9 hP hD hS => ?_)
    obtain ⟨v16_3, hv16_0, hv16_1, rfl, rfl⟩ := hq9
    have hP : va_P D vwCl (wM β δ ms mb mo mp mf mn mi mc mq mr mw mk ml t3_1 ma mx mh) H := hP
    have hD : va_D A (wM β δ ms mb mo mp mf mn mi mc mq mr mw mk ml t3_1 ma mx mh) := hD
    refine lv_goto (tgt := 23) hx hb dX10_basinByFollowing_19 (by decide) ?_
    exact z_iret hC hr hlk hQ hP hD hS ⟨t3_1, v16_3, (by exact hv3_1), (by first | exact fun _ => hv16_0 | (intro h9; rw [hv3_1] at h9; unfold S_tpt at h9; rw [if_neg hb_6] at h9; exact absurd h9 (by decide))), rfl, rfl⟩ dX10_basinByFollowing_23

abbrev wz_X10_basinByGoingUp : List Cond := .code yX10_basinByGoingUp cX10_basinByGoingUp 3 (some .int) :: W0
abbrev rm_X10_basinByGoingUp : Room := { frames := 6, cells := 0, slots := 0, locals := 136 }
theorem hd_X10_basinByGoingUp : yX10_basinByGoingUp.cls = RX10 ∧ yX10_basinByGoingUp.cls ≠ "java/lang/invoke/MethodHandle" ∧ yX10_basinByGoingUp.cls ≠ "java/lang/invoke/VarHandle" ∧ (parseMethodDescriptor yX10_basinByGoingUp.desc).map (fun d => d.parameters.length) = some 2 := by decide +kernel
set_option maxHeartbeats 4000000 in
set_option maxRecDepth 100000 in
theorem c_X10_basinByGoingUp (l : Launch) (D : va_G) (τ : Nat → Nat) (β : Nat → Nat) (δ : Nat → ClassId) (ms : IA) (mb : IA) (mo : IA) (mp : BA) (mf : IA) (mn : IA) (mi : IA) (mc : IA) (mq : BA) (mr : IA) (mw : IA) (mk : Int) (ml : Int) (mt : Int) (ma : Int) (mx : Bool) (mh : Int64) (r9 : Int) (c9 : Int) (hr9 : -2147483648 ≤ r9 ∧ r9 < 2147483648) (hc9 : -2147483648 ≤ c9 ∧ c9 < 2147483648) (hms : ∀ k, 0 ≤ k → k < 49 → 0 ≤ ms k ∧ ms k ≤ 99) : cM l yX10_basinByGoingUp wz_X10_basinByGoingUp rm_X10_basinByGoingUp D τ (tyM δ) [.ref (β 0), .int (zI r9), .int (zI c9)] (wM β δ ms mb mo mp mf mn mi mc mq mr mw mk ml mt ma mx mh) (zQi (fun r w => ∃ (t2 : Int), ∃ (v : Int), (t2 = S_tpt r9 c9) ∧ (t2 = 0 → v = S_basin ms (7 * r9 + c9)) ∧ r = zI v ∧ wM β δ ms mb mo mp mf mn mi mc mq mr mw mk ml t2 ma mx mh = w)) := by
  refine z_ofM (cc := cX10_basinByGoingUp) (maxL := 3) (ret := (some .int)) (by decide +kernel) rfl (Nat.le_of_ble_eq_true rfl) ?_
  intro pg e s m args below meth c hC hr hlk hnm hK hP A hD hG hA hS ls hl Q hQ
  have hx := hC.1
  have hb := hC.2.1
  have hml := hC.2.2.1
  have hown := hC.2.2.2.1
  have hts := hC.2.2.2.2
  have hB : ∀ w ∈ W0, w ∈ wz_X10_basinByGoingUp := fun _ h => List.mem_cons_of_mem _ h
  have hW0 : ∀ w ∈ W0, w.before args s = true := fun w h => hts w (hB w h)
  have hl : lv_has ls 3 [(0, .ref (β 0)), (1, .int (zI r9)), (2, .int (zI c9))] := hl
  refine lv_aload_n hx hb dX10_basinByGoingUp_0 rfl (lv_at hl 0 rfl) ?_
  refine lv_iload_n hx hb dX10_basinByGoingUp_1 rfl (lv_at hl 1 rfl) ?_
  refine lv_iload_n hx hb dX10_basinByGoingUp_2 rfl (lv_at hl 2 rfl) ?_
  refine z_calli hP hD hS hA (va_runV (As := [.int (zI r9), .int (zI c9)]) (rest := []) hC (c_X10_isThere l D τ β δ ms mb mo mp mf mn mi mc mq mr mw mk ml mt ma mx mh r9 c9 (by first | assumption | rfl | omega) (by first | assumption | rfl | omega) _) (cwV 2 hts (gV hB wl_X10_120 wn_X10_isThere ws_X10_isThere wi_X10 wc_X10_isThere) rfl rfl rfl hd_X10_isThere ⟨Nat.le_of_ble_eq_true rfl, Nat.le_of_ble_eq_true rfl⟩) (zp_V hK hP hD hS hA hG (ci := 10) (q0 := 0) rfl rfl rfl) rfl rfl hl.1 rfl (lv_room (Nat.le_of_ble_eq_true rfl)) dX10_basinByGoingUp_3 ⟨Nat.le_of_ble_eq_true rfl, Nat.le_of_ble_eq_true rfl⟩) (fun r w1 H locs hq9 hP hD hS => ?_)
  obtain ⟨t3_1, v3_2, hv3_0, hv3_1, rfl, rfl⟩ := hq9
  have hP : va_P D vwCl (wM β δ ms mb mo mp mf mn mi mc mq mr mw mk ml t3_1 ma mx mh) H := hP
  have hD : va_D A (wM β δ ms mb mo mp mf mn mi mc mq mr mw mk ml t3_1 ma mx mh) := hD
  refine z_ifeqB (tgt := 22) hx hb dX10_basinByGoingUp_6 (by decide) (fun c_6 => ?_) (fun c_6 => ?_)
  · have hb_6 := zb_neg hv3_0 c_6
    refine lv_iconst (v := zI 0) hx hb dX10_basinByGoingUp_22 rfl ?_
    exact z_iret hC hr hlk hQ hP hD hS ⟨t3_1, 0, (by exact hv3_1), (by first | exact fun _ => hv16_0 | (intro h9; rw [hv3_1] at h9; unfold S_tpt at h9; rw [if_neg hb_6] at h9; exact absurd h9 (by decide))), rfl, rfl⟩ dX10_basinByGoingUp_23
  · have hb_6 := hv3_0.mp c_6
    refine lv_aload_n hx hb dX10_basinByGoingUp_9 rfl (lv_at hl 0 rfl) ?_
    refine lv_bipush (v := zI 7) hx hb dX10_basinByGoingUp_10 (zI_b8 (by decide)) ?_
    refine lv_iload_n hx hb dX10_basinByGoingUp_12 rfl (lv_at hl 1 rfl) ?_
    refine z_imul hx hb dX10_basinByGoingUp_13 ?_
    refine lv_iload_n hx hb dX10_basinByGoingUp_14 rfl (lv_at hl 2 rfl) ?_
    refine z_iadd hx hb dX10_basinByGoingUp_15 ?_
    refine z_calli hP hD hS hA (va_runV (As := [.int (zI ((7 * r9) + c9))]) (rest := []) hC (c_X10_basin l D τ β δ ms mb mo mp mf mn mi mc mq mr mw mk ml t3_1 ma mx mh ((7 * r9) + c9) (by omega) (by first | assumption | rfl | omega) _) (cwV 1 hts (gV hB wl_X10_190 wn_X10_basin ws_X10_basin wi_X10 wc_X10_basin) rfl rfl rfl hd_X10_basin ⟨Nat.le_of_ble_eq_true rfl, Nat.le_of_ble_eq_true rfl⟩) (zp_V hK hP hD hS hA hG (ci := 10) (q0 := 0) rfl rfl rfl) rfl rfl hl.1 rfl (lv_room (Nat.le_of_ble_eq_true rfl)) dX10_basinByGoingUp_16 ⟨Nat.le_of_ble_eq_true rfl, Nat.le_of_ble_eq_true rfl⟩) (fun r w1 H locs hq9 hP hD hS => ?_)
    obtain ⟨v16_3, hv16_0, hv16_1, rfl, rfl⟩ := hq9
    have hP : va_P D vwCl (wM β δ ms mb mo mp mf mn mi mc mq mr mw mk ml t3_1 ma mx mh) H := hP
    have hD : va_D A (wM β δ ms mb mo mp mf mn mi mc mq mr mw mk ml t3_1 ma mx mh) := hD
    refine lv_goto (tgt := 23) hx hb dX10_basinByGoingUp_19 (by decide) ?_
    exact z_iret hC hr hlk hQ hP hD hS ⟨t3_1, v16_3, (by exact hv3_1), (by first | exact fun _ => hv16_0 | (intro h9; rw [hv3_1] at h9; unfold S_tpt at h9; rw [if_neg hb_6] at h9; exact absurd h9 (by decide))), rfl, rfl⟩ dX10_basinByGoingUp_23

abbrev wz_X10_flowAt : List Cond := .code yX10_flowAt cX10_flowAt 3 (some .int) :: W0
abbrev rm_X10_flowAt : Room := { frames := 5, cells := 0, slots := 0, locals := 115 }
theorem hd_X10_flowAt : yX10_flowAt.cls = RX10 ∧ yX10_flowAt.cls ≠ "java/lang/invoke/MethodHandle" ∧ yX10_flowAt.cls ≠ "java/lang/invoke/VarHandle" ∧ (parseMethodDescriptor yX10_flowAt.desc).map (fun d => d.parameters.length) = some 2 := by decide +kernel
set_option maxHeartbeats 4000000 in
set_option maxRecDepth 100000 in
theorem c_X10_flowAt (l : Launch) (D : va_G) (τ : Nat → Nat) (β : Nat → Nat) (δ : Nat → ClassId) (ms : IA) (mb : IA) (mo : IA) (mp : BA) (mf : IA) (mn : IA) (mi : IA) (mc : IA) (mq : BA) (mr : IA) (mw : IA) (mk : Int) (ml : Int) (mt : Int) (ma : Int) (mx : Bool) (mh : Int64) (r9 : Int) (c9 : Int) (hr9 : -2147483648 ≤ r9 ∧ r9 < 2147483648) (hc9 : -2147483648 ≤ c9 ∧ c9 < 2147483648) (hms : ∀ k, 0 ≤ k → k < 49 → 0 ≤ ms k ∧ ms k ≤ 99) : cM l yX10_flowAt wz_X10_flowAt rm_X10_flowAt D τ (tyM δ) [.ref (β 0), .int (zI r9), .int (zI c9)] (wM β δ ms mb mo mp mf mn mi mc mq mr mw mk ml mt ma mx mh) (zQi (fun r w => ∃ (t2 : Int), ∃ (v : Int), (t2 = S_tpt r9 c9) ∧ (t2 = 0 → v = S_flow ms (7 * r9 + c9)) ∧ r = zI v ∧ wM β δ ms mb mo mp mf mn mi mc mq mr mw mk ml t2 ma mx mh = w)) := by
  refine z_ofM (cc := cX10_flowAt) (maxL := 3) (ret := (some .int)) (by decide +kernel) rfl (Nat.le_of_ble_eq_true rfl) ?_
  intro pg e s m args below meth c hC hr hlk hnm hK hP A hD hG hA hS ls hl Q hQ
  have hx := hC.1
  have hb := hC.2.1
  have hml := hC.2.2.1
  have hown := hC.2.2.2.1
  have hts := hC.2.2.2.2
  have hB : ∀ w ∈ W0, w ∈ wz_X10_flowAt := fun _ h => List.mem_cons_of_mem _ h
  have hW0 : ∀ w ∈ W0, w.before args s = true := fun w h => hts w (hB w h)
  have hl : lv_has ls 3 [(0, .ref (β 0)), (1, .int (zI r9)), (2, .int (zI c9))] := hl
  refine lv_aload_n hx hb dX10_flowAt_0 rfl (lv_at hl 0 rfl) ?_
  refine lv_iload_n hx hb dX10_flowAt_1 rfl (lv_at hl 1 rfl) ?_
  refine lv_iload_n hx hb dX10_flowAt_2 rfl (lv_at hl 2 rfl) ?_
  refine z_calli hP hD hS hA (va_runV (As := [.int (zI r9), .int (zI c9)]) (rest := []) hC (c_X10_isThere l D τ β δ ms mb mo mp mf mn mi mc mq mr mw mk ml mt ma mx mh r9 c9 (by first | assumption | rfl | omega) (by first | assumption | rfl | omega) _) (cwV 2 hts (gV hB wl_X10_120 wn_X10_isThere ws_X10_isThere wi_X10 wc_X10_isThere) rfl rfl rfl hd_X10_isThere ⟨Nat.le_of_ble_eq_true rfl, Nat.le_of_ble_eq_true rfl⟩) (zp_V hK hP hD hS hA hG (ci := 10) (q0 := 0) rfl rfl rfl) rfl rfl hl.1 rfl (lv_room (Nat.le_of_ble_eq_true rfl)) dX10_flowAt_3 ⟨Nat.le_of_ble_eq_true rfl, Nat.le_of_ble_eq_true rfl⟩) (fun r w1 H locs hq9 hP hD hS => ?_)
  obtain ⟨t3_1, v3_2, hv3_0, hv3_1, rfl, rfl⟩ := hq9
  have hP : va_P D vwCl (wM β δ ms mb mo mp mf mn mi mc mq mr mw mk ml t3_1 ma mx mh) H := hP
  have hD : va_D A (wM β δ ms mb mo mp mf mn mi mc mq mr mw mk ml t3_1 ma mx mh) := hD
  refine z_ifeqB (tgt := 22) hx hb dX10_flowAt_6 (by decide) (fun c_6 => ?_) (fun c_6 => ?_)
  · have hb_6 := zb_neg hv3_0 c_6
    refine lv_iconst (v := zI 0) hx hb dX10_flowAt_22 rfl ?_
    exact z_iret hC hr hlk hQ hP hD hS ⟨t3_1, 0, (by exact hv3_1), (by first | exact fun _ => hv16_0 | (intro h9; rw [hv3_1] at h9; unfold S_tpt at h9; rw [if_neg hb_6] at h9; exact absurd h9 (by decide))), rfl, rfl⟩ dX10_flowAt_23
  · have hb_6 := hv3_0.mp c_6
    refine lv_aload_n hx hb dX10_flowAt_9 rfl (lv_at hl 0 rfl) ?_
    refine lv_bipush (v := zI 7) hx hb dX10_flowAt_10 (zI_b8 (by decide)) ?_
    refine lv_iload_n hx hb dX10_flowAt_12 rfl (lv_at hl 1 rfl) ?_
    refine z_imul hx hb dX10_flowAt_13 ?_
    refine lv_iload_n hx hb dX10_flowAt_14 rfl (lv_at hl 2 rfl) ?_
    refine z_iadd hx hb dX10_flowAt_15 ?_
    refine z_calli hP hD hS hA (va_runV (As := [.int (zI ((7 * r9) + c9))]) (rest := []) hC (c_X10_flow l D τ β δ ms mb mo mp mf mn mi mc mq mr mw mk ml t3_1 ma mx mh ((7 * r9) + c9) (by omega) (by first | assumption | rfl | omega) _) (cwV 1 hts (gV hB wl_X10_184 wn_X10_flow ws_X10_flow wi_X10 wc_X10_flow) rfl rfl rfl hd_X10_flow ⟨Nat.le_of_ble_eq_true rfl, Nat.le_of_ble_eq_true rfl⟩) (zp_V hK hP hD hS hA hG (ci := 10) (q0 := 0) rfl rfl rfl) rfl rfl hl.1 rfl (lv_room (Nat.le_of_ble_eq_true rfl)) dX10_flowAt_16 ⟨Nat.le_of_ble_eq_true rfl, Nat.le_of_ble_eq_true rfl⟩) (fun r w1 H locs hq9 hP hD hS => ?_)
    obtain ⟨v16_3, hv16_0, hv16_1, rfl, rfl⟩ := hq9
    have hP : va_P D vwCl (wM β δ ms mb mo mp mf mn mi mc mq mr mw mk ml t3_1 ma mx mh) H := hP
    have hD : va_D A (wM β δ ms mb mo mp mf mn mi mc mq mr mw mk ml t3_1 ma mx mh) := hD
    refine lv_goto (tgt := 23) hx hb dX10_flowAt_19 (by decide) ?_
    exact z_iret hC hr hlk hQ hP hD hS ⟨t3_1, v16_3, (by exact hv3_1), (by first | exact fun _ => hv16_0 | (intro h9; rw [hv3_1] at h9; unfold S_tpt at h9; rw [if_neg hb_6] at h9; exact absurd h9 (by decide))), rfl, rfl⟩ dX10_flowAt_23

abbrev wz_X10_stepsToSink : List Cond := .code yX10_stepsToSink cX10_stepsToSink 3 (some .int) :: W0
abbrev rm_X10_stepsToSink : Room := { frames := 5, cells := 0, slots := 0, locals := 115 }
theorem hd_X10_stepsToSink : yX10_stepsToSink.cls = RX10 ∧ yX10_stepsToSink.cls ≠ "java/lang/invoke/MethodHandle" ∧ yX10_stepsToSink.cls ≠ "java/lang/invoke/VarHandle" ∧ (parseMethodDescriptor yX10_stepsToSink.desc).map (fun d => d.parameters.length) = some 2 := by decide +kernel
set_option maxHeartbeats 4000000 in
set_option maxRecDepth 100000 in
theorem c_X10_stepsToSink (l : Launch) (D : va_G) (τ : Nat → Nat) (β : Nat → Nat) (δ : Nat → ClassId) (ms : IA) (mb : IA) (mo : IA) (mp : BA) (mf : IA) (mn : IA) (mi : IA) (mc : IA) (mq : BA) (mr : IA) (mw : IA) (mk : Int) (ml : Int) (mt : Int) (ma : Int) (mx : Bool) (mh : Int64) (r9 : Int) (c9 : Int) (hr9 : -2147483648 ≤ r9 ∧ r9 < 2147483648) (hc9 : -2147483648 ≤ c9 ∧ c9 < 2147483648) (hms : ∀ k, 0 ≤ k → k < 49 → 0 ≤ ms k ∧ ms k ≤ 99) : cM l yX10_stepsToSink wz_X10_stepsToSink rm_X10_stepsToSink D τ (tyM δ) [.ref (β 0), .int (zI r9), .int (zI c9)] (wM β δ ms mb mo mp mf mn mi mc mq mr mw mk ml mt ma mx mh) (zQi (fun r w => ∃ (t2 : Int), ∃ (v : Int), (t2 = S_tpt r9 c9) ∧ (t2 = 0 → v = S_steps ms (7 * r9 + c9)) ∧ r = zI v ∧ wM β δ ms mb mo mp mf mn mi mc mq mr mw mk ml t2 ma mx mh = w)) := by
  refine z_ofM (cc := cX10_stepsToSink) (maxL := 3) (ret := (some .int)) (by decide +kernel) rfl (Nat.le_of_ble_eq_true rfl) ?_
  intro pg e s m args below meth c hC hr hlk hnm hK hP A hD hG hA hS ls hl Q hQ
  have hx := hC.1
  have hb := hC.2.1
  have hml := hC.2.2.1
  have hown := hC.2.2.2.1
  have hts := hC.2.2.2.2
  have hB : ∀ w ∈ W0, w ∈ wz_X10_stepsToSink := fun _ h => List.mem_cons_of_mem _ h
  have hW0 : ∀ w ∈ W0, w.before args s = true := fun w h => hts w (hB w h)
  have hl : lv_has ls 3 [(0, .ref (β 0)), (1, .int (zI r9)), (2, .int (zI c9))] := hl
  refine lv_aload_n hx hb dX10_stepsToSink_0 rfl (lv_at hl 0 rfl) ?_
  refine lv_iload_n hx hb dX10_stepsToSink_1 rfl (lv_at hl 1 rfl) ?_
  refine lv_iload_n hx hb dX10_stepsToSink_2 rfl (lv_at hl 2 rfl) ?_
  refine z_calli hP hD hS hA (va_runV (As := [.int (zI r9), .int (zI c9)]) (rest := []) hC (c_X10_isThere l D τ β δ ms mb mo mp mf mn mi mc mq mr mw mk ml mt ma mx mh r9 c9 (by first | assumption | rfl | omega) (by first | assumption | rfl | omega) _) (cwV 2 hts (gV hB wl_X10_120 wn_X10_isThere ws_X10_isThere wi_X10 wc_X10_isThere) rfl rfl rfl hd_X10_isThere ⟨Nat.le_of_ble_eq_true rfl, Nat.le_of_ble_eq_true rfl⟩) (zp_V hK hP hD hS hA hG (ci := 10) (q0 := 0) rfl rfl rfl) rfl rfl hl.1 rfl (lv_room (Nat.le_of_ble_eq_true rfl)) dX10_stepsToSink_3 ⟨Nat.le_of_ble_eq_true rfl, Nat.le_of_ble_eq_true rfl⟩) (fun r w1 H locs hq9 hP hD hS => ?_)
  obtain ⟨t3_1, v3_2, hv3_0, hv3_1, rfl, rfl⟩ := hq9
  have hP : va_P D vwCl (wM β δ ms mb mo mp mf mn mi mc mq mr mw mk ml t3_1 ma mx mh) H := hP
  have hD : va_D A (wM β δ ms mb mo mp mf mn mi mc mq mr mw mk ml t3_1 ma mx mh) := hD
  refine z_ifeqB (tgt := 22) hx hb dX10_stepsToSink_6 (by decide) (fun c_6 => ?_) (fun c_6 => ?_)
  · have hb_6 := zb_neg hv3_0 c_6
    refine lv_iconst (v := zI 0) hx hb dX10_stepsToSink_22 rfl ?_
    exact z_iret hC hr hlk hQ hP hD hS ⟨t3_1, 0, (by exact hv3_1), (by first | exact fun _ => hv16_0 | (intro h9; rw [hv3_1] at h9; unfold S_tpt at h9; rw [if_neg hb_6] at h9; exact absurd h9 (by decide))), rfl, rfl⟩ dX10_stepsToSink_23
  · have hb_6 := hv3_0.mp c_6
    refine lv_aload_n hx hb dX10_stepsToSink_9 rfl (lv_at hl 0 rfl) ?_
    refine lv_bipush (v := zI 7) hx hb dX10_stepsToSink_10 (zI_b8 (by decide)) ?_
    refine lv_iload_n hx hb dX10_stepsToSink_12 rfl (lv_at hl 1 rfl) ?_
    refine z_imul hx hb dX10_stepsToSink_13 ?_
    refine lv_iload_n hx hb dX10_stepsToSink_14 rfl (lv_at hl 2 rfl) ?_
    refine z_iadd hx hb dX10_stepsToSink_15 ?_
    refine z_calli hP hD hS hA (va_runV (As := [.int (zI ((7 * r9) + c9))]) (rest := []) hC (c_X10_steps l D τ β δ ms mb mo mp mf mn mi mc mq mr mw mk ml t3_1 ma mx mh ((7 * r9) + c9) (by omega) (by first | assumption | rfl | omega) _) (cwV 1 hts (gV hB wl_X10_193 wn_X10_steps ws_X10_steps wi_X10 wc_X10_steps) rfl rfl rfl hd_X10_steps ⟨Nat.le_of_ble_eq_true rfl, Nat.le_of_ble_eq_true rfl⟩) (zp_V hK hP hD hS hA hG (ci := 10) (q0 := 0) rfl rfl rfl) rfl rfl hl.1 rfl (lv_room (Nat.le_of_ble_eq_true rfl)) dX10_stepsToSink_16 ⟨Nat.le_of_ble_eq_true rfl, Nat.le_of_ble_eq_true rfl⟩) (fun r w1 H locs hq9 hP hD hS => ?_)
    obtain ⟨v16_3, hv16_0, hv16_1, rfl, rfl⟩ := hq9
    have hP : va_P D vwCl (wM β δ ms mb mo mp mf mn mi mc mq mr mw mk ml t3_1 ma mx mh) H := hP
    have hD : va_D A (wM β δ ms mb mo mp mf mn mi mc mq mr mw mk ml t3_1 ma mx mh) := hD
    refine lv_goto (tgt := 23) hx hb dX10_stepsToSink_19 (by decide) ?_
    exact z_iret hC hr hlk hQ hP hD hS ⟨t3_1, v16_3, (by exact hv3_1), (by first | exact fun _ => hv16_0 | (intro h9; rw [hv3_1] at h9; unfold S_tpt at h9; rw [if_neg hb_6] at h9; exact absurd h9 (by decide))), rfl, rfl⟩ dX10_stepsToSink_23

abbrev wz_X10_allSinks : List Cond := .code yX10_allSinks cX10_allSinks 3 (some .int) :: W0
abbrev rm_X10_allSinks : Room := { frames := 4, cells := 0, slots := 0, locals := 91 }
theorem hd_X10_allSinks : yX10_allSinks.cls = RX10 ∧ yX10_allSinks.cls ≠ "java/lang/invoke/MethodHandle" ∧ yX10_allSinks.cls ≠ "java/lang/invoke/VarHandle" ∧ (parseMethodDescriptor yX10_allSinks.desc).map (fun d => d.parameters.length) = some 0 := by decide +kernel
set_option maxHeartbeats 4000000 in
set_option maxRecDepth 100000 in
theorem c_X10_allSinks (l : Launch) (D : va_G) (τ : Nat → Nat) (β : Nat → Nat) (δ : Nat → ClassId) (ms : IA) (mb : IA) (mo : IA) (mp : BA) (mf : IA) (mn : IA) (mi : IA) (mc : IA) (mq : BA) (mr : IA) (mw : IA) (mk : Int) (ml : Int) (mt : Int) (ma : Int) (mx : Bool) (mh : Int64) (hms : ∀ k, 0 ≤ k → k < 49 → 0 ≤ ms k ∧ ms k ≤ 99) : cM l yX10_allSinks wz_X10_allSinks rm_X10_allSinks D τ (tyM δ) [.ref (β 0)] (wM β δ ms mb mo mp mf mn mi mc mq mr mw mk ml mt ma mx mh) (zQi (fun r w => ∃ (v : Int), (v = zC (fun k => decide (S_next ms k = -1)) 49) ∧ (0 ≤ v ∧ v ≤ 49) ∧ r = zI v ∧ wM β δ ms mb mo mp mf mn mi mc mq mr mw mk ml mt ma mx mh = w)) := by
  refine z_ofM (cc := cX10_allSinks) (maxL := 3) (ret := (some .int)) (by decide +kernel) rfl (Nat.le_of_ble_eq_true rfl) ?_
  intro pg e s m args below meth c hC hr hlk hnm hK hP A hD hG hA hS ls hl Q hQ
  have hx := hC.1
  have hb := hC.2.1
  have hml := hC.2.2.1
  have hown := hC.2.2.2.1
  have hts := hC.2.2.2.2
  have hB : ∀ w ∈ W0, w ∈ wz_X10_allSinks := fun _ h => List.mem_cons_of_mem _ h
  have hW0 : ∀ w ∈ W0, w.before args s = true := fun w h => hts w (hB w h)
  have hl : lv_has ls 3 [(0, .ref (β 0))] := hl
  refine lv_iconst (v := zI 0) hx hb dX10_allSinks_0 rfl ?_
  refine lv_istore_n (lv' := [(1, .int (zI 0)), (0, .ref (β 0))]) hx hb dX10_allSinks_1 rfl hl (by decide) rfl (fun ls hl => ?_)
  refine lv_iconst (v := zI 0) hx hb dX10_allSinks_2 rfl ?_
  refine lv_istore_n (lv' := [(2, .int (zI 0)), (1, .int (zI 0)), (0, .ref (β 0))]) hx hb dX10_allSinks_3 rfl hl (by decide) rfl (fun ls hl => ?_)
  suffices HL_4 : ∀ (n_4 : Nat), ∀ (g : Int) (i : Int) (H : Heap) (locs : List Loc) (hP : va_P D vwCl (wM β δ ms mb mo mp mf mn mi mc mq mr mw mk ml mt ma mx mh) H) (hD : va_D A (wM β δ ms mb mo mp mf mn mi mc mq mr mw mk ml mt ma mx mh)) (hS : va_S A s.heap H locs) (ls : Array Slot) (hl : lv_has ls 3 [(1, .int (zI g)), (2, .int (zI i)), (0, .ref (β 0))]) (hi : 0 ≤ i ∧ i ≤ 49) (hg : g = zC (fun k => decide (S_next ms k = -1)) i) (hgb : 0 ≤ g ∧ g ≤ i) (hm : (49 - i).toNat < n_4), W pg l e rm_X10_allSinks s m args below meth c H locs 0 0 Q (F0 m 4 ls []) from HL_4 _ 0 0 _ _ hP hD hS _ (lv_sub hl [1, 0, 2] rfl) (by first | assumption | rfl | omega) (by exact (zC_0 _).symm) (by first | assumption | rfl | omega) (Nat.lt_succ_self _)
  intro n_4
  induction n_4 with
  | zero => intro g i H locs hP hD hS ls hl hi hg hgb hm; exact absurd hm (Nat.not_lt_zero _)
  | succ n_4 ih_4 =>
    intro g i H locs hP hD hS ls hl hi hg hgb hm
    refine lv_iload_n hx hb dX10_allSinks_4 rfl (lv_at hl 1 rfl) ?_
    refine lv_bipush (v := zI 49) hx hb dX10_allSinks_5 (zI_b8 (by decide)) ?_
    refine z_icge (tgt := 33) hx hb ⟨by omega, by omega⟩ ⟨by omega, by omega⟩ dX10_allSinks_7 (by decide) (fun c_7 => ?_) (fun c_7 => ?_)
    · refine lv_iload_n hx hb dX10_allSinks_33 rfl (lv_at hl 0 rfl) ?_
      exact z_iret hC hr hlk hQ hP hD hS ⟨g, (by rw [hg, show i = 49 by omega]), (by omega), rfl, rfl⟩ dX10_allSinks_34
    · refine lv_iload_n hx hb dX10_allSinks_10 rfl (lv_at hl 0 rfl) ?_
      refine lv_aload_n hx hb dX10_allSinks_11 rfl (lv_at hl 2 rfl) ?_
      refine lv_iload_n hx hb dX10_allSinks_12 rfl (lv_at hl 1 rfl) ?_
      refine z_calli hP hD hS hA (va_runV (As := [.int (zI i)]) (rest := [.int (zI g)]) hC (c_X10_drain l D τ β δ ms mb mo mp mf mn mi mc mq mr mw mk ml mt ma mx mh i (by first | assumption | rfl | omega) (by first | assumption | rfl | omega) _) (cwV 1 hts (gV hB wl_X10_74 wn_X10_drain ws_X10_drain wi_X10 wc_X10_drain) rfl rfl rfl hd_X10_drain ⟨Nat.le_of_ble_eq_true rfl, Nat.le_of_ble_eq_true rfl⟩) (zp_V hK hP hD hS hA hG (ci := 10) (q0 := 0) rfl rfl rfl) rfl rfl hl.1 rfl (lv_room (Nat.le_of_ble_eq_true rfl)) dX10_allSinks_13 ⟨Nat.le_of_ble_eq_true rfl, Nat.le_of_ble_eq_true rfl⟩) (fun r w1 H locs hq9 hP hD hS => ?_)
      obtain ⟨v13_1, hv13_0, hv13_1, rfl, rfl⟩ := hq9
      have hP : va_P D vwCl (wM β δ ms mb mo mp mf mn mi mc mq mr mw mk ml mt ma mx mh) H := hP
      have hD : va_D A (wM β δ ms mb mo mp mf mn mi mc mq mr mw mk ml mt ma mx mh) := hD
      refine lv_iconst (v := zI (-1)) hx hb dX10_allSinks_16 rfl ?_
      refine z_icne (tgt := 24) hx hb ⟨by omega, by omega⟩ ⟨by omega, by omega⟩ dX10_allSinks_17 (by decide) (fun c_17 => ?_) (fun c_17 => ?_)
      · refine lv_iconst (v := zI 0) hx hb dX10_allSinks_24 rfl ?_
        refine z_iadd hx hb dX10_allSinks_25 ?_
        refine lv_istore_n (lv' := [(1, .int (zI (g + 0))), (2, .int (zI i)), (0, .ref (β 0))]) hx hb dX10_allSinks_26 rfl hl (by decide) rfl (fun ls hl => ?_)
        refine z_iinc (k := 1) (v := i + 1) (lv' := [(2, .int (zI (i + 1))), (1, .int (zI (g + 0))), (0, .ref (β 0))]) hx hb dX10_allSinks_27 hl rfl rfl (by decide) rfl (fun ls hl => ?_)
        refine lv_goto (tgt := 4) hx hb dX10_allSinks_30 (by decide) ?_
        exact ih_4 (g + 0) (i + 1) _ _ hP hD hS _ (lv_sub hl [1, 0, 2] rfl) (by first | assumption | rfl | omega) (by rw [zC_up hi.1, ← hg]; first | (rw [z1_t (decide_eq_true (hv13_0.symm.trans c_17))]; done) | (rw [z1_f (decide_eq_false (fun h9 => c_17 (hv13_0.trans h9)))]; try omega)) (by first | assumption | rfl | omega) (by omega)
      · refine lv_iconst (v := zI 1) hx hb dX10_allSinks_20 rfl ?_
        refine lv_goto (tgt := 25) hx hb dX10_allSinks_21 (by decide) ?_
        refine z_iadd hx hb dX10_allSinks_25 ?_
        refine lv_istore_n (lv' := [(1, .int (zI (g + 1))), (2, .int (zI i)), (0, .ref (β 0))]) hx hb dX10_allSinks_26 rfl hl (by decide) rfl (fun ls hl => ?_)
        refine z_iinc (k := 1) (v := i + 1) (lv' := [(2, .int (zI (i + 1))), (1, .int (zI (g + 1))), (0, .ref (β 0))]) hx hb dX10_allSinks_27 hl rfl rfl (by decide) rfl (fun ls hl => ?_)
        refine lv_goto (tgt := 4) hx hb dX10_allSinks_30 (by decide) ?_
        exact ih_4 (g + 1) (i + 1) _ _ hP hD hS _ (lv_sub hl [1, 0, 2] rfl) (by first | assumption | rfl | omega) (by rw [zC_up hi.1, ← hg]; first | (rw [z1_t (decide_eq_true (hv13_0.symm.trans c_17))]; done) | (rw [z1_f (decide_eq_false (fun h9 => c_17 (hv13_0.trans h9)))]; try omega)) (by first | assumption | rfl | omega) (by omega)

abbrev wz_X10_sinks : List Cond := .code yX10_sinks cX10_sinks 1 (some .int) :: W0
abbrev rm_X10_sinks : Room := { frames := 5, cells := 0, slots := 0, locals := 113 }
theorem hd_X10_sinks : yX10_sinks.cls = RX10 ∧ yX10_sinks.cls ≠ "java/lang/invoke/MethodHandle" ∧ yX10_sinks.cls ≠ "java/lang/invoke/VarHandle" ∧ (parseMethodDescriptor yX10_sinks.desc).map (fun d => d.parameters.length) = some 0 := by decide +kernel
set_option maxHeartbeats 4000000 in
set_option maxRecDepth 100000 in
theorem c_X10_sinks (l : Launch) (D : va_G) (τ : Nat → Nat) (β : Nat → Nat) (δ : Nat → ClassId) (ms : IA) (mb : IA) (mo : IA) (mp : BA) (mf : IA) (mn : IA) (mi : IA) (mc : IA) (mq : BA) (mr : IA) (mw : IA) (mk : Int) (ml : Int) (mt : Int) (ma : Int) (mx : Bool) (mh : Int64) (hms : ∀ k, 0 ≤ k → k < 49 → 0 ≤ ms k ∧ ms k ≤ 99) : cM l yX10_sinks wz_X10_sinks rm_X10_sinks D τ (tyM δ) [.ref (β 0)] (wM β δ ms mb mo mp mf mn mi mc mq mr mw mk ml mt ma mx mh) (zQi (fun r w => ∃ (v : Int), (v = zC (fun k => decide (S_next ms k = -1)) 49) ∧ (0 ≤ v ∧ v ≤ 49) ∧ r = zI v ∧ wM β δ ms mb mo mp mf mn mi mc mq mr mw mk ml 0 ma mx mh = w)) := by
  refine z_ofM (cc := cX10_sinks) (maxL := 1) (ret := (some .int)) (by decide +kernel) rfl (Nat.le_of_ble_eq_true rfl) ?_
  intro pg e s m args below meth c hC hr hlk hnm hK hP A hD hG hA hS ls hl Q hQ
  have hx := hC.1
  have hb := hC.2.1
  have hml := hC.2.2.1
  have hown := hC.2.2.2.1
  have hts := hC.2.2.2.2
  have hB : ∀ w ∈ W0, w ∈ wz_X10_sinks := fun _ h => List.mem_cons_of_mem _ h
  have hW0 : ∀ w ∈ W0, w.before args s = true := fun w h => hts w (hB w h)
  have hl : lv_has ls 1 [(0, .ref (β 0))] := hl
  refine lv_aload_n hx hb dX10_sinks_0 rfl (lv_at hl 0 rfl) ?_
  refine lv_iconst (v := zI 0) hx hb dX10_sinks_1 rfl ?_
  refine va_put (D := D) (ci := 10) (v := .int (zI 0)) (ty := .int) (C := RX10) (T := TX10) (N := 17) hx hb hts (fun w h => List.mem_cons_of_mem _ (wx_X10 w h)) tyX10 tyX10_ok nmX10 hown hK hP hD hS 0 rfl rfl 7 (by decide) (hW0 _ wf_X10_44) (fun _ h9 => h9) rfl (by decide +kernel) rfl rfl (Nat.le_of_ble_eq_true rfl) dX10_sinks_2 (fun H locs hP hD hS => ?_)
  have hP : va_P D vwCl (wM β δ ms mb mo mp mf mn mi mc mq mr mw mk ml 0 ma mx mh) H := hP
  have hD : va_D A (wM β δ ms mb mo mp mf mn mi mc mq mr mw mk ml 0 ma mx mh) := hD
  refine lv_aload_n hx hb dX10_sinks_5 rfl (lv_at hl 0 rfl) ?_
  refine z_calli hP hD hS hA (va_runV (As := []) (rest := []) hC (c_X10_allSinks l D τ β δ ms mb mo mp mf mn mi mc mq mr mw mk ml 0 ma mx mh (by first | assumption | rfl | omega) _) (cwV 0 hts (gV hB wl_X10_196 wn_X10_allSinks ws_X10_allSinks wi_X10 wc_X10_allSinks) rfl rfl rfl hd_X10_allSinks ⟨Nat.le_of_ble_eq_true rfl, Nat.le_of_ble_eq_true rfl⟩) (zp_V hK hP hD hS hA hG (ci := 10) (q0 := 0) rfl rfl rfl) rfl rfl hl.1 rfl (lv_room (Nat.le_of_ble_eq_true rfl)) dX10_sinks_6 ⟨Nat.le_of_ble_eq_true rfl, Nat.le_of_ble_eq_true rfl⟩) (fun r w1 H locs hq9 hP hD hS => ?_)
  obtain ⟨v6_1, hv6_0, hv6_1, rfl, rfl⟩ := hq9
  have hP : va_P D vwCl (wM β δ ms mb mo mp mf mn mi mc mq mr mw mk ml 0 ma mx mh) H := hP
  have hD : va_D A (wM β δ ms mb mo mp mf mn mi mc mq mr mw mk ml 0 ma mx mh) := hD
  exact z_iret hC hr hlk hQ hP hD hS ⟨v6_1, (by first | assumption | rfl | omega), (by first | assumption | rfl | omega), rfl, rfl⟩ dX10_sinks_9

abbrev wz_X10_greatest : List Cond := .code yX10_greatest cX10_greatest 5 (some .int) :: W0
abbrev rm_X10_greatest : Room := { frames := 6, cells := 0, slots := 0, locals := 136 }
theorem hd_X10_greatest : yX10_greatest.cls = RX10 ∧ yX10_greatest.cls ≠ "java/lang/invoke/MethodHandle" ∧ yX10_greatest.cls ≠ "java/lang/invoke/VarHandle" ∧ (parseMethodDescriptor yX10_greatest.desc).map (fun d => d.parameters.length) = some 0 := by decide +kernel
set_option maxHeartbeats 4000000 in
set_option maxRecDepth 100000 in
theorem c_X10_greatest (l : Launch) (D : va_G) (τ : Nat → Nat) (β : Nat → Nat) (δ : Nat → ClassId) (ms : IA) (mb : IA) (mo : IA) (mp : BA) (mf : IA) (mn : IA) (mi : IA) (mc : IA) (mq : BA) (mr : IA) (mw : IA) (mk : Int) (ml : Int) (mt : Int) (ma : Int) (mx : Bool) (mh : Int64) (hms : ∀ k, 0 ≤ k → k < 49 → 0 ≤ ms k ∧ ms k ≤ 99) : cM l yX10_greatest wz_X10_greatest rm_X10_greatest D τ (tyM δ) [.ref (β 0)] (wM β δ ms mb mo mp mf mn mi mc mq mr mw mk ml mt ma mx mh) (zQi (fun r w => ∃ (v : Int), (v = S_arg (S_basin ms) 49) ∧ (0 ≤ v ∧ v < 49) ∧ r = zI v ∧ wM β δ ms mb mo mp mf mn mi mc mq mr mw mk ml mt ma mx mh = w)) := by
  refine z_ofM (cc := cX10_greatest) (maxL := 5) (ret := (some .int)) (by decide +kernel) rfl (Nat.le_of_ble_eq_true rfl) ?_
  intro pg e s m args below meth c hC hr hlk hnm hK hP A hD hG hA hS ls hl Q hQ
  have hx := hC.1
  have hb := hC.2.1
  have hml := hC.2.2.1
  have hown := hC.2.2.2.1
  have hts := hC.2.2.2.2
  have hB : ∀ w ∈ W0, w ∈ wz_X10_greatest := fun _ h => List.mem_cons_of_mem _ h
  have hW0 : ∀ w ∈ W0, w.before args s = true := fun w h => hts w (hB w h)
  have hl : lv_has ls 5 [(0, .ref (β 0))] := hl
  refine lv_iconst (v := zI 0) hx hb dX10_greatest_0 rfl ?_
  refine lv_istore_n (lv' := [(1, .int (zI 0)), (0, .ref (β 0))]) hx hb dX10_greatest_1 rfl hl (by decide) rfl (fun ls hl => ?_)
  refine lv_iconst (v := zI 0) hx hb dX10_greatest_2 rfl ?_
  refine lv_istore_n (lv' := [(2, .int (zI 0)), (1, .int (zI 0)), (0, .ref (β 0))]) hx hb dX10_greatest_3 rfl hl (by decide) rfl (fun ls hl => ?_)
  refine lv_iconst (v := zI 0) hx hb dX10_greatest_4 rfl ?_
  refine lv_istore_n (lv' := [(3, .int (zI 0)), (2, .int (zI 0)), (1, .int (zI 0)), (0, .ref (β 0))]) hx hb dX10_greatest_5 rfl hl (by decide) rfl (fun ls hl => ?_)
  suffices HL_6 : ∀ (n_6 : Nat), ∀ (q : Int) (mz : Int) (i : Int) (H : Heap) (locs : List Loc) (hP : va_P D vwCl (wM β δ ms mb mo mp mf mn mi mc mq mr mw mk ml mt ma mx mh) H) (hD : va_D A (wM β δ ms mb mo mp mf mn mi mc mq mr mw mk ml mt ma mx mh)) (hS : va_S A s.heap H locs) (ls : Array Slot) (hl : lv_has ls 5 [(1, .int (zI q)), (2, .int (zI mz)), (3, .int (zI i)), (0, .ref (β 0))]) (hi : 0 ≤ i ∧ i ≤ 49) (hq : q = S_arg (S_basin ms) i) (hqb : 0 ≤ q ∧ q < 49) (hmo : (i = 0 ∧ mz ≤ S_basin ms 0 ∧ (S_basin ms 0 ≤ mz → mz = S_basin ms 0)) ∨ (1 ≤ i ∧ mz = S_basin ms q)) (hmb : -1 ≤ mz ∧ mz ≤ 49) (hm : (49 - i).toNat < n_6), W pg l e rm_X10_greatest s m args below meth c H locs 0 0 Q (F0 m 6 ls []) from HL_6 _ 0 0 0 _ _ hP hD hS _ (lv_sub hl [2, 1, 0, 3] rfl) (by first | assumption | rfl | omega) (by exact (S_arg_0 _).symm) (by first | assumption | rfl | omega) (by have z9 := S_basin_b ms 0; exact Or.inl ⟨rfl, by omega, fun _ => by omega⟩) (by first | assumption | rfl | omega) (Nat.lt_succ_self _)
  intro n_6
  induction n_6 with
  | zero => intro q mz i H locs hP hD hS ls hl hi hq hqb hmo hmb hm; exact absurd hm (Nat.not_lt_zero _)
  | succ n_6 ih_6 =>
    intro q mz i H locs hP hD hS ls hl hi hq hqb hmo hmb hm
    refine lv_iload_n hx hb dX10_greatest_6 rfl (lv_at hl 2 rfl) ?_
    refine lv_bipush (v := zI 49) hx hb dX10_greatest_7 (zI_b8 (by decide)) ?_
    refine z_icge (tgt := 50) hx hb ⟨by omega, by omega⟩ ⟨by omega, by omega⟩ dX10_greatest_9 (by decide) (fun c_9 => ?_) (fun c_9 => ?_)
    · refine lv_iload_n hx hb dX10_greatest_50 rfl (lv_at hl 0 rfl) ?_
      exact z_iret hC hr hlk hQ hP hD hS ⟨q, (by rw [hq, show i = 49 by omega]), (by omega), rfl, rfl⟩ dX10_greatest_51
    · refine lv_aload_n hx hb dX10_greatest_12 rfl (lv_at hl 3 rfl) ?_
      refine lv_iload_n hx hb dX10_greatest_13 rfl (lv_at hl 2 rfl) ?_
      refine z_calli hP hD hS hA (va_runV (As := [.int (zI i)]) (rest := []) hC (c_X10_basin l D τ β δ ms mb mo mp mf mn mi mc mq mr mw mk ml mt ma mx mh i (by first | assumption | rfl | omega) (by first | assumption | rfl | omega) _) (cwV 1 hts (gV hB wl_X10_190 wn_X10_basin ws_X10_basin wi_X10 wc_X10_basin) rfl rfl rfl hd_X10_basin ⟨Nat.le_of_ble_eq_true rfl, Nat.le_of_ble_eq_true rfl⟩) (zp_V hK hP hD hS hA hG (ci := 10) (q0 := 0) rfl rfl rfl) rfl rfl hl.1 rfl (lv_room (Nat.le_of_ble_eq_true rfl)) dX10_greatest_14 ⟨Nat.le_of_ble_eq_true rfl, Nat.le_of_ble_eq_true rfl⟩) (fun r w1 H locs hq9 hP hD hS => ?_)
      obtain ⟨v14_1, hv14_0, hv14_1, rfl, rfl⟩ := hq9
      have hP : va_P D vwCl (wM β δ ms mb mo mp mf mn mi mc mq mr mw mk ml mt ma mx mh) H := hP
      have hD : va_D A (wM β δ ms mb mo mp mf mn mi mc mq mr mw mk ml mt ma mx mh) := hD
      have hup := arg_up (f := S_basin ms) hi.1 hq hmo
      refine lv_istore (lv' := [(4, .int (zI v14_1)), (1, .int (zI q)), (2, .int (zI mz)), (3, .int (zI i)), (0, .ref (β 0))]) hx hb dX10_greatest_17 hl (by decide) rfl (fun ls hl => ?_)
      refine lv_iload hx hb dX10_greatest_19 (lv_at hl 0 rfl) ?_
      refine lv_iload_n hx hb dX10_greatest_21 rfl (lv_at hl 2 rfl) ?_
      refine z_icle (tgt := 29) hx hb ⟨by omega, by omega⟩ ⟨by omega, by omega⟩ dX10_greatest_22 (by decide) (fun c_22 => ?_) (fun c_22 => ?_)
      · refine lv_iload_n hx hb dX10_greatest_29 rfl (lv_at hl 1 rfl) ?_
        refine lv_istore_n (lv' := [(1, .int (zI q)), (4, .int (zI v14_1)), (2, .int (zI mz)), (3, .int (zI i)), (0, .ref (β 0))]) hx hb dX10_greatest_30 rfl hl (by decide) rfl (fun ls hl => ?_)
        refine lv_iload hx hb dX10_greatest_31 (lv_at hl 1 rfl) ?_
        refine lv_iload_n hx hb dX10_greatest_33 rfl (lv_at hl 2 rfl) ?_
        refine z_icle (tgt := 42) hx hb ⟨by omega, by omega⟩ ⟨by omega, by omega⟩ dX10_greatest_34 (by decide) (fun c_34 => ?_) (fun c_34 => ?_)
        · refine lv_iload_n hx hb dX10_greatest_42 rfl (lv_at hl 2 rfl) ?_
          refine lv_istore_n (lv' := [(2, .int (zI mz)), (1, .int (zI q)), (4, .int (zI v14_1)), (3, .int (zI i)), (0, .ref (β 0))]) hx hb dX10_greatest_43 rfl hl (by decide) rfl (fun ls hl => ?_)
          refine z_iinc (k := 3) (v := i + 1) (lv' := [(3, .int (zI (i + 1))), (2, .int (zI mz)), (1, .int (zI q)), (4, .int (zI v14_1)), (0, .ref (β 0))]) hx hb dX10_greatest_44 hl rfl rfl (by decide) rfl (fun ls hl => ?_)
          refine lv_goto (tgt := 6) hx hb dX10_greatest_47 (by decide) ?_
          exact ih_6 q mz (i + 1) _ _ hP hD hS _ (lv_sub hl [2, 1, 0, 4] rfl) (by first | assumption | rfl | omega) (by rw [hv14_0] at c_22; first | exact (hup.1 c_22).1 | exact (hup.2 (Int.not_lt.mpr c_22)).1) (by first | assumption | rfl | omega) (by refine Or.inr ⟨by omega, ?_⟩; first | exact hv14_0 | (rw [hv14_0] at c_22; exact (hup.2 (Int.not_lt.mpr c_22)).2)) (by first | assumption | rfl | omega) (by omega)
        · exact absurd c_34 (by omega)
      · refine lv_iload_n hx hb dX10_greatest_25 rfl (lv_at hl 3 rfl) ?_
        refine lv_goto (tgt := 30) hx hb dX10_greatest_26 (by decide) ?_
        refine lv_istore_n (lv' := [(1, .int (zI i)), (4, .int (zI v14_1)), (2, .int (zI mz)), (3, .int (zI i)), (0, .ref (β 0))]) hx hb dX10_greatest_30 rfl hl (by decide) rfl (fun ls hl => ?_)
        refine lv_iload hx hb dX10_greatest_31 (lv_at hl 1 rfl) ?_
        refine lv_iload_n hx hb dX10_greatest_33 rfl (lv_at hl 2 rfl) ?_
        refine z_icle (tgt := 42) hx hb ⟨by omega, by omega⟩ ⟨by omega, by omega⟩ dX10_greatest_34 (by decide) (fun c_34 => ?_) (fun c_34 => ?_)
        · exact absurd c_34 (by omega)
        · refine lv_iload hx hb dX10_greatest_37 (lv_at hl 1 rfl) ?_
          refine lv_goto (tgt := 43) hx hb dX10_greatest_39 (by decide) ?_
          refine lv_istore_n (lv' := [(2, .int (zI v14_1)), (1, .int (zI i)), (4, .int (zI v14_1)), (3, .int (zI i)), (0, .ref (β 0))]) hx hb dX10_greatest_43 rfl hl (by decide) rfl (fun ls hl => ?_)
          refine z_iinc (k := 3) (v := i + 1) (lv' := [(3, .int (zI (i + 1))), (2, .int (zI v14_1)), (1, .int (zI i)), (4, .int (zI v14_1)), (0, .ref (β 0))]) hx hb dX10_greatest_44 hl rfl rfl (by decide) rfl (fun ls hl => ?_)
          refine lv_goto (tgt := 6) hx hb dX10_greatest_47 (by decide) ?_
          exact ih_6 i v14_1 (i + 1) _ _ hP hD hS _ (lv_sub hl [2, 1, 0, 4] rfl) (by first | assumption | rfl | omega) (by rw [hv14_0] at c_22; first | exact (hup.1 c_22).1 | exact (hup.2 (Int.not_lt.mpr c_22)).1) (by first | assumption | rfl | omega) (by refine Or.inr ⟨by omega, ?_⟩; first | exact hv14_0 | (rw [hv14_0] at c_22; exact (hup.2 (Int.not_lt.mpr c_22)).2)) (by first | assumption | rfl | omega) (by omega)

abbrev wz_X10_greatestBasin : List Cond := .code yX10_greatestBasin cX10_greatestBasin 1 (some .int) :: W0
abbrev rm_X10_greatestBasin : Room := { frames := 7, cells := 0, slots := 0, locals := 160 }
theorem hd_X10_greatestBasin : yX10_greatestBasin.cls = RX10 ∧ yX10_greatestBasin.cls ≠ "java/lang/invoke/MethodHandle" ∧ yX10_greatestBasin.cls ≠ "java/lang/invoke/VarHandle" ∧ (parseMethodDescriptor yX10_greatestBasin.desc).map (fun d => d.parameters.length) = some 0 := by decide +kernel
set_option maxHeartbeats 4000000 in
set_option maxRecDepth 100000 in
theorem c_X10_greatestBasin (l : Launch) (D : va_G) (τ : Nat → Nat) (β : Nat → Nat) (δ : Nat → ClassId) (ms : IA) (mb : IA) (mo : IA) (mp : BA) (mf : IA) (mn : IA) (mi : IA) (mc : IA) (mq : BA) (mr : IA) (mw : IA) (mk : Int) (ml : Int) (mt : Int) (ma : Int) (mx : Bool) (mh : Int64) (hms : ∀ k, 0 ≤ k → k < 49 → 0 ≤ ms k ∧ ms k ≤ 99) : cM l yX10_greatestBasin wz_X10_greatestBasin rm_X10_greatestBasin D τ (tyM δ) [.ref (β 0)] (wM β δ ms mb mo mp mf mn mi mc mq mr mw mk ml mt ma mx mh) (zQi (fun r w => ∃ (v : Int), (v = S_arg (S_basin ms) 49) ∧ (0 ≤ v ∧ v < 49) ∧ r = zI v ∧ wM β δ ms mb mo mp mf mn mi mc mq mr mw mk ml 0 ma mx mh = w)) := by
  refine z_ofM (cc := cX10_greatestBasin) (maxL := 1) (ret := (some .int)) (by decide +kernel) rfl (Nat.le_of_ble_eq_true rfl) ?_
  intro pg e s m args below meth c hC hr hlk hnm hK hP A hD hG hA hS ls hl Q hQ
  have hx := hC.1
  have hb := hC.2.1
  have hml := hC.2.2.1
  have hown := hC.2.2.2.1
  have hts := hC.2.2.2.2
  have hB : ∀ w ∈ W0, w ∈ wz_X10_greatestBasin := fun _ h => List.mem_cons_of_mem _ h
  have hW0 : ∀ w ∈ W0, w.before args s = true := fun w h => hts w (hB w h)
  have hl : lv_has ls 1 [(0, .ref (β 0))] := hl
  refine lv_aload_n hx hb dX10_greatestBasin_0 rfl (lv_at hl 0 rfl) ?_
  refine lv_iconst (v := zI 0) hx hb dX10_greatestBasin_1 rfl ?_
  refine va_put (D := D) (ci := 10) (v := .int (zI 0)) (ty := .int) (C := RX10) (T := TX10) (N := 17) hx hb hts (fun w h => List.mem_cons_of_mem _ (wx_X10 w h)) tyX10 tyX10_ok nmX10 hown hK hP hD hS 0 rfl rfl 7 (by decide) (hW0 _ wf_X10_44) (fun _ h9 => h9) rfl (by decide +kernel) rfl rfl (Nat.le_of_ble_eq_true rfl) dX10_greatestBasin_2 (fun H locs hP hD hS => ?_)
  have hP : va_P D vwCl (wM β δ ms mb mo mp mf mn mi mc mq mr mw mk ml 0 ma mx mh) H := hP
  have hD : va_D A (wM β δ ms mb mo mp mf mn mi mc mq mr mw mk ml 0 ma mx mh) := hD
  refine lv_aload_n hx hb dX10_greatestBasin_5 rfl (lv_at hl 0 rfl) ?_
  refine z_calli hP hD hS hA (va_runV (As := []) (rest := []) hC (c_X10_greatest l D τ β δ ms mb mo mp mf mn mi mc mq mr mw mk ml 0 ma mx mh (by first | assumption | rfl | omega) _) (cwV 0 hts (gV hB wl_X10_199 wn_X10_greatest ws_X10_greatest wi_X10 wc_X10_greatest) rfl rfl rfl hd_X10_greatest ⟨Nat.le_of_ble_eq_true rfl, Nat.le_of_ble_eq_true rfl⟩) (zp_V hK hP hD hS hA hG (ci := 10) (q0 := 0) rfl rfl rfl) rfl rfl hl.1 rfl (lv_room (Nat.le_of_ble_eq_true rfl)) dX10_greatestBasin_6 ⟨Nat.le_of_ble_eq_true rfl, Nat.le_of_ble_eq_true rfl⟩) (fun r w1 H locs hq9 hP hD hS => ?_)
  obtain ⟨v6_1, hv6_0, hv6_1, rfl, rfl⟩ := hq9
  have hP : va_P D vwCl (wM β δ ms mb mo mp mf mn mi mc mq mr mw mk ml 0 ma mx mh) H := hP
  have hD : va_D A (wM β δ ms mb mo mp mf mn mi mc mq mr mw mk ml 0 ma mx mh) := hD
  exact z_iret hC hr hlk hQ hP hD hS ⟨v6_1, (by first | assumption | rfl | omega), (by first | assumption | rfl | omega), rfl, rfl⟩ dX10_greatestBasin_9

