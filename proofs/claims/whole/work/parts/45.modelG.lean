abbrev wz_X10_joins : List Cond := .code yX10_joins cX10_joins 6 none :: W0
abbrev rm_X10_joins : Room := { frames := 0, cells := 0, slots := 0, locals := 0 }
theorem hd_X10_joins : yX10_joins.cls = RX10 ∧ yX10_joins.cls ≠ "java/lang/invoke/MethodHandle" ∧ yX10_joins.cls ≠ "java/lang/invoke/VarHandle" ∧ (parseMethodDescriptor yX10_joins.desc).map (fun d => d.parameters.length) = some 2 := by decide +kernel
set_option maxHeartbeats 4000000 in
set_option maxRecDepth 100000 in
theorem c_X10_joins (l : Launch) (D : va_G) (τ : Nat → Nat) (β : Nat → Nat) (δ : Nat → ClassId) (ms : IA) (mb : IA) (mo : IA) (mp : BA) (mf : IA) (mn : IA) (mi : IA) (mc : IA) (mq : BA) (mr : IA) (mw : IA) (mk : Int) (ml : Int) (mt : Int) (ma : Int) (mx : Bool) (mh : Int64) (a1 : Int) (b1 : Int) (ha : 0 ≤ a1 ∧ a1 < 84) (hb2 : 0 ≤ b1 ∧ b1 < 84) (hmi : ∀ k, 0 ≤ k → k < 84 → -1 ≤ mi k ∧ mi k ≤ 83) : cM l yX10_joins wz_X10_joins rm_X10_joins D τ (tyM δ) [.ref (β 0), .int (zI a1), .int (zI b1)] (wM β δ ms mb mo mp mf mn mi mc mq mr mw mk ml mt ma mx mh) (zQv (fun w => ∃ (m2 : IA), (m2 = jn mi a1 b1) ∧ wM β δ ms mb mo mp mf mn m2 mc mq mr mw mk ml mt ma mx mh = w)) := by
  refine z_ofM (cc := cX10_joins) (maxL := 6) (ret := none) (by decide +kernel) rfl (Nat.le_of_ble_eq_true rfl) ?_
  intro pg e s m args below meth c hC hr hlk hnm hK hP A hD hG hA hS ls hl Q hQ
  have hx := hC.1
  have hb := hC.2.1
  have hml := hC.2.2.1
  have hown := hC.2.2.2.1
  have hts := hC.2.2.2.2
  have hB : ∀ w ∈ W0, w ∈ wz_X10_joins := fun _ h => List.mem_cons_of_mem _ h
  have hW0 : ∀ w ∈ W0, w.before args s = true := fun w h => hts w (hB w h)
  have hl : lv_has ls 6 [(0, .ref (β 0)), (1, .int (zI a1)), (2, .int (zI b1))] := hl
  have hma := hmi a1 ha.1 ha.2
  have hmb := hmi b1 hb2.1 hb2.2
  refine lv_aload_n hx hb dX10_joins_0 rfl (lv_at hl 0 rfl) ?_
  refine va_get (D := D) (ci := 10) (v := .ref (β 7)) (C := RX10) (T := TX10) (N := 17) hx hb hts (fun w h => List.mem_cons_of_mem _ (wx_X10 w h)) hown hK hP 0 rfl rfl 11 (by decide) (hW0 _ wf_X10_29) (fun _ h9 => h9) rfl dX10_joins_1 ?_
  refine lv_iload_n hx hb dX10_joins_4 rfl (lv_at hl 1 rfl) ?_
  refine z_iald (f := mi) hx hb hK hP 7 6 rfl rfl ⟨⟨by omega, by omega⟩, by decide⟩ dX10_joins_5 ?_
  refine lv_istore_n (lv' := [(3, .int (zI (mi a1))), (0, .ref (β 0)), (1, .int (zI a1)), (2, .int (zI b1))]) hx hb dX10_joins_6 rfl hl (by decide) rfl (fun ls hl => ?_)
  refine lv_aload_n hx hb dX10_joins_7 rfl (lv_at hl 1 rfl) ?_
  refine va_get (D := D) (ci := 10) (v := .ref (β 7)) (C := RX10) (T := TX10) (N := 17) hx hb hts (fun w h => List.mem_cons_of_mem _ (wx_X10 w h)) hown hK hP 0 rfl rfl 11 (by decide) (hW0 _ wf_X10_29) (fun _ h9 => h9) rfl dX10_joins_8 ?_
  refine lv_iload_n hx hb dX10_joins_11 rfl (lv_at hl 3 rfl) ?_
  refine z_iald (f := mi) hx hb hK hP 7 6 rfl rfl ⟨⟨by omega, by omega⟩, by decide⟩ dX10_joins_12 ?_
  refine lv_istore (lv' := [(4, .int (zI (mi b1))), (3, .int (zI (mi a1))), (0, .ref (β 0)), (1, .int (zI a1)), (2, .int (zI b1))]) hx hb dX10_joins_13 hl (by decide) rfl (fun ls hl => ?_)
  refine lv_iconst (v := zI 0) hx hb dX10_joins_15 rfl ?_
  refine lv_istore (lv' := [(5, .int (zI 0)), (4, .int (zI (mi b1))), (3, .int (zI (mi a1))), (0, .ref (β 0)), (1, .int (zI a1)), (2, .int (zI b1))]) hx hb dX10_joins_16 hl (by decide) rfl (fun ls hl => ?_)
  suffices HL_18 : ∀ (n_18 : Nat), ∀ (w1 : IA) (i : Int) (H : Heap) (locs : List Loc) (hP : va_P D vwCl (wM β δ ms mb mo mp mf mn w1 mc mq mr mw mk ml mt ma mx mh) H) (hD : va_D A (wM β δ ms mb mo mp mf mn w1 mc mq mr mw mk ml mt ma mx mh)) (hS : va_S A s.heap H locs) (ls : Array Slot) (hl : lv_has ls 6 [(5, .int (zI i)), (4, .int (zI (mi b1))), (3, .int (zI (mi a1))), (0, .ref (β 0)), (1, .int (zI a1)), (2, .int (zI b1))]) (hi : 0 ≤ i ∧ i ≤ 84) (hw1 : w1 = zmix i (fun k => if mi k = mi a1 ∨ mi k = mi b1 then (if mi a1 < mi b1 then mi a1 else mi b1) else mi k) mi) (hm : (84 - i).toNat < n_18), W pg l e rm_X10_joins s m args below meth c H locs 0 0 Q (F0 m 18 ls []) from HL_18 _ mi 0 _ _ hP hD hS _ (lv_sub hl [0, 1, 2, 3, 4, 5] rfl) (by first | assumption | rfl | omega) (by exact (zmix_0 _ _).symm) (Nat.lt_succ_self _)
  intro n_18
  induction n_18 with
  | zero => intro w1 i H locs hP hD hS ls hl hi hw1 hm; exact absurd hm (Nat.not_lt_zero _)
  | succ n_18 ih_18 =>
    intro w1 i H locs hP hD hS ls hl hi hw1 hm
    refine lv_iload hx hb dX10_joins_18 (lv_at hl 0 rfl) ?_
    refine lv_bipush (v := zI 84) hx hb dX10_joins_20 (zI_b8 (by decide)) ?_
    refine z_icge (tgt := 83) hx hb ⟨by omega, by omega⟩ ⟨by omega, by omega⟩ dX10_joins_22 (by decide) (fun c_22 => ?_) (fun c_22 => ?_)
    · exact z_vret hC hr hlk hQ hP hD hS ⟨w1, (by rw [hw1, show i = 84 by omega]; rfl), rfl⟩ dX10_joins_83
    · have hwi : w1 i = mi i := by rw [hw1]; exact zmix_ge (Int.le_refl _)
      have hmi9 := hmi i (by omega) (by omega)
      refine lv_aload_n hx hb dX10_joins_25 rfl (lv_at hl 3 rfl) ?_
      refine va_get (D := D) (ci := 10) (v := .ref (β 7)) (C := RX10) (T := TX10) (N := 17) hx hb hts (fun w h => List.mem_cons_of_mem _ (wx_X10 w h)) hown hK hP 0 rfl rfl 11 (by decide) (hW0 _ wf_X10_29) (fun _ h9 => h9) rfl dX10_joins_26 ?_
      refine lv_iload hx hb dX10_joins_29 (lv_at hl 0 rfl) ?_
      refine lv_aload_n hx hb dX10_joins_31 rfl (lv_at hl 3 rfl) ?_
      refine va_get (D := D) (ci := 10) (v := .ref (β 7)) (C := RX10) (T := TX10) (N := 17) hx hb hts (fun w h => List.mem_cons_of_mem _ (wx_X10 w h)) hown hK hP 0 rfl rfl 11 (by decide) (hW0 _ wf_X10_29) (fun _ h9 => h9) rfl dX10_joins_32 ?_
      refine lv_iload hx hb dX10_joins_35 (lv_at hl 0 rfl) ?_
      refine z_iald (f := w1) hx hb hK hP 7 6 rfl rfl ⟨⟨by omega, by omega⟩, by decide⟩ dX10_joins_37 ?_
      refine lv_iload_n hx hb dX10_joins_38 rfl (lv_at hl 2 rfl) ?_
      refine z_iceq (tgt := 54) hx hb ⟨by omega, by omega⟩ ⟨by omega, by omega⟩ dX10_joins_39 (by decide) (fun c_39 => ?_) (fun c_39 => ?_)
      · refine lv_iload_n hx hb dX10_joins_54 rfl (lv_at hl 2 rfl) ?_
        refine lv_iload hx hb dX10_joins_55 (lv_at hl 1 rfl) ?_
        refine z_icge (tgt := 64) hx hb ⟨by omega, by omega⟩ ⟨by omega, by omega⟩ dX10_joins_57 (by decide) (fun c_57 => ?_) (fun c_57 => ?_)
        · refine lv_iload hx hb dX10_joins_64 (lv_at hl 1 rfl) ?_
          refine lv_goto (tgt := 76) hx hb dX10_joins_66 (by decide) ?_
          refine z_iast (f := w1) (v := mi b1) hx hb hK hP hD hS 7 6 rfl rfl ⟨⟨by omega, by omega⟩, by decide⟩ dX10_joins_76 (fun H locs hP hD hS => ?_)
          have hP : va_P D vwCl (wM β δ ms mb mo mp mf mn ((zu w1 i (mi b1))) mc mq mr mw mk ml mt ma mx mh) H := hP
          have hD : va_D A (wM β δ ms mb mo mp mf mn ((zu w1 i (mi b1))) mc mq mr mw mk ml mt ma mx mh) := hD
          refine z_iinc (k := 0) (v := i + 1) (lv' := [(5, .int (zI (i + 1))), (4, .int (zI (mi b1))), (3, .int (zI (mi a1))), (0, .ref (β 0)), (1, .int (zI a1)), (2, .int (zI b1))]) hx hb dX10_joins_77 hl rfl rfl (by decide) rfl (fun ls hl => ?_)
          refine lv_goto (tgt := 18) hx hb dX10_joins_80 (by decide) ?_
          exact ih_18 (zu w1 i (mi b1)) (i + 1) _ _ hP hD hS _ (lv_sub hl [0, 1, 2, 3, 4, 5] rfl) (by first | assumption | rfl | omega) (by refine (congrArg (fun z => zu z i _) hw1).trans (zmix_up hi.1 ?_); show _ = (if mi i = mi a1 ∨ mi i = mi b1 then (if mi a1 < mi b1 then mi a1 else mi b1) else mi i); first | (rw [if_pos (by omega), if_pos (by omega)]; done) | (rw [if_pos (by omega), if_neg (by omega)]; done) | (rw [if_neg (by omega)]; exact hwi)) (by omega)
        · refine lv_iload_n hx hb dX10_joins_60 rfl (lv_at hl 2 rfl) ?_
          refine lv_goto (tgt := 76) hx hb dX10_joins_61 (by decide) ?_
          refine z_iast (f := w1) (v := mi a1) hx hb hK hP hD hS 7 6 rfl rfl ⟨⟨by omega, by omega⟩, by decide⟩ dX10_joins_76 (fun H locs hP hD hS => ?_)
          have hP : va_P D vwCl (wM β δ ms mb mo mp mf mn ((zu w1 i (mi a1))) mc mq mr mw mk ml mt ma mx mh) H := hP
          have hD : va_D A (wM β δ ms mb mo mp mf mn ((zu w1 i (mi a1))) mc mq mr mw mk ml mt ma mx mh) := hD
          refine z_iinc (k := 0) (v := i + 1) (lv' := [(5, .int (zI (i + 1))), (4, .int (zI (mi b1))), (3, .int (zI (mi a1))), (0, .ref (β 0)), (1, .int (zI a1)), (2, .int (zI b1))]) hx hb dX10_joins_77 hl rfl rfl (by decide) rfl (fun ls hl => ?_)
          refine lv_goto (tgt := 18) hx hb dX10_joins_80 (by decide) ?_
          exact ih_18 (zu w1 i (mi a1)) (i + 1) _ _ hP hD hS _ (lv_sub hl [0, 1, 2, 3, 4, 5] rfl) (by first | assumption | rfl | omega) (by refine (congrArg (fun z => zu z i _) hw1).trans (zmix_up hi.1 ?_); show _ = (if mi i = mi a1 ∨ mi i = mi b1 then (if mi a1 < mi b1 then mi a1 else mi b1) else mi i); first | (rw [if_pos (by omega), if_pos (by omega)]; done) | (rw [if_pos (by omega), if_neg (by omega)]; done) | (rw [if_neg (by omega)]; exact hwi)) (by omega)
      · refine lv_aload_n hx hb dX10_joins_42 rfl (lv_at hl 3 rfl) ?_
        refine va_get (D := D) (ci := 10) (v := .ref (β 7)) (C := RX10) (T := TX10) (N := 17) hx hb hts (fun w h => List.mem_cons_of_mem _ (wx_X10 w h)) hown hK hP 0 rfl rfl 11 (by decide) (hW0 _ wf_X10_29) (fun _ h9 => h9) rfl dX10_joins_43 ?_
        refine lv_iload hx hb dX10_joins_46 (lv_at hl 0 rfl) ?_
        refine z_iald (f := w1) hx hb hK hP 7 6 rfl rfl ⟨⟨by omega, by omega⟩, by decide⟩ dX10_joins_48 ?_
        refine lv_iload hx hb dX10_joins_49 (lv_at hl 1 rfl) ?_
        refine z_icne (tgt := 69) hx hb ⟨by omega, by omega⟩ ⟨by omega, by omega⟩ dX10_joins_51 (by decide) (fun c_51 => ?_) (fun c_51 => ?_)
        · refine lv_aload_n hx hb dX10_joins_69 rfl (lv_at hl 3 rfl) ?_
          refine va_get (D := D) (ci := 10) (v := .ref (β 7)) (C := RX10) (T := TX10) (N := 17) hx hb hts (fun w h => List.mem_cons_of_mem _ (wx_X10 w h)) hown hK hP 0 rfl rfl 11 (by decide) (hW0 _ wf_X10_29) (fun _ h9 => h9) rfl dX10_joins_70 ?_
          refine lv_iload hx hb dX10_joins_73 (lv_at hl 0 rfl) ?_
          refine z_iald (f := w1) hx hb hK hP 7 6 rfl rfl ⟨⟨by omega, by omega⟩, by decide⟩ dX10_joins_75 ?_
          refine z_iast (f := w1) (v := w1 i) hx hb hK hP hD hS 7 6 rfl rfl ⟨⟨by omega, by omega⟩, by decide⟩ dX10_joins_76 (fun H locs hP hD hS => ?_)
          have hP : va_P D vwCl (wM β δ ms mb mo mp mf mn ((zu w1 i (w1 i))) mc mq mr mw mk ml mt ma mx mh) H := hP
          have hD : va_D A (wM β δ ms mb mo mp mf mn ((zu w1 i (w1 i))) mc mq mr mw mk ml mt ma mx mh) := hD
          refine z_iinc (k := 0) (v := i + 1) (lv' := [(5, .int (zI (i + 1))), (4, .int (zI (mi b1))), (3, .int (zI (mi a1))), (0, .ref (β 0)), (1, .int (zI a1)), (2, .int (zI b1))]) hx hb dX10_joins_77 hl rfl rfl (by decide) rfl (fun ls hl => ?_)
          refine lv_goto (tgt := 18) hx hb dX10_joins_80 (by decide) ?_
          exact ih_18 (zu w1 i (w1 i)) (i + 1) _ _ hP hD hS _ (lv_sub hl [0, 1, 2, 3, 4, 5] rfl) (by first | assumption | rfl | omega) (by refine (congrArg (fun z => zu z i _) hw1).trans (zmix_up hi.1 ?_); show _ = (if mi i = mi a1 ∨ mi i = mi b1 then (if mi a1 < mi b1 then mi a1 else mi b1) else mi i); first | (rw [if_pos (by omega), if_pos (by omega)]; done) | (rw [if_pos (by omega), if_neg (by omega)]; done) | (rw [if_neg (by omega)]; exact hwi)) (by omega)
        · refine lv_iload_n hx hb dX10_joins_54 rfl (lv_at hl 2 rfl) ?_
          refine lv_iload hx hb dX10_joins_55 (lv_at hl 1 rfl) ?_
          refine z_icge (tgt := 64) hx hb ⟨by omega, by omega⟩ ⟨by omega, by omega⟩ dX10_joins_57 (by decide) (fun c_57 => ?_) (fun c_57 => ?_)
          · refine lv_iload hx hb dX10_joins_64 (lv_at hl 1 rfl) ?_
            refine lv_goto (tgt := 76) hx hb dX10_joins_66 (by decide) ?_
            refine z_iast (f := w1) (v := mi b1) hx hb hK hP hD hS 7 6 rfl rfl ⟨⟨by omega, by omega⟩, by decide⟩ dX10_joins_76 (fun H locs hP hD hS => ?_)
            have hP : va_P D vwCl (wM β δ ms mb mo mp mf mn ((zu w1 i (mi b1))) mc mq mr mw mk ml mt ma mx mh) H := hP
            have hD : va_D A (wM β δ ms mb mo mp mf mn ((zu w1 i (mi b1))) mc mq mr mw mk ml mt ma mx mh) := hD
            refine z_iinc (k := 0) (v := i + 1) (lv' := [(5, .int (zI (i + 1))), (4, .int (zI (mi b1))), (3, .int (zI (mi a1))), (0, .ref (β 0)), (1, .int (zI a1)), (2, .int (zI b1))]) hx hb dX10_joins_77 hl rfl rfl (by decide) rfl (fun ls hl => ?_)
            refine lv_goto (tgt := 18) hx hb dX10_joins_80 (by decide) ?_
            exact ih_18 (zu w1 i (mi b1)) (i + 1) _ _ hP hD hS _ (lv_sub hl [0, 1, 2, 3, 4, 5] rfl) (by first | assumption | rfl | omega) (by refine (congrArg (fun z => zu z i _) hw1).trans (zmix_up hi.1 ?_); show _ = (if mi i = mi a1 ∨ mi i = mi b1 then (if mi a1 < mi b1 then mi a1 else mi b1) else mi i); first | (rw [if_pos (by omega), if_pos (by omega)]; done) | (rw [if_pos (by omega), if_neg (by omega)]; done) | (rw [if_neg (by omega)]; exact hwi)) (by omega)
          · refine lv_iload_n hx hb dX10_joins_60 rfl (lv_at hl 2 rfl) ?_
            refine lv_goto (tgt := 76) hx hb dX10_joins_61 (by decide) ?_
            refine z_iast (f := w1) (v := mi a1) hx hb hK hP hD hS 7 6 rfl rfl ⟨⟨by omega, by omega⟩, by decide⟩ dX10_joins_76 (fun H locs hP hD hS => ?_)
            have hP : va_P D vwCl (wM β δ ms mb mo mp mf mn ((zu w1 i (mi a1))) mc mq mr mw mk ml mt ma mx mh) H := hP
            have hD : va_D A (wM β δ ms mb mo mp mf mn ((zu w1 i (mi a1))) mc mq mr mw mk ml mt ma mx mh) := hD
            refine z_iinc (k := 0) (v := i + 1) (lv' := [(5, .int (zI (i + 1))), (4, .int (zI (mi b1))), (3, .int (zI (mi a1))), (0, .ref (β 0)), (1, .int (zI a1)), (2, .int (zI b1))]) hx hb dX10_joins_77 hl rfl rfl (by decide) rfl (fun ls hl => ?_)
            refine lv_goto (tgt := 18) hx hb dX10_joins_80 (by decide) ?_
            exact ih_18 (zu w1 i (mi a1)) (i + 1) _ _ hP hD hS _ (lv_sub hl [0, 1, 2, 3, 4, 5] rfl) (by first | assumption | rfl | omega) (by refine (congrArg (fun z => zu z i _) hw1).trans (zmix_up hi.1 ?_); show _ = (if mi i = mi a1 ∨ mi i = mi b1 then (if mi a1 < mi b1 then mi a1 else mi b1) else mi i); first | (rw [if_pos (by omega), if_pos (by omega)]; done) | (rw [if_pos (by omega), if_neg (by omega)]; done) | (rw [if_neg (by omega)]; exact hwi)) (by omega)

abbrev wz_X10_ends : List Cond := .code yX10_ends cX10_ends 2 none :: W0
abbrev rm_X10_ends : Room := { frames := 0, cells := 0, slots := 0, locals := 0 }
theorem hd_X10_ends : yX10_ends.cls = RX10 ∧ yX10_ends.cls ≠ "java/lang/invoke/MethodHandle" ∧ yX10_ends.cls ≠ "java/lang/invoke/VarHandle" ∧ (parseMethodDescriptor yX10_ends.desc).map (fun d => d.parameters.length) = some 1 := by decide +kernel
set_option maxHeartbeats 4000000 in
set_option maxRecDepth 100000 in
theorem c_X10_ends (l : Launch) (D : va_G) (τ : Nat → Nat) (β : Nat → Nat) (δ : Nat → ClassId) (ms : IA) (mb : IA) (mo : IA) (mp : BA) (mf : IA) (mn : IA) (mi : IA) (mc : IA) (mq : BA) (mr : IA) (mw : IA) (mk : Int) (ml : Int) (mt : Int) (ma : Int) (mx : Bool) (mh : Int64) (e1 : Int) (he : 0 ≤ e1 ∧ e1 < 84) (hmi : ∀ k, 0 ≤ k → k < 84 → -1 ≤ mi k ∧ mi k ≤ 83) : cM l yX10_ends wz_X10_ends rm_X10_ends D τ (tyM δ) [.ref (β 0), .int (zI e1)] (wM β δ ms mb mo mp mf mn mi mc mq mr mw mk ml mt ma mx mh) (zQv (fun w => ∃ (q2 : BA), (q2 = if mi e1 = -1 then mq else bu mq (mi e1) true) ∧ wM β δ ms mb mo mp mf mn mi mc q2 mr mw mk ml mt ma mx mh = w)) := by
  refine z_ofM (cc := cX10_ends) (maxL := 2) (ret := none) (by decide +kernel) rfl (Nat.le_of_ble_eq_true rfl) ?_
  intro pg e s m args below meth c hC hr hlk hnm hK hP A hD hG hA hS ls hl Q hQ
  have hx := hC.1
  have hb := hC.2.1
  have hml := hC.2.2.1
  have hown := hC.2.2.2.1
  have hts := hC.2.2.2.2
  have hB : ∀ w ∈ W0, w ∈ wz_X10_ends := fun _ h => List.mem_cons_of_mem _ h
  have hW0 : ∀ w ∈ W0, w.before args s = true := fun w h => hts w (hB w h)
  have hl : lv_has ls 2 [(0, .ref (β 0)), (1, .int (zI e1))] := hl
  refine lv_aload_n hx hb dX10_ends_0 rfl (lv_at hl 0 rfl) ?_
  refine va_get (D := D) (ci := 10) (v := .ref (β 7)) (C := RX10) (T := TX10) (N := 17) hx hb hts (fun w h => List.mem_cons_of_mem _ (wx_X10 w h)) hown hK hP 0 rfl rfl 11 (by decide) (hW0 _ wf_X10_29) (fun _ h9 => h9) rfl dX10_ends_1 ?_
  refine lv_iload_n hx hb dX10_ends_4 rfl (lv_at hl 1 rfl) ?_
  refine z_iald (f := mi) hx hb hK hP 7 6 rfl rfl ⟨⟨by omega, by omega⟩, by decide⟩ dX10_ends_5 ?_
  have hb_5 := hmi e1 (by omega) (by omega)
  refine lv_iconst (v := zI (-1)) hx hb dX10_ends_6 rfl ?_
  refine z_iceq (tgt := 22) hx hb ⟨by omega, by omega⟩ ⟨by omega, by omega⟩ dX10_ends_7 (by decide) (fun c_7 => ?_) (fun c_7 => ?_)
  · exact z_vret hC hr hlk hQ hP hD hS ⟨mq, (by first | (rw [if_pos c_7]; done) | (rw [if_neg c_7]; done)), rfl⟩ dX10_ends_22
  · refine lv_aload_n hx hb dX10_ends_10 rfl (lv_at hl 0 rfl) ?_
    refine va_get (D := D) (ci := 10) (v := .ref (β 9)) (C := RX10) (T := TX10) (N := 17) hx hb hts (fun w h => List.mem_cons_of_mem _ (wx_X10 w h)) hown hK hP 0 rfl rfl 13 (by decide) (hW0 _ wf_X10_35) (fun _ h9 => h9) rfl dX10_ends_11 ?_
    refine lv_aload_n hx hb dX10_ends_14 rfl (lv_at hl 0 rfl) ?_
    refine va_get (D := D) (ci := 10) (v := .ref (β 7)) (C := RX10) (T := TX10) (N := 17) hx hb hts (fun w h => List.mem_cons_of_mem _ (wx_X10 w h)) hown hK hP 0 rfl rfl 11 (by decide) (hW0 _ wf_X10_29) (fun _ h9 => h9) rfl dX10_ends_15 ?_
    refine lv_iload_n hx hb dX10_ends_18 rfl (lv_at hl 1 rfl) ?_
    refine z_iald (f := mi) hx hb hK hP 7 6 rfl rfl ⟨⟨by omega, by omega⟩, by decide⟩ dX10_ends_19 ?_
    have hb_19 := hmi e1 (by omega) (by omega)
    refine lv_iconst (v := zI 1) hx hb dX10_ends_20 rfl ?_
    refine z_zast (f := mq) (v := true) hx hb hK hP hD hS 9 8 rfl rfl ⟨⟨by omega, by omega⟩, by decide⟩ dX10_ends_21 (fun H locs hP hD hS => ?_)
    have hP : va_P D vwCl (wM β δ ms mb mo mp mf mn mi mc ((bu mq (mi e1) true)) mr mw mk ml mt ma mx mh) H := hP
    have hD : va_D A (wM β δ ms mb mo mp mf mn mi mc ((bu mq (mi e1) true)) mr mw mk ml mt ma mx mh) := hD
    exact z_vret hC hr hlk hQ hP hD hS ⟨bu mq (mi e1) true, (by first | (rw [if_pos c_7]; done) | (rw [if_neg c_7]; done)), rfl⟩ dX10_ends_22

abbrev wz_X10_counts : List Cond := .code yX10_counts cX10_counts 10 none :: W0
abbrev rm_X10_counts : Room := { frames := 3, cells := 0, slots := 0, locals := 70 }
theorem hd_X10_counts : yX10_counts.cls = RX10 ∧ yX10_counts.cls ≠ "java/lang/invoke/MethodHandle" ∧ yX10_counts.cls ≠ "java/lang/invoke/VarHandle" ∧ (parseMethodDescriptor yX10_counts.desc).map (fun d => d.parameters.length) = some 1 := by decide +kernel
set_option maxHeartbeats 4000000 in
set_option maxRecDepth 100000 in
theorem c_X10_counts (l : Launch) (D : va_G) (τ : Nat → Nat) (β : Nat → Nat) (δ : Nat → ClassId) (ms : IA) (mb : IA) (mo : IA) (mp : BA) (mf : IA) (mn : IA) (mi : IA) (mc : IA) (mq : BA) (mr : IA) (mw : IA) (mk : Int) (ml : Int) (mt : Int) (ma : Int) (mx : Bool) (mh : Int64) (lv9 : Int) (hlv : 0 ≤ lv9 ∧ lv9 ≤ 98) (hms : ∀ k, 0 ≤ k → k < 49 → 0 ≤ ms k ∧ ms k ≤ 99) (hUF : UF (S_hi ms lv9) 36 mi) : cM l yX10_counts wz_X10_counts rm_X10_counts D τ (tyM δ) [.ref (β 0), .int (zI lv9)] (wM β δ ms mb mo mp mf mn mi mc mq mr mw mk ml mt ma mx mh) (zQv (fun w => ∃ (c2 : IA), ∃ (q2 : BA), (PC (S_hi ms lv9) mi c2 36) ∧ (OP (S_hi ms lv9) mi q2 (Bk 6)) ∧ wM β δ ms mb mo mp mf mn mi c2 q2 mr mw mk ml mt ma mx mh = w)) := by
  refine z_ofM (cc := cX10_counts) (maxL := 10) (ret := none) (by decide +kernel) rfl (Nat.le_of_ble_eq_true rfl) ?_
  intro pg e s m args below meth c hC hr hlk hnm hK hP A hD hG hA hS ls hl Q hQ
  have hx := hC.1
  have hb := hC.2.1
  have hml := hC.2.2.1
  have hown := hC.2.2.2.1
  have hts := hC.2.2.2.2
  have hB : ∀ w ∈ W0, w ∈ wz_X10_counts := fun _ h => List.mem_cons_of_mem _ h
  have hW0 : ∀ w ∈ W0, w.before args s = true := fun w h => hts w (hB w h)
  have hl : lv_has ls 10 [(0, .ref (β 0)), (1, .int (zI lv9))] := hl
  have hmi := UFR_b hUF
  have hX : ∀ e, (0 ≤ e ∧ e < 84) → (S_X (S_hi ms lv9) e = true ↔ mi e ≠ -1) := fun e h => UFR_X hUF h
  refine lv_iconst (v := zI 0) hx hb dX10_counts_0 rfl ?_
  refine lv_istore_n (lv' := [(2, .int (zI 0)), (0, .ref (β 0)), (1, .int (zI lv9))]) hx hb dX10_counts_1 rfl hl (by decide) rfl (fun ls hl => ?_)
  suffices HL_2 : ∀ (n_2 : Nat), ∀ (c1 : IA) (q1 : BA) (i : Int) (H : Heap) (locs : List Loc) (hP : va_P D vwCl (wM β δ ms mb mo mp mf mn mi c1 q1 mr mw mk ml mt ma mx mh) H) (hD : va_D A (wM β δ ms mb mo mp mf mn mi c1 q1 mr mw mk ml mt ma mx mh)) (hS : va_S A s.heap H locs) (ls : Array Slot) (hl : lv_has ls 10 [(2, .int (zI i)), (0, .ref (β 0)), (1, .int (zI lv9))]) (hi : 0 ≤ i ∧ i ≤ 84) (hc1 : ∀ k, 0 ≤ k → k < i → c1 k = 0) (hq1 : ∀ k, 0 ≤ k → k < i → q1 k = false) (hm : (84 - i).toNat < n_2), W pg l e rm_X10_counts s m args below meth c H locs 0 0 Q (F0 m 2 ls []) from HL_2 _ mc mq 0 _ _ hP hD hS _ (lv_sub hl [0, 1, 2] rfl) (by first | assumption | rfl | omega) (by intro k z1 z2; omega) (by intro k z1 z2; omega) (Nat.lt_succ_self _)
  intro n_2
  induction n_2 with
  | zero => intro c1 q1 i H locs hP hD hS ls hl hi hc1 hq1 hm; exact absurd hm (Nat.not_lt_zero _)
  | succ n_2 ih_2 =>
    intro c1 q1 i H locs hP hD hS ls hl hi hc1 hq1 hm
    refine lv_iload_n hx hb dX10_counts_2 rfl (lv_at hl 0 rfl) ?_
    refine lv_bipush (v := zI 84) hx hb dX10_counts_3 (zI_b8 (by decide)) ?_
    refine z_icge (tgt := 28) hx hb ⟨by omega, by omega⟩ ⟨by omega, by omega⟩ dX10_counts_5 (by decide) (fun c_5 => ?_) (fun c_5 => ?_)
    · refine lv_iconst (v := zI 0) hx hb dX10_counts_28 rfl ?_
      refine lv_istore_n (lv' := [(2, .int (zI 0)), (0, .ref (β 0)), (1, .int (zI lv9))]) hx hb dX10_counts_29 rfl hl (by decide) rfl (fun ls hl => ?_)
      suffices HL_30 : ∀ (n_30 : Nat), ∀ (c3 : IA) (r : Int) (H : Heap) (locs : List Loc) (hP : va_P D vwCl (wM β δ ms mb mo mp mf mn mi c3 q1 mr mw mk ml mt ma mx mh) H) (hD : va_D A (wM β δ ms mb mo mp mf mn mi c3 q1 mr mw mk ml mt ma mx mh)) (hS : va_S A s.heap H locs) (ls : Array Slot) (hl : lv_has ls 10 [(2, .int (zI r)), (0, .ref (β 0)), (1, .int (zI lv9))]) (hrr : 0 ≤ r ∧ r ≤ 6) (hP3 : PC (S_hi ms lv9) mi c3 (r * 6)) (hm : (6 - r).toNat < n_30), W pg l e rm_X10_counts s m args below meth c H locs 0 0 Q (F0 m 30 ls []) from HL_30 _ c1 0 _ _ hP hD hS _ (lv_sub hl [0, 1, 2] rfl) (by first | assumption | rfl | omega) (by rw [show (0 : Int) * 6 = 0 from rfl]; exact PC_0 (fun e z1 z2 => hc1 e z1 (by omega))) (Nat.lt_succ_self _)
      intro n_30
      induction n_30 with
      | zero => intro c3 r H locs hP hD hS ls hl hrr hP3 hm; exact absurd hm (Nat.not_lt_zero _)
      | succ n_30 ih_30 =>
        intro c3 r H locs hP hD hS ls hl hrr hP3 hm
        refine lv_iload_n hx hb dX10_counts_30 rfl (lv_at hl 0 rfl) ?_
        refine lv_bipush (v := zI 6) hx hb dX10_counts_31 (zI_b8 (by decide)) ?_
        refine z_icge (tgt := 196) hx hb ⟨by omega, by omega⟩ ⟨by omega, by omega⟩ dX10_counts_33 (by decide) (fun c_33 => ?_) (fun c_33 => ?_)
        · refine lv_iconst (v := zI 0) hx hb dX10_counts_196 rfl ?_
          refine lv_istore_n (lv' := [(2, .int (zI 0)), (0, .ref (β 0)), (1, .int (zI lv9))]) hx hb dX10_counts_197 rfl hl (by decide) rfl (fun ls hl => ?_)
          suffices HL_198 : ∀ (n_198 : Nat), ∀ (q5 : BA) (k : Int) (H : Heap) (locs : List Loc) (hP : va_P D vwCl (wM β δ ms mb mo mp mf mn mi c3 q5 mr mw mk ml mt ma mx mh) H) (hD : va_D A (wM β δ ms mb mo mp mf mn mi c3 q5 mr mw mk ml mt ma mx mh)) (hS : va_S A s.heap H locs) (ls : Array Slot) (hl : lv_has ls 10 [(2, .int (zI k)), (0, .ref (β 0)), (1, .int (zI lv9))]) (hk : 0 ≤ k ∧ k ≤ 6) (hO5 : OP (S_hi ms lv9) mi q5 (Bk k)) (hm : (6 - k).toNat < n_198), W pg l e rm_X10_counts s m args below meth c H locs 0 0 Q (F0 m 198 ls []) from HL_198 _ q1 0 _ _ hP hD hS _ (lv_sub hl [0, 1, 2] rfl) (by first | assumption | rfl | omega) (by exact OP_0 (fun e z1 z2 => hq1 e z1 (by omega))) (Nat.lt_succ_self _)
          intro n_198
          induction n_198 with
          | zero => intro q5 k H locs hP hD hS ls hl hk hO5 hm; exact absurd hm (Nat.not_lt_zero _)
          | succ n_198 ih_198 =>
            intro q5 k H locs hP hD hS ls hl hk hO5 hm
            refine lv_iload_n hx hb dX10_counts_198 rfl (lv_at hl 0 rfl) ?_
            refine lv_bipush (v := zI 6) hx hb dX10_counts_199 (zI_b8 (by decide)) ?_
            refine z_icge (tgt := 248) hx hb ⟨by omega, by omega⟩ ⟨by omega, by omega⟩ dX10_counts_201 (by decide) (fun c_201 => ?_) (fun c_201 => ?_)
            · have hPf := hP3
              rw [show r * 6 = 36 by omega] at hPf
              have hOf := hO5
              rw [show k = 6 by omega] at hOf
              exact z_vret hC hr hlk hQ hP hD hS ⟨c3, q5, (by exact hPf), (by exact hOf), rfl⟩ dX10_counts_248
            · refine lv_aload_n hx hb dX10_counts_204 rfl (lv_at hl 1 rfl) ?_
              refine lv_iconst (v := zI 0) hx hb dX10_counts_205 rfl ?_
              refine lv_iload_n hx hb dX10_counts_206 rfl (lv_at hl 0 rfl) ?_
              refine z_calli hP hD hS hA (va_runS (As := [.int (zI 0), .int (zI k)]) (rest := [.ref (β 0)]) hC (c_X10_right l D τ _ _ 0 k _) (va_cwS 2 hts (gS hB wl_X10_145 wt_X10_right wi_X10 wc_X10_right) rfl rfl rfl hd_X10_right.2 ⟨Nat.le_of_ble_eq_true rfl, Nat.le_of_ble_eq_true rfl⟩) (zp_S hK hP hD hS hA hG) rfl rfl hl.1 rfl (lv_room (Nat.le_of_ble_eq_true rfl)) dX10_counts_207 ⟨Nat.le_of_ble_eq_true rfl, Nat.le_of_ble_eq_true rfl⟩) (fun r w1 H locs hq9 hP hD hS => ?_)
              obtain ⟨v207_1, hv207_0, rfl, rfl⟩ := hq9
              refine z_callv hP hD hS hA (va_runV (As := [.int (zI v207_1)]) (rest := []) hC (c_X10_ends l D τ β δ ms mb mo mp mf mn mi c3 q5 mr mw mk ml mt ma mx mh v207_1 (by first | assumption | rfl | omega) (by exact hmi) _) (cwV 1 hts (gV hB wl_X10_162 wn_X10_ends ws_X10_ends wi_X10 wc_X10_ends) rfl rfl rfl hd_X10_ends ⟨Nat.le_of_ble_eq_true rfl, Nat.le_of_ble_eq_true rfl⟩) (zp_V hK hP hD hS hA hG (ci := 10) (q0 := 0) rfl rfl rfl) rfl rfl hl.1 rfl (lv_room (Nat.le_of_ble_eq_true rfl)) dX10_counts_210 ⟨Nat.le_of_ble_eq_true rfl, Nat.le_of_ble_eq_true rfl⟩) (fun w1 H locs hq9 hP hD hS => ?_)
              obtain ⟨q210_2, hv210_0, rfl⟩ := hq9
              have hP : va_P D vwCl (wM β δ ms mb mo mp mf mn mi c3 q210_2 mr mw mk ml mt ma mx mh) H := hP
              have hD : va_D A (wM β δ ms mb mo mp mf mn mi c3 q210_2 mr mw mk ml mt ma mx mh) := hD
              refine lv_aload_n hx hb dX10_counts_213 rfl (lv_at hl 1 rfl) ?_
              refine lv_bipush (v := zI 6) hx hb dX10_counts_214 (zI_b8 (by decide)) ?_
              refine lv_iload_n hx hb dX10_counts_216 rfl (lv_at hl 0 rfl) ?_
              refine z_calli hP hD hS hA (va_runS (As := [.int (zI 6), .int (zI k)]) (rest := [.ref (β 0)]) hC (c_X10_right l D τ _ _ 6 k _) (va_cwS 2 hts (gS hB wl_X10_145 wt_X10_right wi_X10 wc_X10_right) rfl rfl rfl hd_X10_right.2 ⟨Nat.le_of_ble_eq_true rfl, Nat.le_of_ble_eq_true rfl⟩) (zp_S hK hP hD hS hA hG) rfl rfl hl.1 rfl (lv_room (Nat.le_of_ble_eq_true rfl)) dX10_counts_217 ⟨Nat.le_of_ble_eq_true rfl, Nat.le_of_ble_eq_true rfl⟩) (fun r w1 H locs hq9 hP hD hS => ?_)
              obtain ⟨v217_3, hv217_0, rfl, rfl⟩ := hq9
              refine z_callv hP hD hS hA (va_runV (As := [.int (zI v217_3)]) (rest := []) hC (c_X10_ends l D τ β δ ms mb mo mp mf mn mi c3 q210_2 mr mw mk ml mt ma mx mh v217_3 (by first | assumption | rfl | omega) (by exact hmi) _) (cwV 1 hts (gV hB wl_X10_162 wn_X10_ends ws_X10_ends wi_X10 wc_X10_ends) rfl rfl rfl hd_X10_ends ⟨Nat.le_of_ble_eq_true rfl, Nat.le_of_ble_eq_true rfl⟩) (zp_V hK hP hD hS hA hG (ci := 10) (q0 := 0) rfl rfl rfl) rfl rfl hl.1 rfl (lv_room (Nat.le_of_ble_eq_true rfl)) dX10_counts_220 ⟨Nat.le_of_ble_eq_true rfl, Nat.le_of_ble_eq_true rfl⟩) (fun w1 H locs hq9 hP hD hS => ?_)
              obtain ⟨q220_4, hv220_0, rfl⟩ := hq9
              have hP : va_P D vwCl (wM β δ ms mb mo mp mf mn mi c3 q220_4 mr mw mk ml mt ma mx mh) H := hP
              have hD : va_D A (wM β δ ms mb mo mp mf mn mi c3 q220_4 mr mw mk ml mt ma mx mh) := hD
              refine lv_aload_n hx hb dX10_counts_223 rfl (lv_at hl 1 rfl) ?_
              refine lv_iload_n hx hb dX10_counts_224 rfl (lv_at hl 0 rfl) ?_
              refine lv_iconst (v := zI 0) hx hb dX10_counts_225 rfl ?_
              refine z_calli hP hD hS hA (va_runS (As := [.int (zI k), .int (zI 0)]) (rest := [.ref (β 0)]) hC (c_X10_below l D τ _ _ k 0 _) (va_cwS 2 hts (gS hB wl_X10_148 wt_X10_below wi_X10 wc_X10_below) rfl rfl rfl hd_X10_below.2 ⟨Nat.le_of_ble_eq_true rfl, Nat.le_of_ble_eq_true rfl⟩) (zp_S hK hP hD hS hA hG) rfl rfl hl.1 rfl (lv_room (Nat.le_of_ble_eq_true rfl)) dX10_counts_226 ⟨Nat.le_of_ble_eq_true rfl, Nat.le_of_ble_eq_true rfl⟩) (fun r w1 H locs hq9 hP hD hS => ?_)
              obtain ⟨v226_5, hv226_0, rfl, rfl⟩ := hq9
              refine z_callv hP hD hS hA (va_runV (As := [.int (zI v226_5)]) (rest := []) hC (c_X10_ends l D τ β δ ms mb mo mp mf mn mi c3 q220_4 mr mw mk ml mt ma mx mh v226_5 (by first | assumption | rfl | omega) (by exact hmi) _) (cwV 1 hts (gV hB wl_X10_162 wn_X10_ends ws_X10_ends wi_X10 wc_X10_ends) rfl rfl rfl hd_X10_ends ⟨Nat.le_of_ble_eq_true rfl, Nat.le_of_ble_eq_true rfl⟩) (zp_V hK hP hD hS hA hG (ci := 10) (q0 := 0) rfl rfl rfl) rfl rfl hl.1 rfl (lv_room (Nat.le_of_ble_eq_true rfl)) dX10_counts_229 ⟨Nat.le_of_ble_eq_true rfl, Nat.le_of_ble_eq_true rfl⟩) (fun w1 H locs hq9 hP hD hS => ?_)
              obtain ⟨q229_6, hv229_0, rfl⟩ := hq9
              have hP : va_P D vwCl (wM β δ ms mb mo mp mf mn mi c3 q229_6 mr mw mk ml mt ma mx mh) H := hP
              have hD : va_D A (wM β δ ms mb mo mp mf mn mi c3 q229_6 mr mw mk ml mt ma mx mh) := hD
              refine lv_aload_n hx hb dX10_counts_232 rfl (lv_at hl 1 rfl) ?_
              refine lv_iload_n hx hb dX10_counts_233 rfl (lv_at hl 0 rfl) ?_
              refine lv_bipush (v := zI 6) hx hb dX10_counts_234 (zI_b8 (by decide)) ?_
              refine z_calli hP hD hS hA (va_runS (As := [.int (zI k), .int (zI 6)]) (rest := [.ref (β 0)]) hC (c_X10_below l D τ _ _ k 6 _) (va_cwS 2 hts (gS hB wl_X10_148 wt_X10_below wi_X10 wc_X10_below) rfl rfl rfl hd_X10_below.2 ⟨Nat.le_of_ble_eq_true rfl, Nat.le_of_ble_eq_true rfl⟩) (zp_S hK hP hD hS hA hG) rfl rfl hl.1 rfl (lv_room (Nat.le_of_ble_eq_true rfl)) dX10_counts_236 ⟨Nat.le_of_ble_eq_true rfl, Nat.le_of_ble_eq_true rfl⟩) (fun r w1 H locs hq9 hP hD hS => ?_)
              obtain ⟨v236_7, hv236_0, rfl, rfl⟩ := hq9
              refine z_callv hP hD hS hA (va_runV (As := [.int (zI v236_7)]) (rest := []) hC (c_X10_ends l D τ β δ ms mb mo mp mf mn mi c3 q229_6 mr mw mk ml mt ma mx mh v236_7 (by first | assumption | rfl | omega) (by exact hmi) _) (cwV 1 hts (gV hB wl_X10_162 wn_X10_ends ws_X10_ends wi_X10 wc_X10_ends) rfl rfl rfl hd_X10_ends ⟨Nat.le_of_ble_eq_true rfl, Nat.le_of_ble_eq_true rfl⟩) (zp_V hK hP hD hS hA hG (ci := 10) (q0 := 0) rfl rfl rfl) rfl rfl hl.1 rfl (lv_room (Nat.le_of_ble_eq_true rfl)) dX10_counts_239 ⟨Nat.le_of_ble_eq_true rfl, Nat.le_of_ble_eq_true rfl⟩) (fun w1 H locs hq9 hP hD hS => ?_)
              obtain ⟨q239_8, hv239_0, rfl⟩ := hq9
              have hP : va_P D vwCl (wM β δ ms mb mo mp mf mn mi c3 q239_8 mr mw mk ml mt ma mx mh) H := hP
              have hD : va_D A (wM β δ ms mb mo mp mf mn mi c3 q239_8 mr mw mk ml mt ma mx mh) := hD
              have o1 := OP_set (x := v207_1) (by omega) (hX _ (by omega)) hO5 hv210_0
              have o2 := OP_set (x := v217_3) (by omega) (hX _ (by omega)) o1 hv220_0
              have o3 := OP_set (x := v226_5) (by omega) (hX _ (by omega)) o2 hv229_0
              have o4 := OP_set (x := v236_7) (by omega) (hX _ (by omega)) o3 hv239_0
              refine z_iinc (k := 0) (v := k + 1) (lv' := [(2, .int (zI (k + 1))), (0, .ref (β 0)), (1, .int (zI lv9))]) hx hb dX10_counts_242 hl rfl rfl (by decide) rfl (fun ls hl => ?_)
              refine lv_goto (tgt := 198) hx hb dX10_counts_245 (by decide) ?_
              exact ih_198 q239_8 (k + 1) _ _ hP hD hS _ (lv_sub hl [0, 1, 2] rfl) (by first | assumption | rfl | omega) (by exact OP_cg (fun b _ _ => by simp only [Bk]; omega) o4) (by omega)
        · refine lv_iconst (v := zI 0) hx hb dX10_counts_36 rfl ?_
          refine lv_istore_n (lv' := [(3, .int (zI 0)), (2, .int (zI r)), (0, .ref (β 0)), (1, .int (zI lv9))]) hx hb dX10_counts_37 rfl hl (by decide) rfl (fun ls hl => ?_)
          suffices HL_38 : ∀ (n_38 : Nat), ∀ (c4 : IA) (cc : Int) (H : Heap) (locs : List Loc) (hP : va_P D vwCl (wM β δ ms mb mo mp mf mn mi c4 q1 mr mw mk ml mt ma mx mh) H) (hD : va_D A (wM β δ ms mb mo mp mf mn mi c4 q1 mr mw mk ml mt ma mx mh)) (hS : va_S A s.heap H locs) (ls : Array Slot) (hl : lv_has ls 10 [(3, .int (zI cc)), (2, .int (zI r)), (0, .ref (β 0)), (1, .int (zI lv9))]) (hcc : 0 ≤ cc ∧ cc ≤ 6) (hP4 : PC (S_hi ms lv9) mi c4 (r * 6 + cc)) (hm : (6 - cc).toNat < n_38), W pg l e rm_X10_counts s m args below meth c H locs 0 0 Q (F0 m 38 ls []) from HL_38 _ c3 0 _ _ hP hD hS _ (lv_sub hl [0, 1, 2, 3] rfl) (by first | assumption | rfl | omega) (by rw [show r * 6 + 0 = r * 6 by omega]; exact hP3) (Nat.lt_succ_self _)
          intro n_38
          induction n_38 with
          | zero => intro c4 cc H locs hP hD hS ls hl hcc hP4 hm; exact absurd hm (Nat.not_lt_zero _)
          | succ n_38 ih_38 =>
            intro c4 cc H locs hP hD hS ls hl hcc hP4 hm
            refine lv_iload_n hx hb dX10_counts_38 rfl (lv_at hl 0 rfl) ?_
            refine lv_bipush (v := zI 6) hx hb dX10_counts_39 (zI_b8 (by decide)) ?_
            refine z_icge (tgt := 190) hx hb ⟨by omega, by omega⟩ ⟨by omega, by omega⟩ dX10_counts_41 (by decide) (fun c_41 => ?_) (fun c_41 => ?_)
            · refine z_iinc (k := 1) (v := r + 1) (lv' := [(2, .int (zI (r + 1))), (3, .int (zI cc)), (0, .ref (β 0)), (1, .int (zI lv9))]) hx hb dX10_counts_190 hl rfl rfl (by decide) rfl (fun ls hl => ?_)
              refine lv_goto (tgt := 30) hx hb dX10_counts_193 (by decide) ?_
              exact ih_30 c4 (r + 1) _ _ hP hD hS _ (lv_sub hl [0, 2, 3] rfl) (by first | assumption | rfl | omega) (by rw [show (r + 1) * 6 = r * 6 + cc by omega]; exact hP4) (by omega)
            · refine lv_iload_n hx hb dX10_counts_44 rfl (lv_at hl 1 rfl) ?_
              refine lv_iload_n hx hb dX10_counts_45 rfl (lv_at hl 0 rfl) ?_
              refine z_calli hP hD hS hA (va_runS (As := [.int (zI r), .int (zI cc)]) (rest := []) hC (c_X10_right l D τ _ _ r cc _) (va_cwS 2 hts (gS hB wl_X10_145 wt_X10_right wi_X10 wc_X10_right) rfl rfl rfl hd_X10_right.2 ⟨Nat.le_of_ble_eq_true rfl, Nat.le_of_ble_eq_true rfl⟩) (zp_S hK hP hD hS hA hG) rfl rfl hl.1 rfl (lv_room (Nat.le_of_ble_eq_true rfl)) dX10_counts_46 ⟨Nat.le_of_ble_eq_true rfl, Nat.le_of_ble_eq_true rfl⟩) (fun r w1 H locs hq9 hP hD hS => ?_)
              obtain ⟨v46_9, hv46_0, rfl, rfl⟩ := hq9
              refine lv_istore (lv' := [(4, .int (zI v46_9)), (3, .int (zI cc)), (2, .int (zI r)), (0, .ref (β 0)), (1, .int (zI lv9))]) hx hb dX10_counts_49 hl (by decide) rfl (fun ls hl => ?_)
              refine lv_iload_n hx hb dX10_counts_51 rfl (lv_at hl 2 rfl) ?_
              refine lv_iconst (v := zI 1) hx hb dX10_counts_52 rfl ?_
              refine z_iadd hx hb dX10_counts_53 ?_
              refine lv_iload_n hx hb dX10_counts_54 rfl (lv_at hl 1 rfl) ?_
              refine z_calli hP hD hS hA (va_runS (As := [.int (zI (r + 1)), .int (zI cc)]) (rest := []) hC (c_X10_right l D τ _ _ (r + 1) cc _) (va_cwS 2 hts (gS hB wl_X10_145 wt_X10_right wi_X10 wc_X10_right) rfl rfl rfl hd_X10_right.2 ⟨Nat.le_of_ble_eq_true rfl, Nat.le_of_ble_eq_true rfl⟩) (zp_S hK hP hD hS hA hG) rfl rfl hl.1 rfl (lv_room (Nat.le_of_ble_eq_true rfl)) dX10_counts_55 ⟨Nat.le_of_ble_eq_true rfl, Nat.le_of_ble_eq_true rfl⟩) (fun r w1 H locs hq9 hP hD hS => ?_)
              obtain ⟨v55_10, hv55_0, rfl, rfl⟩ := hq9
              refine lv_istore (lv' := [(5, .int (zI v55_10)), (4, .int (zI v46_9)), (3, .int (zI cc)), (2, .int (zI r)), (0, .ref (β 0)), (1, .int (zI lv9))]) hx hb dX10_counts_58 hl (by decide) rfl (fun ls hl => ?_)
              refine lv_iload_n hx hb dX10_counts_60 rfl (lv_at hl 3 rfl) ?_
              refine lv_iload_n hx hb dX10_counts_61 rfl (lv_at hl 2 rfl) ?_
              refine z_calli hP hD hS hA (va_runS (As := [.int (zI r), .int (zI cc)]) (rest := []) hC (c_X10_below l D τ _ _ r cc _) (va_cwS 2 hts (gS hB wl_X10_148 wt_X10_below wi_X10 wc_X10_below) rfl rfl rfl hd_X10_below.2 ⟨Nat.le_of_ble_eq_true rfl, Nat.le_of_ble_eq_true rfl⟩) (zp_S hK hP hD hS hA hG) rfl rfl hl.1 rfl (lv_room (Nat.le_of_ble_eq_true rfl)) dX10_counts_62 ⟨Nat.le_of_ble_eq_true rfl, Nat.le_of_ble_eq_true rfl⟩) (fun r w1 H locs hq9 hP hD hS => ?_)
              obtain ⟨v62_11, hv62_0, rfl, rfl⟩ := hq9
              refine lv_istore (lv' := [(6, .int (zI v62_11)), (5, .int (zI v55_10)), (4, .int (zI v46_9)), (3, .int (zI cc)), (2, .int (zI r)), (0, .ref (β 0)), (1, .int (zI lv9))]) hx hb dX10_counts_65 hl (by decide) rfl (fun ls hl => ?_)
              refine lv_iload_n hx hb dX10_counts_67 rfl (lv_at hl 4 rfl) ?_
              refine lv_iload_n hx hb dX10_counts_68 rfl (lv_at hl 3 rfl) ?_
              refine lv_iconst (v := zI 1) hx hb dX10_counts_69 rfl ?_
              refine z_iadd hx hb dX10_counts_70 ?_
              refine z_calli hP hD hS hA (va_runS (As := [.int (zI r), .int (zI (cc + 1))]) (rest := []) hC (c_X10_below l D τ _ _ r (cc + 1) _) (va_cwS 2 hts (gS hB wl_X10_148 wt_X10_below wi_X10 wc_X10_below) rfl rfl rfl hd_X10_below.2 ⟨Nat.le_of_ble_eq_true rfl, Nat.le_of_ble_eq_true rfl⟩) (zp_S hK hP hD hS hA hG) rfl rfl hl.1 rfl (lv_room (Nat.le_of_ble_eq_true rfl)) dX10_counts_71 ⟨Nat.le_of_ble_eq_true rfl, Nat.le_of_ble_eq_true rfl⟩) (fun r w1 H locs hq9 hP hD hS => ?_)
              obtain ⟨v71_12, hv71_0, rfl, rfl⟩ := hq9
              refine lv_istore (lv' := [(7, .int (zI v71_12)), (6, .int (zI v62_11)), (5, .int (zI v55_10)), (4, .int (zI v46_9)), (3, .int (zI cc)), (2, .int (zI r)), (0, .ref (β 0)), (1, .int (zI lv9))]) hx hb dX10_counts_74 hl (by decide) rfl (fun ls hl => ?_)
              refine lv_aload_n hx hb dX10_counts_76 rfl (lv_at hl 6 rfl) ?_
              refine lv_iload_n hx hb dX10_counts_77 rfl (lv_at hl 5 rfl) ?_
              refine lv_iload_n hx hb dX10_counts_78 rfl (lv_at hl 4 rfl) ?_
              refine lv_iload_n hx hb dX10_counts_79 rfl (lv_at hl 7 rfl) ?_
              refine z_calli hP hD hS hA (va_runV (As := [.int (zI r), .int (zI cc), .int (zI lv9)]) (rest := []) hC (c_X10_piecesAt l D τ β δ ms mb mo mp mf mn mi c4 q1 mr mw mk ml mt ma mx mh r cc lv9 (by first | assumption | rfl | omega) (by first | assumption | rfl | omega) (by first | assumption | rfl | omega) (by first | assumption | rfl | omega) _) (cwV 3 hts (gV hB wl_X10_151 wn_X10_piecesAt ws_X10_piecesAt wi_X10 wc_X10_piecesAt) rfl rfl rfl hd_X10_piecesAt ⟨Nat.le_of_ble_eq_true rfl, Nat.le_of_ble_eq_true rfl⟩) (zp_V hK hP hD hS hA hG (ci := 10) (q0 := 0) rfl rfl rfl) rfl rfl hl.1 rfl (lv_room (Nat.le_of_ble_eq_true rfl)) dX10_counts_80 ⟨Nat.le_of_ble_eq_true rfl, Nat.le_of_ble_eq_true rfl⟩) (fun r w1 H locs hq9 hP hD hS => ?_)
              obtain ⟨v80_13, hv80_0, hv80_1, rfl, rfl⟩ := hq9
              have hP : va_P D vwCl (wM β δ ms mb mo mp mf mn mi c4 q1 mr mw mk ml mt ma mx mh) H := hP
              have hD : va_D A (wM β δ ms mb mo mp mf mn mi c4 q1 mr mw mk ml mt ma mx mh) := hD
              refine lv_istore (lv' := [(8, .int (zI v80_13)), (7, .int (zI v71_12)), (6, .int (zI v62_11)), (5, .int (zI v55_10)), (4, .int (zI v46_9)), (3, .int (zI cc)), (2, .int (zI r)), (0, .ref (β 0)), (1, .int (zI lv9))]) hx hb dX10_counts_83 hl (by decide) rfl (fun ls hl => ?_)
              have s0 : v46_9 = S_sd (r * 6 + cc) 0 := by unfold S_sd; rw [if_pos rfl]; omega
              have s2 : v55_10 = S_sd (r * 6 + cc) 2 := by unfold S_sd; rw [if_neg (by omega), if_neg (by omega), if_pos rfl]; omega
              have s3 : v62_11 = S_sd (r * 6 + cc) 3 := by unfold S_sd; rw [if_neg (by omega), if_neg (by omega), if_neg (by omega)]; omega
              have s1 : v71_12 = S_sd (r * 6 + cc) 1 := by unfold S_sd; rw [if_neg (by omega), if_pos rfl]; omega
              have hq3 : 0 ≤ (r * 6 + cc) ∧ (r * 6 + cc) < 36 := by omega
              have l4 : 0 ≤ v46_9 ∧ v46_9 < 84 := by omega
              have l5 : 0 ≤ v55_10 ∧ v55_10 < 84 := by omega
              have l6 : 0 ≤ v62_11 ∧ v62_11 < 84 := by omega
              have l7 : 0 ≤ v71_12 ∧ v71_12 < 84 := by omega
              have hpie := hv80_0
              have hen : ∀ (_ : ¬ v80_13 = 2) (_ : ¬ v80_13 = 1), _ := fun z1 z2 => (pie_e (h := ms) (r := r) (c := cc) (L := lv9)).2.2 (fun h9 => z1 (hv80_0.trans h9)) (fun h9 => z2 (hv80_0.trans h9))
              refine lv_iload hx hb dX10_counts_85 (lv_at hl 0 rfl) ?_
              refine lv_iconst (v := zI 2) hx hb dX10_counts_87 rfl ?_
              refine z_icne (tgt := 126) hx hb ⟨by omega, by omega⟩ ⟨by omega, by omega⟩ dX10_counts_88 (by decide) (fun c_88 => ?_) (fun c_88 => ?_)
              · refine lv_iload hx hb dX10_counts_126 (lv_at hl 0 rfl) ?_
                refine lv_iconst (v := zI 1) hx hb dX10_counts_128 rfl ?_
                refine z_icne (tgt := 184) hx hb ⟨by omega, by omega⟩ ⟨by omega, by omega⟩ dX10_counts_129 (by decide) (fun c_129 => ?_) (fun c_129 => ?_)
                · refine z_iinc (k := 5) (v := cc + 1) (lv' := [(3, .int (zI (cc + 1))), (8, .int (zI v80_13)), (7, .int (zI v71_12)), (6, .int (zI v62_11)), (5, .int (zI v55_10)), (4, .int (zI v46_9)), (2, .int (zI r)), (0, .ref (β 0)), (1, .int (zI lv9))]) hx hb dX10_counts_184 hl rfl rfl (by decide) rfl (fun ls hl => ?_)
                  refine lv_goto (tgt := 38) hx hb dX10_counts_187 (by decide) ?_
                  exact ih_38 c4 (cc + 1) _ _ hP hD hS _ (lv_sub hl [0, 6, 7, 8] rfl) (by first | assumption | rfl | omega) (by rw [show r * 6 + (cc + 1) = r * 6 + cc + 1 by omega]; first | exact PC_two hq3.1 hP4 he.1 he.2 (Or.inl hct) | exact PC_one hq3.1 hP4 he.1 he.2 hct1 | exact PC_none hq3.1 hP4 (hen c_88 c_129).1 (hen c_88 c_129).2) (by omega)
                · have he := (pie_e (h := ms) (r := r) (c := cc) (L := lv9)).2.1 (hv80_0.symm.trans c_129)
                  refine lv_aload_n hx hb dX10_counts_132 rfl (lv_at hl 7 rfl) ?_
                  refine va_get (D := D) (ci := 10) (v := .ref (β 7)) (C := RX10) (T := TX10) (N := 17) hx hb hts (fun w h => List.mem_cons_of_mem _ (wx_X10 w h)) hown hK hP 0 rfl rfl 11 (by decide) (hW0 _ wf_X10_29) (fun _ h9 => h9) rfl dX10_counts_133 ?_
                  refine lv_iload hx hb dX10_counts_136 (lv_at hl 4 rfl) ?_
                  refine z_iald (f := mi) hx hb hK hP 7 6 rfl rfl ⟨⟨by omega, by omega⟩, by decide⟩ dX10_counts_138 ?_
                  have hb_138 := hmi v46_9 (by omega) (by omega)
                  refine lv_iconst (v := zI (-1)) hx hb dX10_counts_139 rfl ?_
                  refine z_iceq (tgt := 148) hx hb ⟨by omega, by omega⟩ ⟨by omega, by omega⟩ dX10_counts_140 (by decide) (fun c_140 => ?_) (fun c_140 => ?_)
                  · refine lv_aload_n hx hb dX10_counts_148 rfl (lv_at hl 7 rfl) ?_
                    refine va_get (D := D) (ci := 10) (v := .ref (β 7)) (C := RX10) (T := TX10) (N := 17) hx hb hts (fun w h => List.mem_cons_of_mem _ (wx_X10 w h)) hown hK hP 0 rfl rfl 11 (by decide) (hW0 _ wf_X10_29) (fun _ h9 => h9) rfl dX10_counts_149 ?_
                    refine lv_iload hx hb dX10_counts_152 (lv_at hl 1 rfl) ?_
                    refine z_iald (f := mi) hx hb hK hP 7 6 rfl rfl ⟨⟨by omega, by omega⟩, by decide⟩ dX10_counts_154 ?_
                    have hb_154 := hmi v71_12 (by omega) (by omega)
                    refine lv_iconst (v := zI (-1)) hx hb dX10_counts_155 rfl ?_
                    refine z_iceq (tgt := 164) hx hb ⟨by omega, by omega⟩ ⟨by omega, by omega⟩ dX10_counts_156 (by decide) (fun c_156 => ?_) (fun c_156 => ?_)
                    · refine lv_iload hx hb dX10_counts_164 (lv_at hl 3 rfl) ?_
                      refine lv_istore (lv' := [(9, .int (zI v55_10)), (8, .int (zI v80_13)), (7, .int (zI v71_12)), (6, .int (zI v62_11)), (5, .int (zI v55_10)), (4, .int (zI v46_9)), (3, .int (zI cc)), (2, .int (zI r)), (0, .ref (β 0)), (1, .int (zI lv9))]) hx hb dX10_counts_166 hl (by decide) rfl (fun ls hl => ?_)
                      have h9 : v55_10 = P_a (S_hi ms lv9) (r * 6 + cc) 0 := by rw [(P_one hq3 he.2).1, ← s0, ← s1, ← s2]; first | (rw [if_pos ((hX _ l4).mpr c_140)]; done) | (rw [if_neg (fun z => (hX _ l4).mp z c_140), if_pos ((hX _ l7).mpr c_156)]; done) | (rw [if_neg (fun z => (hX _ l4).mp z c_140), if_neg (fun z => (hX _ l7).mp z c_156)]; done)
                      have hct1 : mi (P_a (S_hi ms lv9) (r * 6 + cc) 0) = mi v55_10 := by rw [h9]
                      have hx9 := (P_X2 hq3 (Or.inl rfl) he.1).1
                      rw [← h9] at hx9
                      have l9 := hx9.1
                      have hcb9 := ((hUF.1 _ hx9.1.1 hx9.1.2).2 hx9.2).1
                      refine lv_aload_n hx hb dX10_counts_168 rfl (lv_at hl 8 rfl) ?_
                      refine va_get (D := D) (ci := 10) (v := .ref (β 8)) (C := RX10) (T := TX10) (N := 17) hx hb hts (fun w h => List.mem_cons_of_mem _ (wx_X10 w h)) hown hK hP 0 rfl rfl 12 (by decide) (hW0 _ wf_X10_32) (fun _ h9 => h9) rfl dX10_counts_169 ?_
                      refine lv_aload_n hx hb dX10_counts_172 rfl (lv_at hl 8 rfl) ?_
                      refine va_get (D := D) (ci := 10) (v := .ref (β 7)) (C := RX10) (T := TX10) (N := 17) hx hb hts (fun w h => List.mem_cons_of_mem _ (wx_X10 w h)) hown hK hP 0 rfl rfl 11 (by decide) (hW0 _ wf_X10_29) (fun _ h9 => h9) rfl dX10_counts_173 ?_
                      refine lv_iload hx hb dX10_counts_176 (lv_at hl 0 rfl) ?_
                      refine z_iald (f := mi) hx hb hK hP 7 6 rfl rfl ⟨⟨by omega, by omega⟩, by decide⟩ dX10_counts_178 ?_
                      have hb_178 := hmi v55_10 (by omega) (by omega)
                      refine lv_dup2_11 hx hb dX10_counts_179 rfl rfl ?_
                      refine z_iald (f := c4) hx hb hK hP 8 7 rfl rfl ⟨⟨by omega, by omega⟩, by decide⟩ dX10_counts_180 ?_
                      refine lv_iconst (v := zI 1) hx hb dX10_counts_181 rfl ?_
                      refine z_iadd hx hb dX10_counts_182 ?_
                      refine z_iast (f := c4) (v := (c4 (mi v55_10)) + 1) hx hb hK hP hD hS 8 7 rfl rfl ⟨⟨by omega, by omega⟩, by decide⟩ dX10_counts_183 (fun H locs hP hD hS => ?_)
                      have hP : va_P D vwCl (wM β δ ms mb mo mp mf mn mi ((zu c4 (mi v55_10) ((c4 (mi v55_10)) + 1))) q1 mr mw mk ml mt ma mx mh) H := hP
                      have hD : va_D A (wM β δ ms mb mo mp mf mn mi ((zu c4 (mi v55_10) ((c4 (mi v55_10)) + 1))) q1 mr mw mk ml mt ma mx mh) := hD
                      refine z_iinc (k := 6) (v := cc + 1) (lv' := [(3, .int (zI (cc + 1))), (9, .int (zI v55_10)), (8, .int (zI v80_13)), (7, .int (zI v71_12)), (6, .int (zI v62_11)), (5, .int (zI v55_10)), (4, .int (zI v46_9)), (2, .int (zI r)), (0, .ref (β 0)), (1, .int (zI lv9))]) hx hb dX10_counts_184 hl rfl rfl (by decide) rfl (fun ls hl => ?_)
                      refine lv_goto (tgt := 38) hx hb dX10_counts_187 (by decide) ?_
                      exact ih_38 (zu c4 (mi v55_10) ((c4 (mi v55_10)) + 1)) (cc + 1) _ _ hP hD hS _ (lv_sub hl [0, 7, 8, 9] rfl) (by first | assumption | rfl | omega) (by rw [show r * 6 + (cc + 1) = r * 6 + cc + 1 by omega]; first | exact PC_two hq3.1 hP4 he.1 he.2 (Or.inl hct) | exact PC_one hq3.1 hP4 he.1 he.2 hct1 | exact PC_none hq3.1 hP4 (hen c_88 c_129).1 (hen c_88 c_129).2) (by omega)
                    · refine lv_iload hx hb dX10_counts_159 (lv_at hl 1 rfl) ?_
                      refine lv_goto (tgt := 166) hx hb dX10_counts_161 (by decide) ?_
                      refine lv_istore (lv' := [(9, .int (zI v71_12)), (8, .int (zI v80_13)), (7, .int (zI v71_12)), (6, .int (zI v62_11)), (5, .int (zI v55_10)), (4, .int (zI v46_9)), (3, .int (zI cc)), (2, .int (zI r)), (0, .ref (β 0)), (1, .int (zI lv9))]) hx hb dX10_counts_166 hl (by decide) rfl (fun ls hl => ?_)
                      have h9 : v71_12 = P_a (S_hi ms lv9) (r * 6 + cc) 0 := by rw [(P_one hq3 he.2).1, ← s0, ← s1, ← s2]; first | (rw [if_pos ((hX _ l4).mpr c_140)]; done) | (rw [if_neg (fun z => (hX _ l4).mp z c_140), if_pos ((hX _ l7).mpr c_156)]; done) | (rw [if_neg (fun z => (hX _ l4).mp z c_140), if_neg (fun z => (hX _ l7).mp z c_156)]; done)
                      have hct1 : mi (P_a (S_hi ms lv9) (r * 6 + cc) 0) = mi v71_12 := by rw [h9]
                      have hx9 := (P_X2 hq3 (Or.inl rfl) he.1).1
                      rw [← h9] at hx9
                      have l9 := hx9.1
                      have hcb9 := ((hUF.1 _ hx9.1.1 hx9.1.2).2 hx9.2).1
                      refine lv_aload_n hx hb dX10_counts_168 rfl (lv_at hl 8 rfl) ?_
                      refine va_get (D := D) (ci := 10) (v := .ref (β 8)) (C := RX10) (T := TX10) (N := 17) hx hb hts (fun w h => List.mem_cons_of_mem _ (wx_X10 w h)) hown hK hP 0 rfl rfl 12 (by decide) (hW0 _ wf_X10_32) (fun _ h9 => h9) rfl dX10_counts_169 ?_
                      refine lv_aload_n hx hb dX10_counts_172 rfl (lv_at hl 8 rfl) ?_
                      refine va_get (D := D) (ci := 10) (v := .ref (β 7)) (C := RX10) (T := TX10) (N := 17) hx hb hts (fun w h => List.mem_cons_of_mem _ (wx_X10 w h)) hown hK hP 0 rfl rfl 11 (by decide) (hW0 _ wf_X10_29) (fun _ h9 => h9) rfl dX10_counts_173 ?_
                      refine lv_iload hx hb dX10_counts_176 (lv_at hl 0 rfl) ?_
                      refine z_iald (f := mi) hx hb hK hP 7 6 rfl rfl ⟨⟨by omega, by omega⟩, by decide⟩ dX10_counts_178 ?_
                      have hb_178 := hmi v71_12 (by omega) (by omega)
                      refine lv_dup2_11 hx hb dX10_counts_179 rfl rfl ?_
                      refine z_iald (f := c4) hx hb hK hP 8 7 rfl rfl ⟨⟨by omega, by omega⟩, by decide⟩ dX10_counts_180 ?_
                      refine lv_iconst (v := zI 1) hx hb dX10_counts_181 rfl ?_
                      refine z_iadd hx hb dX10_counts_182 ?_
                      refine z_iast (f := c4) (v := (c4 (mi v71_12)) + 1) hx hb hK hP hD hS 8 7 rfl rfl ⟨⟨by omega, by omega⟩, by decide⟩ dX10_counts_183 (fun H locs hP hD hS => ?_)
                      have hP : va_P D vwCl (wM β δ ms mb mo mp mf mn mi ((zu c4 (mi v71_12) ((c4 (mi v71_12)) + 1))) q1 mr mw mk ml mt ma mx mh) H := hP
                      have hD : va_D A (wM β δ ms mb mo mp mf mn mi ((zu c4 (mi v71_12) ((c4 (mi v71_12)) + 1))) q1 mr mw mk ml mt ma mx mh) := hD
                      refine z_iinc (k := 6) (v := cc + 1) (lv' := [(3, .int (zI (cc + 1))), (9, .int (zI v71_12)), (8, .int (zI v80_13)), (7, .int (zI v71_12)), (6, .int (zI v62_11)), (5, .int (zI v55_10)), (4, .int (zI v46_9)), (2, .int (zI r)), (0, .ref (β 0)), (1, .int (zI lv9))]) hx hb dX10_counts_184 hl rfl rfl (by decide) rfl (fun ls hl => ?_)
                      refine lv_goto (tgt := 38) hx hb dX10_counts_187 (by decide) ?_
                      exact ih_38 (zu c4 (mi v71_12) ((c4 (mi v71_12)) + 1)) (cc + 1) _ _ hP hD hS _ (lv_sub hl [0, 7, 8, 9] rfl) (by first | assumption | rfl | omega) (by rw [show r * 6 + (cc + 1) = r * 6 + cc + 1 by omega]; first | exact PC_two hq3.1 hP4 he.1 he.2 (Or.inl hct) | exact PC_one hq3.1 hP4 he.1 he.2 hct1 | exact PC_none hq3.1 hP4 (hen c_88 c_129).1 (hen c_88 c_129).2) (by omega)
                  · refine lv_iload hx hb dX10_counts_143 (lv_at hl 4 rfl) ?_
                    refine lv_goto (tgt := 166) hx hb dX10_counts_145 (by decide) ?_
                    refine lv_istore (lv' := [(9, .int (zI v46_9)), (8, .int (zI v80_13)), (7, .int (zI v71_12)), (6, .int (zI v62_11)), (5, .int (zI v55_10)), (4, .int (zI v46_9)), (3, .int (zI cc)), (2, .int (zI r)), (0, .ref (β 0)), (1, .int (zI lv9))]) hx hb dX10_counts_166 hl (by decide) rfl (fun ls hl => ?_)
                    have h9 : v46_9 = P_a (S_hi ms lv9) (r * 6 + cc) 0 := by rw [(P_one hq3 he.2).1, ← s0, ← s1, ← s2]; first | (rw [if_pos ((hX _ l4).mpr c_140)]; done) | (rw [if_neg (fun z => (hX _ l4).mp z c_140), if_pos ((hX _ l7).mpr c_156)]; done) | (rw [if_neg (fun z => (hX _ l4).mp z c_140), if_neg (fun z => (hX _ l7).mp z c_156)]; done)
                    have hct1 : mi (P_a (S_hi ms lv9) (r * 6 + cc) 0) = mi v46_9 := by rw [h9]
                    have hx9 := (P_X2 hq3 (Or.inl rfl) he.1).1
                    rw [← h9] at hx9
                    have l9 := hx9.1
                    have hcb9 := ((hUF.1 _ hx9.1.1 hx9.1.2).2 hx9.2).1
                    refine lv_aload_n hx hb dX10_counts_168 rfl (lv_at hl 8 rfl) ?_
                    refine va_get (D := D) (ci := 10) (v := .ref (β 8)) (C := RX10) (T := TX10) (N := 17) hx hb hts (fun w h => List.mem_cons_of_mem _ (wx_X10 w h)) hown hK hP 0 rfl rfl 12 (by decide) (hW0 _ wf_X10_32) (fun _ h9 => h9) rfl dX10_counts_169 ?_
                    refine lv_aload_n hx hb dX10_counts_172 rfl (lv_at hl 8 rfl) ?_
                    refine va_get (D := D) (ci := 10) (v := .ref (β 7)) (C := RX10) (T := TX10) (N := 17) hx hb hts (fun w h => List.mem_cons_of_mem _ (wx_X10 w h)) hown hK hP 0 rfl rfl 11 (by decide) (hW0 _ wf_X10_29) (fun _ h9 => h9) rfl dX10_counts_173 ?_
                    refine lv_iload hx hb dX10_counts_176 (lv_at hl 0 rfl) ?_
                    refine z_iald (f := mi) hx hb hK hP 7 6 rfl rfl ⟨⟨by omega, by omega⟩, by decide⟩ dX10_counts_178 ?_
                    have hb_178 := hmi v46_9 (by omega) (by omega)
                    refine lv_dup2_11 hx hb dX10_counts_179 rfl rfl ?_
                    refine z_iald (f := c4) hx hb hK hP 8 7 rfl rfl ⟨⟨by omega, by omega⟩, by decide⟩ dX10_counts_180 ?_
                    refine lv_iconst (v := zI 1) hx hb dX10_counts_181 rfl ?_
                    refine z_iadd hx hb dX10_counts_182 ?_
                    refine z_iast (f := c4) (v := (c4 (mi v46_9)) + 1) hx hb hK hP hD hS 8 7 rfl rfl ⟨⟨by omega, by omega⟩, by decide⟩ dX10_counts_183 (fun H locs hP hD hS => ?_)
                    have hP : va_P D vwCl (wM β δ ms mb mo mp mf mn mi ((zu c4 (mi v46_9) ((c4 (mi v46_9)) + 1))) q1 mr mw mk ml mt ma mx mh) H := hP
                    have hD : va_D A (wM β δ ms mb mo mp mf mn mi ((zu c4 (mi v46_9) ((c4 (mi v46_9)) + 1))) q1 mr mw mk ml mt ma mx mh) := hD
                    refine z_iinc (k := 6) (v := cc + 1) (lv' := [(3, .int (zI (cc + 1))), (9, .int (zI v46_9)), (8, .int (zI v80_13)), (7, .int (zI v71_12)), (6, .int (zI v62_11)), (5, .int (zI v55_10)), (4, .int (zI v46_9)), (2, .int (zI r)), (0, .ref (β 0)), (1, .int (zI lv9))]) hx hb dX10_counts_184 hl rfl rfl (by decide) rfl (fun ls hl => ?_)
                    refine lv_goto (tgt := 38) hx hb dX10_counts_187 (by decide) ?_
                    exact ih_38 (zu c4 (mi v46_9) ((c4 (mi v46_9)) + 1)) (cc + 1) _ _ hP hD hS _ (lv_sub hl [0, 7, 8, 9] rfl) (by first | assumption | rfl | omega) (by rw [show r * 6 + (cc + 1) = r * 6 + cc + 1 by omega]; first | exact PC_two hq3.1 hP4 he.1 he.2 (Or.inl hct) | exact PC_one hq3.1 hP4 he.1 he.2 hct1 | exact PC_none hq3.1 hP4 (hen c_88 c_129).1 (hen c_88 c_129).2) (by omega)
              · have he := (pie_e (h := ms) (r := r) (c := cc) (L := lv9)).1 (hv80_0.symm.trans c_88)
                have hct9 := CT_two hUF hq3 he.1 he.2
                rw [← s0, ← s2] at hct9
                have hct := hct9.1
                have hcb0 := hct9.2.1
                have hcb2 := hct9.2.2
                refine lv_aload_n hx hb dX10_counts_91 rfl (lv_at hl 7 rfl) ?_
                refine va_get (D := D) (ci := 10) (v := .ref (β 8)) (C := RX10) (T := TX10) (N := 17) hx hb hts (fun w h => List.mem_cons_of_mem _ (wx_X10 w h)) hown hK hP 0 rfl rfl 12 (by decide) (hW0 _ wf_X10_32) (fun _ h9 => h9) rfl dX10_counts_92 ?_
                refine lv_aload_n hx hb dX10_counts_95 rfl (lv_at hl 7 rfl) ?_
                refine va_get (D := D) (ci := 10) (v := .ref (β 7)) (C := RX10) (T := TX10) (N := 17) hx hb hts (fun w h => List.mem_cons_of_mem _ (wx_X10 w h)) hown hK hP 0 rfl rfl 11 (by decide) (hW0 _ wf_X10_29) (fun _ h9 => h9) rfl dX10_counts_96 ?_
                refine lv_iload hx hb dX10_counts_99 (lv_at hl 4 rfl) ?_
                refine z_iald (f := mi) hx hb hK hP 7 6 rfl rfl ⟨⟨by omega, by omega⟩, by decide⟩ dX10_counts_101 ?_
                have hb_101 := hmi v46_9 (by omega) (by omega)
                refine lv_dup2_11 hx hb dX10_counts_102 rfl rfl ?_
                refine z_iald (f := c4) hx hb hK hP 8 7 rfl rfl ⟨⟨by omega, by omega⟩, by decide⟩ dX10_counts_103 ?_
                refine lv_iconst (v := zI 1) hx hb dX10_counts_104 rfl ?_
                refine z_iadd hx hb dX10_counts_105 ?_
                refine z_iast (f := c4) (v := (c4 (mi v46_9)) + 1) hx hb hK hP hD hS 8 7 rfl rfl ⟨⟨by omega, by omega⟩, by decide⟩ dX10_counts_106 (fun H locs hP hD hS => ?_)
                have hP : va_P D vwCl (wM β δ ms mb mo mp mf mn mi ((zu c4 (mi v46_9) ((c4 (mi v46_9)) + 1))) q1 mr mw mk ml mt ma mx mh) H := hP
                have hD : va_D A (wM β δ ms mb mo mp mf mn mi ((zu c4 (mi v46_9) ((c4 (mi v46_9)) + 1))) q1 mr mw mk ml mt ma mx mh) := hD
                refine lv_aload_n hx hb dX10_counts_107 rfl (lv_at hl 7 rfl) ?_
                refine va_get (D := D) (ci := 10) (v := .ref (β 8)) (C := RX10) (T := TX10) (N := 17) hx hb hts (fun w h => List.mem_cons_of_mem _ (wx_X10 w h)) hown hK hP 0 rfl rfl 12 (by decide) (hW0 _ wf_X10_32) (fun _ h9 => h9) rfl dX10_counts_108 ?_
                refine lv_aload_n hx hb dX10_counts_111 rfl (lv_at hl 7 rfl) ?_
                refine va_get (D := D) (ci := 10) (v := .ref (β 7)) (C := RX10) (T := TX10) (N := 17) hx hb hts (fun w h => List.mem_cons_of_mem _ (wx_X10 w h)) hown hK hP 0 rfl rfl 11 (by decide) (hW0 _ wf_X10_29) (fun _ h9 => h9) rfl dX10_counts_112 ?_
                refine lv_iload hx hb dX10_counts_115 (lv_at hl 3 rfl) ?_
                refine z_iald (f := mi) hx hb hK hP 7 6 rfl rfl ⟨⟨by omega, by omega⟩, by decide⟩ dX10_counts_117 ?_
                have hb_117 := hmi v55_10 (by omega) (by omega)
                refine lv_dup2_11 hx hb dX10_counts_118 rfl rfl ?_
                refine z_iald (f := zu c4 (mi v46_9) ((c4 (mi v46_9)) + 1)) hx hb hK hP 8 7 rfl rfl ⟨⟨by omega, by omega⟩, by decide⟩ dX10_counts_119 ?_
                refine lv_iconst (v := zI 1) hx hb dX10_counts_120 rfl ?_
                refine z_iadd hx hb dX10_counts_121 ?_
                refine z_iast (f := zu c4 (mi v46_9) ((c4 (mi v46_9)) + 1)) (v := ((zu c4 (mi v46_9) ((c4 (mi v46_9)) + 1)) (mi v55_10)) + 1) hx hb hK hP hD hS 8 7 rfl rfl ⟨⟨by omega, by omega⟩, by decide⟩ dX10_counts_122 (fun H locs hP hD hS => ?_)
                have hP : va_P D vwCl (wM β δ ms mb mo mp mf mn mi ((zu (zu c4 (mi v46_9) ((c4 (mi v46_9)) + 1)) (mi v55_10) (((zu c4 (mi v46_9) ((c4 (mi v46_9)) + 1)) (mi v55_10)) + 1))) q1 mr mw mk ml mt ma mx mh) H := hP
                have hD : va_D A (wM β δ ms mb mo mp mf mn mi ((zu (zu c4 (mi v46_9) ((c4 (mi v46_9)) + 1)) (mi v55_10) (((zu c4 (mi v46_9) ((c4 (mi v46_9)) + 1)) (mi v55_10)) + 1))) q1 mr mw mk ml mt ma mx mh) := hD
                refine lv_goto (tgt := 184) hx hb dX10_counts_123 (by decide) ?_
                refine z_iinc (k := 5) (v := cc + 1) (lv' := [(3, .int (zI (cc + 1))), (8, .int (zI v80_13)), (7, .int (zI v71_12)), (6, .int (zI v62_11)), (5, .int (zI v55_10)), (4, .int (zI v46_9)), (2, .int (zI r)), (0, .ref (β 0)), (1, .int (zI lv9))]) hx hb dX10_counts_184 hl rfl rfl (by decide) rfl (fun ls hl => ?_)
                refine lv_goto (tgt := 38) hx hb dX10_counts_187 (by decide) ?_
                exact ih_38 (zu (zu c4 (mi v46_9) ((c4 (mi v46_9)) + 1)) (mi v55_10) (((zu c4 (mi v46_9) ((c4 (mi v46_9)) + 1)) (mi v55_10)) + 1)) (cc + 1) _ _ hP hD hS _ (lv_sub hl [0, 6, 7, 8] rfl) (by first | assumption | rfl | omega) (by rw [show r * 6 + (cc + 1) = r * 6 + cc + 1 by omega]; first | exact PC_two hq3.1 hP4 he.1 he.2 (Or.inl hct) | exact PC_one hq3.1 hP4 he.1 he.2 hct1 | exact PC_none hq3.1 hP4 (hen c_88 c_129).1 (hen c_88 c_129).2) (by omega)
    · refine lv_aload_n hx hb dX10_counts_8 rfl (lv_at hl 1 rfl) ?_
      refine va_get (D := D) (ci := 10) (v := .ref (β 8)) (C := RX10) (T := TX10) (N := 17) hx hb hts (fun w h => List.mem_cons_of_mem _ (wx_X10 w h)) hown hK hP 0 rfl rfl 12 (by decide) (hW0 _ wf_X10_32) (fun _ h9 => h9) rfl dX10_counts_9 ?_
      refine lv_iload_n hx hb dX10_counts_12 rfl (lv_at hl 0 rfl) ?_
      refine lv_iconst (v := zI 0) hx hb dX10_counts_13 rfl ?_
      refine z_iast (f := c1) (v := 0) hx hb hK hP hD hS 8 7 rfl rfl ⟨⟨by omega, by omega⟩, by decide⟩ dX10_counts_14 (fun H locs hP hD hS => ?_)
      have hP : va_P D vwCl (wM β δ ms mb mo mp mf mn mi (zu c1 i 0) q1 mr mw mk ml mt ma mx mh) H := hP
      have hD : va_D A (wM β δ ms mb mo mp mf mn mi (zu c1 i 0) q1 mr mw mk ml mt ma mx mh) := hD
      refine lv_aload_n hx hb dX10_counts_15 rfl (lv_at hl 1 rfl) ?_
      refine va_get (D := D) (ci := 10) (v := .ref (β 9)) (C := RX10) (T := TX10) (N := 17) hx hb hts (fun w h => List.mem_cons_of_mem _ (wx_X10 w h)) hown hK hP 0 rfl rfl 13 (by decide) (hW0 _ wf_X10_35) (fun _ h9 => h9) rfl dX10_counts_16 ?_
      refine lv_iload_n hx hb dX10_counts_19 rfl (lv_at hl 0 rfl) ?_
      refine lv_iconst (v := zI 0) hx hb dX10_counts_20 rfl ?_
      refine z_zast (f := q1) (v := false) hx hb hK hP hD hS 9 8 rfl rfl ⟨⟨by omega, by omega⟩, by decide⟩ dX10_counts_21 (fun H locs hP hD hS => ?_)
      have hP : va_P D vwCl (wM β δ ms mb mo mp mf mn mi (zu c1 i 0) (bu q1 i false) mr mw mk ml mt ma mx mh) H := hP
      have hD : va_D A (wM β δ ms mb mo mp mf mn mi (zu c1 i 0) (bu q1 i false) mr mw mk ml mt ma mx mh) := hD
      refine z_iinc (k := 0) (v := i + 1) (lv' := [(2, .int (zI (i + 1))), (0, .ref (β 0)), (1, .int (zI lv9))]) hx hb dX10_counts_22 hl rfl rfl (by decide) rfl (fun ls hl => ?_)
      refine lv_goto (tgt := 2) hx hb dX10_counts_25 (by decide) ?_
      exact ih_2 (zu c1 i 0) (bu q1 i false) (i + 1) _ _ hP hD hS _ (lv_sub hl [0, 1, 2] rfl) (by first | assumption | rfl | omega) (by intro k z1 z2; by_cases e9 : k = i; (focus (rw [e9, zu_s])); (rw [zu_n e9]; exact hc1 k z1 (by omega))) (by intro k z1 z2; by_cases e9 : k = i; (focus (rw [e9, bu_s])); (rw [bu_n e9]; exact hq1 k z1 (by omega))) (by omega)

abbrev wz_X10_traces : List Cond := .code yX10_traces cX10_traces 11 none :: W0
abbrev rm_X10_traces : Room := { frames := 4, cells := 0, slots := 0, locals := 99 }
theorem hd_X10_traces : yX10_traces.cls = RX10 ∧ yX10_traces.cls ≠ "java/lang/invoke/MethodHandle" ∧ yX10_traces.cls ≠ "java/lang/invoke/VarHandle" ∧ (parseMethodDescriptor yX10_traces.desc).map (fun d => d.parameters.length) = some 1 := by decide +kernel
set_option maxHeartbeats 4000000 in
set_option maxRecDepth 100000 in
theorem c_X10_traces (l : Launch) (D : va_G) (τ : Nat → Nat) (β : Nat → Nat) (δ : Nat → ClassId) (ms : IA) (mb : IA) (mo : IA) (mp : BA) (mf : IA) (mn : IA) (mi : IA) (mc : IA) (mq : BA) (mr : IA) (mw : IA) (mk : Int) (ml : Int) (mt : Int) (ma : Int) (mx : Bool) (mh : Int64) (lv9 : Int) (hlv : 0 ≤ lv9 ∧ lv9 ≤ 98) (hms : ∀ k, 0 ≤ k → k < 49 → 0 ≤ ms k ∧ ms k ≤ 99) : cM l yX10_traces wz_X10_traces rm_X10_traces D τ (tyM δ) [.ref (β 0), .int (zI lv9)] (wM β δ ms mb mo mp mf mn mi mc mq mr mw mk ml mt ma mx mh) (zQv (fun w => ∃ (m2 : IA), ∃ (c2 : IA), ∃ (q2 : BA), (UF (S_hi ms lv9) 36 m2) ∧ (PC (S_hi ms lv9) m2 c2 36) ∧ (OP (S_hi ms lv9) m2 q2 (Bk 6)) ∧ wM β δ ms mb mo mp mf mn m2 c2 q2 mr mw mk ml mt ma mx mh = w)) := by
  refine z_ofM (cc := cX10_traces) (maxL := 11) (ret := none) (by decide +kernel) rfl (Nat.le_of_ble_eq_true rfl) ?_
  intro pg e s m args below meth c hC hr hlk hnm hK hP A hD hG hA hS ls hl Q hQ
  have hx := hC.1
  have hb := hC.2.1
  have hml := hC.2.2.1
  have hown := hC.2.2.2.1
  have hts := hC.2.2.2.2
  have hB : ∀ w ∈ W0, w ∈ wz_X10_traces := fun _ h => List.mem_cons_of_mem _ h
  have hW0 : ∀ w ∈ W0, w.before args s = true := fun w h => hts w (hB w h)
  have hl : lv_has ls 11 [(0, .ref (β 0)), (1, .int (zI lv9))] := hl
  refine lv_iconst (v := zI 0) hx hb dX10_traces_0 rfl ?_
  refine lv_istore_n (lv' := [(2, .int (zI 0)), (0, .ref (β 0)), (1, .int (zI lv9))]) hx hb dX10_traces_1 rfl hl (by decide) rfl (fun ls hl => ?_)
  suffices HL_2 : ∀ (n_2 : Nat), ∀ (w1 : IA) (r : Int) (H : Heap) (locs : List Loc) (hP : va_P D vwCl (wM β δ ms mb mo mp mf mn w1 mc mq mr mw mk ml mt ma mx mh) H) (hD : va_D A (wM β δ ms mb mo mp mf mn w1 mc mq mr mw mk ml mt ma mx mh)) (hS : va_S A s.heap H locs) (ls : Array Slot) (hl : lv_has ls 11 [(2, .int (zI r)), (0, .ref (β 0)), (1, .int (zI lv9))]) (hrr : 0 ≤ r ∧ r ≤ 7) (hL1 : LN0 (S_hi ms lv9) w1 (7 * r)) (hm : (7 - r).toNat < n_2), W pg l e rm_X10_traces s m args below meth c H locs 0 0 Q (F0 m 2 ls []) from HL_2 _ mi 0 _ _ hP hD hS _ (lv_sub hl [0, 1, 2] rfl) (by first | assumption | rfl | omega) (by rw [show (7 : Int) * 0 = 0 from rfl]; exact LN0_0 _ _) (Nat.lt_succ_self _)
  intro n_2
  induction n_2 with
  | zero => intro w1 r H locs hP hD hS ls hl hrr hL1 hm; exact absurd hm (Nat.not_lt_zero _)
  | succ n_2 ih_2 =>
    intro w1 r H locs hP hD hS ls hl hrr hL1 hm
    refine lv_iload_n hx hb dX10_traces_2 rfl (lv_at hl 0 rfl) ?_
    refine lv_bipush (v := zI 7) hx hb dX10_traces_3 (zI_b8 (by decide)) ?_
    refine z_icge (tgt := 115) hx hb ⟨by omega, by omega⟩ ⟨by omega, by omega⟩ dX10_traces_5 (by decide) (fun c_5 => ?_) (fun c_5 => ?_)
    · refine lv_iconst (v := zI 0) hx hb dX10_traces_115 rfl ?_
      refine lv_istore_n (lv' := [(2, .int (zI 0)), (0, .ref (β 0)), (1, .int (zI lv9))]) hx hb dX10_traces_116 rfl hl (by decide) rfl (fun ls hl => ?_)
      suffices HL_117 : ∀ (n_117 : Nat), ∀ (w3 : IA) (r : Int) (H : Heap) (locs : List Loc) (hP : va_P D vwCl (wM β δ ms mb mo mp mf mn w3 mc mq mr mw mk ml mt ma mx mh) H) (hD : va_D A (wM β δ ms mb mo mp mf mn w3 mc mq mr mw mk ml mt ma mx mh)) (hS : va_S A s.heap H locs) (ls : Array Slot) (hl : lv_has ls 11 [(2, .int (zI r)), (0, .ref (β 0)), (1, .int (zI lv9))]) (hrr : 0 ≤ r ∧ r ≤ 6) (hU3 : UF (S_hi ms lv9) (r * 6) w3) (hm : (6 - r).toNat < n_117), W pg l e rm_X10_traces s m args below meth c H locs 0 0 Q (F0 m 117 ls []) from HL_117 _ w1 0 _ _ hP hD hS _ (lv_sub hl [0, 1, 2] rfl) (by first | assumption | rfl | omega) (by rw [show (0 : Int) * 6 = 0 from rfl]; exact UF_0 (by have z9 := hL1; rw [show 7 * r = 49 by omega] at z9; exact z9)) (Nat.lt_succ_self _)
      intro n_117
      induction n_117 with
      | zero => intro w3 r H locs hP hD hS ls hl hrr hU3 hm; exact absurd hm (Nat.not_lt_zero _)
      | succ n_117 ih_117 =>
        intro w3 r H locs hP hD hS ls hl hrr hU3 hm
        refine lv_iload_n hx hb dX10_traces_117 rfl (lv_at hl 0 rfl) ?_
        refine lv_bipush (v := zI 6) hx hb dX10_traces_118 (zI_b8 (by decide)) ?_
        refine z_icge (tgt := 334) hx hb ⟨by omega, by omega⟩ ⟨by omega, by omega⟩ dX10_traces_120 (by decide) (fun c_120 => ?_) (fun c_120 => ?_)
        · have hU36 : UF (S_hi ms lv9) 36 w3 := by have z9 := hU3; rw [show r * 6 = 36 by omega] at z9; exact z9
          refine lv_aload_n hx hb dX10_traces_334 rfl (lv_at hl 1 rfl) ?_
          refine lv_iload_n hx hb dX10_traces_335 rfl (lv_at hl 2 rfl) ?_
          refine z_callv hP hD hS hA (va_runV (As := [.int (zI lv9)]) (rest := []) hC (c_X10_counts l D τ β δ ms mb mo mp mf mn w3 mc mq mr mw mk ml mt ma mx mh lv9 (by first | assumption | rfl | omega) (by first | assumption | rfl | omega) (by exact hU36) _) (cwV 1 hts (gV hB wl_X10_158 wn_X10_counts ws_X10_counts wi_X10 wc_X10_counts) rfl rfl rfl hd_X10_counts ⟨Nat.le_of_ble_eq_true rfl, Nat.le_of_ble_eq_true rfl⟩) (zp_V hK hP hD hS hA hG (ci := 10) (q0 := 0) rfl rfl rfl) rfl rfl hl.1 rfl (lv_room (Nat.le_of_ble_eq_true rfl)) dX10_traces_336 ⟨Nat.le_of_ble_eq_true rfl, Nat.le_of_ble_eq_true rfl⟩) (fun w1 H locs hq9 hP hD hS => ?_)
          obtain ⟨c336_1, q336_2, hv336_0, hv336_1, rfl⟩ := hq9
          have hP : va_P D vwCl (wM β δ ms mb mo mp mf mn w3 c336_1 q336_2 mr mw mk ml mt ma mx mh) H := hP
          have hD : va_D A (wM β δ ms mb mo mp mf mn w3 c336_1 q336_2 mr mw mk ml mt ma mx mh) := hD
          exact z_vret hC hr hlk hQ hP hD hS ⟨w3, c336_1, q336_2, (by exact hU36), (by exact hv336_0), (by exact hv336_1), rfl⟩ dX10_traces_339
        · refine lv_iconst (v := zI 0) hx hb dX10_traces_123 rfl ?_
          refine lv_istore_n (lv' := [(3, .int (zI 0)), (2, .int (zI r)), (0, .ref (β 0)), (1, .int (zI lv9))]) hx hb dX10_traces_124 rfl hl (by decide) rfl (fun ls hl => ?_)
          suffices HL_125 : ∀ (n_125 : Nat), ∀ (w4 : IA) (cc : Int) (H : Heap) (locs : List Loc) (hP : va_P D vwCl (wM β δ ms mb mo mp mf mn w4 mc mq mr mw mk ml mt ma mx mh) H) (hD : va_D A (wM β δ ms mb mo mp mf mn w4 mc mq mr mw mk ml mt ma mx mh)) (hS : va_S A s.heap H locs) (ls : Array Slot) (hl : lv_has ls 11 [(3, .int (zI cc)), (2, .int (zI r)), (0, .ref (β 0)), (1, .int (zI lv9))]) (hcc : 0 ≤ cc ∧ cc ≤ 6) (hU4 : UF (S_hi ms lv9) (r * 6 + cc) w4) (hm : (6 - cc).toNat < n_125), W pg l e rm_X10_traces s m args below meth c H locs 0 0 Q (F0 m 125 ls []) from HL_125 _ w3 0 _ _ hP hD hS _ (lv_sub hl [0, 1, 2, 3] rfl) (by first | assumption | rfl | omega) (by rw [show r * 6 + 0 = r * 6 by omega]; exact hU3) (Nat.lt_succ_self _)
          intro n_125
          induction n_125 with
          | zero => intro w4 cc H locs hP hD hS ls hl hcc hU4 hm; exact absurd hm (Nat.not_lt_zero _)
          | succ n_125 ih_125 =>
            intro w4 cc H locs hP hD hS ls hl hcc hU4 hm
            have hlb := UFR_b hU4
            have hX : ∀ e, (0 ≤ e ∧ e < 84) → (S_X (S_hi ms lv9) e = true ↔ w4 e ≠ -1) := fun e h => UFR_X hU4 h
            refine lv_iload_n hx hb dX10_traces_125 rfl (lv_at hl 0 rfl) ?_
            refine lv_bipush (v := zI 6) hx hb dX10_traces_126 (zI_b8 (by decide)) ?_
            refine z_icge (tgt := 328) hx hb ⟨by omega, by omega⟩ ⟨by omega, by omega⟩ dX10_traces_128 (by decide) (fun c_128 => ?_) (fun c_128 => ?_)
            · refine z_iinc (k := 1) (v := r + 1) (lv' := [(2, .int (zI (r + 1))), (3, .int (zI cc)), (0, .ref (β 0)), (1, .int (zI lv9))]) hx hb dX10_traces_328 hl rfl rfl (by decide) rfl (fun ls hl => ?_)
              refine lv_goto (tgt := 117) hx hb dX10_traces_331 (by decide) ?_
              exact ih_117 w4 (r + 1) _ _ hP hD hS _ (lv_sub hl [0, 2, 3] rfl) (by first | assumption | rfl | omega) (by rw [show (r + 1) * 6 = r * 6 + cc by omega]; exact hU4) (by omega)
            · refine lv_iload_n hx hb dX10_traces_131 rfl (lv_at hl 1 rfl) ?_
              refine lv_iload_n hx hb dX10_traces_132 rfl (lv_at hl 0 rfl) ?_
              refine z_calli hP hD hS hA (va_runS (As := [.int (zI r), .int (zI cc)]) (rest := []) hC (c_X10_right l D τ _ _ r cc _) (va_cwS 2 hts (gS hB wl_X10_145 wt_X10_right wi_X10 wc_X10_right) rfl rfl rfl hd_X10_right.2 ⟨Nat.le_of_ble_eq_true rfl, Nat.le_of_ble_eq_true rfl⟩) (zp_S hK hP hD hS hA hG) rfl rfl hl.1 rfl (lv_room (Nat.le_of_ble_eq_true rfl)) dX10_traces_133 ⟨Nat.le_of_ble_eq_true rfl, Nat.le_of_ble_eq_true rfl⟩) (fun r w1 H locs hq9 hP hD hS => ?_)
              obtain ⟨v133_3, hv133_0, rfl, rfl⟩ := hq9
              refine lv_istore (lv' := [(4, .int (zI v133_3)), (3, .int (zI cc)), (2, .int (zI r)), (0, .ref (β 0)), (1, .int (zI lv9))]) hx hb dX10_traces_136 hl (by decide) rfl (fun ls hl => ?_)
              refine lv_iload_n hx hb dX10_traces_138 rfl (lv_at hl 2 rfl) ?_
              refine lv_iconst (v := zI 1) hx hb dX10_traces_139 rfl ?_
              refine z_iadd hx hb dX10_traces_140 ?_
              refine lv_iload_n hx hb dX10_traces_141 rfl (lv_at hl 1 rfl) ?_
              refine z_calli hP hD hS hA (va_runS (As := [.int (zI (r + 1)), .int (zI cc)]) (rest := []) hC (c_X10_right l D τ _ _ (r + 1) cc _) (va_cwS 2 hts (gS hB wl_X10_145 wt_X10_right wi_X10 wc_X10_right) rfl rfl rfl hd_X10_right.2 ⟨Nat.le_of_ble_eq_true rfl, Nat.le_of_ble_eq_true rfl⟩) (zp_S hK hP hD hS hA hG) rfl rfl hl.1 rfl (lv_room (Nat.le_of_ble_eq_true rfl)) dX10_traces_142 ⟨Nat.le_of_ble_eq_true rfl, Nat.le_of_ble_eq_true rfl⟩) (fun r w1 H locs hq9 hP hD hS => ?_)
              obtain ⟨v142_4, hv142_0, rfl, rfl⟩ := hq9
              refine lv_istore (lv' := [(5, .int (zI v142_4)), (4, .int (zI v133_3)), (3, .int (zI cc)), (2, .int (zI r)), (0, .ref (β 0)), (1, .int (zI lv9))]) hx hb dX10_traces_145 hl (by decide) rfl (fun ls hl => ?_)
              refine lv_iload_n hx hb dX10_traces_147 rfl (lv_at hl 3 rfl) ?_
              refine lv_iload_n hx hb dX10_traces_148 rfl (lv_at hl 2 rfl) ?_
              refine z_calli hP hD hS hA (va_runS (As := [.int (zI r), .int (zI cc)]) (rest := []) hC (c_X10_below l D τ _ _ r cc _) (va_cwS 2 hts (gS hB wl_X10_148 wt_X10_below wi_X10 wc_X10_below) rfl rfl rfl hd_X10_below.2 ⟨Nat.le_of_ble_eq_true rfl, Nat.le_of_ble_eq_true rfl⟩) (zp_S hK hP hD hS hA hG) rfl rfl hl.1 rfl (lv_room (Nat.le_of_ble_eq_true rfl)) dX10_traces_149 ⟨Nat.le_of_ble_eq_true rfl, Nat.le_of_ble_eq_true rfl⟩) (fun r w1 H locs hq9 hP hD hS => ?_)
              obtain ⟨v149_5, hv149_0, rfl, rfl⟩ := hq9
              refine lv_istore (lv' := [(6, .int (zI v149_5)), (5, .int (zI v142_4)), (4, .int (zI v133_3)), (3, .int (zI cc)), (2, .int (zI r)), (0, .ref (β 0)), (1, .int (zI lv9))]) hx hb dX10_traces_152 hl (by decide) rfl (fun ls hl => ?_)
              refine lv_iload_n hx hb dX10_traces_154 rfl (lv_at hl 4 rfl) ?_
              refine lv_iload_n hx hb dX10_traces_155 rfl (lv_at hl 3 rfl) ?_
              refine lv_iconst (v := zI 1) hx hb dX10_traces_156 rfl ?_
              refine z_iadd hx hb dX10_traces_157 ?_
              refine z_calli hP hD hS hA (va_runS (As := [.int (zI r), .int (zI (cc + 1))]) (rest := []) hC (c_X10_below l D τ _ _ r (cc + 1) _) (va_cwS 2 hts (gS hB wl_X10_148 wt_X10_below wi_X10 wc_X10_below) rfl rfl rfl hd_X10_below.2 ⟨Nat.le_of_ble_eq_true rfl, Nat.le_of_ble_eq_true rfl⟩) (zp_S hK hP hD hS hA hG) rfl rfl hl.1 rfl (lv_room (Nat.le_of_ble_eq_true rfl)) dX10_traces_158 ⟨Nat.le_of_ble_eq_true rfl, Nat.le_of_ble_eq_true rfl⟩) (fun r w1 H locs hq9 hP hD hS => ?_)
              obtain ⟨v158_6, hv158_0, rfl, rfl⟩ := hq9
              refine lv_istore (lv' := [(7, .int (zI v158_6)), (6, .int (zI v149_5)), (5, .int (zI v142_4)), (4, .int (zI v133_3)), (3, .int (zI cc)), (2, .int (zI r)), (0, .ref (β 0)), (1, .int (zI lv9))]) hx hb dX10_traces_161 hl (by decide) rfl (fun ls hl => ?_)
              refine lv_aload_n hx hb dX10_traces_163 rfl (lv_at hl 6 rfl) ?_
              refine lv_iload_n hx hb dX10_traces_164 rfl (lv_at hl 5 rfl) ?_
              refine lv_iload_n hx hb dX10_traces_165 rfl (lv_at hl 4 rfl) ?_
              refine lv_iload_n hx hb dX10_traces_166 rfl (lv_at hl 7 rfl) ?_
              refine z_calli hP hD hS hA (va_runV (As := [.int (zI r), .int (zI cc), .int (zI lv9)]) (rest := []) hC (c_X10_piecesAt l D τ β δ ms mb mo mp mf mn w4 mc mq mr mw mk ml mt ma mx mh r cc lv9 (by first | assumption | rfl | omega) (by first | assumption | rfl | omega) (by first | assumption | rfl | omega) (by first | assumption | rfl | omega) _) (cwV 3 hts (gV hB wl_X10_151 wn_X10_piecesAt ws_X10_piecesAt wi_X10 wc_X10_piecesAt) rfl rfl rfl hd_X10_piecesAt ⟨Nat.le_of_ble_eq_true rfl, Nat.le_of_ble_eq_true rfl⟩) (zp_V hK hP hD hS hA hG (ci := 10) (q0 := 0) rfl rfl rfl) rfl rfl hl.1 rfl (lv_room (Nat.le_of_ble_eq_true rfl)) dX10_traces_167 ⟨Nat.le_of_ble_eq_true rfl, Nat.le_of_ble_eq_true rfl⟩) (fun r w1 H locs hq9 hP hD hS => ?_)
              obtain ⟨v167_7, hv167_0, hv167_1, rfl, rfl⟩ := hq9
              have hP : va_P D vwCl (wM β δ ms mb mo mp mf mn w4 mc mq mr mw mk ml mt ma mx mh) H := hP
              have hD : va_D A (wM β δ ms mb mo mp mf mn w4 mc mq mr mw mk ml mt ma mx mh) := hD
              refine lv_istore (lv' := [(8, .int (zI v167_7)), (7, .int (zI v158_6)), (6, .int (zI v149_5)), (5, .int (zI v142_4)), (4, .int (zI v133_3)), (3, .int (zI cc)), (2, .int (zI r)), (0, .ref (β 0)), (1, .int (zI lv9))]) hx hb dX10_traces_170 hl (by decide) rfl (fun ls hl => ?_)
              have s0 : v133_3 = S_sd (r * 6 + cc) 0 := by unfold S_sd; rw [if_pos rfl]; omega
              have s2 : v142_4 = S_sd (r * 6 + cc) 2 := by unfold S_sd; rw [if_neg (by omega), if_neg (by omega), if_pos rfl]; omega
              have s3 : v149_5 = S_sd (r * 6 + cc) 3 := by unfold S_sd; rw [if_neg (by omega), if_neg (by omega), if_neg (by omega)]; omega
              have s1 : v158_6 = S_sd (r * 6 + cc) 1 := by unfold S_sd; rw [if_neg (by omega), if_pos rfl]; omega
              have hq3 : 0 ≤ (r * 6 + cc) ∧ (r * 6 + cc) < 36 := by omega
              have l4 : 0 ≤ v133_3 ∧ v133_3 < 84 := by omega
              have l5 : 0 ≤ v142_4 ∧ v142_4 < 84 := by omega
              have l6 : 0 ≤ v149_5 ∧ v149_5 < 84 := by omega
              have l7 : 0 ≤ v158_6 ∧ v158_6 < 84 := by omega
              have hen : ∀ (_ : ¬ v167_7 = 2) (_ : ¬ v167_7 = 1), _ := fun z1 z2 => (pie_e (h := ms) (r := r) (c := cc) (L := lv9)).2.2 (fun h9 => z1 (hv167_0.trans h9)) (fun h9 => z2 (hv167_0.trans h9))
              refine lv_iload hx hb dX10_traces_172 (lv_at hl 0 rfl) ?_
              refine lv_iconst (v := zI 2) hx hb dX10_traces_174 rfl ?_
              refine z_icne (tgt := 211) hx hb ⟨by omega, by omega⟩ ⟨by omega, by omega⟩ dX10_traces_175 (by decide) (fun c_175 => ?_) (fun c_175 => ?_)
              · refine lv_iload hx hb dX10_traces_211 (lv_at hl 0 rfl) ?_
                refine lv_iconst (v := zI 2) hx hb dX10_traces_213 rfl ?_
                refine z_icne (tgt := 236) hx hb ⟨by omega, by omega⟩ ⟨by omega, by omega⟩ dX10_traces_214 (by decide) (fun c_214 => ?_) (fun c_214 => ?_)
                · refine lv_iload hx hb dX10_traces_236 (lv_at hl 0 rfl) ?_
                  refine lv_iconst (v := zI 1) hx hb dX10_traces_238 rfl ?_
                  refine z_icne (tgt := 322) hx hb ⟨by omega, by omega⟩ ⟨by omega, by omega⟩ dX10_traces_239 (by decide) (fun c_239 => ?_) (fun c_239 => ?_)
                  · refine z_iinc (k := 5) (v := cc + 1) (lv' := [(3, .int (zI (cc + 1))), (8, .int (zI v167_7)), (7, .int (zI v158_6)), (6, .int (zI v149_5)), (5, .int (zI v142_4)), (4, .int (zI v133_3)), (2, .int (zI r)), (0, .ref (β 0)), (1, .int (zI lv9))]) hx hb dX10_traces_322 hl rfl rfl (by decide) rfl (fun ls hl => ?_)
                    refine lv_goto (tgt := 125) hx hb dX10_traces_325 (by decide) ?_
                    exact ih_125 w4 (cc + 1) _ _ hP hD hS _ (lv_sub hl [0, 6, 7, 8] rfl) (by first | assumption | rfl | omega) (by rw [show r * 6 + (cc + 1) = r * 6 + cc + 1 by omega]; first | (rw [hv205_0, hv197_0]; refine UF_two hq3 hU4 he.1 he.2 (Or.inr ⟨?_, ?_⟩) (Or.inr ⟨?_, ?_⟩); (rw [s0, hp2.2.1]); (rw [s3, hp2.1]); (rw [s2, hp2.2.2.2]); (rw [s1, hp2.2.2.1])) | (rw [hv230_0, hv222_0]; refine UF_two hq3 hU4 he.1 he.2 (Or.inl ⟨?_, ?_⟩) (Or.inl ⟨?_, ?_⟩); (rw [s0, hp2.1]); (rw [s1, hp2.2.1]); (rw [s2, hp2.2.2.1]); (rw [s3, hp2.2.2.2])) | exact UF_none hq3.1 hU4 (hen c_175 c_239).1 (hen c_175 c_239).2 | (rw [hv319_0]; have z9 := UF_one hq3 hU4 he.1 he.2; rw [← h9, ← h10] at z9; exact z9)) (by omega)
                  · have he := (pie_e (h := ms) (r := r) (c := cc) (L := lv9)).2.1 (hv167_0.symm.trans c_239)
                    refine lv_aload_n hx hb dX10_traces_242 rfl (lv_at hl 7 rfl) ?_
                    refine va_get (D := D) (ci := 10) (v := .ref (β 7)) (C := RX10) (T := TX10) (N := 17) hx hb hts (fun w h => List.mem_cons_of_mem _ (wx_X10 w h)) hown hK hP 0 rfl rfl 11 (by decide) (hW0 _ wf_X10_29) (fun _ h9 => h9) rfl dX10_traces_243 ?_
                    refine lv_iload hx hb dX10_traces_246 (lv_at hl 4 rfl) ?_
                    refine z_iald (f := w4) hx hb hK hP 7 6 rfl rfl ⟨⟨by omega, by omega⟩, by decide⟩ dX10_traces_248 ?_
                    have hb_248 := hlb v133_3 (by omega) (by omega)
                    refine lv_iconst (v := zI (-1)) hx hb dX10_traces_249 rfl ?_
                    refine z_iceq (tgt := 258) hx hb ⟨by omega, by omega⟩ ⟨by omega, by omega⟩ dX10_traces_250 (by decide) (fun c_250 => ?_) (fun c_250 => ?_)
                    · refine lv_aload_n hx hb dX10_traces_258 rfl (lv_at hl 7 rfl) ?_
                      refine va_get (D := D) (ci := 10) (v := .ref (β 7)) (C := RX10) (T := TX10) (N := 17) hx hb hts (fun w h => List.mem_cons_of_mem _ (wx_X10 w h)) hown hK hP 0 rfl rfl 11 (by decide) (hW0 _ wf_X10_29) (fun _ h9 => h9) rfl dX10_traces_259 ?_
                      refine lv_iload hx hb dX10_traces_262 (lv_at hl 1 rfl) ?_
                      refine z_iald (f := w4) hx hb hK hP 7 6 rfl rfl ⟨⟨by omega, by omega⟩, by decide⟩ dX10_traces_264 ?_
                      have hb_264 := hlb v158_6 (by omega) (by omega)
                      refine lv_iconst (v := zI (-1)) hx hb dX10_traces_265 rfl ?_
                      refine z_iceq (tgt := 274) hx hb ⟨by omega, by omega⟩ ⟨by omega, by omega⟩ dX10_traces_266 (by decide) (fun c_266 => ?_) (fun c_266 => ?_)
                      · refine lv_iload hx hb dX10_traces_274 (lv_at hl 3 rfl) ?_
                        refine lv_istore (lv' := [(9, .int (zI v142_4)), (8, .int (zI v167_7)), (7, .int (zI v158_6)), (6, .int (zI v149_5)), (5, .int (zI v142_4)), (4, .int (zI v133_3)), (3, .int (zI cc)), (2, .int (zI r)), (0, .ref (β 0)), (1, .int (zI lv9))]) hx hb dX10_traces_276 hl (by decide) rfl (fun ls hl => ?_)
                        refine lv_aload_n hx hb dX10_traces_278 rfl (lv_at hl 8 rfl) ?_
                        refine va_get (D := D) (ci := 10) (v := .ref (β 7)) (C := RX10) (T := TX10) (N := 17) hx hb hts (fun w h => List.mem_cons_of_mem _ (wx_X10 w h)) hown hK hP 0 rfl rfl 11 (by decide) (hW0 _ wf_X10_29) (fun _ h9 => h9) rfl dX10_traces_279 ?_
                        refine lv_iload hx hb dX10_traces_282 (lv_at hl 3 rfl) ?_
                        refine z_iald (f := w4) hx hb hK hP 7 6 rfl rfl ⟨⟨by omega, by omega⟩, by decide⟩ dX10_traces_284 ?_
                        have hb_284 := hlb v149_5 (by omega) (by omega)
                        refine lv_iconst (v := zI (-1)) hx hb dX10_traces_285 rfl ?_
                        refine z_iceq (tgt := 294) hx hb ⟨by omega, by omega⟩ ⟨by omega, by omega⟩ dX10_traces_286 (by decide) (fun c_286 => ?_) (fun c_286 => ?_)
                        · refine lv_aload_n hx hb dX10_traces_294 rfl (lv_at hl 8 rfl) ?_
                          refine va_get (D := D) (ci := 10) (v := .ref (β 7)) (C := RX10) (T := TX10) (N := 17) hx hb hts (fun w h => List.mem_cons_of_mem _ (wx_X10 w h)) hown hK hP 0 rfl rfl 11 (by decide) (hW0 _ wf_X10_29) (fun _ h9 => h9) rfl dX10_traces_295 ?_
                          refine lv_iload hx hb dX10_traces_298 (lv_at hl 4 rfl) ?_
                          refine z_iald (f := w4) hx hb hK hP 7 6 rfl rfl ⟨⟨by omega, by omega⟩, by decide⟩ dX10_traces_300 ?_
                          have hb_300 := hlb v142_4 (by omega) (by omega)
                          refine lv_iconst (v := zI (-1)) hx hb dX10_traces_301 rfl ?_
                          refine z_iceq (tgt := 310) hx hb ⟨by omega, by omega⟩ ⟨by omega, by omega⟩ dX10_traces_302 (by decide) (fun c_302 => ?_) (fun c_302 => ?_)
                          · refine lv_iload hx hb dX10_traces_310 (lv_at hl 2 rfl) ?_
                            refine lv_istore (lv' := [(10, .int (zI v158_6)), (9, .int (zI v142_4)), (8, .int (zI v167_7)), (7, .int (zI v158_6)), (6, .int (zI v149_5)), (5, .int (zI v142_4)), (4, .int (zI v133_3)), (3, .int (zI cc)), (2, .int (zI r)), (0, .ref (β 0)), (1, .int (zI lv9))]) hx hb dX10_traces_312 hl (by decide) rfl (fun ls hl => ?_)
                            have h9 : v142_4 = P_a (S_hi ms lv9) (r * 6 + cc) 0 := by rw [(P_one hq3 he.2).1, ← s0, ← s1, ← s2]; first | (rw [if_pos ((hX _ l4).mpr c_250)]; done) | (rw [if_neg (fun z => (hX _ l4).mp z c_250), if_pos ((hX _ l7).mpr c_266)]; done) | (rw [if_neg (fun z => (hX _ l4).mp z c_250), if_neg (fun z => (hX _ l7).mp z c_266)]; done)
                            have h10 : v158_6 = P_b (S_hi ms lv9) (r * 6 + cc) 0 := by rw [(P_one hq3 he.2).2, ← s1, ← s2, ← s3]; first | (rw [if_pos ((hX _ l6).mpr c_286)]; done) | (rw [if_neg (fun z => (hX _ l6).mp z c_286), if_pos ((hX _ l5).mpr c_302)]; done) | (rw [if_neg (fun z => (hX _ l6).mp z c_286), if_neg (fun z => (hX _ l5).mp z c_302)]; done)
                            refine lv_aload_n hx hb dX10_traces_314 rfl (lv_at hl 9 rfl) ?_
                            refine lv_iload hx hb dX10_traces_315 (lv_at hl 1 rfl) ?_
                            refine lv_iload hx hb dX10_traces_317 (lv_at hl 0 rfl) ?_
                            refine z_callv hP hD hS hA (va_runV (As := [.int (zI v142_4), .int (zI v158_6)]) (rest := []) hC (c_X10_joins l D τ β δ ms mb mo mp mf mn w4 mc mq mr mw mk ml mt ma mx mh v142_4 v158_6 (by omega) (by omega) (by exact hlb) _) (cwV 2 hts (gV hB wl_X10_154 wn_X10_joins ws_X10_joins wi_X10 wc_X10_joins) rfl rfl rfl hd_X10_joins ⟨Nat.le_of_ble_eq_true rfl, Nat.le_of_ble_eq_true rfl⟩) (zp_V hK hP hD hS hA hG (ci := 10) (q0 := 0) rfl rfl rfl) rfl rfl hl.1 rfl (lv_room (Nat.le_of_ble_eq_true rfl)) dX10_traces_319 ⟨Nat.le_of_ble_eq_true rfl, Nat.le_of_ble_eq_true rfl⟩) (fun w1 H locs hq9 hP hD hS => ?_)
                            obtain ⟨m319_8, hv319_0, rfl⟩ := hq9
                            have hP : va_P D vwCl (wM β δ ms mb mo mp mf mn m319_8 mc mq mr mw mk ml mt ma mx mh) H := hP
                            have hD : va_D A (wM β δ ms mb mo mp mf mn m319_8 mc mq mr mw mk ml mt ma mx mh) := hD
                            refine z_iinc (k := 7) (v := cc + 1) (lv' := [(3, .int (zI (cc + 1))), (10, .int (zI v158_6)), (9, .int (zI v142_4)), (8, .int (zI v167_7)), (7, .int (zI v158_6)), (6, .int (zI v149_5)), (5, .int (zI v142_4)), (4, .int (zI v133_3)), (2, .int (zI r)), (0, .ref (β 0)), (1, .int (zI lv9))]) hx hb dX10_traces_322 hl rfl rfl (by decide) rfl (fun ls hl => ?_)
                            refine lv_goto (tgt := 125) hx hb dX10_traces_325 (by decide) ?_
                            exact ih_125 m319_8 (cc + 1) _ _ hP hD hS _ (lv_sub hl [0, 8, 9, 10] rfl) (by first | assumption | rfl | omega) (by rw [show r * 6 + (cc + 1) = r * 6 + cc + 1 by omega]; first | (rw [hv205_0, hv197_0]; refine UF_two hq3 hU4 he.1 he.2 (Or.inr ⟨?_, ?_⟩) (Or.inr ⟨?_, ?_⟩); (rw [s0, hp2.2.1]); (rw [s3, hp2.1]); (rw [s2, hp2.2.2.2]); (rw [s1, hp2.2.2.1])) | (rw [hv230_0, hv222_0]; refine UF_two hq3 hU4 he.1 he.2 (Or.inl ⟨?_, ?_⟩) (Or.inl ⟨?_, ?_⟩); (rw [s0, hp2.1]); (rw [s1, hp2.2.1]); (rw [s2, hp2.2.2.1]); (rw [s3, hp2.2.2.2])) | exact UF_none hq3.1 hU4 (hen c_175 c_239).1 (hen c_175 c_239).2 | (rw [hv319_0]; have z9 := UF_one hq3 hU4 he.1 he.2; rw [← h9, ← h10] at z9; exact z9)) (by omega)
                          · refine lv_iload hx hb dX10_traces_305 (lv_at hl 4 rfl) ?_
                            refine lv_goto (tgt := 312) hx hb dX10_traces_307 (by decide) ?_
                            refine lv_istore (lv' := [(10, .int (zI v142_4)), (9, .int (zI v142_4)), (8, .int (zI v167_7)), (7, .int (zI v158_6)), (6, .int (zI v149_5)), (5, .int (zI v142_4)), (4, .int (zI v133_3)), (3, .int (zI cc)), (2, .int (zI r)), (0, .ref (β 0)), (1, .int (zI lv9))]) hx hb dX10_traces_312 hl (by decide) rfl (fun ls hl => ?_)
                            have h9 : v142_4 = P_a (S_hi ms lv9) (r * 6 + cc) 0 := by rw [(P_one hq3 he.2).1, ← s0, ← s1, ← s2]; first | (rw [if_pos ((hX _ l4).mpr c_250)]; done) | (rw [if_neg (fun z => (hX _ l4).mp z c_250), if_pos ((hX _ l7).mpr c_266)]; done) | (rw [if_neg (fun z => (hX _ l4).mp z c_250), if_neg (fun z => (hX _ l7).mp z c_266)]; done)
                            have h10 : v142_4 = P_b (S_hi ms lv9) (r * 6 + cc) 0 := by rw [(P_one hq3 he.2).2, ← s1, ← s2, ← s3]; first | (rw [if_pos ((hX _ l6).mpr c_286)]; done) | (rw [if_neg (fun z => (hX _ l6).mp z c_286), if_pos ((hX _ l5).mpr c_302)]; done) | (rw [if_neg (fun z => (hX _ l6).mp z c_286), if_neg (fun z => (hX _ l5).mp z c_302)]; done)
                            refine lv_aload_n hx hb dX10_traces_314 rfl (lv_at hl 9 rfl) ?_
                            refine lv_iload hx hb dX10_traces_315 (lv_at hl 1 rfl) ?_
                            refine lv_iload hx hb dX10_traces_317 (lv_at hl 0 rfl) ?_
                            refine z_callv hP hD hS hA (va_runV (As := [.int (zI v142_4), .int (zI v142_4)]) (rest := []) hC (c_X10_joins l D τ β δ ms mb mo mp mf mn w4 mc mq mr mw mk ml mt ma mx mh v142_4 v142_4 (by omega) (by omega) (by exact hlb) _) (cwV 2 hts (gV hB wl_X10_154 wn_X10_joins ws_X10_joins wi_X10 wc_X10_joins) rfl rfl rfl hd_X10_joins ⟨Nat.le_of_ble_eq_true rfl, Nat.le_of_ble_eq_true rfl⟩) (zp_V hK hP hD hS hA hG (ci := 10) (q0 := 0) rfl rfl rfl) rfl rfl hl.1 rfl (lv_room (Nat.le_of_ble_eq_true rfl)) dX10_traces_319 ⟨Nat.le_of_ble_eq_true rfl, Nat.le_of_ble_eq_true rfl⟩) (fun w1 H locs hq9 hP hD hS => ?_)
                            obtain ⟨m319_9, hv319_0, rfl⟩ := hq9
                            have hP : va_P D vwCl (wM β δ ms mb mo mp mf mn m319_9 mc mq mr mw mk ml mt ma mx mh) H := hP
                            have hD : va_D A (wM β δ ms mb mo mp mf mn m319_9 mc mq mr mw mk ml mt ma mx mh) := hD
                            refine z_iinc (k := 7) (v := cc + 1) (lv' := [(3, .int (zI (cc + 1))), (10, .int (zI v142_4)), (9, .int (zI v142_4)), (8, .int (zI v167_7)), (7, .int (zI v158_6)), (6, .int (zI v149_5)), (5, .int (zI v142_4)), (4, .int (zI v133_3)), (2, .int (zI r)), (0, .ref (β 0)), (1, .int (zI lv9))]) hx hb dX10_traces_322 hl rfl rfl (by decide) rfl (fun ls hl => ?_)
                            refine lv_goto (tgt := 125) hx hb dX10_traces_325 (by decide) ?_
                            exact ih_125 m319_9 (cc + 1) _ _ hP hD hS _ (lv_sub hl [0, 8, 9, 10] rfl) (by first | assumption | rfl | omega) (by rw [show r * 6 + (cc + 1) = r * 6 + cc + 1 by omega]; first | (rw [hv205_0, hv197_0]; refine UF_two hq3 hU4 he.1 he.2 (Or.inr ⟨?_, ?_⟩) (Or.inr ⟨?_, ?_⟩); (rw [s0, hp2.2.1]); (rw [s3, hp2.1]); (rw [s2, hp2.2.2.2]); (rw [s1, hp2.2.2.1])) | (rw [hv230_0, hv222_0]; refine UF_two hq3 hU4 he.1 he.2 (Or.inl ⟨?_, ?_⟩) (Or.inl ⟨?_, ?_⟩); (rw [s0, hp2.1]); (rw [s1, hp2.2.1]); (rw [s2, hp2.2.2.1]); (rw [s3, hp2.2.2.2])) | exact UF_none hq3.1 hU4 (hen c_175 c_239).1 (hen c_175 c_239).2 | (rw [hv319_0]; have z9 := UF_one hq3 hU4 he.1 he.2; rw [← h9, ← h10] at z9; exact z9)) (by omega)
                        · refine lv_iload hx hb dX10_traces_289 (lv_at hl 3 rfl) ?_
                          refine lv_goto (tgt := 312) hx hb dX10_traces_291 (by decide) ?_
                          refine lv_istore (lv' := [(10, .int (zI v149_5)), (9, .int (zI v142_4)), (8, .int (zI v167_7)), (7, .int (zI v158_6)), (6, .int (zI v149_5)), (5, .int (zI v142_4)), (4, .int (zI v133_3)), (3, .int (zI cc)), (2, .int (zI r)), (0, .ref (β 0)), (1, .int (zI lv9))]) hx hb dX10_traces_312 hl (by decide) rfl (fun ls hl => ?_)
                          have h9 : v142_4 = P_a (S_hi ms lv9) (r * 6 + cc) 0 := by rw [(P_one hq3 he.2).1, ← s0, ← s1, ← s2]; first | (rw [if_pos ((hX _ l4).mpr c_250)]; done) | (rw [if_neg (fun z => (hX _ l4).mp z c_250), if_pos ((hX _ l7).mpr c_266)]; done) | (rw [if_neg (fun z => (hX _ l4).mp z c_250), if_neg (fun z => (hX _ l7).mp z c_266)]; done)
                          have h10 : v149_5 = P_b (S_hi ms lv9) (r * 6 + cc) 0 := by rw [(P_one hq3 he.2).2, ← s1, ← s2, ← s3]; first | (rw [if_pos ((hX _ l6).mpr c_286)]; done) | (rw [if_neg (fun z => (hX _ l6).mp z c_286), if_pos ((hX _ l5).mpr c_302)]; done) | (rw [if_neg (fun z => (hX _ l6).mp z c_286), if_neg (fun z => (hX _ l5).mp z c_302)]; done)
                          refine lv_aload_n hx hb dX10_traces_314 rfl (lv_at hl 9 rfl) ?_
                          refine lv_iload hx hb dX10_traces_315 (lv_at hl 1 rfl) ?_
                          refine lv_iload hx hb dX10_traces_317 (lv_at hl 0 rfl) ?_
                          refine z_callv hP hD hS hA (va_runV (As := [.int (zI v142_4), .int (zI v149_5)]) (rest := []) hC (c_X10_joins l D τ β δ ms mb mo mp mf mn w4 mc mq mr mw mk ml mt ma mx mh v142_4 v149_5 (by omega) (by omega) (by exact hlb) _) (cwV 2 hts (gV hB wl_X10_154 wn_X10_joins ws_X10_joins wi_X10 wc_X10_joins) rfl rfl rfl hd_X10_joins ⟨Nat.le_of_ble_eq_true rfl, Nat.le_of_ble_eq_true rfl⟩) (zp_V hK hP hD hS hA hG (ci := 10) (q0 := 0) rfl rfl rfl) rfl rfl hl.1 rfl (lv_room (Nat.le_of_ble_eq_true rfl)) dX10_traces_319 ⟨Nat.le_of_ble_eq_true rfl, Nat.le_of_ble_eq_true rfl⟩) (fun w1 H locs hq9 hP hD hS => ?_)
                          obtain ⟨m319_10, hv319_0, rfl⟩ := hq9
                          have hP : va_P D vwCl (wM β δ ms mb mo mp mf mn m319_10 mc mq mr mw mk ml mt ma mx mh) H := hP
                          have hD : va_D A (wM β δ ms mb mo mp mf mn m319_10 mc mq mr mw mk ml mt ma mx mh) := hD
                          refine z_iinc (k := 7) (v := cc + 1) (lv' := [(3, .int (zI (cc + 1))), (10, .int (zI v149_5)), (9, .int (zI v142_4)), (8, .int (zI v167_7)), (7, .int (zI v158_6)), (6, .int (zI v149_5)), (5, .int (zI v142_4)), (4, .int (zI v133_3)), (2, .int (zI r)), (0, .ref (β 0)), (1, .int (zI lv9))]) hx hb dX10_traces_322 hl rfl rfl (by decide) rfl (fun ls hl => ?_)
                          refine lv_goto (tgt := 125) hx hb dX10_traces_325 (by decide) ?_
                          exact ih_125 m319_10 (cc + 1) _ _ hP hD hS _ (lv_sub hl [0, 8, 9, 10] rfl) (by first | assumption | rfl | omega) (by rw [show r * 6 + (cc + 1) = r * 6 + cc + 1 by omega]; first | (rw [hv205_0, hv197_0]; refine UF_two hq3 hU4 he.1 he.2 (Or.inr ⟨?_, ?_⟩) (Or.inr ⟨?_, ?_⟩); (rw [s0, hp2.2.1]); (rw [s3, hp2.1]); (rw [s2, hp2.2.2.2]); (rw [s1, hp2.2.2.1])) | (rw [hv230_0, hv222_0]; refine UF_two hq3 hU4 he.1 he.2 (Or.inl ⟨?_, ?_⟩) (Or.inl ⟨?_, ?_⟩); (rw [s0, hp2.1]); (rw [s1, hp2.2.1]); (rw [s2, hp2.2.2.1]); (rw [s3, hp2.2.2.2])) | exact UF_none hq3.1 hU4 (hen c_175 c_239).1 (hen c_175 c_239).2 | (rw [hv319_0]; have z9 := UF_one hq3 hU4 he.1 he.2; rw [← h9, ← h10] at z9; exact z9)) (by omega)
                      · refine lv_iload hx hb dX10_traces_269 (lv_at hl 1 rfl) ?_
                        refine lv_goto (tgt := 276) hx hb dX10_traces_271 (by decide) ?_
                        refine lv_istore (lv' := [(9, .int (zI v158_6)), (8, .int (zI v167_7)), (7, .int (zI v158_6)), (6, .int (zI v149_5)), (5, .int (zI v142_4)), (4, .int (zI v133_3)), (3, .int (zI cc)), (2, .int (zI r)), (0, .ref (β 0)), (1, .int (zI lv9))]) hx hb dX10_traces_276 hl (by decide) rfl (fun ls hl => ?_)
                        refine lv_aload_n hx hb dX10_traces_278 rfl (lv_at hl 8 rfl) ?_
                        refine va_get (D := D) (ci := 10) (v := .ref (β 7)) (C := RX10) (T := TX10) (N := 17) hx hb hts (fun w h => List.mem_cons_of_mem _ (wx_X10 w h)) hown hK hP 0 rfl rfl 11 (by decide) (hW0 _ wf_X10_29) (fun _ h9 => h9) rfl dX10_traces_279 ?_
                        refine lv_iload hx hb dX10_traces_282 (lv_at hl 3 rfl) ?_
                        refine z_iald (f := w4) hx hb hK hP 7 6 rfl rfl ⟨⟨by omega, by omega⟩, by decide⟩ dX10_traces_284 ?_
                        have hb_284 := hlb v149_5 (by omega) (by omega)
                        refine lv_iconst (v := zI (-1)) hx hb dX10_traces_285 rfl ?_
                        refine z_iceq (tgt := 294) hx hb ⟨by omega, by omega⟩ ⟨by omega, by omega⟩ dX10_traces_286 (by decide) (fun c_286 => ?_) (fun c_286 => ?_)
                        · refine lv_aload_n hx hb dX10_traces_294 rfl (lv_at hl 8 rfl) ?_
                          refine va_get (D := D) (ci := 10) (v := .ref (β 7)) (C := RX10) (T := TX10) (N := 17) hx hb hts (fun w h => List.mem_cons_of_mem _ (wx_X10 w h)) hown hK hP 0 rfl rfl 11 (by decide) (hW0 _ wf_X10_29) (fun _ h9 => h9) rfl dX10_traces_295 ?_
                          refine lv_iload hx hb dX10_traces_298 (lv_at hl 4 rfl) ?_
                          refine z_iald (f := w4) hx hb hK hP 7 6 rfl rfl ⟨⟨by omega, by omega⟩, by decide⟩ dX10_traces_300 ?_
                          have hb_300 := hlb v142_4 (by omega) (by omega)
                          refine lv_iconst (v := zI (-1)) hx hb dX10_traces_301 rfl ?_
                          refine z_iceq (tgt := 310) hx hb ⟨by omega, by omega⟩ ⟨by omega, by omega⟩ dX10_traces_302 (by decide) (fun c_302 => ?_) (fun c_302 => ?_)
                          · refine lv_iload hx hb dX10_traces_310 (lv_at hl 2 rfl) ?_
                            refine lv_istore (lv' := [(10, .int (zI v158_6)), (9, .int (zI v158_6)), (8, .int (zI v167_7)), (7, .int (zI v158_6)), (6, .int (zI v149_5)), (5, .int (zI v142_4)), (4, .int (zI v133_3)), (3, .int (zI cc)), (2, .int (zI r)), (0, .ref (β 0)), (1, .int (zI lv9))]) hx hb dX10_traces_312 hl (by decide) rfl (fun ls hl => ?_)
                            have h9 : v158_6 = P_a (S_hi ms lv9) (r * 6 + cc) 0 := by rw [(P_one hq3 he.2).1, ← s0, ← s1, ← s2]; first | (rw [if_pos ((hX _ l4).mpr c_250)]; done) | (rw [if_neg (fun z => (hX _ l4).mp z c_250), if_pos ((hX _ l7).mpr c_266)]; done) | (rw [if_neg (fun z => (hX _ l4).mp z c_250), if_neg (fun z => (hX _ l7).mp z c_266)]; done)
                            have h10 : v158_6 = P_b (S_hi ms lv9) (r * 6 + cc) 0 := by rw [(P_one hq3 he.2).2, ← s1, ← s2, ← s3]; first | (rw [if_pos ((hX _ l6).mpr c_286)]; done) | (rw [if_neg (fun z => (hX _ l6).mp z c_286), if_pos ((hX _ l5).mpr c_302)]; done) | (rw [if_neg (fun z => (hX _ l6).mp z c_286), if_neg (fun z => (hX _ l5).mp z c_302)]; done)
                            refine lv_aload_n hx hb dX10_traces_314 rfl (lv_at hl 9 rfl) ?_
                            refine lv_iload hx hb dX10_traces_315 (lv_at hl 1 rfl) ?_
                            refine lv_iload hx hb dX10_traces_317 (lv_at hl 0 rfl) ?_
                            refine z_callv hP hD hS hA (va_runV (As := [.int (zI v158_6), .int (zI v158_6)]) (rest := []) hC (c_X10_joins l D τ β δ ms mb mo mp mf mn w4 mc mq mr mw mk ml mt ma mx mh v158_6 v158_6 (by omega) (by omega) (by exact hlb) _) (cwV 2 hts (gV hB wl_X10_154 wn_X10_joins ws_X10_joins wi_X10 wc_X10_joins) rfl rfl rfl hd_X10_joins ⟨Nat.le_of_ble_eq_true rfl, Nat.le_of_ble_eq_true rfl⟩) (zp_V hK hP hD hS hA hG (ci := 10) (q0 := 0) rfl rfl rfl) rfl rfl hl.1 rfl (lv_room (Nat.le_of_ble_eq_true rfl)) dX10_traces_319 ⟨Nat.le_of_ble_eq_true rfl, Nat.le_of_ble_eq_true rfl⟩) (fun w1 H locs hq9 hP hD hS => ?_)
                            obtain ⟨m319_11, hv319_0, rfl⟩ := hq9
                            have hP : va_P D vwCl (wM β δ ms mb mo mp mf mn m319_11 mc mq mr mw mk ml mt ma mx mh) H := hP
                            have hD : va_D A (wM β δ ms mb mo mp mf mn m319_11 mc mq mr mw mk ml mt ma mx mh) := hD
                            refine z_iinc (k := 7) (v := cc + 1) (lv' := [(3, .int (zI (cc + 1))), (10, .int (zI v158_6)), (9, .int (zI v158_6)), (8, .int (zI v167_7)), (7, .int (zI v158_6)), (6, .int (zI v149_5)), (5, .int (zI v142_4)), (4, .int (zI v133_3)), (2, .int (zI r)), (0, .ref (β 0)), (1, .int (zI lv9))]) hx hb dX10_traces_322 hl rfl rfl (by decide) rfl (fun ls hl => ?_)
                            refine lv_goto (tgt := 125) hx hb dX10_traces_325 (by decide) ?_
                            exact ih_125 m319_11 (cc + 1) _ _ hP hD hS _ (lv_sub hl [0, 8, 9, 10] rfl) (by first | assumption | rfl | omega) (by rw [show r * 6 + (cc + 1) = r * 6 + cc + 1 by omega]; first | (rw [hv205_0, hv197_0]; refine UF_two hq3 hU4 he.1 he.2 (Or.inr ⟨?_, ?_⟩) (Or.inr ⟨?_, ?_⟩); (rw [s0, hp2.2.1]); (rw [s3, hp2.1]); (rw [s2, hp2.2.2.2]); (rw [s1, hp2.2.2.1])) | (rw [hv230_0, hv222_0]; refine UF_two hq3 hU4 he.1 he.2 (Or.inl ⟨?_, ?_⟩) (Or.inl ⟨?_, ?_⟩); (rw [s0, hp2.1]); (rw [s1, hp2.2.1]); (rw [s2, hp2.2.2.1]); (rw [s3, hp2.2.2.2])) | exact UF_none hq3.1 hU4 (hen c_175 c_239).1 (hen c_175 c_239).2 | (rw [hv319_0]; have z9 := UF_one hq3 hU4 he.1 he.2; rw [← h9, ← h10] at z9; exact z9)) (by omega)
                          · refine lv_iload hx hb dX10_traces_305 (lv_at hl 4 rfl) ?_
                            refine lv_goto (tgt := 312) hx hb dX10_traces_307 (by decide) ?_
                            refine lv_istore (lv' := [(10, .int (zI v142_4)), (9, .int (zI v158_6)), (8, .int (zI v167_7)), (7, .int (zI v158_6)), (6, .int (zI v149_5)), (5, .int (zI v142_4)), (4, .int (zI v133_3)), (3, .int (zI cc)), (2, .int (zI r)), (0, .ref (β 0)), (1, .int (zI lv9))]) hx hb dX10_traces_312 hl (by decide) rfl (fun ls hl => ?_)
                            have h9 : v158_6 = P_a (S_hi ms lv9) (r * 6 + cc) 0 := by rw [(P_one hq3 he.2).1, ← s0, ← s1, ← s2]; first | (rw [if_pos ((hX _ l4).mpr c_250)]; done) | (rw [if_neg (fun z => (hX _ l4).mp z c_250), if_pos ((hX _ l7).mpr c_266)]; done) | (rw [if_neg (fun z => (hX _ l4).mp z c_250), if_neg (fun z => (hX _ l7).mp z c_266)]; done)
                            have h10 : v142_4 = P_b (S_hi ms lv9) (r * 6 + cc) 0 := by rw [(P_one hq3 he.2).2, ← s1, ← s2, ← s3]; first | (rw [if_pos ((hX _ l6).mpr c_286)]; done) | (rw [if_neg (fun z => (hX _ l6).mp z c_286), if_pos ((hX _ l5).mpr c_302)]; done) | (rw [if_neg (fun z => (hX _ l6).mp z c_286), if_neg (fun z => (hX _ l5).mp z c_302)]; done)
                            refine lv_aload_n hx hb dX10_traces_314 rfl (lv_at hl 9 rfl) ?_
                            refine lv_iload hx hb dX10_traces_315 (lv_at hl 1 rfl) ?_
                            refine lv_iload hx hb dX10_traces_317 (lv_at hl 0 rfl) ?_
                            refine z_callv hP hD hS hA (va_runV (As := [.int (zI v158_6), .int (zI v142_4)]) (rest := []) hC (c_X10_joins l D τ β δ ms mb mo mp mf mn w4 mc mq mr mw mk ml mt ma mx mh v158_6 v142_4 (by omega) (by omega) (by exact hlb) _) (cwV 2 hts (gV hB wl_X10_154 wn_X10_joins ws_X10_joins wi_X10 wc_X10_joins) rfl rfl rfl hd_X10_joins ⟨Nat.le_of_ble_eq_true rfl, Nat.le_of_ble_eq_true rfl⟩) (zp_V hK hP hD hS hA hG (ci := 10) (q0 := 0) rfl rfl rfl) rfl rfl hl.1 rfl (lv_room (Nat.le_of_ble_eq_true rfl)) dX10_traces_319 ⟨Nat.le_of_ble_eq_true rfl, Nat.le_of_ble_eq_true rfl⟩) (fun w1 H locs hq9 hP hD hS => ?_)
                            obtain ⟨m319_12, hv319_0, rfl⟩ := hq9
                            have hP : va_P D vwCl (wM β δ ms mb mo mp mf mn m319_12 mc mq mr mw mk ml mt ma mx mh) H := hP
                            have hD : va_D A (wM β δ ms mb mo mp mf mn m319_12 mc mq mr mw mk ml mt ma mx mh) := hD
                            refine z_iinc (k := 7) (v := cc + 1) (lv' := [(3, .int (zI (cc + 1))), (10, .int (zI v142_4)), (9, .int (zI v158_6)), (8, .int (zI v167_7)), (7, .int (zI v158_6)), (6, .int (zI v149_5)), (5, .int (zI v142_4)), (4, .int (zI v133_3)), (2, .int (zI r)), (0, .ref (β 0)), (1, .int (zI lv9))]) hx hb dX10_traces_322 hl rfl rfl (by decide) rfl (fun ls hl => ?_)
                            refine lv_goto (tgt := 125) hx hb dX10_traces_325 (by decide) ?_
                            exact ih_125 m319_12 (cc + 1) _ _ hP hD hS _ (lv_sub hl [0, 8, 9, 10] rfl) (by first | assumption | rfl | omega) (by rw [show r * 6 + (cc + 1) = r * 6 + cc + 1 by omega]; first | (rw [hv205_0, hv197_0]; refine UF_two hq3 hU4 he.1 he.2 (Or.inr ⟨?_, ?_⟩) (Or.inr ⟨?_, ?_⟩); (rw [s0, hp2.2.1]); (rw [s3, hp2.1]); (rw [s2, hp2.2.2.2]); (rw [s1, hp2.2.2.1])) | (rw [hv230_0, hv222_0]; refine UF_two hq3 hU4 he.1 he.2 (Or.inl ⟨?_, ?_⟩) (Or.inl ⟨?_, ?_⟩); (rw [s0, hp2.1]); (rw [s1, hp2.2.1]); (rw [s2, hp2.2.2.1]); (rw [s3, hp2.2.2.2])) | exact UF_none hq3.1 hU4 (hen c_175 c_239).1 (hen c_175 c_239).2 | (rw [hv319_0]; have z9 := UF_one hq3 hU4 he.1 he.2; rw [← h9, ← h10] at z9; exact z9)) (by omega)
                        · refine lv_iload hx hb dX10_traces_289 (lv_at hl 3 rfl) ?_
                          refine lv_goto (tgt := 312) hx hb dX10_traces_291 (by decide) ?_
                          refine lv_istore (lv' := [(10, .int (zI v149_5)), (9, .int (zI v158_6)), (8, .int (zI v167_7)), (7, .int (zI v158_6)), (6, .int (zI v149_5)), (5, .int (zI v142_4)), (4, .int (zI v133_3)), (3, .int (zI cc)), (2, .int (zI r)), (0, .ref (β 0)), (1, .int (zI lv9))]) hx hb dX10_traces_312 hl (by decide) rfl (fun ls hl => ?_)
                          have h9 : v158_6 = P_a (S_hi ms lv9) (r * 6 + cc) 0 := by rw [(P_one hq3 he.2).1, ← s0, ← s1, ← s2]; first | (rw [if_pos ((hX _ l4).mpr c_250)]; done) | (rw [if_neg (fun z => (hX _ l4).mp z c_250), if_pos ((hX _ l7).mpr c_266)]; done) | (rw [if_neg (fun z => (hX _ l4).mp z c_250), if_neg (fun z => (hX _ l7).mp z c_266)]; done)
                          have h10 : v149_5 = P_b (S_hi ms lv9) (r * 6 + cc) 0 := by rw [(P_one hq3 he.2).2, ← s1, ← s2, ← s3]; first | (rw [if_pos ((hX _ l6).mpr c_286)]; done) | (rw [if_neg (fun z => (hX _ l6).mp z c_286), if_pos ((hX _ l5).mpr c_302)]; done) | (rw [if_neg (fun z => (hX _ l6).mp z c_286), if_neg (fun z => (hX _ l5).mp z c_302)]; done)
                          refine lv_aload_n hx hb dX10_traces_314 rfl (lv_at hl 9 rfl) ?_
                          refine lv_iload hx hb dX10_traces_315 (lv_at hl 1 rfl) ?_
                          refine lv_iload hx hb dX10_traces_317 (lv_at hl 0 rfl) ?_
                          refine z_callv hP hD hS hA (va_runV (As := [.int (zI v158_6), .int (zI v149_5)]) (rest := []) hC (c_X10_joins l D τ β δ ms mb mo mp mf mn w4 mc mq mr mw mk ml mt ma mx mh v158_6 v149_5 (by omega) (by omega) (by exact hlb) _) (cwV 2 hts (gV hB wl_X10_154 wn_X10_joins ws_X10_joins wi_X10 wc_X10_joins) rfl rfl rfl hd_X10_joins ⟨Nat.le_of_ble_eq_true rfl, Nat.le_of_ble_eq_true rfl⟩) (zp_V hK hP hD hS hA hG (ci := 10) (q0 := 0) rfl rfl rfl) rfl rfl hl.1 rfl (lv_room (Nat.le_of_ble_eq_true rfl)) dX10_traces_319 ⟨Nat.le_of_ble_eq_true rfl, Nat.le_of_ble_eq_true rfl⟩) (fun w1 H locs hq9 hP hD hS => ?_)
                          obtain ⟨m319_13, hv319_0, rfl⟩ := hq9
                          have hP : va_P D vwCl (wM β δ ms mb mo mp mf mn m319_13 mc mq mr mw mk ml mt ma mx mh) H := hP
                          have hD : va_D A (wM β δ ms mb mo mp mf mn m319_13 mc mq mr mw mk ml mt ma mx mh) := hD
                          refine z_iinc (k := 7) (v := cc + 1) (lv' := [(3, .int (zI (cc + 1))), (10, .int (zI v149_5)), (9, .int (zI v158_6)), (8, .int (zI v167_7)), (7, .int (zI v158_6)), (6, .int (zI v149_5)), (5, .int (zI v142_4)), (4, .int (zI v133_3)), (2, .int (zI r)), (0, .ref (β 0)), (1, .int (zI lv9))]) hx hb dX10_traces_322 hl rfl rfl (by decide) rfl (fun ls hl => ?_)
                          refine lv_goto (tgt := 125) hx hb dX10_traces_325 (by decide) ?_
                          exact ih_125 m319_13 (cc + 1) _ _ hP hD hS _ (lv_sub hl [0, 8, 9, 10] rfl) (by first | assumption | rfl | omega) (by rw [show r * 6 + (cc + 1) = r * 6 + cc + 1 by omega]; first | (rw [hv205_0, hv197_0]; refine UF_two hq3 hU4 he.1 he.2 (Or.inr ⟨?_, ?_⟩) (Or.inr ⟨?_, ?_⟩); (rw [s0, hp2.2.1]); (rw [s3, hp2.1]); (rw [s2, hp2.2.2.2]); (rw [s1, hp2.2.2.1])) | (rw [hv230_0, hv222_0]; refine UF_two hq3 hU4 he.1 he.2 (Or.inl ⟨?_, ?_⟩) (Or.inl ⟨?_, ?_⟩); (rw [s0, hp2.1]); (rw [s1, hp2.2.1]); (rw [s2, hp2.2.2.1]); (rw [s3, hp2.2.2.2])) | exact UF_none hq3.1 hU4 (hen c_175 c_239).1 (hen c_175 c_239).2 | (rw [hv319_0]; have z9 := UF_one hq3 hU4 he.1 he.2; rw [← h9, ← h10] at z9; exact z9)) (by omega)
                    · refine lv_iload hx hb dX10_traces_253 (lv_at hl 4 rfl) ?_
                      refine lv_goto (tgt := 276) hx hb dX10_traces_255 (by decide) ?_
                      refine lv_istore (lv' := [(9, .int (zI v133_3)), (8, .int (zI v167_7)), (7, .int (zI v158_6)), (6, .int (zI v149_5)), (5, .int (zI v142_4)), (4, .int (zI v133_3)), (3, .int (zI cc)), (2, .int (zI r)), (0, .ref (β 0)), (1, .int (zI lv9))]) hx hb dX10_traces_276 hl (by decide) rfl (fun ls hl => ?_)
                      refine lv_aload_n hx hb dX10_traces_278 rfl (lv_at hl 8 rfl) ?_
                      refine va_get (D := D) (ci := 10) (v := .ref (β 7)) (C := RX10) (T := TX10) (N := 17) hx hb hts (fun w h => List.mem_cons_of_mem _ (wx_X10 w h)) hown hK hP 0 rfl rfl 11 (by decide) (hW0 _ wf_X10_29) (fun _ h9 => h9) rfl dX10_traces_279 ?_
                      refine lv_iload hx hb dX10_traces_282 (lv_at hl 3 rfl) ?_
                      refine z_iald (f := w4) hx hb hK hP 7 6 rfl rfl ⟨⟨by omega, by omega⟩, by decide⟩ dX10_traces_284 ?_
                      have hb_284 := hlb v149_5 (by omega) (by omega)
                      refine lv_iconst (v := zI (-1)) hx hb dX10_traces_285 rfl ?_
                      refine z_iceq (tgt := 294) hx hb ⟨by omega, by omega⟩ ⟨by omega, by omega⟩ dX10_traces_286 (by decide) (fun c_286 => ?_) (fun c_286 => ?_)
                      · refine lv_aload_n hx hb dX10_traces_294 rfl (lv_at hl 8 rfl) ?_
                        refine va_get (D := D) (ci := 10) (v := .ref (β 7)) (C := RX10) (T := TX10) (N := 17) hx hb hts (fun w h => List.mem_cons_of_mem _ (wx_X10 w h)) hown hK hP 0 rfl rfl 11 (by decide) (hW0 _ wf_X10_29) (fun _ h9 => h9) rfl dX10_traces_295 ?_
                        refine lv_iload hx hb dX10_traces_298 (lv_at hl 4 rfl) ?_
                        refine z_iald (f := w4) hx hb hK hP 7 6 rfl rfl ⟨⟨by omega, by omega⟩, by decide⟩ dX10_traces_300 ?_
                        have hb_300 := hlb v142_4 (by omega) (by omega)
                        refine lv_iconst (v := zI (-1)) hx hb dX10_traces_301 rfl ?_
                        refine z_iceq (tgt := 310) hx hb ⟨by omega, by omega⟩ ⟨by omega, by omega⟩ dX10_traces_302 (by decide) (fun c_302 => ?_) (fun c_302 => ?_)
                        · refine lv_iload hx hb dX10_traces_310 (lv_at hl 2 rfl) ?_
                          refine lv_istore (lv' := [(10, .int (zI v158_6)), (9, .int (zI v133_3)), (8, .int (zI v167_7)), (7, .int (zI v158_6)), (6, .int (zI v149_5)), (5, .int (zI v142_4)), (4, .int (zI v133_3)), (3, .int (zI cc)), (2, .int (zI r)), (0, .ref (β 0)), (1, .int (zI lv9))]) hx hb dX10_traces_312 hl (by decide) rfl (fun ls hl => ?_)
                          have h9 : v133_3 = P_a (S_hi ms lv9) (r * 6 + cc) 0 := by rw [(P_one hq3 he.2).1, ← s0, ← s1, ← s2]; first | (rw [if_pos ((hX _ l4).mpr c_250)]; done) | (rw [if_neg (fun z => (hX _ l4).mp z c_250), if_pos ((hX _ l7).mpr c_266)]; done) | (rw [if_neg (fun z => (hX _ l4).mp z c_250), if_neg (fun z => (hX _ l7).mp z c_266)]; done)
                          have h10 : v158_6 = P_b (S_hi ms lv9) (r * 6 + cc) 0 := by rw [(P_one hq3 he.2).2, ← s1, ← s2, ← s3]; first | (rw [if_pos ((hX _ l6).mpr c_286)]; done) | (rw [if_neg (fun z => (hX _ l6).mp z c_286), if_pos ((hX _ l5).mpr c_302)]; done) | (rw [if_neg (fun z => (hX _ l6).mp z c_286), if_neg (fun z => (hX _ l5).mp z c_302)]; done)
                          refine lv_aload_n hx hb dX10_traces_314 rfl (lv_at hl 9 rfl) ?_
                          refine lv_iload hx hb dX10_traces_315 (lv_at hl 1 rfl) ?_
                          refine lv_iload hx hb dX10_traces_317 (lv_at hl 0 rfl) ?_
                          refine z_callv hP hD hS hA (va_runV (As := [.int (zI v133_3), .int (zI v158_6)]) (rest := []) hC (c_X10_joins l D τ β δ ms mb mo mp mf mn w4 mc mq mr mw mk ml mt ma mx mh v133_3 v158_6 (by omega) (by omega) (by exact hlb) _) (cwV 2 hts (gV hB wl_X10_154 wn_X10_joins ws_X10_joins wi_X10 wc_X10_joins) rfl rfl rfl hd_X10_joins ⟨Nat.le_of_ble_eq_true rfl, Nat.le_of_ble_eq_true rfl⟩) (zp_V hK hP hD hS hA hG (ci := 10) (q0 := 0) rfl rfl rfl) rfl rfl hl.1 rfl (lv_room (Nat.le_of_ble_eq_true rfl)) dX10_traces_319 ⟨Nat.le_of_ble_eq_true rfl, Nat.le_of_ble_eq_true rfl⟩) (fun w1 H locs hq9 hP hD hS => ?_)
                          obtain ⟨m319_14, hv319_0, rfl⟩ := hq9
                          have hP : va_P D vwCl (wM β δ ms mb mo mp mf mn m319_14 mc mq mr mw mk ml mt ma mx mh) H := hP
                          have hD : va_D A (wM β δ ms mb mo mp mf mn m319_14 mc mq mr mw mk ml mt ma mx mh) := hD
                          refine z_iinc (k := 7) (v := cc + 1) (lv' := [(3, .int (zI (cc + 1))), (10, .int (zI v158_6)), (9, .int (zI v133_3)), (8, .int (zI v167_7)), (7, .int (zI v158_6)), (6, .int (zI v149_5)), (5, .int (zI v142_4)), (4, .int (zI v133_3)), (2, .int (zI r)), (0, .ref (β 0)), (1, .int (zI lv9))]) hx hb dX10_traces_322 hl rfl rfl (by decide) rfl (fun ls hl => ?_)
                          refine lv_goto (tgt := 125) hx hb dX10_traces_325 (by decide) ?_
                          exact ih_125 m319_14 (cc + 1) _ _ hP hD hS _ (lv_sub hl [0, 8, 9, 10] rfl) (by first | assumption | rfl | omega) (by rw [show r * 6 + (cc + 1) = r * 6 + cc + 1 by omega]; first | (rw [hv205_0, hv197_0]; refine UF_two hq3 hU4 he.1 he.2 (Or.inr ⟨?_, ?_⟩) (Or.inr ⟨?_, ?_⟩); (rw [s0, hp2.2.1]); (rw [s3, hp2.1]); (rw [s2, hp2.2.2.2]); (rw [s1, hp2.2.2.1])) | (rw [hv230_0, hv222_0]; refine UF_two hq3 hU4 he.1 he.2 (Or.inl ⟨?_, ?_⟩) (Or.inl ⟨?_, ?_⟩); (rw [s0, hp2.1]); (rw [s1, hp2.2.1]); (rw [s2, hp2.2.2.1]); (rw [s3, hp2.2.2.2])) | exact UF_none hq3.1 hU4 (hen c_175 c_239).1 (hen c_175 c_239).2 | (rw [hv319_0]; have z9 := UF_one hq3 hU4 he.1 he.2; rw [← h9, ← h10] at z9; exact z9)) (by omega)
                        · refine lv_iload hx hb dX10_traces_305 (lv_at hl 4 rfl) ?_
                          refine lv_goto (tgt := 312) hx hb dX10_traces_307 (by decide) ?_
                          refine lv_istore (lv' := [(10, .int (zI v142_4)), (9, .int (zI v133_3)), (8, .int (zI v167_7)), (7, .int (zI v158_6)), (6, .int (zI v149_5)), (5, .int (zI v142_4)), (4, .int (zI v133_3)), (3, .int (zI cc)), (2, .int (zI r)), (0, .ref (β 0)), (1, .int (zI lv9))]) hx hb dX10_traces_312 hl (by decide) rfl (fun ls hl => ?_)
                          have h9 : v133_3 = P_a (S_hi ms lv9) (r * 6 + cc) 0 := by rw [(P_one hq3 he.2).1, ← s0, ← s1, ← s2]; first | (rw [if_pos ((hX _ l4).mpr c_250)]; done) | (rw [if_neg (fun z => (hX _ l4).mp z c_250), if_pos ((hX _ l7).mpr c_266)]; done) | (rw [if_neg (fun z => (hX _ l4).mp z c_250), if_neg (fun z => (hX _ l7).mp z c_266)]; done)
                          have h10 : v142_4 = P_b (S_hi ms lv9) (r * 6 + cc) 0 := by rw [(P_one hq3 he.2).2, ← s1, ← s2, ← s3]; first | (rw [if_pos ((hX _ l6).mpr c_286)]; done) | (rw [if_neg (fun z => (hX _ l6).mp z c_286), if_pos ((hX _ l5).mpr c_302)]; done) | (rw [if_neg (fun z => (hX _ l6).mp z c_286), if_neg (fun z => (hX _ l5).mp z c_302)]; done)
                          refine lv_aload_n hx hb dX10_traces_314 rfl (lv_at hl 9 rfl) ?_
                          refine lv_iload hx hb dX10_traces_315 (lv_at hl 1 rfl) ?_
                          refine lv_iload hx hb dX10_traces_317 (lv_at hl 0 rfl) ?_
                          refine z_callv hP hD hS hA (va_runV (As := [.int (zI v133_3), .int (zI v142_4)]) (rest := []) hC (c_X10_joins l D τ β δ ms mb mo mp mf mn w4 mc mq mr mw mk ml mt ma mx mh v133_3 v142_4 (by omega) (by omega) (by exact hlb) _) (cwV 2 hts (gV hB wl_X10_154 wn_X10_joins ws_X10_joins wi_X10 wc_X10_joins) rfl rfl rfl hd_X10_joins ⟨Nat.le_of_ble_eq_true rfl, Nat.le_of_ble_eq_true rfl⟩) (zp_V hK hP hD hS hA hG (ci := 10) (q0 := 0) rfl rfl rfl) rfl rfl hl.1 rfl (lv_room (Nat.le_of_ble_eq_true rfl)) dX10_traces_319 ⟨Nat.le_of_ble_eq_true rfl, Nat.le_of_ble_eq_true rfl⟩) (fun w1 H locs hq9 hP hD hS => ?_)
                          obtain ⟨m319_15, hv319_0, rfl⟩ := hq9
                          have hP : va_P D vwCl (wM β δ ms mb mo mp mf mn m319_15 mc mq mr mw mk ml mt ma mx mh) H := hP
                          have hD : va_D A (wM β δ ms mb mo mp mf mn m319_15 mc mq mr mw mk ml mt ma mx mh) := hD
                          refine z_iinc (k := 7) (v := cc + 1) (lv' := [(3, .int (zI (cc + 1))), (10, .int (zI v142_4)), (9, .int (zI v133_3)), (8, .int (zI v167_7)), (7, .int (zI v158_6)), (6, .int (zI v149_5)), (5, .int (zI v142_4)), (4, .int (zI v133_3)), (2, .int (zI r)), (0, .ref (β 0)), (1, .int (zI lv9))]) hx hb dX10_traces_322 hl rfl rfl (by decide) rfl (fun ls hl => ?_)
                          refine lv_goto (tgt := 125) hx hb dX10_traces_325 (by decide) ?_
                          exact ih_125 m319_15 (cc + 1) _ _ hP hD hS _ (lv_sub hl [0, 8, 9, 10] rfl) (by first | assumption | rfl | omega) (by rw [show r * 6 + (cc + 1) = r * 6 + cc + 1 by omega]; first | (rw [hv205_0, hv197_0]; refine UF_two hq3 hU4 he.1 he.2 (Or.inr ⟨?_, ?_⟩) (Or.inr ⟨?_, ?_⟩); (rw [s0, hp2.2.1]); (rw [s3, hp2.1]); (rw [s2, hp2.2.2.2]); (rw [s1, hp2.2.2.1])) | (rw [hv230_0, hv222_0]; refine UF_two hq3 hU4 he.1 he.2 (Or.inl ⟨?_, ?_⟩) (Or.inl ⟨?_, ?_⟩); (rw [s0, hp2.1]); (rw [s1, hp2.2.1]); (rw [s2, hp2.2.2.1]); (rw [s3, hp2.2.2.2])) | exact UF_none hq3.1 hU4 (hen c_175 c_239).1 (hen c_175 c_239).2 | (rw [hv319_0]; have z9 := UF_one hq3 hU4 he.1 he.2; rw [← h9, ← h10] at z9; exact z9)) (by omega)
                      · refine lv_iload hx hb dX10_traces_289 (lv_at hl 3 rfl) ?_
                        refine lv_goto (tgt := 312) hx hb dX10_traces_291 (by decide) ?_
                        refine lv_istore (lv' := [(10, .int (zI v149_5)), (9, .int (zI v133_3)), (8, .int (zI v167_7)), (7, .int (zI v158_6)), (6, .int (zI v149_5)), (5, .int (zI v142_4)), (4, .int (zI v133_3)), (3, .int (zI cc)), (2, .int (zI r)), (0, .ref (β 0)), (1, .int (zI lv9))]) hx hb dX10_traces_312 hl (by decide) rfl (fun ls hl => ?_)
                        have h9 : v133_3 = P_a (S_hi ms lv9) (r * 6 + cc) 0 := by rw [(P_one hq3 he.2).1, ← s0, ← s1, ← s2]; first | (rw [if_pos ((hX _ l4).mpr c_250)]; done) | (rw [if_neg (fun z => (hX _ l4).mp z c_250), if_pos ((hX _ l7).mpr c_266)]; done) | (rw [if_neg (fun z => (hX _ l4).mp z c_250), if_neg (fun z => (hX _ l7).mp z c_266)]; done)
                        have h10 : v149_5 = P_b (S_hi ms lv9) (r * 6 + cc) 0 := by rw [(P_one hq3 he.2).2, ← s1, ← s2, ← s3]; first | (rw [if_pos ((hX _ l6).mpr c_286)]; done) | (rw [if_neg (fun z => (hX _ l6).mp z c_286), if_pos ((hX _ l5).mpr c_302)]; done) | (rw [if_neg (fun z => (hX _ l6).mp z c_286), if_neg (fun z => (hX _ l5).mp z c_302)]; done)
                        refine lv_aload_n hx hb dX10_traces_314 rfl (lv_at hl 9 rfl) ?_
                        refine lv_iload hx hb dX10_traces_315 (lv_at hl 1 rfl) ?_
                        refine lv_iload hx hb dX10_traces_317 (lv_at hl 0 rfl) ?_
                        refine z_callv hP hD hS hA (va_runV (As := [.int (zI v133_3), .int (zI v149_5)]) (rest := []) hC (c_X10_joins l D τ β δ ms mb mo mp mf mn w4 mc mq mr mw mk ml mt ma mx mh v133_3 v149_5 (by omega) (by omega) (by exact hlb) _) (cwV 2 hts (gV hB wl_X10_154 wn_X10_joins ws_X10_joins wi_X10 wc_X10_joins) rfl rfl rfl hd_X10_joins ⟨Nat.le_of_ble_eq_true rfl, Nat.le_of_ble_eq_true rfl⟩) (zp_V hK hP hD hS hA hG (ci := 10) (q0 := 0) rfl rfl rfl) rfl rfl hl.1 rfl (lv_room (Nat.le_of_ble_eq_true rfl)) dX10_traces_319 ⟨Nat.le_of_ble_eq_true rfl, Nat.le_of_ble_eq_true rfl⟩) (fun w1 H locs hq9 hP hD hS => ?_)
                        obtain ⟨m319_16, hv319_0, rfl⟩ := hq9
                        have hP : va_P D vwCl (wM β δ ms mb mo mp mf mn m319_16 mc mq mr mw mk ml mt ma mx mh) H := hP
                        have hD : va_D A (wM β δ ms mb mo mp mf mn m319_16 mc mq mr mw mk ml mt ma mx mh) := hD
                        refine z_iinc (k := 7) (v := cc + 1) (lv' := [(3, .int (zI (cc + 1))), (10, .int (zI v149_5)), (9, .int (zI v133_3)), (8, .int (zI v167_7)), (7, .int (zI v158_6)), (6, .int (zI v149_5)), (5, .int (zI v142_4)), (4, .int (zI v133_3)), (2, .int (zI r)), (0, .ref (β 0)), (1, .int (zI lv9))]) hx hb dX10_traces_322 hl rfl rfl (by decide) rfl (fun ls hl => ?_)
                        refine lv_goto (tgt := 125) hx hb dX10_traces_325 (by decide) ?_
                        exact ih_125 m319_16 (cc + 1) _ _ hP hD hS _ (lv_sub hl [0, 8, 9, 10] rfl) (by first | assumption | rfl | omega) (by rw [show r * 6 + (cc + 1) = r * 6 + cc + 1 by omega]; first | (rw [hv205_0, hv197_0]; refine UF_two hq3 hU4 he.1 he.2 (Or.inr ⟨?_, ?_⟩) (Or.inr ⟨?_, ?_⟩); (rw [s0, hp2.2.1]); (rw [s3, hp2.1]); (rw [s2, hp2.2.2.2]); (rw [s1, hp2.2.2.1])) | (rw [hv230_0, hv222_0]; refine UF_two hq3 hU4 he.1 he.2 (Or.inl ⟨?_, ?_⟩) (Or.inl ⟨?_, ?_⟩); (rw [s0, hp2.1]); (rw [s1, hp2.2.1]); (rw [s2, hp2.2.2.1]); (rw [s3, hp2.2.2.2])) | exact UF_none hq3.1 hU4 (hen c_175 c_239).1 (hen c_175 c_239).2 | (rw [hv319_0]; have z9 := UF_one hq3 hU4 he.1 he.2; rw [← h9, ← h10] at z9; exact z9)) (by omega)
                · exact absurd c_214 c_175
              · have he := (pie_e (h := ms) (r := r) (c := cc) (L := lv9)).1 (hv167_0.symm.trans c_175)
                have hab : S_hi ms lv9 (7 * r + cc) = S_hi ms lv9 (S_cn (r * 6 + cc) 0) := by rw [S_cn_0 ⟨hcc.1, by omega⟩]
                refine lv_aload_n hx hb dX10_traces_178 rfl (lv_at hl 7 rfl) ?_
                refine lv_bipush (v := zI 7) hx hb dX10_traces_179 (zI_b8 (by decide)) ?_
                refine lv_iload_n hx hb dX10_traces_181 rfl (lv_at hl 6 rfl) ?_
                refine z_imul hx hb dX10_traces_182 ?_
                refine lv_iload_n hx hb dX10_traces_183 rfl (lv_at hl 5 rfl) ?_
                refine z_iadd hx hb dX10_traces_184 ?_
                refine lv_iload_n hx hb dX10_traces_185 rfl (lv_at hl 8 rfl) ?_
                refine z_calli hP hD hS hA (va_runV (As := [.int (zI ((7 * r) + cc)), .int (zI lv9)]) (rest := []) hC (c_X10_isAbove l D τ β δ ms mb mo mp mf mn w4 mc mq mr mw mk ml mt ma mx mh ((7 * r) + cc) lv9 (by first | assumption | rfl | omega) (by first | assumption | rfl | omega) (by first | assumption | rfl | omega) _) (cwV 2 hts (gV hB wl_X10_129 wn_X10_isAbove ws_X10_isAbove wi_X10 wc_X10_isAbove) rfl rfl rfl hd_X10_isAbove ⟨Nat.le_of_ble_eq_true rfl, Nat.le_of_ble_eq_true rfl⟩) (zp_V hK hP hD hS hA hG (ci := 10) (q0 := 0) rfl rfl rfl) rfl rfl hl.1 rfl (lv_room (Nat.le_of_ble_eq_true rfl)) dX10_traces_186 ⟨Nat.le_of_ble_eq_true rfl, Nat.le_of_ble_eq_true rfl⟩) (fun r w1 H locs hq9 hP hD hS => ?_)
                obtain ⟨v186_17, hv186_0, rfl, rfl⟩ := hq9
                have hP : va_P D vwCl (wM β δ ms mb mo mp mf mn w4 mc mq mr mw mk ml mt ma mx mh) H := hP
                have hD : va_D A (wM β δ ms mb mo mp mf mn w4 mc mq mr mw mk ml mt ma mx mh) := hD
                refine z_ifeqB (tgt := 211) hx hb dX10_traces_189 (by decide) (fun c_189 => ?_) (fun c_189 => ?_)
                · refine lv_iload hx hb dX10_traces_211 (lv_at hl 0 rfl) ?_
                  refine lv_iconst (v := zI 2) hx hb dX10_traces_213 rfl ?_
                  refine z_icne (tgt := 236) hx hb ⟨by omega, by omega⟩ ⟨by omega, by omega⟩ dX10_traces_214 (by decide) (fun c_214 => ?_) (fun c_214 => ?_)
                  · exact absurd c_175 c_214
                  · have hp2 := (P_two he.2).2 (hab.symm.trans (hv186_0.symm.trans c_189))
                    refine lv_aload_n hx hb dX10_traces_217 rfl (lv_at hl 7 rfl) ?_
                    refine lv_iload hx hb dX10_traces_218 (lv_at hl 4 rfl) ?_
                    refine lv_iload hx hb dX10_traces_220 (lv_at hl 1 rfl) ?_
                    refine z_callv hP hD hS hA (va_runV (As := [.int (zI v133_3), .int (zI v158_6)]) (rest := []) hC (c_X10_joins l D τ β δ ms mb mo mp mf mn w4 mc mq mr mw mk ml mt ma mx mh v133_3 v158_6 (by first | assumption | rfl | omega) (by first | assumption | rfl | omega) (by exact hlb) _) (cwV 2 hts (gV hB wl_X10_154 wn_X10_joins ws_X10_joins wi_X10 wc_X10_joins) rfl rfl rfl hd_X10_joins ⟨Nat.le_of_ble_eq_true rfl, Nat.le_of_ble_eq_true rfl⟩) (zp_V hK hP hD hS hA hG (ci := 10) (q0 := 0) rfl rfl rfl) rfl rfl hl.1 rfl (lv_room (Nat.le_of_ble_eq_true rfl)) dX10_traces_222 ⟨Nat.le_of_ble_eq_true rfl, Nat.le_of_ble_eq_true rfl⟩) (fun w1 H locs hq9 hP hD hS => ?_)
                    obtain ⟨m222_18, hv222_0, rfl⟩ := hq9
                    have hP : va_P D vwCl (wM β δ ms mb mo mp mf mn m222_18 mc mq mr mw mk ml mt ma mx mh) H := hP
                    have hD : va_D A (wM β δ ms mb mo mp mf mn m222_18 mc mq mr mw mk ml mt ma mx mh) := hD
                    refine lv_aload_n hx hb dX10_traces_225 rfl (lv_at hl 7 rfl) ?_
                    refine lv_iload hx hb dX10_traces_226 (lv_at hl 3 rfl) ?_
                    refine lv_iload hx hb dX10_traces_228 (lv_at hl 2 rfl) ?_
                    refine z_callv hP hD hS hA (va_runV (As := [.int (zI v142_4), .int (zI v149_5)]) (rest := []) hC (c_X10_joins l D τ β δ ms mb mo mp mf mn m222_18 mc mq mr mw mk ml mt ma mx mh v142_4 v149_5 (by first | assumption | rfl | omega) (by first | assumption | rfl | omega) (by rw [hv222_0]; exact jn_b hlb l4 l7) _) (cwV 2 hts (gV hB wl_X10_154 wn_X10_joins ws_X10_joins wi_X10 wc_X10_joins) rfl rfl rfl hd_X10_joins ⟨Nat.le_of_ble_eq_true rfl, Nat.le_of_ble_eq_true rfl⟩) (zp_V hK hP hD hS hA hG (ci := 10) (q0 := 0) rfl rfl rfl) rfl rfl hl.1 rfl (lv_room (Nat.le_of_ble_eq_true rfl)) dX10_traces_230 ⟨Nat.le_of_ble_eq_true rfl, Nat.le_of_ble_eq_true rfl⟩) (fun w1 H locs hq9 hP hD hS => ?_)
                    obtain ⟨m230_19, hv230_0, rfl⟩ := hq9
                    have hP : va_P D vwCl (wM β δ ms mb mo mp mf mn m230_19 mc mq mr mw mk ml mt ma mx mh) H := hP
                    have hD : va_D A (wM β δ ms mb mo mp mf mn m230_19 mc mq mr mw mk ml mt ma mx mh) := hD
                    refine lv_goto (tgt := 322) hx hb dX10_traces_233 (by decide) ?_
                    refine z_iinc (k := 5) (v := cc + 1) (lv' := [(3, .int (zI (cc + 1))), (8, .int (zI v167_7)), (7, .int (zI v158_6)), (6, .int (zI v149_5)), (5, .int (zI v142_4)), (4, .int (zI v133_3)), (2, .int (zI r)), (0, .ref (β 0)), (1, .int (zI lv9))]) hx hb dX10_traces_322 hl rfl rfl (by decide) rfl (fun ls hl => ?_)
                    refine lv_goto (tgt := 125) hx hb dX10_traces_325 (by decide) ?_
                    exact ih_125 m230_19 (cc + 1) _ _ hP hD hS _ (lv_sub hl [0, 6, 7, 8] rfl) (by first | assumption | rfl | omega) (by rw [show r * 6 + (cc + 1) = r * 6 + cc + 1 by omega]; first | (rw [hv205_0, hv197_0]; refine UF_two hq3 hU4 he.1 he.2 (Or.inr ⟨?_, ?_⟩) (Or.inr ⟨?_, ?_⟩); (rw [s0, hp2.2.1]); (rw [s3, hp2.1]); (rw [s2, hp2.2.2.2]); (rw [s1, hp2.2.2.1])) | (rw [hv230_0, hv222_0]; refine UF_two hq3 hU4 he.1 he.2 (Or.inl ⟨?_, ?_⟩) (Or.inl ⟨?_, ?_⟩); (rw [s0, hp2.1]); (rw [s1, hp2.2.1]); (rw [s2, hp2.2.2.1]); (rw [s3, hp2.2.2.2])) | exact UF_none hq3.1 hU4 (hen c_175 c_239).1 (hen c_175 c_239).2 | (rw [hv319_0]; have z9 := UF_one hq3 hU4 he.1 he.2; rw [← h9, ← h10] at z9; exact z9)) (by omega)
                · have hp2 := (P_two he.2).1 (hab.symm.trans (hv186_0.symm.trans c_189))
                  refine lv_aload_n hx hb dX10_traces_192 rfl (lv_at hl 7 rfl) ?_
                  refine lv_iload hx hb dX10_traces_193 (lv_at hl 4 rfl) ?_
                  refine lv_iload hx hb dX10_traces_195 (lv_at hl 2 rfl) ?_
                  refine z_callv hP hD hS hA (va_runV (As := [.int (zI v133_3), .int (zI v149_5)]) (rest := []) hC (c_X10_joins l D τ β δ ms mb mo mp mf mn w4 mc mq mr mw mk ml mt ma mx mh v133_3 v149_5 (by first | assumption | rfl | omega) (by first | assumption | rfl | omega) (by exact hlb) _) (cwV 2 hts (gV hB wl_X10_154 wn_X10_joins ws_X10_joins wi_X10 wc_X10_joins) rfl rfl rfl hd_X10_joins ⟨Nat.le_of_ble_eq_true rfl, Nat.le_of_ble_eq_true rfl⟩) (zp_V hK hP hD hS hA hG (ci := 10) (q0 := 0) rfl rfl rfl) rfl rfl hl.1 rfl (lv_room (Nat.le_of_ble_eq_true rfl)) dX10_traces_197 ⟨Nat.le_of_ble_eq_true rfl, Nat.le_of_ble_eq_true rfl⟩) (fun w1 H locs hq9 hP hD hS => ?_)
                  obtain ⟨m197_20, hv197_0, rfl⟩ := hq9
                  have hP : va_P D vwCl (wM β δ ms mb mo mp mf mn m197_20 mc mq mr mw mk ml mt ma mx mh) H := hP
                  have hD : va_D A (wM β δ ms mb mo mp mf mn m197_20 mc mq mr mw mk ml mt ma mx mh) := hD
                  refine lv_aload_n hx hb dX10_traces_200 rfl (lv_at hl 7 rfl) ?_
                  refine lv_iload hx hb dX10_traces_201 (lv_at hl 3 rfl) ?_
                  refine lv_iload hx hb dX10_traces_203 (lv_at hl 1 rfl) ?_
                  refine z_callv hP hD hS hA (va_runV (As := [.int (zI v142_4), .int (zI v158_6)]) (rest := []) hC (c_X10_joins l D τ β δ ms mb mo mp mf mn m197_20 mc mq mr mw mk ml mt ma mx mh v142_4 v158_6 (by first | assumption | rfl | omega) (by first | assumption | rfl | omega) (by rw [hv197_0]; exact jn_b hlb l4 l6) _) (cwV 2 hts (gV hB wl_X10_154 wn_X10_joins ws_X10_joins wi_X10 wc_X10_joins) rfl rfl rfl hd_X10_joins ⟨Nat.le_of_ble_eq_true rfl, Nat.le_of_ble_eq_true rfl⟩) (zp_V hK hP hD hS hA hG (ci := 10) (q0 := 0) rfl rfl rfl) rfl rfl hl.1 rfl (lv_room (Nat.le_of_ble_eq_true rfl)) dX10_traces_205 ⟨Nat.le_of_ble_eq_true rfl, Nat.le_of_ble_eq_true rfl⟩) (fun w1 H locs hq9 hP hD hS => ?_)
                  obtain ⟨m205_21, hv205_0, rfl⟩ := hq9
                  have hP : va_P D vwCl (wM β δ ms mb mo mp mf mn m205_21 mc mq mr mw mk ml mt ma mx mh) H := hP
                  have hD : va_D A (wM β δ ms mb mo mp mf mn m205_21 mc mq mr mw mk ml mt ma mx mh) := hD
                  refine lv_goto (tgt := 322) hx hb dX10_traces_208 (by decide) ?_
                  refine z_iinc (k := 5) (v := cc + 1) (lv' := [(3, .int (zI (cc + 1))), (8, .int (zI v167_7)), (7, .int (zI v158_6)), (6, .int (zI v149_5)), (5, .int (zI v142_4)), (4, .int (zI v133_3)), (2, .int (zI r)), (0, .ref (β 0)), (1, .int (zI lv9))]) hx hb dX10_traces_322 hl rfl rfl (by decide) rfl (fun ls hl => ?_)
                  refine lv_goto (tgt := 125) hx hb dX10_traces_325 (by decide) ?_
                  exact ih_125 m205_21 (cc + 1) _ _ hP hD hS _ (lv_sub hl [0, 6, 7, 8] rfl) (by first | assumption | rfl | omega) (by rw [show r * 6 + (cc + 1) = r * 6 + cc + 1 by omega]; first | (rw [hv205_0, hv197_0]; refine UF_two hq3 hU4 he.1 he.2 (Or.inr ⟨?_, ?_⟩) (Or.inr ⟨?_, ?_⟩); (rw [s0, hp2.2.1]); (rw [s3, hp2.1]); (rw [s2, hp2.2.2.2]); (rw [s1, hp2.2.2.1])) | (rw [hv230_0, hv222_0]; refine UF_two hq3 hU4 he.1 he.2 (Or.inl ⟨?_, ?_⟩) (Or.inl ⟨?_, ?_⟩); (rw [s0, hp2.1]); (rw [s1, hp2.2.1]); (rw [s2, hp2.2.2.1]); (rw [s3, hp2.2.2.2])) | exact UF_none hq3.1 hU4 (hen c_175 c_239).1 (hen c_175 c_239).2 | (rw [hv319_0]; have z9 := UF_one hq3 hU4 he.1 he.2; rw [← h9, ← h10] at z9; exact z9)) (by omega)
    · refine lv_iconst (v := zI 0) hx hb dX10_traces_8 rfl ?_
      refine lv_istore_n (lv' := [(3, .int (zI 0)), (2, .int (zI r)), (0, .ref (β 0)), (1, .int (zI lv9))]) hx hb dX10_traces_9 rfl hl (by decide) rfl (fun ls hl => ?_)
      suffices HL_10 : ∀ (n_10 : Nat), ∀ (w2 : IA) (cc : Int) (H : Heap) (locs : List Loc) (hP : va_P D vwCl (wM β δ ms mb mo mp mf mn w2 mc mq mr mw mk ml mt ma mx mh) H) (hD : va_D A (wM β δ ms mb mo mp mf mn w2 mc mq mr mw mk ml mt ma mx mh)) (hS : va_S A s.heap H locs) (ls : Array Slot) (hl : lv_has ls 11 [(3, .int (zI cc)), (2, .int (zI r)), (0, .ref (β 0)), (1, .int (zI lv9))]) (hcc : 0 ≤ cc ∧ cc ≤ 7) (hL2 : LN0 (S_hi ms lv9) w2 (7 * r + cc)) (hm : (7 - cc).toNat < n_10), W pg l e rm_X10_traces s m args below meth c H locs 0 0 Q (F0 m 10 ls []) from HL_10 _ w1 0 _ _ hP hD hS _ (lv_sub hl [0, 1, 2, 3] rfl) (by first | assumption | rfl | omega) (by rw [show 7 * r + 0 = 7 * r by omega]; exact hL1) (Nat.lt_succ_self _)
      intro n_10
      induction n_10 with
      | zero => intro w2 cc H locs hP hD hS ls hl hcc hL2 hm; exact absurd hm (Nat.not_lt_zero _)
      | succ n_10 ih_10 =>
        intro w2 cc H locs hP hD hS ls hl hcc hL2 hm
        refine lv_iload_n hx hb dX10_traces_10 rfl (lv_at hl 0 rfl) ?_
        refine lv_bipush (v := zI 7) hx hb dX10_traces_11 (zI_b8 (by decide)) ?_
        refine z_icge (tgt := 109) hx hb ⟨by omega, by omega⟩ ⟨by omega, by omega⟩ dX10_traces_13 (by decide) (fun c_13 => ?_) (fun c_13 => ?_)
        · refine z_iinc (k := 1) (v := r + 1) (lv' := [(2, .int (zI (r + 1))), (3, .int (zI cc)), (0, .ref (β 0)), (1, .int (zI lv9))]) hx hb dX10_traces_109 hl rfl rfl (by decide) rfl (fun ls hl => ?_)
          refine lv_goto (tgt := 2) hx hb dX10_traces_112 (by decide) ?_
          exact ih_2 w2 (r + 1) _ _ hP hD hS _ (lv_sub hl [0, 2, 3] rfl) (by first | assumption | rfl | omega) (by rw [show 7 * (r + 1) = 7 * r + cc by omega]; exact hL2) (by omega)
        · refine lv_bipush (v := zI 7) hx hb dX10_traces_16 (zI_b8 (by decide)) ?_
          refine lv_iload_n hx hb dX10_traces_18 rfl (lv_at hl 1 rfl) ?_
          refine z_imul hx hb dX10_traces_19 ?_
          refine lv_iload_n hx hb dX10_traces_20 rfl (lv_at hl 0 rfl) ?_
          refine z_iadd hx hb dX10_traces_21 ?_
          refine lv_istore (lv' := [(4, .int (zI ((7 * r) + cc))), (3, .int (zI cc)), (2, .int (zI r)), (0, .ref (β 0)), (1, .int (zI lv9))]) hx hb dX10_traces_22 hl (by decide) rfl (fun ls hl => ?_)
          refine lv_iload_n hx hb dX10_traces_24 rfl (lv_at hl 1 rfl) ?_
          refine lv_bipush (v := zI 6) hx hb dX10_traces_25 (zI_b8 (by decide)) ?_
          refine z_icge (tgt := 63) hx hb ⟨by omega, by omega⟩ ⟨by omega, by omega⟩ dX10_traces_27 (by decide) (fun c_27 => ?_) (fun c_27 => ?_)
          · refine lv_iload_n hx hb dX10_traces_63 rfl (lv_at hl 2 rfl) ?_
            refine lv_bipush (v := zI 6) hx hb dX10_traces_64 (zI_b8 (by decide)) ?_
            refine z_icge (tgt := 103) hx hb ⟨by omega, by omega⟩ ⟨by omega, by omega⟩ dX10_traces_66 (by decide) (fun c_66 => ?_) (fun c_66 => ?_)
            · refine z_iinc (k := 1) (v := cc + 1) (lv' := [(3, .int (zI (cc + 1))), (4, .int (zI ((7 * r) + cc))), (2, .int (zI r)), (0, .ref (β 0)), (1, .int (zI lv9))]) hx hb dX10_traces_103 hl rfl rfl (by decide) rfl (fun ls hl => ?_)
              refine lv_goto (tgt := 10) hx hb dX10_traces_106 (by decide) ?_
              exact ih_10 w2 (cc + 1) _ _ hP hD hS _ (lv_sub hl [0, 2, 3, 4] rfl) (by first | assumption | rfl | omega) (by refine LN0_up ⟨hrr.1, by omega⟩ ⟨hcc.1, by omega⟩ hL2 (fun h9 => ?_) (fun h9 => ?_) (fun e q1 q2 => ?_); (focus (first | (exfalso; omega) | (have z9 : S_X (S_hi ms lv9) none_ = none_ := (by rw [hv36_0, S_X_r ⟨hrr.1, by omega⟩ ⟨hcc.1, by omega⟩]; first | done | exact hv47_0.symm); (first | rw [zu_n (by omega), show 6 * r + cc = none_ by omega, zu_s] | rw [show 6 * r + cc = none_ by omega, zu_s]); rw [z9]; first | (rw [c_50, if_pos rfl]; omega) | (rw [c_50, if_neg (by decide)]; done)))); (focus (first | (exfalso; omega) | (have z9 : S_X (S_hi ms lv9) none_ = none_ := (by rw [hv75_0, S_X_b ⟨hrr.1, by omega⟩ ⟨hcc.1, by omega⟩]; first | done | exact hv87_0.symm); rw [show 42 + 7 * r + cc = none_ by omega, zu_s]; rw [z9]; first | (rw [c_90, if_pos rfl]; omega) | (rw [c_90, if_neg (by decide)]; done)))); (first | rw [zu_n (fun h => q2 ⟨by omega, by omega⟩), zu_n (fun h => q1 ⟨by omega, by omega⟩)] | rw [zu_n (fun h => q1 ⟨by omega, by omega⟩)] | rw [zu_n (fun h => q2 ⟨by omega, by omega⟩)] | rfl)) (by omega)
            · refine lv_aload_n hx hb dX10_traces_69 rfl (lv_at hl 3 rfl) ?_
              refine va_get (D := D) (ci := 10) (v := .ref (β 7)) (C := RX10) (T := TX10) (N := 17) hx hb hts (fun w h => List.mem_cons_of_mem _ (wx_X10 w h)) hown hK hP 0 rfl rfl 11 (by decide) (hW0 _ wf_X10_29) (fun _ h9 => h9) rfl dX10_traces_70 ?_
              refine lv_iload_n hx hb dX10_traces_73 rfl (lv_at hl 2 rfl) ?_
              refine lv_iload_n hx hb dX10_traces_74 rfl (lv_at hl 1 rfl) ?_
              refine z_calli hP hD hS hA (va_runS (As := [.int (zI r), .int (zI cc)]) (rest := [.ref (β 7)]) hC (c_X10_below l D τ _ _ r cc _) (va_cwS 2 hts (gS hB wl_X10_148 wt_X10_below wi_X10 wc_X10_below) rfl rfl rfl hd_X10_below.2 ⟨Nat.le_of_ble_eq_true rfl, Nat.le_of_ble_eq_true rfl⟩) (zp_S hK hP hD hS hA hG) rfl rfl hl.1 rfl (lv_room (Nat.le_of_ble_eq_true rfl)) dX10_traces_75 ⟨Nat.le_of_ble_eq_true rfl, Nat.le_of_ble_eq_true rfl⟩) (fun r w1 H locs hq9 hP hD hS => ?_)
              obtain ⟨v75_22, hv75_0, rfl, rfl⟩ := hq9
              refine lv_aload_n hx hb dX10_traces_78 rfl (lv_at hl 3 rfl) ?_
              refine lv_iload hx hb dX10_traces_79 (lv_at hl 0 rfl) ?_
              refine lv_iload hx hb dX10_traces_81 (lv_at hl 0 rfl) ?_
              refine lv_bipush (v := zI 7) hx hb dX10_traces_83 (zI_b8 (by decide)) ?_
              refine z_iadd hx hb dX10_traces_85 ?_
              refine lv_iload_n hx hb dX10_traces_86 rfl (lv_at hl 4 rfl) ?_
              refine z_calli hP hD hS hA (va_runV (As := [.int (zI ((7 * r) + cc)), .int (zI (((7 * r) + cc) + 7)), .int (zI lv9)]) (rest := [.int (zI v75_22), .ref (β 7)]) hC (c_X10_isCrossed l D τ β δ ms mb mo mp mf mn w2 mc mq mr mw mk ml mt ma mx mh ((7 * r) + cc) (((7 * r) + cc) + 7) lv9 (by first | assumption | rfl | omega) (by first | assumption | rfl | omega) (by first | assumption | rfl | omega) (by first | assumption | rfl | omega) _) (cwV 3 hts (gV hB wl_X10_142 wn_X10_isCrossed ws_X10_isCrossed wi_X10 wc_X10_isCrossed) rfl rfl rfl hd_X10_isCrossed ⟨Nat.le_of_ble_eq_true rfl, Nat.le_of_ble_eq_true rfl⟩) (zp_V hK hP hD hS hA hG (ci := 10) (q0 := 0) rfl rfl rfl) rfl rfl hl.1 rfl (lv_room (Nat.le_of_ble_eq_true rfl)) dX10_traces_87 ⟨Nat.le_of_ble_eq_true rfl, Nat.le_of_ble_eq_true rfl⟩) (fun r w1 H locs hq9 hP hD hS => ?_)
              obtain ⟨v87_23, hv87_0, rfl, rfl⟩ := hq9
              have hP : va_P D vwCl (wM β δ ms mb mo mp mf mn w2 mc mq mr mw mk ml mt ma mx mh) H := hP
              have hD : va_D A (wM β δ ms mb mo mp mf mn w2 mc mq mr mw mk ml mt ma mx mh) := hD
              refine z_ifeqB (tgt := 101) hx hb dX10_traces_90 (by decide) (fun c_90 => ?_) (fun c_90 => ?_)
              · refine lv_iconst (v := zI (-1)) hx hb dX10_traces_101 rfl ?_
                refine z_iast (f := w2) (v := (-1)) hx hb hK hP hD hS 7 6 rfl rfl ⟨⟨by omega, by omega⟩, by decide⟩ dX10_traces_102 (fun H locs hP hD hS => ?_)
                have hP : va_P D vwCl (wM β δ ms mb mo mp mf mn ((zu w2 v75_22 (-1))) mc mq mr mw mk ml mt ma mx mh) H := hP
                have hD : va_D A (wM β δ ms mb mo mp mf mn ((zu w2 v75_22 (-1))) mc mq mr mw mk ml mt ma mx mh) := hD
                refine z_iinc (k := 1) (v := cc + 1) (lv' := [(3, .int (zI (cc + 1))), (4, .int (zI ((7 * r) + cc))), (2, .int (zI r)), (0, .ref (β 0)), (1, .int (zI lv9))]) hx hb dX10_traces_103 hl rfl rfl (by decide) rfl (fun ls hl => ?_)
                refine lv_goto (tgt := 10) hx hb dX10_traces_106 (by decide) ?_
                exact ih_10 (zu w2 v75_22 (-1)) (cc + 1) _ _ hP hD hS _ (lv_sub hl [0, 2, 3, 4] rfl) (by first | assumption | rfl | omega) (by refine LN0_up ⟨hrr.1, by omega⟩ ⟨hcc.1, by omega⟩ hL2 (fun h9 => ?_) (fun h9 => ?_) (fun e q1 q2 => ?_); (focus (first | (exfalso; omega) | (have z9 : S_X (S_hi ms lv9) none_ = none_ := (by rw [hv36_0, S_X_r ⟨hrr.1, by omega⟩ ⟨hcc.1, by omega⟩]; first | done | exact hv47_0.symm); (first | rw [zu_n (by omega), show 6 * r + cc = none_ by omega, zu_s] | rw [show 6 * r + cc = none_ by omega, zu_s]); rw [z9]; first | (rw [c_50, if_pos rfl]; omega) | (rw [c_50, if_neg (by decide)]; done)))); (focus (first | (exfalso; omega) | (have z9 : S_X (S_hi ms lv9) v75_22 = v87_23 := (by rw [hv75_0, S_X_b ⟨hrr.1, by omega⟩ ⟨hcc.1, by omega⟩]; first | done | exact hv87_0.symm); rw [show 42 + 7 * r + cc = v75_22 by omega, zu_s]; rw [z9]; first | (rw [c_90, if_pos rfl]; omega) | (rw [c_90, if_neg (by decide)]; done)))); (first | rw [zu_n (fun h => q2 ⟨by omega, by omega⟩), zu_n (fun h => q1 ⟨by omega, by omega⟩)] | rw [zu_n (fun h => q1 ⟨by omega, by omega⟩)] | rw [zu_n (fun h => q2 ⟨by omega, by omega⟩)] | rfl)) (by omega)
              · refine lv_iload_n hx hb dX10_traces_93 rfl (lv_at hl 2 rfl) ?_
                refine lv_iload_n hx hb dX10_traces_94 rfl (lv_at hl 1 rfl) ?_
                refine z_calli hP hD hS hA (va_runS (As := [.int (zI r), .int (zI cc)]) (rest := [.int (zI v75_22), .ref (β 7)]) hC (c_X10_below l D τ _ _ r cc _) (va_cwS 2 hts (gS hB wl_X10_148 wt_X10_below wi_X10 wc_X10_below) rfl rfl rfl hd_X10_below.2 ⟨Nat.le_of_ble_eq_true rfl, Nat.le_of_ble_eq_true rfl⟩) (zp_S hK hP hD hS hA hG) rfl rfl hl.1 rfl (lv_room (Nat.le_of_ble_eq_true rfl)) dX10_traces_95 ⟨Nat.le_of_ble_eq_true rfl, Nat.le_of_ble_eq_true rfl⟩) (fun r w1 H locs hq9 hP hD hS => ?_)
                obtain ⟨v95_24, hv95_0, rfl, rfl⟩ := hq9
                refine lv_goto (tgt := 102) hx hb dX10_traces_98 (by decide) ?_
                refine z_iast (f := w2) (v := v95_24) hx hb hK hP hD hS 7 6 rfl rfl ⟨⟨by omega, by omega⟩, by decide⟩ dX10_traces_102 (fun H locs hP hD hS => ?_)
                have hP : va_P D vwCl (wM β δ ms mb mo mp mf mn (zu w2 v75_22 v95_24) mc mq mr mw mk ml mt ma mx mh) H := hP
                have hD : va_D A (wM β δ ms mb mo mp mf mn (zu w2 v75_22 v95_24) mc mq mr mw mk ml mt ma mx mh) := hD
                refine z_iinc (k := 1) (v := cc + 1) (lv' := [(3, .int (zI (cc + 1))), (4, .int (zI ((7 * r) + cc))), (2, .int (zI r)), (0, .ref (β 0)), (1, .int (zI lv9))]) hx hb dX10_traces_103 hl rfl rfl (by decide) rfl (fun ls hl => ?_)
                refine lv_goto (tgt := 10) hx hb dX10_traces_106 (by decide) ?_
                exact ih_10 (zu w2 v75_22 v95_24) (cc + 1) _ _ hP hD hS _ (lv_sub hl [0, 2, 3, 4] rfl) (by first | assumption | rfl | omega) (by refine LN0_up ⟨hrr.1, by omega⟩ ⟨hcc.1, by omega⟩ hL2 (fun h9 => ?_) (fun h9 => ?_) (fun e q1 q2 => ?_); (focus (first | (exfalso; omega) | (have z9 : S_X (S_hi ms lv9) none_ = none_ := (by rw [hv36_0, S_X_r ⟨hrr.1, by omega⟩ ⟨hcc.1, by omega⟩]; first | done | exact hv47_0.symm); (first | rw [zu_n (by omega), show 6 * r + cc = none_ by omega, zu_s] | rw [show 6 * r + cc = none_ by omega, zu_s]); rw [z9]; first | (rw [c_50, if_pos rfl]; omega) | (rw [c_50, if_neg (by decide)]; done)))); (focus (first | (exfalso; omega) | (have z9 : S_X (S_hi ms lv9) v75_22 = v87_23 := (by rw [hv75_0, S_X_b ⟨hrr.1, by omega⟩ ⟨hcc.1, by omega⟩]; first | done | exact hv87_0.symm); rw [show 42 + 7 * r + cc = v75_22 by omega, zu_s]; rw [z9]; first | (rw [c_90, if_pos rfl]; omega) | (rw [c_90, if_neg (by decide)]; done)))); (first | rw [zu_n (fun h => q2 ⟨by omega, by omega⟩), zu_n (fun h => q1 ⟨by omega, by omega⟩)] | rw [zu_n (fun h => q1 ⟨by omega, by omega⟩)] | rw [zu_n (fun h => q2 ⟨by omega, by omega⟩)] | rfl)) (by omega)
          · refine lv_aload_n hx hb dX10_traces_30 rfl (lv_at hl 3 rfl) ?_
            refine va_get (D := D) (ci := 10) (v := .ref (β 7)) (C := RX10) (T := TX10) (N := 17) hx hb hts (fun w h => List.mem_cons_of_mem _ (wx_X10 w h)) hown hK hP 0 rfl rfl 11 (by decide) (hW0 _ wf_X10_29) (fun _ h9 => h9) rfl dX10_traces_31 ?_
            refine lv_iload_n hx hb dX10_traces_34 rfl (lv_at hl 2 rfl) ?_
            refine lv_iload_n hx hb dX10_traces_35 rfl (lv_at hl 1 rfl) ?_
            refine z_calli hP hD hS hA (va_runS (As := [.int (zI r), .int (zI cc)]) (rest := [.ref (β 7)]) hC (c_X10_right l D τ _ _ r cc _) (va_cwS 2 hts (gS hB wl_X10_145 wt_X10_right wi_X10 wc_X10_right) rfl rfl rfl hd_X10_right.2 ⟨Nat.le_of_ble_eq_true rfl, Nat.le_of_ble_eq_true rfl⟩) (zp_S hK hP hD hS hA hG) rfl rfl hl.1 rfl (lv_room (Nat.le_of_ble_eq_true rfl)) dX10_traces_36 ⟨Nat.le_of_ble_eq_true rfl, Nat.le_of_ble_eq_true rfl⟩) (fun r w1 H locs hq9 hP hD hS => ?_)
            obtain ⟨v36_25, hv36_0, rfl, rfl⟩ := hq9
            refine lv_aload_n hx hb dX10_traces_39 rfl (lv_at hl 3 rfl) ?_
            refine lv_iload hx hb dX10_traces_40 (lv_at hl 0 rfl) ?_
            refine lv_iload hx hb dX10_traces_42 (lv_at hl 0 rfl) ?_
            refine lv_iconst (v := zI 1) hx hb dX10_traces_44 rfl ?_
            refine z_iadd hx hb dX10_traces_45 ?_
            refine lv_iload_n hx hb dX10_traces_46 rfl (lv_at hl 4 rfl) ?_
            refine z_calli hP hD hS hA (va_runV (As := [.int (zI ((7 * r) + cc)), .int (zI (((7 * r) + cc) + 1)), .int (zI lv9)]) (rest := [.int (zI v36_25), .ref (β 7)]) hC (c_X10_isCrossed l D τ β δ ms mb mo mp mf mn w2 mc mq mr mw mk ml mt ma mx mh ((7 * r) + cc) (((7 * r) + cc) + 1) lv9 (by first | assumption | rfl | omega) (by first | assumption | rfl | omega) (by first | assumption | rfl | omega) (by first | assumption | rfl | omega) _) (cwV 3 hts (gV hB wl_X10_142 wn_X10_isCrossed ws_X10_isCrossed wi_X10 wc_X10_isCrossed) rfl rfl rfl hd_X10_isCrossed ⟨Nat.le_of_ble_eq_true rfl, Nat.le_of_ble_eq_true rfl⟩) (zp_V hK hP hD hS hA hG (ci := 10) (q0 := 0) rfl rfl rfl) rfl rfl hl.1 rfl (lv_room (Nat.le_of_ble_eq_true rfl)) dX10_traces_47 ⟨Nat.le_of_ble_eq_true rfl, Nat.le_of_ble_eq_true rfl⟩) (fun r w1 H locs hq9 hP hD hS => ?_)
            obtain ⟨v47_26, hv47_0, rfl, rfl⟩ := hq9
            have hP : va_P D vwCl (wM β δ ms mb mo mp mf mn w2 mc mq mr mw mk ml mt ma mx mh) H := hP
            have hD : va_D A (wM β δ ms mb mo mp mf mn w2 mc mq mr mw mk ml mt ma mx mh) := hD
            refine z_ifeqB (tgt := 61) hx hb dX10_traces_50 (by decide) (fun c_50 => ?_) (fun c_50 => ?_)
            · refine lv_iconst (v := zI (-1)) hx hb dX10_traces_61 rfl ?_
              refine z_iast (f := w2) (v := (-1)) hx hb hK hP hD hS 7 6 rfl rfl ⟨⟨by omega, by omega⟩, by decide⟩ dX10_traces_62 (fun H locs hP hD hS => ?_)
              have hP : va_P D vwCl (wM β δ ms mb mo mp mf mn ((zu w2 v36_25 (-1))) mc mq mr mw mk ml mt ma mx mh) H := hP
              have hD : va_D A (wM β δ ms mb mo mp mf mn ((zu w2 v36_25 (-1))) mc mq mr mw mk ml mt ma mx mh) := hD
              refine lv_iload_n hx hb dX10_traces_63 rfl (lv_at hl 2 rfl) ?_
              refine lv_bipush (v := zI 6) hx hb dX10_traces_64 (zI_b8 (by decide)) ?_
              refine z_icge (tgt := 103) hx hb ⟨by omega, by omega⟩ ⟨by omega, by omega⟩ dX10_traces_66 (by decide) (fun c_66 => ?_) (fun c_66 => ?_)
              · refine z_iinc (k := 1) (v := cc + 1) (lv' := [(3, .int (zI (cc + 1))), (4, .int (zI ((7 * r) + cc))), (2, .int (zI r)), (0, .ref (β 0)), (1, .int (zI lv9))]) hx hb dX10_traces_103 hl rfl rfl (by decide) rfl (fun ls hl => ?_)
                refine lv_goto (tgt := 10) hx hb dX10_traces_106 (by decide) ?_
                exact ih_10 (zu w2 v36_25 (-1)) (cc + 1) _ _ hP hD hS _ (lv_sub hl [0, 2, 3, 4] rfl) (by first | assumption | rfl | omega) (by refine LN0_up ⟨hrr.1, by omega⟩ ⟨hcc.1, by omega⟩ hL2 (fun h9 => ?_) (fun h9 => ?_) (fun e q1 q2 => ?_); (focus (first | (exfalso; omega) | (have z9 : S_X (S_hi ms lv9) v36_25 = v47_26 := (by rw [hv36_0, S_X_r ⟨hrr.1, by omega⟩ ⟨hcc.1, by omega⟩]; first | done | exact hv47_0.symm); (first | rw [zu_n (by omega), show 6 * r + cc = v36_25 by omega, zu_s] | rw [show 6 * r + cc = v36_25 by omega, zu_s]); rw [z9]; first | (rw [c_50, if_pos rfl]; omega) | (rw [c_50, if_neg (by decide)]; done)))); (focus (first | (exfalso; omega) | (have z9 : S_X (S_hi ms lv9) none_ = none_ := (by rw [hv75_0, S_X_b ⟨hrr.1, by omega⟩ ⟨hcc.1, by omega⟩]; first | done | exact hv87_0.symm); rw [show 42 + 7 * r + cc = none_ by omega, zu_s]; rw [z9]; first | (rw [c_90, if_pos rfl]; omega) | (rw [c_90, if_neg (by decide)]; done)))); (first | rw [zu_n (fun h => q2 ⟨by omega, by omega⟩), zu_n (fun h => q1 ⟨by omega, by omega⟩)] | rw [zu_n (fun h => q1 ⟨by omega, by omega⟩)] | rw [zu_n (fun h => q2 ⟨by omega, by omega⟩)] | rfl)) (by omega)
              · refine lv_aload_n hx hb dX10_traces_69 rfl (lv_at hl 3 rfl) ?_
                refine va_get (D := D) (ci := 10) (v := .ref (β 7)) (C := RX10) (T := TX10) (N := 17) hx hb hts (fun w h => List.mem_cons_of_mem _ (wx_X10 w h)) hown hK hP 0 rfl rfl 11 (by decide) (hW0 _ wf_X10_29) (fun _ h9 => h9) rfl dX10_traces_70 ?_
                refine lv_iload_n hx hb dX10_traces_73 rfl (lv_at hl 2 rfl) ?_
                refine lv_iload_n hx hb dX10_traces_74 rfl (lv_at hl 1 rfl) ?_
                refine z_calli hP hD hS hA (va_runS (As := [.int (zI r), .int (zI cc)]) (rest := [.ref (β 7)]) hC (c_X10_below l D τ _ _ r cc _) (va_cwS 2 hts (gS hB wl_X10_148 wt_X10_below wi_X10 wc_X10_below) rfl rfl rfl hd_X10_below.2 ⟨Nat.le_of_ble_eq_true rfl, Nat.le_of_ble_eq_true rfl⟩) (zp_S hK hP hD hS hA hG) rfl rfl hl.1 rfl (lv_room (Nat.le_of_ble_eq_true rfl)) dX10_traces_75 ⟨Nat.le_of_ble_eq_true rfl, Nat.le_of_ble_eq_true rfl⟩) (fun r w1 H locs hq9 hP hD hS => ?_)
                obtain ⟨v75_27, hv75_0, rfl, rfl⟩ := hq9
                refine lv_aload_n hx hb dX10_traces_78 rfl (lv_at hl 3 rfl) ?_
                refine lv_iload hx hb dX10_traces_79 (lv_at hl 0 rfl) ?_
                refine lv_iload hx hb dX10_traces_81 (lv_at hl 0 rfl) ?_
                refine lv_bipush (v := zI 7) hx hb dX10_traces_83 (zI_b8 (by decide)) ?_
                refine z_iadd hx hb dX10_traces_85 ?_
                refine lv_iload_n hx hb dX10_traces_86 rfl (lv_at hl 4 rfl) ?_
                refine z_calli hP hD hS hA (va_runV (As := [.int (zI ((7 * r) + cc)), .int (zI (((7 * r) + cc) + 7)), .int (zI lv9)]) (rest := [.int (zI v75_27), .ref (β 7)]) hC (c_X10_isCrossed l D τ β δ ms mb mo mp mf mn (zu w2 v36_25 (-1)) mc mq mr mw mk ml mt ma mx mh ((7 * r) + cc) (((7 * r) + cc) + 7) lv9 (by first | assumption | rfl | omega) (by first | assumption | rfl | omega) (by first | assumption | rfl | omega) (by first | assumption | rfl | omega) _) (cwV 3 hts (gV hB wl_X10_142 wn_X10_isCrossed ws_X10_isCrossed wi_X10 wc_X10_isCrossed) rfl rfl rfl hd_X10_isCrossed ⟨Nat.le_of_ble_eq_true rfl, Nat.le_of_ble_eq_true rfl⟩) (zp_V hK hP hD hS hA hG (ci := 10) (q0 := 0) rfl rfl rfl) rfl rfl hl.1 rfl (lv_room (Nat.le_of_ble_eq_true rfl)) dX10_traces_87 ⟨Nat.le_of_ble_eq_true rfl, Nat.le_of_ble_eq_true rfl⟩) (fun r w1 H locs hq9 hP hD hS => ?_)
                obtain ⟨v87_28, hv87_0, rfl, rfl⟩ := hq9
                have hP : va_P D vwCl (wM β δ ms mb mo mp mf mn ((zu w2 v36_25 (-1))) mc mq mr mw mk ml mt ma mx mh) H := hP
                have hD : va_D A (wM β δ ms mb mo mp mf mn ((zu w2 v36_25 (-1))) mc mq mr mw mk ml mt ma mx mh) := hD
                refine z_ifeqB (tgt := 101) hx hb dX10_traces_90 (by decide) (fun c_90 => ?_) (fun c_90 => ?_)
                · refine lv_iconst (v := zI (-1)) hx hb dX10_traces_101 rfl ?_
                  refine z_iast (f := zu w2 v36_25 (-1)) (v := (-1)) hx hb hK hP hD hS 7 6 rfl rfl ⟨⟨by omega, by omega⟩, by decide⟩ dX10_traces_102 (fun H locs hP hD hS => ?_)
                  have hP : va_P D vwCl (wM β δ ms mb mo mp mf mn ((zu (zu w2 v36_25 (-1)) v75_27 (-1))) mc mq mr mw mk ml mt ma mx mh) H := hP
                  have hD : va_D A (wM β δ ms mb mo mp mf mn ((zu (zu w2 v36_25 (-1)) v75_27 (-1))) mc mq mr mw mk ml mt ma mx mh) := hD
                  refine z_iinc (k := 1) (v := cc + 1) (lv' := [(3, .int (zI (cc + 1))), (4, .int (zI ((7 * r) + cc))), (2, .int (zI r)), (0, .ref (β 0)), (1, .int (zI lv9))]) hx hb dX10_traces_103 hl rfl rfl (by decide) rfl (fun ls hl => ?_)
                  refine lv_goto (tgt := 10) hx hb dX10_traces_106 (by decide) ?_
                  exact ih_10 (zu (zu w2 v36_25 (-1)) v75_27 (-1)) (cc + 1) _ _ hP hD hS _ (lv_sub hl [0, 2, 3, 4] rfl) (by first | assumption | rfl | omega) (by refine LN0_up ⟨hrr.1, by omega⟩ ⟨hcc.1, by omega⟩ hL2 (fun h9 => ?_) (fun h9 => ?_) (fun e q1 q2 => ?_); (focus (first | (exfalso; omega) | (have z9 : S_X (S_hi ms lv9) v36_25 = v47_26 := (by rw [hv36_0, S_X_r ⟨hrr.1, by omega⟩ ⟨hcc.1, by omega⟩]; first | done | exact hv47_0.symm); (first | rw [zu_n (by omega), show 6 * r + cc = v36_25 by omega, zu_s] | rw [show 6 * r + cc = v36_25 by omega, zu_s]); rw [z9]; first | (rw [c_50, if_pos rfl]; omega) | (rw [c_50, if_neg (by decide)]; done)))); (focus (first | (exfalso; omega) | (have z9 : S_X (S_hi ms lv9) v75_27 = v87_28 := (by rw [hv75_0, S_X_b ⟨hrr.1, by omega⟩ ⟨hcc.1, by omega⟩]; first | done | exact hv87_0.symm); rw [show 42 + 7 * r + cc = v75_27 by omega, zu_s]; rw [z9]; first | (rw [c_90, if_pos rfl]; omega) | (rw [c_90, if_neg (by decide)]; done)))); (first | rw [zu_n (fun h => q2 ⟨by omega, by omega⟩), zu_n (fun h => q1 ⟨by omega, by omega⟩)] | rw [zu_n (fun h => q1 ⟨by omega, by omega⟩)] | rw [zu_n (fun h => q2 ⟨by omega, by omega⟩)] | rfl)) (by omega)
                · refine lv_iload_n hx hb dX10_traces_93 rfl (lv_at hl 2 rfl) ?_
                  refine lv_iload_n hx hb dX10_traces_94 rfl (lv_at hl 1 rfl) ?_
                  refine z_calli hP hD hS hA (va_runS (As := [.int (zI r), .int (zI cc)]) (rest := [.int (zI v75_27), .ref (β 7)]) hC (c_X10_below l D τ _ _ r cc _) (va_cwS 2 hts (gS hB wl_X10_148 wt_X10_below wi_X10 wc_X10_below) rfl rfl rfl hd_X10_below.2 ⟨Nat.le_of_ble_eq_true rfl, Nat.le_of_ble_eq_true rfl⟩) (zp_S hK hP hD hS hA hG) rfl rfl hl.1 rfl (lv_room (Nat.le_of_ble_eq_true rfl)) dX10_traces_95 ⟨Nat.le_of_ble_eq_true rfl, Nat.le_of_ble_eq_true rfl⟩) (fun r w1 H locs hq9 hP hD hS => ?_)
                  obtain ⟨v95_29, hv95_0, rfl, rfl⟩ := hq9
                  refine lv_goto (tgt := 102) hx hb dX10_traces_98 (by decide) ?_
                  refine z_iast (f := zu w2 v36_25 (-1)) (v := v95_29) hx hb hK hP hD hS 7 6 rfl rfl ⟨⟨by omega, by omega⟩, by decide⟩ dX10_traces_102 (fun H locs hP hD hS => ?_)
                  have hP : va_P D vwCl (wM β δ ms mb mo mp mf mn ((zu (zu w2 v36_25 (-1)) v75_27 v95_29)) mc mq mr mw mk ml mt ma mx mh) H := hP
                  have hD : va_D A (wM β δ ms mb mo mp mf mn ((zu (zu w2 v36_25 (-1)) v75_27 v95_29)) mc mq mr mw mk ml mt ma mx mh) := hD
                  refine z_iinc (k := 1) (v := cc + 1) (lv' := [(3, .int (zI (cc + 1))), (4, .int (zI ((7 * r) + cc))), (2, .int (zI r)), (0, .ref (β 0)), (1, .int (zI lv9))]) hx hb dX10_traces_103 hl rfl rfl (by decide) rfl (fun ls hl => ?_)
                  refine lv_goto (tgt := 10) hx hb dX10_traces_106 (by decide) ?_
                  exact ih_10 (zu (zu w2 v36_25 (-1)) v75_27 v95_29) (cc + 1) _ _ hP hD hS _ (lv_sub hl [0, 2, 3, 4] rfl) (by first | assumption | rfl | omega) (by refine LN0_up ⟨hrr.1, by omega⟩ ⟨hcc.1, by omega⟩ hL2 (fun h9 => ?_) (fun h9 => ?_) (fun e q1 q2 => ?_); (focus (first | (exfalso; omega) | (have z9 : S_X (S_hi ms lv9) v36_25 = v47_26 := (by rw [hv36_0, S_X_r ⟨hrr.1, by omega⟩ ⟨hcc.1, by omega⟩]; first | done | exact hv47_0.symm); (first | rw [zu_n (by omega), show 6 * r + cc = v36_25 by omega, zu_s] | rw [show 6 * r + cc = v36_25 by omega, zu_s]); rw [z9]; first | (rw [c_50, if_pos rfl]; omega) | (rw [c_50, if_neg (by decide)]; done)))); (focus (first | (exfalso; omega) | (have z9 : S_X (S_hi ms lv9) v75_27 = v87_28 := (by rw [hv75_0, S_X_b ⟨hrr.1, by omega⟩ ⟨hcc.1, by omega⟩]; first | done | exact hv87_0.symm); rw [show 42 + 7 * r + cc = v75_27 by omega, zu_s]; rw [z9]; first | (rw [c_90, if_pos rfl]; omega) | (rw [c_90, if_neg (by decide)]; done)))); (first | rw [zu_n (fun h => q2 ⟨by omega, by omega⟩), zu_n (fun h => q1 ⟨by omega, by omega⟩)] | rw [zu_n (fun h => q1 ⟨by omega, by omega⟩)] | rw [zu_n (fun h => q2 ⟨by omega, by omega⟩)] | rfl)) (by omega)
            · refine lv_iload_n hx hb dX10_traces_53 rfl (lv_at hl 2 rfl) ?_
              refine lv_iload_n hx hb dX10_traces_54 rfl (lv_at hl 1 rfl) ?_
              refine z_calli hP hD hS hA (va_runS (As := [.int (zI r), .int (zI cc)]) (rest := [.int (zI v36_25), .ref (β 7)]) hC (c_X10_right l D τ _ _ r cc _) (va_cwS 2 hts (gS hB wl_X10_145 wt_X10_right wi_X10 wc_X10_right) rfl rfl rfl hd_X10_right.2 ⟨Nat.le_of_ble_eq_true rfl, Nat.le_of_ble_eq_true rfl⟩) (zp_S hK hP hD hS hA hG) rfl rfl hl.1 rfl (lv_room (Nat.le_of_ble_eq_true rfl)) dX10_traces_55 ⟨Nat.le_of_ble_eq_true rfl, Nat.le_of_ble_eq_true rfl⟩) (fun r w1 H locs hq9 hP hD hS => ?_)
              obtain ⟨v55_30, hv55_0, rfl, rfl⟩ := hq9
              refine lv_goto (tgt := 62) hx hb dX10_traces_58 (by decide) ?_
              refine z_iast (f := w2) (v := v55_30) hx hb hK hP hD hS 7 6 rfl rfl ⟨⟨by omega, by omega⟩, by decide⟩ dX10_traces_62 (fun H locs hP hD hS => ?_)
              have hP : va_P D vwCl (wM β δ ms mb mo mp mf mn (zu w2 v36_25 v55_30) mc mq mr mw mk ml mt ma mx mh) H := hP
              have hD : va_D A (wM β δ ms mb mo mp mf mn (zu w2 v36_25 v55_30) mc mq mr mw mk ml mt ma mx mh) := hD
              refine lv_iload_n hx hb dX10_traces_63 rfl (lv_at hl 2 rfl) ?_
              refine lv_bipush (v := zI 6) hx hb dX10_traces_64 (zI_b8 (by decide)) ?_
              refine z_icge (tgt := 103) hx hb ⟨by omega, by omega⟩ ⟨by omega, by omega⟩ dX10_traces_66 (by decide) (fun c_66 => ?_) (fun c_66 => ?_)
              · refine z_iinc (k := 1) (v := cc + 1) (lv' := [(3, .int (zI (cc + 1))), (4, .int (zI ((7 * r) + cc))), (2, .int (zI r)), (0, .ref (β 0)), (1, .int (zI lv9))]) hx hb dX10_traces_103 hl rfl rfl (by decide) rfl (fun ls hl => ?_)
                refine lv_goto (tgt := 10) hx hb dX10_traces_106 (by decide) ?_
                exact ih_10 (zu w2 v36_25 v55_30) (cc + 1) _ _ hP hD hS _ (lv_sub hl [0, 2, 3, 4] rfl) (by first | assumption | rfl | omega) (by refine LN0_up ⟨hrr.1, by omega⟩ ⟨hcc.1, by omega⟩ hL2 (fun h9 => ?_) (fun h9 => ?_) (fun e q1 q2 => ?_); (focus (first | (exfalso; omega) | (have z9 : S_X (S_hi ms lv9) v36_25 = v47_26 := (by rw [hv36_0, S_X_r ⟨hrr.1, by omega⟩ ⟨hcc.1, by omega⟩]; first | done | exact hv47_0.symm); (first | rw [zu_n (by omega), show 6 * r + cc = v36_25 by omega, zu_s] | rw [show 6 * r + cc = v36_25 by omega, zu_s]); rw [z9]; first | (rw [c_50, if_pos rfl]; omega) | (rw [c_50, if_neg (by decide)]; done)))); (focus (first | (exfalso; omega) | (have z9 : S_X (S_hi ms lv9) none_ = none_ := (by rw [hv75_0, S_X_b ⟨hrr.1, by omega⟩ ⟨hcc.1, by omega⟩]; first | done | exact hv87_0.symm); rw [show 42 + 7 * r + cc = none_ by omega, zu_s]; rw [z9]; first | (rw [c_90, if_pos rfl]; omega) | (rw [c_90, if_neg (by decide)]; done)))); (first | rw [zu_n (fun h => q2 ⟨by omega, by omega⟩), zu_n (fun h => q1 ⟨by omega, by omega⟩)] | rw [zu_n (fun h => q1 ⟨by omega, by omega⟩)] | rw [zu_n (fun h => q2 ⟨by omega, by omega⟩)] | rfl)) (by omega)
              · refine lv_aload_n hx hb dX10_traces_69 rfl (lv_at hl 3 rfl) ?_
                refine va_get (D := D) (ci := 10) (v := .ref (β 7)) (C := RX10) (T := TX10) (N := 17) hx hb hts (fun w h => List.mem_cons_of_mem _ (wx_X10 w h)) hown hK hP 0 rfl rfl 11 (by decide) (hW0 _ wf_X10_29) (fun _ h9 => h9) rfl dX10_traces_70 ?_
                refine lv_iload_n hx hb dX10_traces_73 rfl (lv_at hl 2 rfl) ?_
                refine lv_iload_n hx hb dX10_traces_74 rfl (lv_at hl 1 rfl) ?_
                refine z_calli hP hD hS hA (va_runS (As := [.int (zI r), .int (zI cc)]) (rest := [.ref (β 7)]) hC (c_X10_below l D τ _ _ r cc _) (va_cwS 2 hts (gS hB wl_X10_148 wt_X10_below wi_X10 wc_X10_below) rfl rfl rfl hd_X10_below.2 ⟨Nat.le_of_ble_eq_true rfl, Nat.le_of_ble_eq_true rfl⟩) (zp_S hK hP hD hS hA hG) rfl rfl hl.1 rfl (lv_room (Nat.le_of_ble_eq_true rfl)) dX10_traces_75 ⟨Nat.le_of_ble_eq_true rfl, Nat.le_of_ble_eq_true rfl⟩) (fun r w1 H locs hq9 hP hD hS => ?_)
                obtain ⟨v75_31, hv75_0, rfl, rfl⟩ := hq9
                refine lv_aload_n hx hb dX10_traces_78 rfl (lv_at hl 3 rfl) ?_
                refine lv_iload hx hb dX10_traces_79 (lv_at hl 0 rfl) ?_
                refine lv_iload hx hb dX10_traces_81 (lv_at hl 0 rfl) ?_
                refine lv_bipush (v := zI 7) hx hb dX10_traces_83 (zI_b8 (by decide)) ?_
                refine z_iadd hx hb dX10_traces_85 ?_
                refine lv_iload_n hx hb dX10_traces_86 rfl (lv_at hl 4 rfl) ?_
                refine z_calli hP hD hS hA (va_runV (As := [.int (zI ((7 * r) + cc)), .int (zI (((7 * r) + cc) + 7)), .int (zI lv9)]) (rest := [.int (zI v75_31), .ref (β 7)]) hC (c_X10_isCrossed l D τ β δ ms mb mo mp mf mn (zu w2 v36_25 v55_30) mc mq mr mw mk ml mt ma mx mh ((7 * r) + cc) (((7 * r) + cc) + 7) lv9 (by first | assumption | rfl | omega) (by first | assumption | rfl | omega) (by first | assumption | rfl | omega) (by first | assumption | rfl | omega) _) (cwV 3 hts (gV hB wl_X10_142 wn_X10_isCrossed ws_X10_isCrossed wi_X10 wc_X10_isCrossed) rfl rfl rfl hd_X10_isCrossed ⟨Nat.le_of_ble_eq_true rfl, Nat.le_of_ble_eq_true rfl⟩) (zp_V hK hP hD hS hA hG (ci := 10) (q0 := 0) rfl rfl rfl) rfl rfl hl.1 rfl (lv_room (Nat.le_of_ble_eq_true rfl)) dX10_traces_87 ⟨Nat.le_of_ble_eq_true rfl, Nat.le_of_ble_eq_true rfl⟩) (fun r w1 H locs hq9 hP hD hS => ?_)
                obtain ⟨v87_32, hv87_0, rfl, rfl⟩ := hq9
                have hP : va_P D vwCl (wM β δ ms mb mo mp mf mn (zu w2 v36_25 v55_30) mc mq mr mw mk ml mt ma mx mh) H := hP
                have hD : va_D A (wM β δ ms mb mo mp mf mn (zu w2 v36_25 v55_30) mc mq mr mw mk ml mt ma mx mh) := hD
                refine z_ifeqB (tgt := 101) hx hb dX10_traces_90 (by decide) (fun c_90 => ?_) (fun c_90 => ?_)
                · refine lv_iconst (v := zI (-1)) hx hb dX10_traces_101 rfl ?_
                  refine z_iast (f := zu w2 v36_25 v55_30) (v := (-1)) hx hb hK hP hD hS 7 6 rfl rfl ⟨⟨by omega, by omega⟩, by decide⟩ dX10_traces_102 (fun H locs hP hD hS => ?_)
                  have hP : va_P D vwCl (wM β δ ms mb mo mp mf mn ((zu (zu w2 v36_25 v55_30) v75_31 (-1))) mc mq mr mw mk ml mt ma mx mh) H := hP
                  have hD : va_D A (wM β δ ms mb mo mp mf mn ((zu (zu w2 v36_25 v55_30) v75_31 (-1))) mc mq mr mw mk ml mt ma mx mh) := hD
                  refine z_iinc (k := 1) (v := cc + 1) (lv' := [(3, .int (zI (cc + 1))), (4, .int (zI ((7 * r) + cc))), (2, .int (zI r)), (0, .ref (β 0)), (1, .int (zI lv9))]) hx hb dX10_traces_103 hl rfl rfl (by decide) rfl (fun ls hl => ?_)
                  refine lv_goto (tgt := 10) hx hb dX10_traces_106 (by decide) ?_
                  exact ih_10 (zu (zu w2 v36_25 v55_30) v75_31 (-1)) (cc + 1) _ _ hP hD hS _ (lv_sub hl [0, 2, 3, 4] rfl) (by first | assumption | rfl | omega) (by refine LN0_up ⟨hrr.1, by omega⟩ ⟨hcc.1, by omega⟩ hL2 (fun h9 => ?_) (fun h9 => ?_) (fun e q1 q2 => ?_); (focus (first | (exfalso; omega) | (have z9 : S_X (S_hi ms lv9) v36_25 = v47_26 := (by rw [hv36_0, S_X_r ⟨hrr.1, by omega⟩ ⟨hcc.1, by omega⟩]; first | done | exact hv47_0.symm); (first | rw [zu_n (by omega), show 6 * r + cc = v36_25 by omega, zu_s] | rw [show 6 * r + cc = v36_25 by omega, zu_s]); rw [z9]; first | (rw [c_50, if_pos rfl]; omega) | (rw [c_50, if_neg (by decide)]; done)))); (focus (first | (exfalso; omega) | (have z9 : S_X (S_hi ms lv9) v75_31 = v87_32 := (by rw [hv75_0, S_X_b ⟨hrr.1, by omega⟩ ⟨hcc.1, by omega⟩]; first | done | exact hv87_0.symm); rw [show 42 + 7 * r + cc = v75_31 by omega, zu_s]; rw [z9]; first | (rw [c_90, if_pos rfl]; omega) | (rw [c_90, if_neg (by decide)]; done)))); (first | rw [zu_n (fun h => q2 ⟨by omega, by omega⟩), zu_n (fun h => q1 ⟨by omega, by omega⟩)] | rw [zu_n (fun h => q1 ⟨by omega, by omega⟩)] | rw [zu_n (fun h => q2 ⟨by omega, by omega⟩)] | rfl)) (by omega)
                · refine lv_iload_n hx hb dX10_traces_93 rfl (lv_at hl 2 rfl) ?_
                  refine lv_iload_n hx hb dX10_traces_94 rfl (lv_at hl 1 rfl) ?_
                  refine z_calli hP hD hS hA (va_runS (As := [.int (zI r), .int (zI cc)]) (rest := [.int (zI v75_31), .ref (β 7)]) hC (c_X10_below l D τ _ _ r cc _) (va_cwS 2 hts (gS hB wl_X10_148 wt_X10_below wi_X10 wc_X10_below) rfl rfl rfl hd_X10_below.2 ⟨Nat.le_of_ble_eq_true rfl, Nat.le_of_ble_eq_true rfl⟩) (zp_S hK hP hD hS hA hG) rfl rfl hl.1 rfl (lv_room (Nat.le_of_ble_eq_true rfl)) dX10_traces_95 ⟨Nat.le_of_ble_eq_true rfl, Nat.le_of_ble_eq_true rfl⟩) (fun r w1 H locs hq9 hP hD hS => ?_)
                  obtain ⟨v95_33, hv95_0, rfl, rfl⟩ := hq9
                  refine lv_goto (tgt := 102) hx hb dX10_traces_98 (by decide) ?_
                  refine z_iast (f := zu w2 v36_25 v55_30) (v := v95_33) hx hb hK hP hD hS 7 6 rfl rfl ⟨⟨by omega, by omega⟩, by decide⟩ dX10_traces_102 (fun H locs hP hD hS => ?_)
                  have hP : va_P D vwCl (wM β δ ms mb mo mp mf mn ((zu (zu w2 v36_25 v55_30) v75_31 v95_33)) mc mq mr mw mk ml mt ma mx mh) H := hP
                  have hD : va_D A (wM β δ ms mb mo mp mf mn ((zu (zu w2 v36_25 v55_30) v75_31 v95_33)) mc mq mr mw mk ml mt ma mx mh) := hD
                  refine z_iinc (k := 1) (v := cc + 1) (lv' := [(3, .int (zI (cc + 1))), (4, .int (zI ((7 * r) + cc))), (2, .int (zI r)), (0, .ref (β 0)), (1, .int (zI lv9))]) hx hb dX10_traces_103 hl rfl rfl (by decide) rfl (fun ls hl => ?_)
                  refine lv_goto (tgt := 10) hx hb dX10_traces_106 (by decide) ?_
                  exact ih_10 (zu (zu w2 v36_25 v55_30) v75_31 v95_33) (cc + 1) _ _ hP hD hS _ (lv_sub hl [0, 2, 3, 4] rfl) (by first | assumption | rfl | omega) (by refine LN0_up ⟨hrr.1, by omega⟩ ⟨hcc.1, by omega⟩ hL2 (fun h9 => ?_) (fun h9 => ?_) (fun e q1 q2 => ?_); (focus (first | (exfalso; omega) | (have z9 : S_X (S_hi ms lv9) v36_25 = v47_26 := (by rw [hv36_0, S_X_r ⟨hrr.1, by omega⟩ ⟨hcc.1, by omega⟩]; first | done | exact hv47_0.symm); (first | rw [zu_n (by omega), show 6 * r + cc = v36_25 by omega, zu_s] | rw [show 6 * r + cc = v36_25 by omega, zu_s]); rw [z9]; first | (rw [c_50, if_pos rfl]; omega) | (rw [c_50, if_neg (by decide)]; done)))); (focus (first | (exfalso; omega) | (have z9 : S_X (S_hi ms lv9) v75_31 = v87_32 := (by rw [hv75_0, S_X_b ⟨hrr.1, by omega⟩ ⟨hcc.1, by omega⟩]; first | done | exact hv87_0.symm); rw [show 42 + 7 * r + cc = v75_31 by omega, zu_s]; rw [z9]; first | (rw [c_90, if_pos rfl]; omega) | (rw [c_90, if_neg (by decide)]; done)))); (first | rw [zu_n (fun h => q2 ⟨by omega, by omega⟩), zu_n (fun h => q1 ⟨by omega, by omega⟩)] | rw [zu_n (fun h => q1 ⟨by omega, by omega⟩)] | rw [zu_n (fun h => q2 ⟨by omega, by omega⟩)] | rfl)) (by omega)

abbrev wz_X10_crossings : List Cond := .code yX10_crossings cX10_crossings 4 (some .int) :: W0
abbrev rm_X10_crossings : Room := { frames := 5, cells := 0, slots := 0, locals := 129 }
theorem hd_X10_crossings : yX10_crossings.cls = RX10 ∧ yX10_crossings.cls ≠ "java/lang/invoke/MethodHandle" ∧ yX10_crossings.cls ≠ "java/lang/invoke/VarHandle" ∧ (parseMethodDescriptor yX10_crossings.desc).map (fun d => d.parameters.length) = some 1 := by decide +kernel
set_option maxHeartbeats 4000000 in
set_option maxRecDepth 100000 in
theorem c_X10_crossings (l : Launch) (D : va_G) (τ : Nat → Nat) (β : Nat → Nat) (δ : Nat → ClassId) (ms : IA) (mb : IA) (mo : IA) (mp : BA) (mf : IA) (mn : IA) (mi : IA) (mc : IA) (mq : BA) (mr : IA) (mw : IA) (mk : Int) (ml : Int) (mt : Int) (ma : Int) (mx : Bool) (mh : Int64) (lv9 : Int) (hlv : 0 ≤ lv9 ∧ lv9 ≤ 98) (hms : ∀ k, 0 ≤ k → k < 49 → 0 ≤ ms k ∧ ms k ≤ 99) : cM l yX10_crossings wz_X10_crossings rm_X10_crossings D τ (tyM δ) [.ref (β 0), .int (zI lv9)] (wM β δ ms mb mo mp mf mn mi mc mq mr mw mk ml mt ma mx mh) (zQi (fun r w => ∃ (m2 : IA), ∃ (c2 : IA), ∃ (q2 : BA), ∃ (v : Int), (v = S_ncross (S_hi ms lv9)) ∧ (0 ≤ v ∧ v ≤ 84) ∧ r = zI v ∧ wM β δ ms mb mo mp mf mn m2 c2 q2 mr mw mk ml mt ma mx mh = w)) := by
  refine z_ofM (cc := cX10_crossings) (maxL := 4) (ret := (some .int)) (by decide +kernel) rfl (Nat.le_of_ble_eq_true rfl) ?_
  intro pg e s m args below meth c hC hr hlk hnm hK hP A hD hG hA hS ls hl Q hQ
  have hx := hC.1
  have hb := hC.2.1
  have hml := hC.2.2.1
  have hown := hC.2.2.2.1
  have hts := hC.2.2.2.2
  have hB : ∀ w ∈ W0, w ∈ wz_X10_crossings := fun _ h => List.mem_cons_of_mem _ h
  have hW0 : ∀ w ∈ W0, w.before args s = true := fun w h => hts w (hB w h)
  have hl : lv_has ls 4 [(0, .ref (β 0)), (1, .int (zI lv9))] := hl
  refine lv_aload_n hx hb dX10_crossings_0 rfl (lv_at hl 0 rfl) ?_
  refine lv_iload_n hx hb dX10_crossings_1 rfl (lv_at hl 1 rfl) ?_
  refine z_callv hP hD hS hA (va_runV (As := [.int (zI lv9)]) (rest := []) hC (c_X10_traces l D τ β δ ms mb mo mp mf mn mi mc mq mr mw mk ml mt ma mx mh lv9 (by first | assumption | rfl | omega) (by first | assumption | rfl | omega) _) (cwV 1 hts (gV hB wl_X10_165 wn_X10_traces ws_X10_traces wi_X10 wc_X10_traces) rfl rfl rfl hd_X10_traces ⟨Nat.le_of_ble_eq_true rfl, Nat.le_of_ble_eq_true rfl⟩) (zp_V hK hP hD hS hA hG (ci := 10) (q0 := 0) rfl rfl rfl) rfl rfl hl.1 rfl (lv_room (Nat.le_of_ble_eq_true rfl)) dX10_crossings_2 ⟨Nat.le_of_ble_eq_true rfl, Nat.le_of_ble_eq_true rfl⟩) (fun w1 H locs hq9 hP hD hS => ?_)
  obtain ⟨m2_1, c2_2, q2_3, hv2_0, hv2_1, hv2_2, rfl⟩ := hq9
  have hP : va_P D vwCl (wM β δ ms mb mo mp mf mn m2_1 c2_2 q2_3 mr mw mk ml mt ma mx mh) H := hP
  have hD : va_D A (wM β δ ms mb mo mp mf mn m2_1 c2_2 q2_3 mr mw mk ml mt ma mx mh) := hD
  have hlb := UFR_b hv2_0
  refine lv_iconst (v := zI 0) hx hb dX10_crossings_5 rfl ?_
  refine lv_istore_n (lv' := [(2, .int (zI 0)), (0, .ref (β 0)), (1, .int (zI lv9))]) hx hb dX10_crossings_6 rfl hl (by decide) rfl (fun ls hl => ?_)
  refine lv_iconst (v := zI 0) hx hb dX10_crossings_7 rfl ?_
  refine lv_istore_n (lv' := [(3, .int (zI 0)), (2, .int (zI 0)), (0, .ref (β 0)), (1, .int (zI lv9))]) hx hb dX10_crossings_8 rfl hl (by decide) rfl (fun ls hl => ?_)
  suffices HL_9 : ∀ (n_9 : Nat), ∀ (g : Int) (i : Int) (H : Heap) (locs : List Loc) (hP : va_P D vwCl (wM β δ ms mb mo mp mf mn m2_1 c2_2 q2_3 mr mw mk ml mt ma mx mh) H) (hD : va_D A (wM β δ ms mb mo mp mf mn m2_1 c2_2 q2_3 mr mw mk ml mt ma mx mh)) (hS : va_S A s.heap H locs) (ls : Array Slot) (hl : lv_has ls 4 [(2, .int (zI g)), (3, .int (zI i)), (0, .ref (β 0)), (1, .int (zI lv9))]) (hi : 0 ≤ i ∧ i ≤ 84) (hg : g = zC (S_X (S_hi ms lv9)) i) (hgb : 0 ≤ g ∧ g ≤ i) (hm : (84 - i).toNat < n_9), W pg l e rm_X10_crossings s m args below meth c H locs 0 0 Q (F0 m 9 ls []) from HL_9 _ 0 0 _ _ hP hD hS _ (lv_sub hl [1, 0, 2, 3] rfl) (by first | assumption | rfl | omega) (by exact (zC_0 _).symm) (by first | assumption | rfl | omega) (Nat.lt_succ_self _)
  intro n_9
  induction n_9 with
  | zero => intro g i H locs hP hD hS ls hl hi hg hgb hm; exact absurd hm (Nat.not_lt_zero _)
  | succ n_9 ih_9 =>
    intro g i H locs hP hD hS ls hl hi hg hgb hm
    refine lv_iload_n hx hb dX10_crossings_9 rfl (lv_at hl 1 rfl) ?_
    refine lv_bipush (v := zI 84) hx hb dX10_crossings_10 (zI_b8 (by decide)) ?_
    refine z_icge (tgt := 39) hx hb ⟨by omega, by omega⟩ ⟨by omega, by omega⟩ dX10_crossings_12 (by decide) (fun c_12 => ?_) (fun c_12 => ?_)
    · refine lv_iload_n hx hb dX10_crossings_39 rfl (lv_at hl 0 rfl) ?_
      exact z_iret hC hr hlk hQ hP hD hS ⟨m2_1, c2_2, q2_3, g, (by rw [hg, show i = 84 by omega]; rfl), (by omega), rfl, rfl⟩ dX10_crossings_40
    · refine lv_iload_n hx hb dX10_crossings_15 rfl (lv_at hl 0 rfl) ?_
      refine lv_aload_n hx hb dX10_crossings_16 rfl (lv_at hl 2 rfl) ?_
      refine va_get (D := D) (ci := 10) (v := .ref (β 7)) (C := RX10) (T := TX10) (N := 17) hx hb hts (fun w h => List.mem_cons_of_mem _ (wx_X10 w h)) hown hK hP 0 rfl rfl 11 (by decide) (hW0 _ wf_X10_29) (fun _ h9 => h9) rfl dX10_crossings_17 ?_
      refine lv_iload_n hx hb dX10_crossings_20 rfl (lv_at hl 1 rfl) ?_
      refine z_iald (f := m2_1) hx hb hK hP 7 6 rfl rfl ⟨⟨by omega, by omega⟩, by decide⟩ dX10_crossings_21 ?_
      have hb_21 := hlb i (by omega) (by omega)
      refine lv_iconst (v := zI (-1)) hx hb dX10_crossings_22 rfl ?_
      refine z_icne (tgt := 30) hx hb ⟨by omega, by omega⟩ ⟨by omega, by omega⟩ dX10_crossings_23 (by decide) (fun c_23 => ?_) (fun c_23 => ?_)
      · refine lv_iconst (v := zI 1) hx hb dX10_crossings_30 rfl ?_
        refine z_iadd hx hb dX10_crossings_31 ?_
        refine lv_istore_n (lv' := [(2, .int (zI (g + 1))), (3, .int (zI i)), (0, .ref (β 0)), (1, .int (zI lv9))]) hx hb dX10_crossings_32 rfl hl (by decide) rfl (fun ls hl => ?_)
        refine z_iinc (k := 1) (v := i + 1) (lv' := [(3, .int (zI (i + 1))), (2, .int (zI (g + 1))), (0, .ref (β 0)), (1, .int (zI lv9))]) hx hb dX10_crossings_33 hl rfl rfl (by decide) rfl (fun ls hl => ?_)
        refine lv_goto (tgt := 9) hx hb dX10_crossings_36 (by decide) ?_
        exact ih_9 (g + 1) (i + 1) _ _ hP hD hS _ (lv_sub hl [1, 0, 2, 3] rfl) (by first | assumption | rfl | omega) (by rw [zC_up hi.1, ← hg]; first | (rw [z1_t ((UFR_X hv2_0 ⟨hi.1, by omega⟩).mpr c_23)]; done) | (rw [z1_f (Bool.eq_false_iff.mpr (fun z => (UFR_X hv2_0 ⟨hi.1, by omega⟩).mp z c_23))]; try omega)) (by first | assumption | rfl | omega) (by omega)
      · refine lv_iconst (v := zI 0) hx hb dX10_crossings_26 rfl ?_
        refine lv_goto (tgt := 31) hx hb dX10_crossings_27 (by decide) ?_
        refine z_iadd hx hb dX10_crossings_31 ?_
        refine lv_istore_n (lv' := [(2, .int (zI (g + 0))), (3, .int (zI i)), (0, .ref (β 0)), (1, .int (zI lv9))]) hx hb dX10_crossings_32 rfl hl (by decide) rfl (fun ls hl => ?_)
        refine z_iinc (k := 1) (v := i + 1) (lv' := [(3, .int (zI (i + 1))), (2, .int (zI (g + 0))), (0, .ref (β 0)), (1, .int (zI lv9))]) hx hb dX10_crossings_33 hl rfl rfl (by decide) rfl (fun ls hl => ?_)
        refine lv_goto (tgt := 9) hx hb dX10_crossings_36 (by decide) ?_
        exact ih_9 (g + 0) (i + 1) _ _ hP hD hS _ (lv_sub hl [1, 0, 2, 3] rfl) (by first | assumption | rfl | omega) (by rw [zC_up hi.1, ← hg]; first | (rw [z1_t ((UFR_X hv2_0 ⟨hi.1, by omega⟩).mpr c_23)]; done) | (rw [z1_f (Bool.eq_false_iff.mpr (fun z => (UFR_X hv2_0 ⟨hi.1, by omega⟩).mp z c_23))]; try omega)) (by first | assumption | rfl | omega) (by omega)

abbrev wz_X10_lines : List Cond := .code yX10_lines cX10_lines 5 (some .int) :: W0
abbrev rm_X10_lines : Room := { frames := 5, cells := 0, slots := 0, locals := 129 }
theorem hd_X10_lines : yX10_lines.cls = RX10 ∧ yX10_lines.cls ≠ "java/lang/invoke/MethodHandle" ∧ yX10_lines.cls ≠ "java/lang/invoke/VarHandle" ∧ (parseMethodDescriptor yX10_lines.desc).map (fun d => d.parameters.length) = some 2 := by decide +kernel
set_option maxHeartbeats 4000000 in
set_option maxRecDepth 100000 in
theorem c_X10_lines (l : Launch) (D : va_G) (τ : Nat → Nat) (β : Nat → Nat) (δ : Nat → ClassId) (ms : IA) (mb : IA) (mo : IA) (mp : BA) (mf : IA) (mn : IA) (mi : IA) (mc : IA) (mq : BA) (mr : IA) (mw : IA) (mk : Int) (ml : Int) (mt : Int) (ma : Int) (mx : Bool) (mh : Int64) (lv9 : Int) (cl : Bool) (hlv : 0 ≤ lv9 ∧ lv9 ≤ 98) (hms : ∀ k, 0 ≤ k → k < 49 → 0 ≤ ms k ∧ ms k ≤ 99) : cM l yX10_lines wz_X10_lines rm_X10_lines D τ (tyM δ) [.ref (β 0), .int (zI lv9), .int (bI cl)] (wM β δ ms mb mo mp mf mn mi mc mq mr mw mk ml mt ma mx mh) (zQi (fun r w => ∃ (m2 : IA), ∃ (c2 : IA), ∃ (q2 : BA), ∃ (v : Int), (v = zC (fun e => S_lrep (S_hi ms lv9) e && !(cl && cb (S_lopen (S_hi ms lv9) e))) 84) ∧ (0 ≤ v ∧ v ≤ 84) ∧ r = zI v ∧ wM β δ ms mb mo mp mf mn m2 c2 q2 mr mw mk ml mt ma mx mh = w)) := by
  refine z_ofM (cc := cX10_lines) (maxL := 5) (ret := (some .int)) (by decide +kernel) rfl (Nat.le_of_ble_eq_true rfl) ?_
  intro pg e s m args below meth c hC hr hlk hnm hK hP A hD hG hA hS ls hl Q hQ
  have hx := hC.1
  have hb := hC.2.1
  have hml := hC.2.2.1
  have hown := hC.2.2.2.1
  have hts := hC.2.2.2.2
  have hB : ∀ w ∈ W0, w ∈ wz_X10_lines := fun _ h => List.mem_cons_of_mem _ h
  have hW0 : ∀ w ∈ W0, w.before args s = true := fun w h => hts w (hB w h)
  have hl : lv_has ls 5 [(0, .ref (β 0)), (1, .int (zI lv9)), (2, .int (bI cl))] := hl
  refine lv_aload_n hx hb dX10_lines_0 rfl (lv_at hl 0 rfl) ?_
  refine lv_iload_n hx hb dX10_lines_1 rfl (lv_at hl 1 rfl) ?_
  refine z_callv hP hD hS hA (va_runV (As := [.int (zI lv9)]) (rest := []) hC (c_X10_traces l D τ β δ ms mb mo mp mf mn mi mc mq mr mw mk ml mt ma mx mh lv9 (by first | assumption | rfl | omega) (by first | assumption | rfl | omega) _) (cwV 1 hts (gV hB wl_X10_165 wn_X10_traces ws_X10_traces wi_X10 wc_X10_traces) rfl rfl rfl hd_X10_traces ⟨Nat.le_of_ble_eq_true rfl, Nat.le_of_ble_eq_true rfl⟩) (zp_V hK hP hD hS hA hG (ci := 10) (q0 := 0) rfl rfl rfl) rfl rfl hl.1 rfl (lv_room (Nat.le_of_ble_eq_true rfl)) dX10_lines_2 ⟨Nat.le_of_ble_eq_true rfl, Nat.le_of_ble_eq_true rfl⟩) (fun w1 H locs hq9 hP hD hS => ?_)
  obtain ⟨m2_1, c2_2, q2_3, hv2_0, hv2_1, hv2_2, rfl⟩ := hq9
  have hP : va_P D vwCl (wM β δ ms mb mo mp mf mn m2_1 c2_2 q2_3 mr mw mk ml mt ma mx mh) H := hP
  have hD : va_D A (wM β δ ms mb mo mp mf mn m2_1 c2_2 q2_3 mr mw mk ml mt ma mx mh) := hD
  have hlb := UFR_b hv2_0
  refine lv_iconst (v := zI 0) hx hb dX10_lines_5 rfl ?_
  refine lv_istore_n (lv' := [(3, .int (zI 0)), (0, .ref (β 0)), (1, .int (zI lv9)), (2, .int (bI cl))]) hx hb dX10_lines_6 rfl hl (by decide) rfl (fun ls hl => ?_)
  refine lv_iconst (v := zI 0) hx hb dX10_lines_7 rfl ?_
  refine lv_istore (lv' := [(4, .int (zI 0)), (3, .int (zI 0)), (0, .ref (β 0)), (1, .int (zI lv9)), (2, .int (bI cl))]) hx hb dX10_lines_8 hl (by decide) rfl (fun ls hl => ?_)
  suffices HL_10 : ∀ (n_10 : Nat), ∀ (g : Int) (i : Int) (H : Heap) (locs : List Loc) (hP : va_P D vwCl (wM β δ ms mb mo mp mf mn m2_1 c2_2 q2_3 mr mw mk ml mt ma mx mh) H) (hD : va_D A (wM β δ ms mb mo mp mf mn m2_1 c2_2 q2_3 mr mw mk ml mt ma mx mh)) (hS : va_S A s.heap H locs) (ls : Array Slot) (hl : lv_has ls 5 [(3, .int (zI g)), (4, .int (zI i)), (0, .ref (β 0)), (1, .int (zI lv9)), (2, .int (bI cl))]) (hi : 0 ≤ i ∧ i ≤ 84) (hg : g = zC (fun e => S_lrep (S_hi ms lv9) e && !(cl && cb (S_lopen (S_hi ms lv9) e))) i) (hgb : 0 ≤ g ∧ g ≤ i) (hm : (84 - i).toNat < n_10), W pg l e rm_X10_lines s m args below meth c H locs 0 0 Q (F0 m 10 ls []) from HL_10 _ 0 0 _ _ hP hD hS _ (lv_sub hl [1, 0, 2, 3, 4] rfl) (by first | assumption | rfl | omega) (by exact (zC_0 _).symm) (by first | assumption | rfl | omega) (Nat.lt_succ_self _)
  intro n_10
  induction n_10 with
  | zero => intro g i H locs hP hD hS ls hl hi hg hgb hm; exact absurd hm (Nat.not_lt_zero _)
  | succ n_10 ih_10 =>
    intro g i H locs hP hD hS ls hl hi hg hgb hm
    refine lv_iload hx hb dX10_lines_10 (lv_at hl 1 rfl) ?_
    refine lv_bipush (v := zI 84) hx hb dX10_lines_12 (zI_b8 (by decide)) ?_
    refine z_icge (tgt := 57) hx hb ⟨by omega, by omega⟩ ⟨by omega, by omega⟩ dX10_lines_14 (by decide) (fun c_14 => ?_) (fun c_14 => ?_)
    · refine lv_iload_n hx hb dX10_lines_57 rfl (lv_at hl 0 rfl) ?_
      exact z_iret hC hr hlk hQ hP hD hS ⟨m2_1, c2_2, q2_3, g, (by rw [hg, show i = 84 by omega]), (by omega), rfl, rfl⟩ dX10_lines_58
    · refine lv_iload_n hx hb dX10_lines_17 rfl (lv_at hl 0 rfl) ?_
      refine lv_aload_n hx hb dX10_lines_18 rfl (lv_at hl 2 rfl) ?_
      refine va_get (D := D) (ci := 10) (v := .ref (β 7)) (C := RX10) (T := TX10) (N := 17) hx hb hts (fun w h => List.mem_cons_of_mem _ (wx_X10 w h)) hown hK hP 0 rfl rfl 11 (by decide) (hW0 _ wf_X10_29) (fun _ h9 => h9) rfl dX10_lines_19 ?_
      refine lv_iload hx hb dX10_lines_22 (lv_at hl 1 rfl) ?_
      refine z_iald (f := m2_1) hx hb hK hP 7 6 rfl rfl ⟨⟨by omega, by omega⟩, by decide⟩ dX10_lines_24 ?_
      have hb_24 := hlb i (by omega) (by omega)
      refine lv_iload hx hb dX10_lines_25 (lv_at hl 1 rfl) ?_
      refine z_icne (tgt := 48) hx hb ⟨by omega, by omega⟩ ⟨by omega, by omega⟩ dX10_lines_27 (by decide) (fun c_27 => ?_) (fun c_27 => ?_)
      · refine lv_iconst (v := zI 0) hx hb dX10_lines_48 rfl ?_
        refine z_iadd hx hb dX10_lines_49 ?_
        refine lv_istore_n (lv' := [(3, .int (zI (g + 0))), (4, .int (zI i)), (0, .ref (β 0)), (1, .int (zI lv9)), (2, .int (bI cl))]) hx hb dX10_lines_50 rfl hl (by decide) rfl (fun ls hl => ?_)
        refine z_iinc (k := 1) (v := i + 1) (lv' := [(4, .int (zI (i + 1))), (3, .int (zI (g + 0))), (0, .ref (β 0)), (1, .int (zI lv9)), (2, .int (bI cl))]) hx hb dX10_lines_51 hl rfl rfl (by decide) rfl (fun ls hl => ?_)
        refine lv_goto (tgt := 10) hx hb dX10_lines_54 (by decide) ?_
        exact ih_10 (g + 0) (i + 1) _ _ hP hD hS _ (lv_sub hl [1, 0, 2, 3, 4] rfl) (by first | assumption | rfl | omega) (by rw [zC_up hi.1, ← hg]; have hii : 0 ≤ i ∧ i < 84 := ⟨hi.1, by omega⟩; first | (rw [z1_f (show (S_lrep (S_hi ms lv9) i && !(cl && cb (S_lopen (S_hi ms lv9) i))) = false by (rw [Bool.eq_false_iff.mpr (fun z => c_27 ((UF_rep hv2_0 hii).mpr z))]; first | done | rfl))]; try omega) | (rw [z1_t (show (S_lrep (S_hi ms lv9) i && !(cl && cb (S_lopen (S_hi ms lv9) i))) = true by (rw [(UF_rep hv2_0 hii).mp c_27, c_31]; first | done | rfl))]; done) | (rw [z1_f (show (S_lrep (S_hi ms lv9) i && !(cl && cb (S_lopen (S_hi ms lv9) i))) = false by (rw [(UF_rep hv2_0 hii).mp c_27, c_31, cb_iff.mpr ((UF_open hv2_0 hv2_2 hii c_27).mp c_41)]; first | done | rfl))]; try omega) | (rw [z1_t (show (S_lrep (S_hi ms lv9) i && !(cl && cb (S_lopen (S_hi ms lv9) i))) = true by (rw [(UF_rep hv2_0 hii).mp c_27, c_31, cb_f.mpr (fun z => by (rw [(UF_open hv2_0 hv2_2 hii c_27).mpr z] at c_41; cases c_41))]; first | done | rfl))]; done)) (by first | assumption | rfl | omega) (by omega)
      · refine lv_iload_n hx hb dX10_lines_30 rfl (lv_at hl 4 rfl) ?_
        refine z_ifeqB (tgt := 44) hx hb dX10_lines_31 (by decide) (fun c_31 => ?_) (fun c_31 => ?_)
        · refine lv_iconst (v := zI 1) hx hb dX10_lines_44 rfl ?_
          refine lv_goto (tgt := 49) hx hb dX10_lines_45 (by decide) ?_
          refine z_iadd hx hb dX10_lines_49 ?_
          refine lv_istore_n (lv' := [(3, .int (zI (g + 1))), (4, .int (zI i)), (0, .ref (β 0)), (1, .int (zI lv9)), (2, .int (bI cl))]) hx hb dX10_lines_50 rfl hl (by decide) rfl (fun ls hl => ?_)
          refine z_iinc (k := 1) (v := i + 1) (lv' := [(4, .int (zI (i + 1))), (3, .int (zI (g + 1))), (0, .ref (β 0)), (1, .int (zI lv9)), (2, .int (bI cl))]) hx hb dX10_lines_51 hl rfl rfl (by decide) rfl (fun ls hl => ?_)
          refine lv_goto (tgt := 10) hx hb dX10_lines_54 (by decide) ?_
          exact ih_10 (g + 1) (i + 1) _ _ hP hD hS _ (lv_sub hl [1, 0, 2, 3, 4] rfl) (by first | assumption | rfl | omega) (by rw [zC_up hi.1, ← hg]; have hii : 0 ≤ i ∧ i < 84 := ⟨hi.1, by omega⟩; first | (rw [z1_f (show (S_lrep (S_hi ms lv9) i && !(cl && cb (S_lopen (S_hi ms lv9) i))) = false by (rw [Bool.eq_false_iff.mpr (fun z => c_27 ((UF_rep hv2_0 hii).mpr z))]; first | done | rfl))]; try omega) | (rw [z1_t (show (S_lrep (S_hi ms lv9) i && !(cl && cb (S_lopen (S_hi ms lv9) i))) = true by (rw [(UF_rep hv2_0 hii).mp c_27, c_31]; first | done | rfl))]; done) | (rw [z1_f (show (S_lrep (S_hi ms lv9) i && !(cl && cb (S_lopen (S_hi ms lv9) i))) = false by (rw [(UF_rep hv2_0 hii).mp c_27, c_31, cb_iff.mpr ((UF_open hv2_0 hv2_2 hii c_27).mp c_41)]; first | done | rfl))]; try omega) | (rw [z1_t (show (S_lrep (S_hi ms lv9) i && !(cl && cb (S_lopen (S_hi ms lv9) i))) = true by (rw [(UF_rep hv2_0 hii).mp c_27, c_31, cb_f.mpr (fun z => by (rw [(UF_open hv2_0 hv2_2 hii c_27).mpr z] at c_41; cases c_41))]; first | done | rfl))]; done)) (by first | assumption | rfl | omega) (by omega)
        · refine lv_aload_n hx hb dX10_lines_34 rfl (lv_at hl 2 rfl) ?_
          refine va_get (D := D) (ci := 10) (v := .ref (β 9)) (C := RX10) (T := TX10) (N := 17) hx hb hts (fun w h => List.mem_cons_of_mem _ (wx_X10 w h)) hown hK hP 0 rfl rfl 13 (by decide) (hW0 _ wf_X10_35) (fun _ h9 => h9) rfl dX10_lines_35 ?_
          refine lv_iload hx hb dX10_lines_38 (lv_at hl 1 rfl) ?_
          refine z_zald (f := q2_3) hx hb hK hP 9 8 rfl rfl ⟨⟨by omega, by omega⟩, by decide⟩ dX10_lines_40 ?_
          refine z_ifneB (tgt := 48) hx hb dX10_lines_41 (by decide) (fun c_41 => ?_) (fun c_41 => ?_)
          · refine lv_iconst (v := zI 0) hx hb dX10_lines_48 rfl ?_
            refine z_iadd hx hb dX10_lines_49 ?_
            refine lv_istore_n (lv' := [(3, .int (zI (g + 0))), (4, .int (zI i)), (0, .ref (β 0)), (1, .int (zI lv9)), (2, .int (bI cl))]) hx hb dX10_lines_50 rfl hl (by decide) rfl (fun ls hl => ?_)
            refine z_iinc (k := 1) (v := i + 1) (lv' := [(4, .int (zI (i + 1))), (3, .int (zI (g + 0))), (0, .ref (β 0)), (1, .int (zI lv9)), (2, .int (bI cl))]) hx hb dX10_lines_51 hl rfl rfl (by decide) rfl (fun ls hl => ?_)
            refine lv_goto (tgt := 10) hx hb dX10_lines_54 (by decide) ?_
            exact ih_10 (g + 0) (i + 1) _ _ hP hD hS _ (lv_sub hl [1, 0, 2, 3, 4] rfl) (by first | assumption | rfl | omega) (by rw [zC_up hi.1, ← hg]; have hii : 0 ≤ i ∧ i < 84 := ⟨hi.1, by omega⟩; first | (rw [z1_f (show (S_lrep (S_hi ms lv9) i && !(cl && cb (S_lopen (S_hi ms lv9) i))) = false by (rw [Bool.eq_false_iff.mpr (fun z => c_27 ((UF_rep hv2_0 hii).mpr z))]; first | done | rfl))]; try omega) | (rw [z1_t (show (S_lrep (S_hi ms lv9) i && !(cl && cb (S_lopen (S_hi ms lv9) i))) = true by (rw [(UF_rep hv2_0 hii).mp c_27, c_31]; first | done | rfl))]; done) | (rw [z1_f (show (S_lrep (S_hi ms lv9) i && !(cl && cb (S_lopen (S_hi ms lv9) i))) = false by (rw [(UF_rep hv2_0 hii).mp c_27, c_31, cb_iff.mpr ((UF_open hv2_0 hv2_2 hii c_27).mp c_41)]; first | done | rfl))]; try omega) | (rw [z1_t (show (S_lrep (S_hi ms lv9) i && !(cl && cb (S_lopen (S_hi ms lv9) i))) = true by (rw [(UF_rep hv2_0 hii).mp c_27, c_31, cb_f.mpr (fun z => by (rw [(UF_open hv2_0 hv2_2 hii c_27).mpr z] at c_41; cases c_41))]; first | done | rfl))]; done)) (by first | assumption | rfl | omega) (by omega)
          · refine lv_iconst (v := zI 1) hx hb dX10_lines_44 rfl ?_
            refine lv_goto (tgt := 49) hx hb dX10_lines_45 (by decide) ?_
            refine z_iadd hx hb dX10_lines_49 ?_
            refine lv_istore_n (lv' := [(3, .int (zI (g + 1))), (4, .int (zI i)), (0, .ref (β 0)), (1, .int (zI lv9)), (2, .int (bI cl))]) hx hb dX10_lines_50 rfl hl (by decide) rfl (fun ls hl => ?_)
            refine z_iinc (k := 1) (v := i + 1) (lv' := [(4, .int (zI (i + 1))), (3, .int (zI (g + 1))), (0, .ref (β 0)), (1, .int (zI lv9)), (2, .int (bI cl))]) hx hb dX10_lines_51 hl rfl rfl (by decide) rfl (fun ls hl => ?_)
            refine lv_goto (tgt := 10) hx hb dX10_lines_54 (by decide) ?_
            exact ih_10 (g + 1) (i + 1) _ _ hP hD hS _ (lv_sub hl [1, 0, 2, 3, 4] rfl) (by first | assumption | rfl | omega) (by rw [zC_up hi.1, ← hg]; have hii : 0 ≤ i ∧ i < 84 := ⟨hi.1, by omega⟩; first | (rw [z1_f (show (S_lrep (S_hi ms lv9) i && !(cl && cb (S_lopen (S_hi ms lv9) i))) = false by (rw [Bool.eq_false_iff.mpr (fun z => c_27 ((UF_rep hv2_0 hii).mpr z))]; first | done | rfl))]; try omega) | (rw [z1_t (show (S_lrep (S_hi ms lv9) i && !(cl && cb (S_lopen (S_hi ms lv9) i))) = true by (rw [(UF_rep hv2_0 hii).mp c_27, c_31]; first | done | rfl))]; done) | (rw [z1_f (show (S_lrep (S_hi ms lv9) i && !(cl && cb (S_lopen (S_hi ms lv9) i))) = false by (rw [(UF_rep hv2_0 hii).mp c_27, c_31, cb_iff.mpr ((UF_open hv2_0 hv2_2 hii c_27).mp c_41)]; first | done | rfl))]; try omega) | (rw [z1_t (show (S_lrep (S_hi ms lv9) i && !(cl && cb (S_lopen (S_hi ms lv9) i))) = true by (rw [(UF_rep hv2_0 hii).mp c_27, c_31, cb_f.mpr (fun z => by (rw [(UF_open hv2_0 hv2_2 hii c_27).mpr z] at c_41; cases c_41))]; first | done | rfl))]; done)) (by first | assumption | rfl | omega) (by omega)

abbrev wz_X10_longest : List Cond := .code yX10_longest cX10_longest 4 (some .int) :: W0
abbrev rm_X10_longest : Room := { frames := 5, cells := 0, slots := 0, locals := 129 }
theorem hd_X10_longest : yX10_longest.cls = RX10 ∧ yX10_longest.cls ≠ "java/lang/invoke/MethodHandle" ∧ yX10_longest.cls ≠ "java/lang/invoke/VarHandle" ∧ (parseMethodDescriptor yX10_longest.desc).map (fun d => d.parameters.length) = some 1 := by decide +kernel
set_option maxHeartbeats 4000000 in
set_option maxRecDepth 100000 in
theorem c_X10_longest (l : Launch) (D : va_G) (τ : Nat → Nat) (β : Nat → Nat) (δ : Nat → ClassId) (ms : IA) (mb : IA) (mo : IA) (mp : BA) (mf : IA) (mn : IA) (mi : IA) (mc : IA) (mq : BA) (mr : IA) (mw : IA) (mk : Int) (ml : Int) (mt : Int) (ma : Int) (mx : Bool) (mh : Int64) (lv9 : Int) (hlv : 0 ≤ lv9 ∧ lv9 ≤ 98) (hms : ∀ k, 0 ≤ k → k < 49 → 0 ≤ ms k ∧ ms k ≤ 99) : cM l yX10_longest wz_X10_longest rm_X10_longest D τ (tyM δ) [.ref (β 0), .int (zI lv9)] (wM β δ ms mb mo mp mf mn mi mc mq mr mw mk ml mt ma mx mh) (zQi (fun r w => ∃ (m2 : IA), ∃ (c2 : IA), ∃ (q2 : BA), ∃ (v : Int), (v = S_long (S_hi ms lv9)) ∧ (0 ≤ v ∧ v ≤ 72) ∧ r = zI v ∧ wM β δ ms mb mo mp mf mn m2 c2 q2 mr mw mk ml mt ma mx mh = w)) := by
  refine z_ofM (cc := cX10_longest) (maxL := 4) (ret := (some .int)) (by decide +kernel) rfl (Nat.le_of_ble_eq_true rfl) ?_
  intro pg e s m args below meth c hC hr hlk hnm hK hP A hD hG hA hS ls hl Q hQ
  have hx := hC.1
  have hb := hC.2.1
  have hml := hC.2.2.1
  have hown := hC.2.2.2.1
  have hts := hC.2.2.2.2
  have hB : ∀ w ∈ W0, w ∈ wz_X10_longest := fun _ h => List.mem_cons_of_mem _ h
  have hW0 : ∀ w ∈ W0, w.before args s = true := fun w h => hts w (hB w h)
  have hl : lv_has ls 4 [(0, .ref (β 0)), (1, .int (zI lv9))] := hl
  refine lv_aload_n hx hb dX10_longest_0 rfl (lv_at hl 0 rfl) ?_
  refine lv_iload_n hx hb dX10_longest_1 rfl (lv_at hl 1 rfl) ?_
  refine z_callv hP hD hS hA (va_runV (As := [.int (zI lv9)]) (rest := []) hC (c_X10_traces l D τ β δ ms mb mo mp mf mn mi mc mq mr mw mk ml mt ma mx mh lv9 (by first | assumption | rfl | omega) (by first | assumption | rfl | omega) _) (cwV 1 hts (gV hB wl_X10_165 wn_X10_traces ws_X10_traces wi_X10 wc_X10_traces) rfl rfl rfl hd_X10_traces ⟨Nat.le_of_ble_eq_true rfl, Nat.le_of_ble_eq_true rfl⟩) (zp_V hK hP hD hS hA hG (ci := 10) (q0 := 0) rfl rfl rfl) rfl rfl hl.1 rfl (lv_room (Nat.le_of_ble_eq_true rfl)) dX10_longest_2 ⟨Nat.le_of_ble_eq_true rfl, Nat.le_of_ble_eq_true rfl⟩) (fun w1 H locs hq9 hP hD hS => ?_)
  obtain ⟨m2_1, c2_2, q2_3, hv2_0, hv2_1, hv2_2, rfl⟩ := hq9
  have hP : va_P D vwCl (wM β δ ms mb mo mp mf mn m2_1 c2_2 q2_3 mr mw mk ml mt ma mx mh) H := hP
  have hD : va_D A (wM β δ ms mb mo mp mf mn m2_1 c2_2 q2_3 mr mw mk ml mt ma mx mh) := hD
  have hpb := PC_b (by omega) hv2_1
  refine lv_iconst (v := zI 0) hx hb dX10_longest_5 rfl ?_
  refine lv_istore_n (lv' := [(2, .int (zI 0)), (0, .ref (β 0)), (1, .int (zI lv9))]) hx hb dX10_longest_6 rfl hl (by decide) rfl (fun ls hl => ?_)
  refine lv_iconst (v := zI 0) hx hb dX10_longest_7 rfl ?_
  refine lv_istore_n (lv' := [(3, .int (zI 0)), (2, .int (zI 0)), (0, .ref (β 0)), (1, .int (zI lv9))]) hx hb dX10_longest_8 rfl hl (by decide) rfl (fun ls hl => ?_)
  suffices HL_9 : ∀ (n_9 : Nat), ∀ (g : Int) (i : Int) (H : Heap) (locs : List Loc) (hP : va_P D vwCl (wM β δ ms mb mo mp mf mn m2_1 c2_2 q2_3 mr mw mk ml mt ma mx mh) H) (hD : va_D A (wM β δ ms mb mo mp mf mn m2_1 c2_2 q2_3 mr mw mk ml mt ma mx mh)) (hS : va_S A s.heap H locs) (ls : Array Slot) (hl : lv_has ls 4 [(2, .int (zI g)), (3, .int (zI i)), (0, .ref (β 0)), (1, .int (zI lv9))]) (hi : 0 ≤ i ∧ i ≤ 84) (hg : g = S_top c2_2 i) (hgb : 0 ≤ g ∧ g ≤ 72) (hm : (84 - i).toNat < n_9), W pg l e rm_X10_longest s m args below meth c H locs 0 0 Q (F0 m 9 ls []) from HL_9 _ 0 0 _ _ hP hD hS _ (lv_sub hl [1, 0, 2, 3] rfl) (by first | assumption | rfl | omega) (by exact (S_top_0 _).symm) (by first | assumption | rfl | omega) (Nat.lt_succ_self _)
  intro n_9
  induction n_9 with
  | zero => intro g i H locs hP hD hS ls hl hi hg hgb hm; exact absurd hm (Nat.not_lt_zero _)
  | succ n_9 ih_9 =>
    intro g i H locs hP hD hS ls hl hi hg hgb hm
    refine lv_iload_n hx hb dX10_longest_9 rfl (lv_at hl 1 rfl) ?_
    refine lv_bipush (v := zI 84) hx hb dX10_longest_10 (zI_b8 (by decide)) ?_
    refine z_icge (tgt := 42) hx hb ⟨by omega, by omega⟩ ⟨by omega, by omega⟩ dX10_longest_12 (by decide) (fun c_12 => ?_) (fun c_12 => ?_)
    · refine lv_iload_n hx hb dX10_longest_42 rfl (lv_at hl 0 rfl) ?_
      exact z_iret hC hr hlk hQ hP hD hS ⟨m2_1, c2_2, q2_3, g, (by rw [hg, show i = 84 by omega]; exact UF_long hv2_0 hv2_1), (by omega), rfl, rfl⟩ dX10_longest_43
    · refine lv_aload_n hx hb dX10_longest_15 rfl (lv_at hl 2 rfl) ?_
      refine va_get (D := D) (ci := 10) (v := .ref (β 8)) (C := RX10) (T := TX10) (N := 17) hx hb hts (fun w h => List.mem_cons_of_mem _ (wx_X10 w h)) hown hK hP 0 rfl rfl 12 (by decide) (hW0 _ wf_X10_32) (fun _ h9 => h9) rfl dX10_longest_16 ?_
      refine lv_iload_n hx hb dX10_longest_19 rfl (lv_at hl 1 rfl) ?_
      refine z_iald (f := c2_2) hx hb hK hP 8 7 rfl rfl ⟨⟨by omega, by omega⟩, by decide⟩ dX10_longest_20 ?_
      have hb_20 := hpb i (by omega) (by omega)
      refine lv_iload_n hx hb dX10_longest_21 rfl (lv_at hl 0 rfl) ?_
      refine z_icle (tgt := 34) hx hb ⟨by omega, by omega⟩ ⟨by omega, by omega⟩ dX10_longest_22 (by decide) (fun c_22 => ?_) (fun c_22 => ?_)
      · refine lv_iload_n hx hb dX10_longest_34 rfl (lv_at hl 0 rfl) ?_
        refine lv_istore_n (lv' := [(2, .int (zI g)), (3, .int (zI i)), (0, .ref (β 0)), (1, .int (zI lv9))]) hx hb dX10_longest_35 rfl hl (by decide) rfl (fun ls hl => ?_)
        refine z_iinc (k := 1) (v := i + 1) (lv' := [(3, .int (zI (i + 1))), (2, .int (zI g)), (0, .ref (β 0)), (1, .int (zI lv9))]) hx hb dX10_longest_36 hl rfl rfl (by decide) rfl (fun ls hl => ?_)
        refine lv_goto (tgt := 9) hx hb dX10_longest_39 (by decide) ?_
        exact ih_9 g (i + 1) _ _ hP hD hS _ (lv_sub hl [1, 0, 2, 3] rfl) (by first | assumption | rfl | omega) (by rw [S_top_up hi.1, ← hg]; unfold zmax; split <;> omega) (by first | assumption | rfl | omega) (by omega)
      · refine lv_aload_n hx hb dX10_longest_25 rfl (lv_at hl 2 rfl) ?_
        refine va_get (D := D) (ci := 10) (v := .ref (β 8)) (C := RX10) (T := TX10) (N := 17) hx hb hts (fun w h => List.mem_cons_of_mem _ (wx_X10 w h)) hown hK hP 0 rfl rfl 12 (by decide) (hW0 _ wf_X10_32) (fun _ h9 => h9) rfl dX10_longest_26 ?_
        refine lv_iload_n hx hb dX10_longest_29 rfl (lv_at hl 1 rfl) ?_
        refine z_iald (f := c2_2) hx hb hK hP 8 7 rfl rfl ⟨⟨by omega, by omega⟩, by decide⟩ dX10_longest_30 ?_
        have hb_30 := hpb i (by omega) (by omega)
        refine lv_goto (tgt := 35) hx hb dX10_longest_31 (by decide) ?_
        refine lv_istore_n (lv' := [(2, .int (zI (c2_2 i))), (3, .int (zI i)), (0, .ref (β 0)), (1, .int (zI lv9))]) hx hb dX10_longest_35 rfl hl (by decide) rfl (fun ls hl => ?_)
        refine z_iinc (k := 1) (v := i + 1) (lv' := [(3, .int (zI (i + 1))), (2, .int (zI (c2_2 i))), (0, .ref (β 0)), (1, .int (zI lv9))]) hx hb dX10_longest_36 hl rfl rfl (by decide) rfl (fun ls hl => ?_)
        refine lv_goto (tgt := 9) hx hb dX10_longest_39 (by decide) ?_
        exact ih_9 (c2_2 i) (i + 1) _ _ hP hD hS _ (lv_sub hl [1, 0, 2, 3] rfl) (by first | assumption | rfl | omega) (by rw [S_top_up hi.1, ← hg]; unfold zmax; split <;> omega) (by first | assumption | rfl | omega) (by omega)

abbrev wz_X10_crossingsByEdges : List Cond := .code yX10_crossingsByEdges cX10_crossingsByEdges 2 (some .int) :: W0
abbrev rm_X10_crossingsByEdges : Room := { frames := 6, cells := 0, slots := 0, locals := 152 }
theorem hd_X10_crossingsByEdges : yX10_crossingsByEdges.cls = RX10 ∧ yX10_crossingsByEdges.cls ≠ "java/lang/invoke/MethodHandle" ∧ yX10_crossingsByEdges.cls ≠ "java/lang/invoke/VarHandle" ∧ (parseMethodDescriptor yX10_crossingsByEdges.desc).map (fun d => d.parameters.length) = some 1 := by decide +kernel
set_option maxHeartbeats 4000000 in
set_option maxRecDepth 100000 in
theorem c_X10_crossingsByEdges (l : Launch) (D : va_G) (τ : Nat → Nat) (β : Nat → Nat) (δ : Nat → ClassId) (ms : IA) (mb : IA) (mo : IA) (mp : BA) (mf : IA) (mn : IA) (mi : IA) (mc : IA) (mq : BA) (mr : IA) (mw : IA) (mk : Int) (ml : Int) (mt : Int) (ma : Int) (mx : Bool) (mh : Int64) (lv9 : Int) (hlv : -2147483648 ≤ lv9 ∧ lv9 < 2147483648) (hms : ∀ k, 0 ≤ k → k < 49 → 0 ≤ ms k ∧ ms k ≤ 99) : cM l yX10_crossingsByEdges wz_X10_crossingsByEdges rm_X10_crossingsByEdges D τ (tyM δ) [.ref (β 0), .int (zI lv9)] (wM β δ ms mb mo mp mf mn mi mc mq mr mw mk ml mt ma mx mh) (zQi (fun r w => ∃ (m2 : IA), ∃ (c2 : IA), ∃ (q2 : BA), ∃ (t2 : Int), ∃ (v : Int), (t2 = S_tlev lv9) ∧ (t2 = 0 → v = S_ncross (S_hi ms lv9)) ∧ r = zI v ∧ wM β δ ms mb mo mp mf mn m2 c2 q2 mr mw mk ml t2 ma mx mh = w)) := by
  refine z_ofM (cc := cX10_crossingsByEdges) (maxL := 2) (ret := (some .int)) (by decide +kernel) rfl (Nat.le_of_ble_eq_true rfl) ?_
  intro pg e s m args below meth c hC hr hlk hnm hK hP A hD hG hA hS ls hl Q hQ
  have hx := hC.1
  have hb := hC.2.1
  have hml := hC.2.2.1
  have hown := hC.2.2.2.1
  have hts := hC.2.2.2.2
  have hB : ∀ w ∈ W0, w ∈ wz_X10_crossingsByEdges := fun _ h => List.mem_cons_of_mem _ h
  have hW0 : ∀ w ∈ W0, w.before args s = true := fun w h => hts w (hB w h)
  have hl : lv_has ls 2 [(0, .ref (β 0)), (1, .int (zI lv9))] := hl
  refine lv_aload_n hx hb dX10_crossingsByEdges_0 rfl (lv_at hl 0 rfl) ?_
  refine lv_iload_n hx hb dX10_crossingsByEdges_1 rfl (lv_at hl 1 rfl) ?_
  refine z_calli hP hD hS hA (va_runV (As := [.int (zI lv9)]) (rest := []) hC (c_X10_isLevel l D τ β δ ms mb mo mp mf mn mi mc mq mr mw mk ml mt ma mx mh lv9 (by first | assumption | rfl | omega) _) (cwV 1 hts (gV hB wl_X10_132 wn_X10_isLevel ws_X10_isLevel wi_X10 wc_X10_isLevel) rfl rfl rfl hd_X10_isLevel ⟨Nat.le_of_ble_eq_true rfl, Nat.le_of_ble_eq_true rfl⟩) (zp_V hK hP hD hS hA hG (ci := 10) (q0 := 0) rfl rfl rfl) rfl rfl hl.1 rfl (lv_room (Nat.le_of_ble_eq_true rfl)) dX10_crossingsByEdges_2 ⟨Nat.le_of_ble_eq_true rfl, Nat.le_of_ble_eq_true rfl⟩) (fun r w1 H locs hq9 hP hD hS => ?_)
  obtain ⟨t2_1, v2_2, hv2_0, hv2_1, rfl, rfl⟩ := hq9
  have hP : va_P D vwCl (wM β δ ms mb mo mp mf mn mi mc mq mr mw mk ml t2_1 ma mx mh) H := hP
  have hD : va_D A (wM β δ ms mb mo mp mf mn mi mc mq mr mw mk ml t2_1 ma mx mh) := hD
  refine z_ifeqB (tgt := 16) hx hb dX10_crossingsByEdges_5 (by decide) (fun c_5 => ?_) (fun c_5 => ?_)
  · have hb_5 := zb_neg hv2_0 c_5
    refine lv_iconst (v := zI 0) hx hb dX10_crossingsByEdges_16 rfl ?_
    exact z_iret hC hr hlk hQ hP hD hS ⟨mi, mc, mq, t2_1, 0, (by exact hv2_1), (by first | exact fun _ => hv10_0 | (intro h9; rw [hv2_1] at h9; unfold S_tlev at h9; rw [if_neg hb_5] at h9; exact absurd h9 (by decide))), rfl, rfl⟩ dX10_crossingsByEdges_17
  · have hb_5 := hv2_0.mp c_5
    refine lv_aload_n hx hb dX10_crossingsByEdges_8 rfl (lv_at hl 0 rfl) ?_
    refine lv_iload_n hx hb dX10_crossingsByEdges_9 rfl (lv_at hl 1 rfl) ?_
    refine z_calli hP hD hS hA (va_runV (As := [.int (zI lv9)]) (rest := []) hC (c_X10_crossings l D τ β δ ms mb mo mp mf mn mi mc mq mr mw mk ml t2_1 ma mx mh lv9 (by exact hb_5) (by first | assumption | rfl | omega) _) (cwV 1 hts (gV hB wl_X10_171 wn_X10_crossings ws_X10_crossings wi_X10 wc_X10_crossings) rfl rfl rfl hd_X10_crossings ⟨Nat.le_of_ble_eq_true rfl, Nat.le_of_ble_eq_true rfl⟩) (zp_V hK hP hD hS hA hG (ci := 10) (q0 := 0) rfl rfl rfl) rfl rfl hl.1 rfl (lv_room (Nat.le_of_ble_eq_true rfl)) dX10_crossingsByEdges_10 ⟨Nat.le_of_ble_eq_true rfl, Nat.le_of_ble_eq_true rfl⟩) (fun r w1 H locs hq9 hP hD hS => ?_)
    obtain ⟨m10_3, c10_4, q10_5, v10_6, hv10_0, hv10_1, rfl, rfl⟩ := hq9
    have hP : va_P D vwCl (wM β δ ms mb mo mp mf mn m10_3 c10_4 q10_5 mr mw mk ml t2_1 ma mx mh) H := hP
    have hD : va_D A (wM β δ ms mb mo mp mf mn m10_3 c10_4 q10_5 mr mw mk ml t2_1 ma mx mh) := hD
    refine lv_goto (tgt := 17) hx hb dX10_crossingsByEdges_13 (by decide) ?_
    exact z_iret hC hr hlk hQ hP hD hS ⟨m10_3, c10_4, q10_5, t2_1, v10_6, (by exact hv2_1), (by first | exact fun _ => hv10_0 | (intro h9; rw [hv2_1] at h9; unfold S_tlev at h9; rw [if_neg hb_5] at h9; exact absurd h9 (by decide))), rfl, rfl⟩ dX10_crossingsByEdges_17

abbrev wz_X10_crossingsByPieces : List Cond := .code yX10_crossingsByPieces cX10_crossingsByPieces 2 (some .int) :: W0
abbrev rm_X10_crossingsByPieces : Room := { frames := 6, cells := 0, slots := 0, locals := 152 }
theorem hd_X10_crossingsByPieces : yX10_crossingsByPieces.cls = RX10 ∧ yX10_crossingsByPieces.cls ≠ "java/lang/invoke/MethodHandle" ∧ yX10_crossingsByPieces.cls ≠ "java/lang/invoke/VarHandle" ∧ (parseMethodDescriptor yX10_crossingsByPieces.desc).map (fun d => d.parameters.length) = some 1 := by decide +kernel
set_option maxHeartbeats 4000000 in
set_option maxRecDepth 100000 in
theorem c_X10_crossingsByPieces (l : Launch) (D : va_G) (τ : Nat → Nat) (β : Nat → Nat) (δ : Nat → ClassId) (ms : IA) (mb : IA) (mo : IA) (mp : BA) (mf : IA) (mn : IA) (mi : IA) (mc : IA) (mq : BA) (mr : IA) (mw : IA) (mk : Int) (ml : Int) (mt : Int) (ma : Int) (mx : Bool) (mh : Int64) (lv9 : Int) (hlv : -2147483648 ≤ lv9 ∧ lv9 < 2147483648) (hms : ∀ k, 0 ≤ k → k < 49 → 0 ≤ ms k ∧ ms k ≤ 99) : cM l yX10_crossingsByPieces wz_X10_crossingsByPieces rm_X10_crossingsByPieces D τ (tyM δ) [.ref (β 0), .int (zI lv9)] (wM β δ ms mb mo mp mf mn mi mc mq mr mw mk ml mt ma mx mh) (zQi (fun r w => ∃ (m2 : IA), ∃ (c2 : IA), ∃ (q2 : BA), ∃ (t2 : Int), ∃ (v : Int), (t2 = S_tlev lv9) ∧ (t2 = 0 → v = S_ncross (S_hi ms lv9)) ∧ r = zI v ∧ wM β δ ms mb mo mp mf mn m2 c2 q2 mr mw mk ml t2 ma mx mh = w)) := by
  refine z_ofM (cc := cX10_crossingsByPieces) (maxL := 2) (ret := (some .int)) (by decide +kernel) rfl (Nat.le_of_ble_eq_true rfl) ?_
  intro pg e s m args below meth c hC hr hlk hnm hK hP A hD hG hA hS ls hl Q hQ
  have hx := hC.1
  have hb := hC.2.1
  have hml := hC.2.2.1
  have hown := hC.2.2.2.1
  have hts := hC.2.2.2.2
  have hB : ∀ w ∈ W0, w ∈ wz_X10_crossingsByPieces := fun _ h => List.mem_cons_of_mem _ h
  have hW0 : ∀ w ∈ W0, w.before args s = true := fun w h => hts w (hB w h)
  have hl : lv_has ls 2 [(0, .ref (β 0)), (1, .int (zI lv9))] := hl
  refine lv_aload_n hx hb dX10_crossingsByPieces_0 rfl (lv_at hl 0 rfl) ?_
  refine lv_iload_n hx hb dX10_crossingsByPieces_1 rfl (lv_at hl 1 rfl) ?_
  refine z_calli hP hD hS hA (va_runV (As := [.int (zI lv9)]) (rest := []) hC (c_X10_isLevel l D τ β δ ms mb mo mp mf mn mi mc mq mr mw mk ml mt ma mx mh lv9 (by first | assumption | rfl | omega) _) (cwV 1 hts (gV hB wl_X10_132 wn_X10_isLevel ws_X10_isLevel wi_X10 wc_X10_isLevel) rfl rfl rfl hd_X10_isLevel ⟨Nat.le_of_ble_eq_true rfl, Nat.le_of_ble_eq_true rfl⟩) (zp_V hK hP hD hS hA hG (ci := 10) (q0 := 0) rfl rfl rfl) rfl rfl hl.1 rfl (lv_room (Nat.le_of_ble_eq_true rfl)) dX10_crossingsByPieces_2 ⟨Nat.le_of_ble_eq_true rfl, Nat.le_of_ble_eq_true rfl⟩) (fun r w1 H locs hq9 hP hD hS => ?_)
  obtain ⟨t2_1, v2_2, hv2_0, hv2_1, rfl, rfl⟩ := hq9
  have hP : va_P D vwCl (wM β δ ms mb mo mp mf mn mi mc mq mr mw mk ml t2_1 ma mx mh) H := hP
  have hD : va_D A (wM β δ ms mb mo mp mf mn mi mc mq mr mw mk ml t2_1 ma mx mh) := hD
  refine z_ifeqB (tgt := 16) hx hb dX10_crossingsByPieces_5 (by decide) (fun c_5 => ?_) (fun c_5 => ?_)
  · have hb_5 := zb_neg hv2_0 c_5
    refine lv_iconst (v := zI 0) hx hb dX10_crossingsByPieces_16 rfl ?_
    exact z_iret hC hr hlk hQ hP hD hS ⟨mi, mc, mq, t2_1, 0, (by exact hv2_1), (by first | exact fun _ => hv10_0 | (intro h9; rw [hv2_1] at h9; unfold S_tlev at h9; rw [if_neg hb_5] at h9; exact absurd h9 (by decide))), rfl, rfl⟩ dX10_crossingsByPieces_17
  · have hb_5 := hv2_0.mp c_5
    refine lv_aload_n hx hb dX10_crossingsByPieces_8 rfl (lv_at hl 0 rfl) ?_
    refine lv_iload_n hx hb dX10_crossingsByPieces_9 rfl (lv_at hl 1 rfl) ?_
    refine z_calli hP hD hS hA (va_runV (As := [.int (zI lv9)]) (rest := []) hC (c_X10_crossings l D τ β δ ms mb mo mp mf mn mi mc mq mr mw mk ml t2_1 ma mx mh lv9 (by exact hb_5) (by first | assumption | rfl | omega) _) (cwV 1 hts (gV hB wl_X10_171 wn_X10_crossings ws_X10_crossings wi_X10 wc_X10_crossings) rfl rfl rfl hd_X10_crossings ⟨Nat.le_of_ble_eq_true rfl, Nat.le_of_ble_eq_true rfl⟩) (zp_V hK hP hD hS hA hG (ci := 10) (q0 := 0) rfl rfl rfl) rfl rfl hl.1 rfl (lv_room (Nat.le_of_ble_eq_true rfl)) dX10_crossingsByPieces_10 ⟨Nat.le_of_ble_eq_true rfl, Nat.le_of_ble_eq_true rfl⟩) (fun r w1 H locs hq9 hP hD hS => ?_)
    obtain ⟨m10_3, c10_4, q10_5, v10_6, hv10_0, hv10_1, rfl, rfl⟩ := hq9
    have hP : va_P D vwCl (wM β δ ms mb mo mp mf mn m10_3 c10_4 q10_5 mr mw mk ml t2_1 ma mx mh) H := hP
    have hD : va_D A (wM β δ ms mb mo mp mf mn m10_3 c10_4 q10_5 mr mw mk ml t2_1 ma mx mh) := hD
    refine lv_goto (tgt := 17) hx hb dX10_crossingsByPieces_13 (by decide) ?_
    exact z_iret hC hr hlk hQ hP hD hS ⟨m10_3, c10_4, q10_5, t2_1, v10_6, (by exact hv2_1), (by first | exact fun _ => hv10_0 | (intro h9; rw [hv2_1] at h9; unfold S_tlev at h9; rw [if_neg hb_5] at h9; exact absurd h9 (by decide))), rfl, rfl⟩ dX10_crossingsByPieces_17

abbrev wz_X10_linesByTracing : List Cond := .code yX10_linesByTracing cX10_linesByTracing 2 (some .int) :: W0
abbrev rm_X10_linesByTracing : Room := { frames := 6, cells := 0, slots := 0, locals := 153 }
theorem hd_X10_linesByTracing : yX10_linesByTracing.cls = RX10 ∧ yX10_linesByTracing.cls ≠ "java/lang/invoke/MethodHandle" ∧ yX10_linesByTracing.cls ≠ "java/lang/invoke/VarHandle" ∧ (parseMethodDescriptor yX10_linesByTracing.desc).map (fun d => d.parameters.length) = some 1 := by decide +kernel
set_option maxHeartbeats 4000000 in
set_option maxRecDepth 100000 in
theorem c_X10_linesByTracing (l : Launch) (D : va_G) (τ : Nat → Nat) (β : Nat → Nat) (δ : Nat → ClassId) (ms : IA) (mb : IA) (mo : IA) (mp : BA) (mf : IA) (mn : IA) (mi : IA) (mc : IA) (mq : BA) (mr : IA) (mw : IA) (mk : Int) (ml : Int) (mt : Int) (ma : Int) (mx : Bool) (mh : Int64) (lv9 : Int) (hlv : -2147483648 ≤ lv9 ∧ lv9 < 2147483648) (hms : ∀ k, 0 ≤ k → k < 49 → 0 ≤ ms k ∧ ms k ≤ 99) : cM l yX10_linesByTracing wz_X10_linesByTracing rm_X10_linesByTracing D τ (tyM δ) [.ref (β 0), .int (zI lv9)] (wM β δ ms mb mo mp mf mn mi mc mq mr mw mk ml mt ma mx mh) (zQi (fun r w => ∃ (m2 : IA), ∃ (c2 : IA), ∃ (q2 : BA), ∃ (t2 : Int), ∃ (v : Int), (t2 = S_tlev lv9) ∧ (t2 = 0 → v = S_nlines (S_hi ms lv9)) ∧ r = zI v ∧ wM β δ ms mb mo mp mf mn m2 c2 q2 mr mw mk ml t2 ma mx mh = w)) := by
  refine z_ofM (cc := cX10_linesByTracing) (maxL := 2) (ret := (some .int)) (by decide +kernel) rfl (Nat.le_of_ble_eq_true rfl) ?_
  intro pg e s m args below meth c hC hr hlk hnm hK hP A hD hG hA hS ls hl Q hQ
  have hx := hC.1
  have hb := hC.2.1
  have hml := hC.2.2.1
  have hown := hC.2.2.2.1
  have hts := hC.2.2.2.2
  have hB : ∀ w ∈ W0, w ∈ wz_X10_linesByTracing := fun _ h => List.mem_cons_of_mem _ h
  have hW0 : ∀ w ∈ W0, w.before args s = true := fun w h => hts w (hB w h)
  have hl : lv_has ls 2 [(0, .ref (β 0)), (1, .int (zI lv9))] := hl
  refine lv_aload_n hx hb dX10_linesByTracing_0 rfl (lv_at hl 0 rfl) ?_
  refine lv_iload_n hx hb dX10_linesByTracing_1 rfl (lv_at hl 1 rfl) ?_
  refine z_calli hP hD hS hA (va_runV (As := [.int (zI lv9)]) (rest := []) hC (c_X10_isLevel l D τ β δ ms mb mo mp mf mn mi mc mq mr mw mk ml mt ma mx mh lv9 (by first | assumption | rfl | omega) _) (cwV 1 hts (gV hB wl_X10_132 wn_X10_isLevel ws_X10_isLevel wi_X10 wc_X10_isLevel) rfl rfl rfl hd_X10_isLevel ⟨Nat.le_of_ble_eq_true rfl, Nat.le_of_ble_eq_true rfl⟩) (zp_V hK hP hD hS hA hG (ci := 10) (q0 := 0) rfl rfl rfl) rfl rfl hl.1 rfl (lv_room (Nat.le_of_ble_eq_true rfl)) dX10_linesByTracing_2 ⟨Nat.le_of_ble_eq_true rfl, Nat.le_of_ble_eq_true rfl⟩) (fun r w1 H locs hq9 hP hD hS => ?_)
  obtain ⟨t2_1, v2_2, hv2_0, hv2_1, rfl, rfl⟩ := hq9
  have hP : va_P D vwCl (wM β δ ms mb mo mp mf mn mi mc mq mr mw mk ml t2_1 ma mx mh) H := hP
  have hD : va_D A (wM β δ ms mb mo mp mf mn mi mc mq mr mw mk ml t2_1 ma mx mh) := hD
  refine z_ifeqB (tgt := 17) hx hb dX10_linesByTracing_5 (by decide) (fun c_5 => ?_) (fun c_5 => ?_)
  · have hb_5 := zb_neg hv2_0 c_5
    refine lv_iconst (v := zI 0) hx hb dX10_linesByTracing_17 rfl ?_
    exact z_iret hC hr hlk hQ hP hD hS ⟨mi, mc, mq, t2_1, 0, (by exact hv2_1), (by first | exact fun _ => hv11_0.trans (lines_f _) | (intro h9; rw [hv2_1] at h9; unfold S_tlev at h9; rw [if_neg hb_5] at h9; exact absurd h9 (by decide))), rfl, rfl⟩ dX10_linesByTracing_18
  · have hb_5 := hv2_0.mp c_5
    refine lv_aload_n hx hb dX10_linesByTracing_8 rfl (lv_at hl 0 rfl) ?_
    refine lv_iload_n hx hb dX10_linesByTracing_9 rfl (lv_at hl 1 rfl) ?_
    refine lv_iconst (v := zI 0) hx hb dX10_linesByTracing_10 rfl ?_
    refine z_calli hP hD hS hA (va_runV (As := [.int (zI lv9), .int (bI false)]) (rest := []) hC (c_X10_lines l D τ β δ ms mb mo mp mf mn mi mc mq mr mw mk ml t2_1 ma mx mh lv9 false (by exact hb_5) (by first | assumption | rfl | omega) _) (cwV 2 hts (gV hB wl_X10_174 wn_X10_lines ws_X10_lines wi_X10 wc_X10_lines) rfl rfl rfl hd_X10_lines ⟨Nat.le_of_ble_eq_true rfl, Nat.le_of_ble_eq_true rfl⟩) (zp_V hK hP hD hS hA hG (ci := 10) (q0 := 0) rfl rfl rfl) rfl rfl hl.1 rfl (lv_room (Nat.le_of_ble_eq_true rfl)) dX10_linesByTracing_11 ⟨Nat.le_of_ble_eq_true rfl, Nat.le_of_ble_eq_true rfl⟩) (fun r w1 H locs hq9 hP hD hS => ?_)
    obtain ⟨m11_3, c11_4, q11_5, v11_6, hv11_0, hv11_1, rfl, rfl⟩ := hq9
    have hP : va_P D vwCl (wM β δ ms mb mo mp mf mn m11_3 c11_4 q11_5 mr mw mk ml t2_1 ma mx mh) H := hP
    have hD : va_D A (wM β δ ms mb mo mp mf mn m11_3 c11_4 q11_5 mr mw mk ml t2_1 ma mx mh) := hD
    refine lv_goto (tgt := 18) hx hb dX10_linesByTracing_14 (by decide) ?_
    exact z_iret hC hr hlk hQ hP hD hS ⟨m11_3, c11_4, q11_5, t2_1, v11_6, (by exact hv2_1), (by first | exact fun _ => hv11_0.trans (lines_f _) | (intro h9; rw [hv2_1] at h9; unfold S_tlev at h9; rw [if_neg hb_5] at h9; exact absurd h9 (by decide))), rfl, rfl⟩ dX10_linesByTracing_18

abbrev wz_X10_linesByRegions : List Cond := .code yX10_linesByRegions cX10_linesByRegions 2 (some .int) :: W0
abbrev rm_X10_linesByRegions : Room := { frames := 6, cells := 0, slots := 0, locals := 153 }
theorem hd_X10_linesByRegions : yX10_linesByRegions.cls = RX10 ∧ yX10_linesByRegions.cls ≠ "java/lang/invoke/MethodHandle" ∧ yX10_linesByRegions.cls ≠ "java/lang/invoke/VarHandle" ∧ (parseMethodDescriptor yX10_linesByRegions.desc).map (fun d => d.parameters.length) = some 1 := by decide +kernel
set_option maxHeartbeats 4000000 in
set_option maxRecDepth 100000 in
theorem c_X10_linesByRegions (l : Launch) (D : va_G) (τ : Nat → Nat) (β : Nat → Nat) (δ : Nat → ClassId) (ms : IA) (mb : IA) (mo : IA) (mp : BA) (mf : IA) (mn : IA) (mi : IA) (mc : IA) (mq : BA) (mr : IA) (mw : IA) (mk : Int) (ml : Int) (mt : Int) (ma : Int) (mx : Bool) (mh : Int64) (lv9 : Int) (hlv : -2147483648 ≤ lv9 ∧ lv9 < 2147483648) (hms : ∀ k, 0 ≤ k → k < 49 → 0 ≤ ms k ∧ ms k ≤ 99) : cM l yX10_linesByRegions wz_X10_linesByRegions rm_X10_linesByRegions D τ (tyM δ) [.ref (β 0), .int (zI lv9)] (wM β δ ms mb mo mp mf mn mi mc mq mr mw mk ml mt ma mx mh) (zQi (fun r w => ∃ (m2 : IA), ∃ (c2 : IA), ∃ (q2 : BA), ∃ (t2 : Int), ∃ (v : Int), (t2 = S_tlev lv9) ∧ (t2 = 0 → v = S_nlines (S_hi ms lv9)) ∧ r = zI v ∧ wM β δ ms mb mo mp mf mn m2 c2 q2 mr mw mk ml t2 ma mx mh = w)) := by
  refine z_ofM (cc := cX10_linesByRegions) (maxL := 2) (ret := (some .int)) (by decide +kernel) rfl (Nat.le_of_ble_eq_true rfl) ?_
  intro pg e s m args below meth c hC hr hlk hnm hK hP A hD hG hA hS ls hl Q hQ
  have hx := hC.1
  have hb := hC.2.1
  have hml := hC.2.2.1
  have hown := hC.2.2.2.1
  have hts := hC.2.2.2.2
  have hB : ∀ w ∈ W0, w ∈ wz_X10_linesByRegions := fun _ h => List.mem_cons_of_mem _ h
  have hW0 : ∀ w ∈ W0, w.before args s = true := fun w h => hts w (hB w h)
  have hl : lv_has ls 2 [(0, .ref (β 0)), (1, .int (zI lv9))] := hl
  refine lv_aload_n hx hb dX10_linesByRegions_0 rfl (lv_at hl 0 rfl) ?_
  refine lv_iload_n hx hb dX10_linesByRegions_1 rfl (lv_at hl 1 rfl) ?_
  refine z_calli hP hD hS hA (va_runV (As := [.int (zI lv9)]) (rest := []) hC (c_X10_isLevel l D τ β δ ms mb mo mp mf mn mi mc mq mr mw mk ml mt ma mx mh lv9 (by first | assumption | rfl | omega) _) (cwV 1 hts (gV hB wl_X10_132 wn_X10_isLevel ws_X10_isLevel wi_X10 wc_X10_isLevel) rfl rfl rfl hd_X10_isLevel ⟨Nat.le_of_ble_eq_true rfl, Nat.le_of_ble_eq_true rfl⟩) (zp_V hK hP hD hS hA hG (ci := 10) (q0 := 0) rfl rfl rfl) rfl rfl hl.1 rfl (lv_room (Nat.le_of_ble_eq_true rfl)) dX10_linesByRegions_2 ⟨Nat.le_of_ble_eq_true rfl, Nat.le_of_ble_eq_true rfl⟩) (fun r w1 H locs hq9 hP hD hS => ?_)
  obtain ⟨t2_1, v2_2, hv2_0, hv2_1, rfl, rfl⟩ := hq9
  have hP : va_P D vwCl (wM β δ ms mb mo mp mf mn mi mc mq mr mw mk ml t2_1 ma mx mh) H := hP
  have hD : va_D A (wM β δ ms mb mo mp mf mn mi mc mq mr mw mk ml t2_1 ma mx mh) := hD
  refine z_ifeqB (tgt := 17) hx hb dX10_linesByRegions_5 (by decide) (fun c_5 => ?_) (fun c_5 => ?_)
  · have hb_5 := zb_neg hv2_0 c_5
    refine lv_iconst (v := zI 0) hx hb dX10_linesByRegions_17 rfl ?_
    exact z_iret hC hr hlk hQ hP hD hS ⟨mi, mc, mq, t2_1, 0, (by exact hv2_1), (by first | exact fun _ => hv11_0.trans (lines_f _) | (intro h9; rw [hv2_1] at h9; unfold S_tlev at h9; rw [if_neg hb_5] at h9; exact absurd h9 (by decide))), rfl, rfl⟩ dX10_linesByRegions_18
  · have hb_5 := hv2_0.mp c_5
    refine lv_aload_n hx hb dX10_linesByRegions_8 rfl (lv_at hl 0 rfl) ?_
    refine lv_iload_n hx hb dX10_linesByRegions_9 rfl (lv_at hl 1 rfl) ?_
    refine lv_iconst (v := zI 0) hx hb dX10_linesByRegions_10 rfl ?_
    refine z_calli hP hD hS hA (va_runV (As := [.int (zI lv9), .int (bI false)]) (rest := []) hC (c_X10_lines l D τ β δ ms mb mo mp mf mn mi mc mq mr mw mk ml t2_1 ma mx mh lv9 false (by exact hb_5) (by first | assumption | rfl | omega) _) (cwV 2 hts (gV hB wl_X10_174 wn_X10_lines ws_X10_lines wi_X10 wc_X10_lines) rfl rfl rfl hd_X10_lines ⟨Nat.le_of_ble_eq_true rfl, Nat.le_of_ble_eq_true rfl⟩) (zp_V hK hP hD hS hA hG (ci := 10) (q0 := 0) rfl rfl rfl) rfl rfl hl.1 rfl (lv_room (Nat.le_of_ble_eq_true rfl)) dX10_linesByRegions_11 ⟨Nat.le_of_ble_eq_true rfl, Nat.le_of_ble_eq_true rfl⟩) (fun r w1 H locs hq9 hP hD hS => ?_)
    obtain ⟨m11_3, c11_4, q11_5, v11_6, hv11_0, hv11_1, rfl, rfl⟩ := hq9
    have hP : va_P D vwCl (wM β δ ms mb mo mp mf mn m11_3 c11_4 q11_5 mr mw mk ml t2_1 ma mx mh) H := hP
    have hD : va_D A (wM β δ ms mb mo mp mf mn m11_3 c11_4 q11_5 mr mw mk ml t2_1 ma mx mh) := hD
    refine lv_goto (tgt := 18) hx hb dX10_linesByRegions_14 (by decide) ?_
    exact z_iret hC hr hlk hQ hP hD hS ⟨m11_3, c11_4, q11_5, t2_1, v11_6, (by exact hv2_1), (by first | exact fun _ => hv11_0.trans (lines_f _) | (intro h9; rw [hv2_1] at h9; unfold S_tlev at h9; rw [if_neg hb_5] at h9; exact absurd h9 (by decide))), rfl, rfl⟩ dX10_linesByRegions_18

abbrev wz_X10_closedLines : List Cond := .code yX10_closedLines cX10_closedLines 2 (some .int) :: W0
abbrev rm_X10_closedLines : Room := { frames := 6, cells := 0, slots := 0, locals := 153 }
theorem hd_X10_closedLines : yX10_closedLines.cls = RX10 ∧ yX10_closedLines.cls ≠ "java/lang/invoke/MethodHandle" ∧ yX10_closedLines.cls ≠ "java/lang/invoke/VarHandle" ∧ (parseMethodDescriptor yX10_closedLines.desc).map (fun d => d.parameters.length) = some 1 := by decide +kernel
set_option maxHeartbeats 4000000 in
set_option maxRecDepth 100000 in
theorem c_X10_closedLines (l : Launch) (D : va_G) (τ : Nat → Nat) (β : Nat → Nat) (δ : Nat → ClassId) (ms : IA) (mb : IA) (mo : IA) (mp : BA) (mf : IA) (mn : IA) (mi : IA) (mc : IA) (mq : BA) (mr : IA) (mw : IA) (mk : Int) (ml : Int) (mt : Int) (ma : Int) (mx : Bool) (mh : Int64) (lv9 : Int) (hlv : -2147483648 ≤ lv9 ∧ lv9 < 2147483648) (hms : ∀ k, 0 ≤ k → k < 49 → 0 ≤ ms k ∧ ms k ≤ 99) : cM l yX10_closedLines wz_X10_closedLines rm_X10_closedLines D τ (tyM δ) [.ref (β 0), .int (zI lv9)] (wM β δ ms mb mo mp mf mn mi mc mq mr mw mk ml mt ma mx mh) (zQi (fun r w => ∃ (m2 : IA), ∃ (c2 : IA), ∃ (q2 : BA), ∃ (t2 : Int), ∃ (v : Int), (t2 = S_tlev lv9) ∧ (t2 = 0 → v = S_nclosed (S_hi ms lv9)) ∧ r = zI v ∧ wM β δ ms mb mo mp mf mn m2 c2 q2 mr mw mk ml t2 ma mx mh = w)) := by
  refine z_ofM (cc := cX10_closedLines) (maxL := 2) (ret := (some .int)) (by decide +kernel) rfl (Nat.le_of_ble_eq_true rfl) ?_
  intro pg e s m args below meth c hC hr hlk hnm hK hP A hD hG hA hS ls hl Q hQ
  have hx := hC.1
  have hb := hC.2.1
  have hml := hC.2.2.1
  have hown := hC.2.2.2.1
  have hts := hC.2.2.2.2
  have hB : ∀ w ∈ W0, w ∈ wz_X10_closedLines := fun _ h => List.mem_cons_of_mem _ h
  have hW0 : ∀ w ∈ W0, w.before args s = true := fun w h => hts w (hB w h)
  have hl : lv_has ls 2 [(0, .ref (β 0)), (1, .int (zI lv9))] := hl
  refine lv_aload_n hx hb dX10_closedLines_0 rfl (lv_at hl 0 rfl) ?_
  refine lv_iload_n hx hb dX10_closedLines_1 rfl (lv_at hl 1 rfl) ?_
  refine z_calli hP hD hS hA (va_runV (As := [.int (zI lv9)]) (rest := []) hC (c_X10_isLevel l D τ β δ ms mb mo mp mf mn mi mc mq mr mw mk ml mt ma mx mh lv9 (by first | assumption | rfl | omega) _) (cwV 1 hts (gV hB wl_X10_132 wn_X10_isLevel ws_X10_isLevel wi_X10 wc_X10_isLevel) rfl rfl rfl hd_X10_isLevel ⟨Nat.le_of_ble_eq_true rfl, Nat.le_of_ble_eq_true rfl⟩) (zp_V hK hP hD hS hA hG (ci := 10) (q0 := 0) rfl rfl rfl) rfl rfl hl.1 rfl (lv_room (Nat.le_of_ble_eq_true rfl)) dX10_closedLines_2 ⟨Nat.le_of_ble_eq_true rfl, Nat.le_of_ble_eq_true rfl⟩) (fun r w1 H locs hq9 hP hD hS => ?_)
  obtain ⟨t2_1, v2_2, hv2_0, hv2_1, rfl, rfl⟩ := hq9
  have hP : va_P D vwCl (wM β δ ms mb mo mp mf mn mi mc mq mr mw mk ml t2_1 ma mx mh) H := hP
  have hD : va_D A (wM β δ ms mb mo mp mf mn mi mc mq mr mw mk ml t2_1 ma mx mh) := hD
  refine z_ifeqB (tgt := 17) hx hb dX10_closedLines_5 (by decide) (fun c_5 => ?_) (fun c_5 => ?_)
  · have hb_5 := zb_neg hv2_0 c_5
    refine lv_iconst (v := zI 0) hx hb dX10_closedLines_17 rfl ?_
    exact z_iret hC hr hlk hQ hP hD hS ⟨mi, mc, mq, t2_1, 0, (by exact hv2_1), (by first | exact fun _ => hv11_0.trans (lines_t _) | (intro h9; rw [hv2_1] at h9; unfold S_tlev at h9; rw [if_neg hb_5] at h9; exact absurd h9 (by decide))), rfl, rfl⟩ dX10_closedLines_18
  · have hb_5 := hv2_0.mp c_5
    refine lv_aload_n hx hb dX10_closedLines_8 rfl (lv_at hl 0 rfl) ?_
    refine lv_iload_n hx hb dX10_closedLines_9 rfl (lv_at hl 1 rfl) ?_
    refine lv_iconst (v := zI 1) hx hb dX10_closedLines_10 rfl ?_
    refine z_calli hP hD hS hA (va_runV (As := [.int (zI lv9), .int (bI true)]) (rest := []) hC (c_X10_lines l D τ β δ ms mb mo mp mf mn mi mc mq mr mw mk ml t2_1 ma mx mh lv9 true (by exact hb_5) (by first | assumption | rfl | omega) _) (cwV 2 hts (gV hB wl_X10_174 wn_X10_lines ws_X10_lines wi_X10 wc_X10_lines) rfl rfl rfl hd_X10_lines ⟨Nat.le_of_ble_eq_true rfl, Nat.le_of_ble_eq_true rfl⟩) (zp_V hK hP hD hS hA hG (ci := 10) (q0 := 0) rfl rfl rfl) rfl rfl hl.1 rfl (lv_room (Nat.le_of_ble_eq_true rfl)) dX10_closedLines_11 ⟨Nat.le_of_ble_eq_true rfl, Nat.le_of_ble_eq_true rfl⟩) (fun r w1 H locs hq9 hP hD hS => ?_)
    obtain ⟨m11_3, c11_4, q11_5, v11_6, hv11_0, hv11_1, rfl, rfl⟩ := hq9
    have hP : va_P D vwCl (wM β δ ms mb mo mp mf mn m11_3 c11_4 q11_5 mr mw mk ml t2_1 ma mx mh) H := hP
    have hD : va_D A (wM β δ ms mb mo mp mf mn m11_3 c11_4 q11_5 mr mw mk ml t2_1 ma mx mh) := hD
    refine lv_goto (tgt := 18) hx hb dX10_closedLines_14 (by decide) ?_
    exact z_iret hC hr hlk hQ hP hD hS ⟨m11_3, c11_4, q11_5, t2_1, v11_6, (by exact hv2_1), (by first | exact fun _ => hv11_0.trans (lines_t _) | (intro h9; rw [hv2_1] at h9; unfold S_tlev at h9; rw [if_neg hb_5] at h9; exact absurd h9 (by decide))), rfl, rfl⟩ dX10_closedLines_18

abbrev wz_X10_longestLine : List Cond := .code yX10_longestLine cX10_longestLine 2 (some .int) :: W0
abbrev rm_X10_longestLine : Room := { frames := 6, cells := 0, slots := 0, locals := 152 }
theorem hd_X10_longestLine : yX10_longestLine.cls = RX10 ∧ yX10_longestLine.cls ≠ "java/lang/invoke/MethodHandle" ∧ yX10_longestLine.cls ≠ "java/lang/invoke/VarHandle" ∧ (parseMethodDescriptor yX10_longestLine.desc).map (fun d => d.parameters.length) = some 1 := by decide +kernel
set_option maxHeartbeats 4000000 in
set_option maxRecDepth 100000 in
theorem c_X10_longestLine (l : Launch) (D : va_G) (τ : Nat → Nat) (β : Nat → Nat) (δ : Nat → ClassId) (ms : IA) (mb : IA) (mo : IA) (mp : BA) (mf : IA) (mn : IA) (mi : IA) (mc : IA) (mq : BA) (mr : IA) (mw : IA) (mk : Int) (ml : Int) (mt : Int) (ma : Int) (mx : Bool) (mh : Int64) (lv9 : Int) (hlv : -2147483648 ≤ lv9 ∧ lv9 < 2147483648) (hms : ∀ k, 0 ≤ k → k < 49 → 0 ≤ ms k ∧ ms k ≤ 99) : cM l yX10_longestLine wz_X10_longestLine rm_X10_longestLine D τ (tyM δ) [.ref (β 0), .int (zI lv9)] (wM β δ ms mb mo mp mf mn mi mc mq mr mw mk ml mt ma mx mh) (zQi (fun r w => ∃ (m2 : IA), ∃ (c2 : IA), ∃ (q2 : BA), ∃ (t2 : Int), ∃ (v : Int), (t2 = S_tlev lv9) ∧ (t2 = 0 → v = S_long (S_hi ms lv9)) ∧ r = zI v ∧ wM β δ ms mb mo mp mf mn m2 c2 q2 mr mw mk ml t2 ma mx mh = w)) := by
  refine z_ofM (cc := cX10_longestLine) (maxL := 2) (ret := (some .int)) (by decide +kernel) rfl (Nat.le_of_ble_eq_true rfl) ?_
  intro pg e s m args below meth c hC hr hlk hnm hK hP A hD hG hA hS ls hl Q hQ
  have hx := hC.1
  have hb := hC.2.1
  have hml := hC.2.2.1
  have hown := hC.2.2.2.1
  have hts := hC.2.2.2.2
  have hB : ∀ w ∈ W0, w ∈ wz_X10_longestLine := fun _ h => List.mem_cons_of_mem _ h
  have hW0 : ∀ w ∈ W0, w.before args s = true := fun w h => hts w (hB w h)
  have hl : lv_has ls 2 [(0, .ref (β 0)), (1, .int (zI lv9))] := hl
  refine lv_aload_n hx hb dX10_longestLine_0 rfl (lv_at hl 0 rfl) ?_
  refine lv_iload_n hx hb dX10_longestLine_1 rfl (lv_at hl 1 rfl) ?_
  refine z_calli hP hD hS hA (va_runV (As := [.int (zI lv9)]) (rest := []) hC (c_X10_isLevel l D τ β δ ms mb mo mp mf mn mi mc mq mr mw mk ml mt ma mx mh lv9 (by first | assumption | rfl | omega) _) (cwV 1 hts (gV hB wl_X10_132 wn_X10_isLevel ws_X10_isLevel wi_X10 wc_X10_isLevel) rfl rfl rfl hd_X10_isLevel ⟨Nat.le_of_ble_eq_true rfl, Nat.le_of_ble_eq_true rfl⟩) (zp_V hK hP hD hS hA hG (ci := 10) (q0 := 0) rfl rfl rfl) rfl rfl hl.1 rfl (lv_room (Nat.le_of_ble_eq_true rfl)) dX10_longestLine_2 ⟨Nat.le_of_ble_eq_true rfl, Nat.le_of_ble_eq_true rfl⟩) (fun r w1 H locs hq9 hP hD hS => ?_)
  obtain ⟨t2_1, v2_2, hv2_0, hv2_1, rfl, rfl⟩ := hq9
  have hP : va_P D vwCl (wM β δ ms mb mo mp mf mn mi mc mq mr mw mk ml t2_1 ma mx mh) H := hP
  have hD : va_D A (wM β δ ms mb mo mp mf mn mi mc mq mr mw mk ml t2_1 ma mx mh) := hD
  refine z_ifeqB (tgt := 16) hx hb dX10_longestLine_5 (by decide) (fun c_5 => ?_) (fun c_5 => ?_)
  · have hb_5 := zb_neg hv2_0 c_5
    refine lv_iconst (v := zI 0) hx hb dX10_longestLine_16 rfl ?_
    exact z_iret hC hr hlk hQ hP hD hS ⟨mi, mc, mq, t2_1, 0, (by exact hv2_1), (by first | exact fun _ => hv10_0 | (intro h9; rw [hv2_1] at h9; unfold S_tlev at h9; rw [if_neg hb_5] at h9; exact absurd h9 (by decide))), rfl, rfl⟩ dX10_longestLine_17
  · have hb_5 := hv2_0.mp c_5
    refine lv_aload_n hx hb dX10_longestLine_8 rfl (lv_at hl 0 rfl) ?_
    refine lv_iload_n hx hb dX10_longestLine_9 rfl (lv_at hl 1 rfl) ?_
    refine z_calli hP hD hS hA (va_runV (As := [.int (zI lv9)]) (rest := []) hC (c_X10_longest l D τ β δ ms mb mo mp mf mn mi mc mq mr mw mk ml t2_1 ma mx mh lv9 (by exact hb_5) (by first | assumption | rfl | omega) _) (cwV 1 hts (gV hB wl_X10_178 wn_X10_longest ws_X10_longest wi_X10 wc_X10_longest) rfl rfl rfl hd_X10_longest ⟨Nat.le_of_ble_eq_true rfl, Nat.le_of_ble_eq_true rfl⟩) (zp_V hK hP hD hS hA hG (ci := 10) (q0 := 0) rfl rfl rfl) rfl rfl hl.1 rfl (lv_room (Nat.le_of_ble_eq_true rfl)) dX10_longestLine_10 ⟨Nat.le_of_ble_eq_true rfl, Nat.le_of_ble_eq_true rfl⟩) (fun r w1 H locs hq9 hP hD hS => ?_)
    obtain ⟨m10_3, c10_4, q10_5, v10_6, hv10_0, hv10_1, rfl, rfl⟩ := hq9
    have hP : va_P D vwCl (wM β δ ms mb mo mp mf mn m10_3 c10_4 q10_5 mr mw mk ml t2_1 ma mx mh) H := hP
    have hD : va_D A (wM β δ ms mb mo mp mf mn m10_3 c10_4 q10_5 mr mw mk ml t2_1 ma mx mh) := hD
    refine lv_goto (tgt := 17) hx hb dX10_longestLine_13 (by decide) ?_
    exact z_iret hC hr hlk hQ hP hD hS ⟨m10_3, c10_4, q10_5, t2_1, v10_6, (by exact hv2_1), (by first | exact fun _ => hv10_0 | (intro h9; rw [hv2_1] at h9; unfold S_tlev at h9; rw [if_neg hb_5] at h9; exact absurd h9 (by decide))), rfl, rfl⟩ dX10_longestLine_17

