abbrev wz_X10_regions : List Cond := .code yX10_regions cX10_regions 8 (some .int) :: W0
abbrev rm_X10_regions : Room := { frames := 1, cells := 0, slots := 0, locals := 20 }
theorem hd_X10_regions : yX10_regions.cls = RX10 ∧ yX10_regions.cls ≠ "java/lang/invoke/MethodHandle" ∧ yX10_regions.cls ≠ "java/lang/invoke/VarHandle" ∧ (parseMethodDescriptor yX10_regions.desc).map (fun d => d.parameters.length) = some 1 := by decide +kernel
set_option maxHeartbeats 4000000 in
set_option maxRecDepth 100000 in
theorem c_X10_regions (l : Launch) (D : va_G) (τ : Nat → Nat) (β : Nat → Nat) (δ : Nat → ClassId) (ms : IA) (mb : IA) (mo : IA) (mp : BA) (mf : IA) (mn : IA) (mi : IA) (mc : IA) (mq : BA) (mr : IA) (mw : IA) (mk : Int) (ml : Int) (mt : Int) (ma : Int) (mx : Bool) (mh : Int64) (mk9 : BA) (bc : Bool) (hr0 : ∀ k, 0 ≤ k → k < 49 → mr k = (if mk9 k = true then k else -1)) : cM l yX10_regions wz_X10_regions rm_X10_regions D τ (tyM δ) [.ref (β 0), .int (bI bc)] (wM β δ ms mb mo mp mf mn mi mc mq mr mw mk ml mt ma mx mh) (zQi (fun r w => ∃ (r2 : IA), ∃ (v : Int), (v = S_comps (S_nb bc) mk9) ∧ (0 ≤ v ∧ v ≤ 49) ∧ r = zI v ∧ wM β δ ms mb mo mp mf mn mi mc mq r2 mw mk ml mt ma mx mh = w)) := by
  refine z_ofM (cc := cX10_regions) (maxL := 8) (ret := (some .int)) (by decide +kernel) rfl (Nat.le_of_ble_eq_true rfl) ?_
  intro pg e s m args below meth c hC hr hlk hnm hK hP A hD hG hA hS ls hl Q hQ
  have hx := hC.1
  have hb := hC.2.1
  have hml := hC.2.2.1
  have hown := hC.2.2.2.1
  have hts := hC.2.2.2.2
  have hB : ∀ w ∈ W0, w ∈ wz_X10_regions := fun _ h => List.mem_cons_of_mem _ h
  have hW0 : ∀ w ∈ W0, w.before args s = true := fun w h => hts w (hB w h)
  have hl : lv_has ls 8 [(0, .ref (β 0)), (1, .int (bI bc))] := hl
  have hn9 := S_nb_or bc
  refine lv_iconst (v := zI 1) hx hb dX10_regions_0 rfl ?_
  refine lv_istore_n (lv' := [(2, .int (zI 1)), (0, .ref (β 0)), (1, .int (bI bc))]) hx hb dX10_regions_1 rfl hl (by decide) rfl (fun ls hl => ?_)
  suffices HL_2 : ∀ (n_2 : Nat), ∀ (w3 : IA) (c8 : Int) (H : Heap) (locs : List Loc) (hP : va_P D vwCl (wM β δ ms mb mo mp mf mn mi mc mq w3 mw mk ml mt ma mx mh) H) (hD : va_D A (wM β δ ms mb mo mp mf mn mi mc mq w3 mw mk ml mt ma mx mh)) (hS : va_S A s.heap H locs) (ls : Array Slot) (hl : lv_has ls 8 [(2, .int (zI c8)), (0, .ref (β 0)), (1, .int (bI bc))]) (hc8 : c8 = 0 ∨ c8 = 1) (hI : RGI (S_nb bc) mk9 w3) (hO : c8 = 0 → RGO (S_nb bc) mk9 w3 49) (hm : (2 * (zS w3 49 + 49) + c8).toNat < n_2), W pg l e rm_X10_regions s m args below meth c H locs 0 0 Q (F0 m 2 ls []) from HL_2 _ mr 1 _ _ hP hD hS _ (lv_sub hl [0, 1, 2] rfl) (by first | assumption | rfl | omega) (by exact RGI_0 hr0) (by intro h9; exact absurd h9 (by decide)) (Nat.lt_succ_self _)
  intro n_2
  induction n_2 with
  | zero => intro w3 c8 H locs hP hD hS ls hl hc8 hI hO hm; exact absurd hm (Nat.not_lt_zero _)
  | succ n_2 ih_2 =>
    intro w3 c8 H locs hP hD hS ls hl hc8 hI hO hm
    refine lv_iload_n hx hb dX10_regions_2 rfl (lv_at hl 0 rfl) ?_
    refine z_ifeq (tgt := 160) hx hb ⟨by omega, by omega⟩ dX10_regions_3 (by decide) (fun c_3 => ?_) (fun c_3 => ?_)
    · refine lv_iconst (v := zI 0) hx hb dX10_regions_160 rfl ?_
      refine lv_istore_n (lv' := [(3, .int (zI 0)), (2, .int (zI c8)), (0, .ref (β 0)), (1, .int (bI bc))]) hx hb dX10_regions_161 rfl hl (by decide) rfl (fun ls hl => ?_)
      refine lv_iconst (v := zI 0) hx hb dX10_regions_162 rfl ?_
      refine lv_istore (lv' := [(4, .int (zI 0)), (3, .int (zI 0)), (2, .int (zI c8)), (0, .ref (β 0)), (1, .int (bI bc))]) hx hb dX10_regions_163 hl (by decide) rfl (fun ls hl => ?_)
      suffices HL_165 : ∀ (n_165 : Nat), ∀ (g : Int) (k9 : Int) (H : Heap) (locs : List Loc) (hP : va_P D vwCl (wM β δ ms mb mo mp mf mn mi mc mq w3 mw mk ml mt ma mx mh) H) (hD : va_D A (wM β δ ms mb mo mp mf mn mi mc mq w3 mw mk ml mt ma mx mh)) (hS : va_S A s.heap H locs) (ls : Array Slot) (hl : lv_has ls 8 [(3, .int (zI g)), (4, .int (zI k9)), (0, .ref (β 0)), (1, .int (bI bc))]) (hk : 0 ≤ k9 ∧ k9 ≤ 49) (hg : g = zC (fun k => decide (w3 k = k)) k9) (hgb : 0 ≤ g ∧ g ≤ k9) (hm : (49 - k9).toNat < n_165), W pg l e rm_X10_regions s m args below meth c H locs 0 0 Q (F0 m 165 ls []) from HL_165 _ 0 0 _ _ hP hD hS _ (lv_sub hl [1, 0, 3, 4] rfl) (by first | assumption | rfl | omega) (by exact (zC_0 _).symm) (by first | assumption | rfl | omega) (Nat.lt_succ_self _)
      intro n_165
      induction n_165 with
      | zero => intro g k9 H locs hP hD hS ls hl hk hg hgb hm; exact absurd hm (Nat.not_lt_zero _)
      | succ n_165 ih_165 =>
        intro g k9 H locs hP hD hS ls hl hk hg hgb hm
        have hrb := RGI_b hI
        refine lv_iload hx hb dX10_regions_165 (lv_at hl 1 rfl) ?_
        refine lv_bipush (v := zI 49) hx hb dX10_regions_167 (zI_b8 (by decide)) ?_
        refine z_icge (tgt := 198) hx hb ⟨by omega, by omega⟩ ⟨by omega, by omega⟩ dX10_regions_169 (by decide) (fun c_169 => ?_) (fun c_169 => ?_)
        · refine lv_iload_n hx hb dX10_regions_198 rfl (lv_at hl 0 rfl) ?_
          exact z_iret hC hr hlk hQ hP hD hS ⟨w3, g, (by rw [hg, show k9 = 49 by omega]; exact RG_end hn9 hI (hO (by omega))), (by omega), rfl, rfl⟩ dX10_regions_199
        · refine lv_iload_n hx hb dX10_regions_172 rfl (lv_at hl 0 rfl) ?_
          refine lv_aload_n hx hb dX10_regions_173 rfl (lv_at hl 2 rfl) ?_
          refine va_get (D := D) (ci := 10) (v := .ref (β 10)) (C := RX10) (T := TX10) (N := 17) hx hb hts (fun w h => List.mem_cons_of_mem _ (wx_X10 w h)) hown hK hP 0 rfl rfl 14 (by decide) (hW0 _ wf_X10_38) (fun _ h9 => h9) rfl dX10_regions_174 ?_
          refine lv_iload hx hb dX10_regions_177 (lv_at hl 1 rfl) ?_
          refine z_iald (f := w3) hx hb hK hP 10 9 rfl rfl ⟨⟨by omega, by omega⟩, by decide⟩ dX10_regions_179 ?_
          have hb_179 := hrb k9 (by omega) (by omega)
          refine lv_iload hx hb dX10_regions_180 (lv_at hl 1 rfl) ?_
          refine z_icne (tgt := 189) hx hb ⟨by omega, by omega⟩ ⟨by omega, by omega⟩ dX10_regions_182 (by decide) (fun c_182 => ?_) (fun c_182 => ?_)
          · refine lv_iconst (v := zI 0) hx hb dX10_regions_189 rfl ?_
            refine z_iadd hx hb dX10_regions_190 ?_
            refine lv_istore_n (lv' := [(3, .int (zI (g + 0))), (4, .int (zI k9)), (0, .ref (β 0)), (1, .int (bI bc))]) hx hb dX10_regions_191 rfl hl (by decide) rfl (fun ls hl => ?_)
            refine z_iinc (k := 1) (v := k9 + 1) (lv' := [(4, .int (zI (k9 + 1))), (3, .int (zI (g + 0))), (0, .ref (β 0)), (1, .int (bI bc))]) hx hb dX10_regions_192 hl rfl rfl (by decide) rfl (fun ls hl => ?_)
            refine lv_goto (tgt := 165) hx hb dX10_regions_195 (by decide) ?_
            exact ih_165 (g + 0) (k9 + 1) _ _ hP hD hS _ (lv_sub hl [1, 0, 2, 3] rfl) (by first | assumption | rfl | omega) (by rw [zC_up hk.1, ← hg]; first | (rw [z1_t (decide_eq_true c_182)]; done) | (rw [z1_f (decide_eq_false c_182)]; try omega)) (by first | assumption | rfl | omega) (by omega)
          · refine lv_iconst (v := zI 1) hx hb dX10_regions_185 rfl ?_
            refine lv_goto (tgt := 190) hx hb dX10_regions_186 (by decide) ?_
            refine z_iadd hx hb dX10_regions_190 ?_
            refine lv_istore_n (lv' := [(3, .int (zI (g + 1))), (4, .int (zI k9)), (0, .ref (β 0)), (1, .int (bI bc))]) hx hb dX10_regions_191 rfl hl (by decide) rfl (fun ls hl => ?_)
            refine z_iinc (k := 1) (v := k9 + 1) (lv' := [(4, .int (zI (k9 + 1))), (3, .int (zI (g + 1))), (0, .ref (β 0)), (1, .int (bI bc))]) hx hb dX10_regions_192 hl rfl rfl (by decide) rfl (fun ls hl => ?_)
            refine lv_goto (tgt := 165) hx hb dX10_regions_195 (by decide) ?_
            exact ih_165 (g + 1) (k9 + 1) _ _ hP hD hS _ (lv_sub hl [1, 0, 2, 3] rfl) (by first | assumption | rfl | omega) (by rw [zC_up hk.1, ← hg]; first | (rw [z1_t (decide_eq_true c_182)]; done) | (rw [z1_f (decide_eq_false c_182)]; try omega)) (by first | assumption | rfl | omega) (by omega)
    · refine lv_iconst (v := zI 0) hx hb dX10_regions_6 rfl ?_
      refine lv_istore_n (lv' := [(2, .int (zI 0)), (0, .ref (β 0)), (1, .int (bI bc))]) hx hb dX10_regions_7 rfl hl (by decide) rfl (fun ls hl => ?_)
      refine lv_iconst (v := zI 0) hx hb dX10_regions_8 rfl ?_
      refine lv_istore_n (lv' := [(3, .int (zI 0)), (2, .int (zI 0)), (0, .ref (β 0)), (1, .int (bI bc))]) hx hb dX10_regions_9 rfl hl (by decide) rfl (fun ls hl => ?_)
      suffices HL_10 : ∀ (n_10 : Nat), ∀ (w4 : IA) (c9 : Int) (i : Int) (H : Heap) (locs : List Loc) (hP : va_P D vwCl (wM β δ ms mb mo mp mf mn mi mc mq w4 mw mk ml mt ma mx mh) H) (hD : va_D A (wM β δ ms mb mo mp mf mn mi mc mq w4 mw mk ml mt ma mx mh)) (hS : va_S A s.heap H locs) (ls : Array Slot) (hl : lv_has ls 8 [(2, .int (zI c9)), (3, .int (zI i)), (0, .ref (β 0)), (1, .int (bI bc))]) (hi : 0 ≤ i ∧ i ≤ 49) (hc9 : c9 = 0 ∨ c9 = 1) (hI4 : RGI (S_nb bc) mk9 w4) (hs4 : zS w4 49 ≤ zS w3 49 - c9) (hO4 : c9 = 0 → RGO (S_nb bc) mk9 w4 i) (hm : (49 - i).toNat < n_10), W pg l e rm_X10_regions s m args below meth c H locs 0 0 Q (F0 m 10 ls []) from HL_10 _ w3 0 0 _ _ hP hD hS _ (lv_sub hl [1, 0, 2, 3] rfl) (by first | assumption | rfl | omega) (by first | assumption | rfl | omega) (by exact hI) (by first | assumption | rfl | omega) (by intro _ k j z1 z2; omega) (Nat.lt_succ_self _)
      intro n_10
      induction n_10 with
      | zero => intro w4 c9 i H locs hP hD hS ls hl hi hc9 hI4 hs4 hO4 hm; exact absurd hm (Nat.not_lt_zero _)
      | succ n_10 ih_10 =>
        intro w4 c9 i H locs hP hD hS ls hl hi hc9 hI4 hs4 hO4 hm
        refine lv_iload_n hx hb dX10_regions_10 rfl (lv_at hl 1 rfl) ?_
        refine lv_bipush (v := zI 49) hx hb dX10_regions_11 (zI_b8 (by decide)) ?_
        refine z_icge (tgt := 157) hx hb ⟨by omega, by omega⟩ ⟨by omega, by omega⟩ dX10_regions_13 (by decide) (fun c_13 => ?_) (fun c_13 => ?_)
        · refine lv_goto (tgt := 2) hx hb dX10_regions_157 (by decide) ?_
          exact ih_2 w4 c9 _ _ hP hD hS _ (lv_sub hl [0, 2, 3] rfl) (by exact hc9) (by exact hI4) (by intro h9; have z9 := hO4 h9; rw [show i = 49 by omega] at z9; exact z9) (by have z8 := RGI_sum hI; have z9 := RGI_sum hI4; omega)
        · refine lv_iconst (v := zI 0) hx hb dX10_regions_16 rfl ?_
          refine lv_istore (lv' := [(4, .int (zI 0)), (2, .int (zI c9)), (3, .int (zI i)), (0, .ref (β 0)), (1, .int (bI bc))]) hx hb dX10_regions_17 hl (by decide) rfl (fun ls hl => ?_)
          suffices HL_19 : ∀ (n_19 : Nat), ∀ (w5 : IA) (c7 : Int) (j : Int) (H : Heap) (locs : List Loc) (hP : va_P D vwCl (wM β δ ms mb mo mp mf mn mi mc mq w5 mw mk ml mt ma mx mh) H) (hD : va_D A (wM β δ ms mb mo mp mf mn mi mc mq w5 mw mk ml mt ma mx mh)) (hS : va_S A s.heap H locs) (ls : Array Slot) (hl : lv_has ls 8 [(2, .int (zI c7)), (4, .int (zI j)), (3, .int (zI i)), (0, .ref (β 0)), (1, .int (bI bc))]) (hj : 0 ≤ j ∧ j ≤ 49) (hc7 : c7 = 0 ∨ c7 = 1) (hI5 : RGI (S_nb bc) mk9 w5) (hs5 : zS w5 49 ≤ zS w3 49 - c7) (hO5 : c7 = 0 → RGO (S_nb bc) mk9 w5 i ∧ RGP (S_nb bc) mk9 w5 i j) (hm : (49 - j).toNat < n_19), W pg l e rm_X10_regions s m args below meth c H locs 0 0 Q (F0 m 19 ls []) from HL_19 _ w4 c9 0 _ _ hP hD hS _ (lv_sub hl [1, 0, 2, 3, 4] rfl) (by first | assumption | rfl | omega) (by exact hc9) (by exact hI4) (by exact hs4) (by intro h9; exact ⟨hO4 h9, fun q z1 z2 => by omega⟩) (Nat.lt_succ_self _)
          intro n_19
          induction n_19 with
          | zero => intro w5 c7 j H locs hP hD hS ls hl hj hc7 hI5 hs5 hO5 hm; exact absurd hm (Nat.not_lt_zero _)
          | succ n_19 ih_19 =>
            intro w5 c7 j H locs hP hD hS ls hl hj hc7 hI5 hs5 hO5 hm
            have hrb := RGI_b hI5
            refine lv_iload hx hb dX10_regions_19 (lv_at hl 1 rfl) ?_
            refine lv_bipush (v := zI 49) hx hb dX10_regions_21 (zI_b8 (by decide)) ?_
            refine z_icge (tgt := 151) hx hb ⟨by omega, by omega⟩ ⟨by omega, by omega⟩ dX10_regions_23 (by decide) (fun c_23 => ?_) (fun c_23 => ?_)
            · refine z_iinc (k := 2) (v := i + 1) (lv' := [(3, .int (zI (i + 1))), (2, .int (zI c7)), (4, .int (zI j)), (0, .ref (β 0)), (1, .int (bI bc))]) hx hb dX10_regions_151 hl rfl rfl (by decide) rfl (fun ls hl => ?_)
              refine lv_goto (tgt := 10) hx hb dX10_regions_154 (by decide) ?_
              exact ih_10 w5 c7 (i + 1) _ _ hP hD hS _ (lv_sub hl [1, 0, 3, 4] rfl) (by first | assumption | rfl | omega) (by exact hc7) (by exact hI5) (by exact hs5) (by intro h9 k j z1 z2 z3; by_cases e9 : k = i; (focus (rw [e9] at z3 ⊢; first | exact (hO5 h9).2 j z3.1.2.1.1 (by have z9 := z3.1.2.1.2; omega) z3 | (exfalso; have z9 := (RGI_m hI5 ⟨hi.1, by omega⟩).mp z3.2.1; exact z9 c_33))); exact (hO5 h9).1 k j z1 (by omega) z3) (by omega)
            · refine lv_aload_n hx hb dX10_regions_26 rfl (lv_at hl 3 rfl) ?_
              refine va_get (D := D) (ci := 10) (v := .ref (β 10)) (C := RX10) (T := TX10) (N := 17) hx hb hts (fun w h => List.mem_cons_of_mem _ (wx_X10 w h)) hown hK hP 0 rfl rfl 14 (by decide) (hW0 _ wf_X10_38) (fun _ h9 => h9) rfl dX10_regions_27 ?_
              refine lv_iload_n hx hb dX10_regions_30 rfl (lv_at hl 2 rfl) ?_
              refine z_iald (f := w5) hx hb hK hP 10 9 rfl rfl ⟨⟨by omega, by omega⟩, by decide⟩ dX10_regions_31 ?_
              have hb_31 := hrb i (by omega) (by omega)
              refine lv_iconst (v := zI (-1)) hx hb dX10_regions_32 rfl ?_
              refine z_iceq (tgt := 151) hx hb ⟨by omega, by omega⟩ ⟨by omega, by omega⟩ dX10_regions_33 (by decide) (fun c_33 => ?_) (fun c_33 => ?_)
              · refine z_iinc (k := 2) (v := i + 1) (lv' := [(3, .int (zI (i + 1))), (2, .int (zI c7)), (4, .int (zI j)), (0, .ref (β 0)), (1, .int (bI bc))]) hx hb dX10_regions_151 hl rfl rfl (by decide) rfl (fun ls hl => ?_)
                refine lv_goto (tgt := 10) hx hb dX10_regions_154 (by decide) ?_
                exact ih_10 w5 c7 (i + 1) _ _ hP hD hS _ (lv_sub hl [1, 0, 3, 4] rfl) (by first | assumption | rfl | omega) (by exact hc7) (by exact hI5) (by exact hs5) (by intro h9 k j z1 z2 z3; by_cases e9 : k = i; (focus (rw [e9] at z3 ⊢; first | exact (hO5 h9).2 j z3.1.2.1.1 (by have z9 := z3.1.2.1.2; omega) z3 | (exfalso; have z9 := (RGI_m hI5 ⟨hi.1, by omega⟩).mp z3.2.1; exact z9 c_33))); exact (hO5 h9).1 k j z1 (by omega) z3) (by omega)
              · refine lv_iload_n hx hb dX10_regions_36 rfl (lv_at hl 2 rfl) ?_
                refine lv_bipush (v := zI 7) hx hb dX10_regions_37 (zI_b8 (by decide)) ?_
                refine z_idiv hx hb ⟨⟨by omega, by omega⟩, by omega, by omega⟩ dX10_regions_39 ?_
                refine lv_iload hx hb dX10_regions_40 (lv_at hl 1 rfl) ?_
                refine lv_bipush (v := zI 7) hx hb dX10_regions_42 (zI_b8 (by decide)) ?_
                refine z_idiv hx hb ⟨⟨by omega, by omega⟩, by omega, by omega⟩ dX10_regions_44 ?_
                refine z_isub hx hb dX10_regions_45 ?_
                refine z_calli hP hD hS hA (va_runS (As := [.int (zI ((i / 7) - (j / 7)))]) (rest := []) hC (c_X10_size l D τ _ _ ((i / 7) - (j / 7)) (by first | assumption | rfl | omega) _) (va_cwS 1 hts (gS hB wl_X10_63 wt_X10_size wi_X10 wc_X10_size) rfl rfl rfl hd_X10_size.2 ⟨Nat.le_of_ble_eq_true rfl, Nat.le_of_ble_eq_true rfl⟩) (zp_S hK hP hD hS hA hG) rfl rfl hl.1 rfl (lv_room (Nat.le_of_ble_eq_true rfl)) dX10_regions_46 ⟨Nat.le_of_ble_eq_true rfl, Nat.le_of_ble_eq_true rfl⟩) (fun r w1 H locs hq9 hP hD hS => ?_)
                obtain ⟨v46_1, hv46_0, rfl, rfl⟩ := hq9
                refine lv_istore (lv' := [(5, .int (zI v46_1)), (2, .int (zI c7)), (4, .int (zI j)), (3, .int (zI i)), (0, .ref (β 0)), (1, .int (bI bc))]) hx hb dX10_regions_49 hl (by decide) rfl (fun ls hl => ?_)
                refine lv_iload_n hx hb dX10_regions_51 rfl (lv_at hl 3 rfl) ?_
                refine lv_bipush (v := zI 7) hx hb dX10_regions_52 (zI_b8 (by decide)) ?_
                refine z_irem hx hb ⟨⟨by omega, by omega⟩, by omega, by omega⟩ dX10_regions_54 ?_
                refine lv_iload hx hb dX10_regions_55 (lv_at hl 2 rfl) ?_
                refine lv_bipush (v := zI 7) hx hb dX10_regions_57 (zI_b8 (by decide)) ?_
                refine z_irem hx hb ⟨⟨by omega, by omega⟩, by omega, by omega⟩ dX10_regions_59 ?_
                refine z_isub hx hb dX10_regions_60 ?_
                refine z_calli hP hD hS hA (va_runS (As := [.int (zI ((i % 7) - (j % 7)))]) (rest := []) hC (c_X10_size l D τ _ _ ((i % 7) - (j % 7)) (by first | assumption | rfl | omega) _) (va_cwS 1 hts (gS hB wl_X10_63 wt_X10_size wi_X10 wc_X10_size) rfl rfl rfl hd_X10_size.2 ⟨Nat.le_of_ble_eq_true rfl, Nat.le_of_ble_eq_true rfl⟩) (zp_S hK hP hD hS hA hG) rfl rfl hl.1 rfl (lv_room (Nat.le_of_ble_eq_true rfl)) dX10_regions_61 ⟨Nat.le_of_ble_eq_true rfl, Nat.le_of_ble_eq_true rfl⟩) (fun r w1 H locs hq9 hP hD hS => ?_)
                obtain ⟨v61_2, hv61_0, rfl, rfl⟩ := hq9
                refine lv_istore (lv' := [(6, .int (zI v61_2)), (5, .int (zI v46_1)), (2, .int (zI c7)), (4, .int (zI j)), (3, .int (zI i)), (0, .ref (β 0)), (1, .int (bI bc))]) hx hb dX10_regions_64 hl (by decide) rfl (fun ls hl => ?_)
                have q1 := zabs_spec (i / 7 - j / 7)
                have q2 := zabs_spec (i % 7 - j % 7)
                refine lv_iload hx hb dX10_regions_66 (lv_at hl 1 rfl) ?_
                refine lv_iload hx hb dX10_regions_68 (lv_at hl 0 rfl) ?_
                refine z_iadd hx hb dX10_regions_70 ?_
                refine lv_iconst (v := zI 1) hx hb dX10_regions_71 rfl ?_
                refine z_iceq (tgt := 91) hx hb ⟨by omega, by omega⟩ ⟨by omega, by omega⟩ dX10_regions_72 (by decide) (fun c_72 => ?_) (fun c_72 => ?_)
                · refine lv_iconst (v := zI 1) hx hb dX10_regions_91 rfl ?_
                  refine lv_goto (tgt := 96) hx hb dX10_regions_92 (by decide) ?_
                  refine lv_istore (lv' := [(7, .int (zI 1)), (6, .int (zI v61_2)), (5, .int (zI v46_1)), (2, .int (zI c7)), (4, .int (zI j)), (3, .int (zI i)), (0, .ref (β 0)), (1, .int (bI bc))]) hx hb dX10_regions_96 hl (by decide) rfl (fun ls hl => ?_)
                  have hnr : S_adj (S_nb bc) i j ↔ 1 = 1 := by rw [near9 ⟨hi.1, by omega⟩ ⟨hj.1, by omega⟩, ← hv46_0, ← hv61_0]; first | exact ⟨fun _ => rfl, fun _ => Or.inl c_72⟩ | exact ⟨fun _ => rfl, fun _ => Or.inr ⟨c_76, c_82, c_88⟩⟩ | exact ⟨fun h9 => h9.elim (fun z => absurd z c_72) (fun z => absurd (z.1.symm.trans c_76) (by decide)), fun h9 => absurd h9 (by decide)⟩ | exact ⟨fun h9 => h9.elim (fun z => absurd z c_72) (fun z => absurd z.2.1 c_82), fun h9 => absurd h9 (by decide)⟩ | exact ⟨fun h9 => h9.elim (fun z => absurd z c_72) (fun z => absurd z.2.2 c_88), fun h9 => absurd h9 (by decide)⟩
                  refine lv_iload hx hb dX10_regions_98 (lv_at hl 0 rfl) ?_
                  refine z_ifeq (tgt := 145) hx hb ⟨by omega, by omega⟩ dX10_regions_100 (by decide) (fun c_100 => ?_) (fun c_100 => ?_)
                  · exact absurd c_100 (by decide)
                  · refine lv_aload_n hx hb dX10_regions_103 rfl (lv_at hl 6 rfl) ?_
                    refine va_get (D := D) (ci := 10) (v := .ref (β 10)) (C := RX10) (T := TX10) (N := 17) hx hb hts (fun w h => List.mem_cons_of_mem _ (wx_X10 w h)) hown hK hP 0 rfl rfl 14 (by decide) (hW0 _ wf_X10_38) (fun _ h9 => h9) rfl dX10_regions_104 ?_
                    refine lv_iload hx hb dX10_regions_107 (lv_at hl 4 rfl) ?_
                    refine z_iald (f := w5) hx hb hK hP 10 9 rfl rfl ⟨⟨by omega, by omega⟩, by decide⟩ dX10_regions_109 ?_
                    have hb_109 := hrb j (by omega) (by omega)
                    refine lv_iconst (v := zI (-1)) hx hb dX10_regions_110 rfl ?_
                    refine z_iceq (tgt := 145) hx hb ⟨by omega, by omega⟩ ⟨by omega, by omega⟩ dX10_regions_111 (by decide) (fun c_111 => ?_) (fun c_111 => ?_)
                    · refine z_iinc (k := 4) (v := j + 1) (lv' := [(4, .int (zI (j + 1))), (7, .int (zI 1)), (6, .int (zI v61_2)), (5, .int (zI v46_1)), (2, .int (zI c7)), (3, .int (zI i)), (0, .ref (β 0)), (1, .int (bI bc))]) hx hb dX10_regions_145 hl rfl rfl (by decide) rfl (fun ls hl => ?_)
                      refine lv_goto (tgt := 19) hx hb dX10_regions_148 (by decide) ?_
                      exact ih_19 w5 c7 (j + 1) _ _ hP hD hS _ (lv_sub hl [4, 0, 5, 6, 7] rfl) (by first | assumption | rfl | omega) (by first | assumption | rfl | omega) (by first | exact hI5 | exact RGI_put hn9 hI5 ⟨hi.1, by omega⟩ hrr c_127) (by first | exact hs5 | (rw [zS_set hi.1 49 (by omega), if_pos (by omega)]; omega)) (by first | (intro h9; exact absurd h9 (by decide)) | (intro h9; refine ⟨(hO5 h9).1, fun q z1 z2 z3 => ?_⟩; by_cases e9 : q = j; (focus (rw [e9] at z3 ⊢; first | exact absurd (hnr.mp z3.1) (by decide) | exact absurd c_111 ((RGI_m hI5 ⟨hj.1, by omega⟩).mp z3.2.2) | exact c_127)); exact (hO5 h9).2 q z1 (by omega) z3)) (by omega)
                    · refine lv_aload_n hx hb dX10_regions_114 rfl (lv_at hl 6 rfl) ?_
                      refine va_get (D := D) (ci := 10) (v := .ref (β 10)) (C := RX10) (T := TX10) (N := 17) hx hb hts (fun w h => List.mem_cons_of_mem _ (wx_X10 w h)) hown hK hP 0 rfl rfl 14 (by decide) (hW0 _ wf_X10_38) (fun _ h9 => h9) rfl dX10_regions_115 ?_
                      refine lv_iload hx hb dX10_regions_118 (lv_at hl 4 rfl) ?_
                      refine z_iald (f := w5) hx hb hK hP 10 9 rfl rfl ⟨⟨by omega, by omega⟩, by decide⟩ dX10_regions_120 ?_
                      have hb_120 := hrb j (by omega) (by omega)
                      refine lv_aload_n hx hb dX10_regions_121 rfl (lv_at hl 6 rfl) ?_
                      refine va_get (D := D) (ci := 10) (v := .ref (β 10)) (C := RX10) (T := TX10) (N := 17) hx hb hts (fun w h => List.mem_cons_of_mem _ (wx_X10 w h)) hown hK hP 0 rfl rfl 14 (by decide) (hW0 _ wf_X10_38) (fun _ h9 => h9) rfl dX10_regions_122 ?_
                      refine lv_iload_n hx hb dX10_regions_125 rfl (lv_at hl 5 rfl) ?_
                      refine z_iald (f := w5) hx hb hK hP 10 9 rfl rfl ⟨⟨by omega, by omega⟩, by decide⟩ dX10_regions_126 ?_
                      have hb_126 := hrb i (by omega) (by omega)
                      refine z_icge (tgt := 145) hx hb ⟨by omega, by omega⟩ ⟨by omega, by omega⟩ dX10_regions_127 (by decide) (fun c_127 => ?_) (fun c_127 => ?_)
                      · refine z_iinc (k := 4) (v := j + 1) (lv' := [(4, .int (zI (j + 1))), (7, .int (zI 1)), (6, .int (zI v61_2)), (5, .int (zI v46_1)), (2, .int (zI c7)), (3, .int (zI i)), (0, .ref (β 0)), (1, .int (bI bc))]) hx hb dX10_regions_145 hl rfl rfl (by decide) rfl (fun ls hl => ?_)
                        refine lv_goto (tgt := 19) hx hb dX10_regions_148 (by decide) ?_
                        exact ih_19 w5 c7 (j + 1) _ _ hP hD hS _ (lv_sub hl [4, 0, 5, 6, 7] rfl) (by first | assumption | rfl | omega) (by first | assumption | rfl | omega) (by first | exact hI5 | exact RGI_put hn9 hI5 ⟨hi.1, by omega⟩ hrr c_127) (by first | exact hs5 | (rw [zS_set hi.1 49 (by omega), if_pos (by omega)]; omega)) (by first | (intro h9; exact absurd h9 (by decide)) | (intro h9; refine ⟨(hO5 h9).1, fun q z1 z2 z3 => ?_⟩; by_cases e9 : q = j; (focus (rw [e9] at z3 ⊢; first | exact absurd (hnr.mp z3.1) (by decide) | exact absurd c_111 ((RGI_m hI5 ⟨hj.1, by omega⟩).mp z3.2.2) | exact c_127)); exact (hO5 h9).2 q z1 (by omega) z3)) (by omega)
                      · have hrr : S_rr (S_nb bc) mk9 i j := ⟨hnr.mpr rfl, (RGI_m hI5 ⟨hi.1, by omega⟩).mpr c_33, (RGI_m hI5 ⟨hj.1, by omega⟩).mpr c_111⟩
                        refine lv_aload_n hx hb dX10_regions_130 rfl (lv_at hl 6 rfl) ?_
                        refine va_get (D := D) (ci := 10) (v := .ref (β 10)) (C := RX10) (T := TX10) (N := 17) hx hb hts (fun w h => List.mem_cons_of_mem _ (wx_X10 w h)) hown hK hP 0 rfl rfl 14 (by decide) (hW0 _ wf_X10_38) (fun _ h9 => h9) rfl dX10_regions_131 ?_
                        refine lv_iload_n hx hb dX10_regions_134 rfl (lv_at hl 5 rfl) ?_
                        refine lv_aload_n hx hb dX10_regions_135 rfl (lv_at hl 6 rfl) ?_
                        refine va_get (D := D) (ci := 10) (v := .ref (β 10)) (C := RX10) (T := TX10) (N := 17) hx hb hts (fun w h => List.mem_cons_of_mem _ (wx_X10 w h)) hown hK hP 0 rfl rfl 14 (by decide) (hW0 _ wf_X10_38) (fun _ h9 => h9) rfl dX10_regions_136 ?_
                        refine lv_iload hx hb dX10_regions_139 (lv_at hl 4 rfl) ?_
                        refine z_iald (f := w5) hx hb hK hP 10 9 rfl rfl ⟨⟨by omega, by omega⟩, by decide⟩ dX10_regions_141 ?_
                        have hb_141 := hrb j (by omega) (by omega)
                        refine z_iast (f := w5) (v := w5 j) hx hb hK hP hD hS 10 9 rfl rfl ⟨⟨by omega, by omega⟩, by decide⟩ dX10_regions_142 (fun H locs hP hD hS => ?_)
                        have hP : va_P D vwCl (wM β δ ms mb mo mp mf mn mi mc mq ((zu w5 i (w5 j))) mw mk ml mt ma mx mh) H := hP
                        have hD : va_D A (wM β δ ms mb mo mp mf mn mi mc mq ((zu w5 i (w5 j))) mw mk ml mt ma mx mh) := hD
                        refine lv_iconst (v := zI 1) hx hb dX10_regions_143 rfl ?_
                        refine lv_istore_n (lv' := [(2, .int (zI 1)), (7, .int (zI 1)), (6, .int (zI v61_2)), (5, .int (zI v46_1)), (4, .int (zI j)), (3, .int (zI i)), (0, .ref (β 0)), (1, .int (bI bc))]) hx hb dX10_regions_144 rfl hl (by decide) rfl (fun ls hl => ?_)
                        refine z_iinc (k := 4) (v := j + 1) (lv' := [(4, .int (zI (j + 1))), (2, .int (zI 1)), (7, .int (zI 1)), (6, .int (zI v61_2)), (5, .int (zI v46_1)), (3, .int (zI i)), (0, .ref (β 0)), (1, .int (bI bc))]) hx hb dX10_regions_145 hl rfl rfl (by decide) rfl (fun ls hl => ?_)
                        refine lv_goto (tgt := 19) hx hb dX10_regions_148 (by decide) ?_
                        exact ih_19 (zu w5 i (w5 j)) 1 (j + 1) _ _ hP hD hS _ (lv_sub hl [1, 0, 5, 6, 7] rfl) (by first | assumption | rfl | omega) (by first | assumption | rfl | omega) (by first | exact hI5 | exact RGI_put hn9 hI5 ⟨hi.1, by omega⟩ hrr c_127) (by first | exact hs5 | (rw [zS_set hi.1 49 (by omega), if_pos (by omega)]; omega)) (by first | (intro h9; exact absurd h9 (by decide)) | (intro h9; refine ⟨(hO5 h9).1, fun q z1 z2 z3 => ?_⟩; by_cases e9 : q = j; (focus (rw [e9] at z3 ⊢; first | exact absurd (hnr.mp z3.1) (by decide) | exact absurd c_111 ((RGI_m hI5 ⟨hj.1, by omega⟩).mp z3.2.2) | exact c_127)); exact (hO5 h9).2 q z1 (by omega) z3)) (by omega)
                · refine lv_iload_n hx hb dX10_regions_75 rfl (lv_at hl 6 rfl) ?_
                  refine z_ifeqB (tgt := 95) hx hb dX10_regions_76 (by decide) (fun c_76 => ?_) (fun c_76 => ?_)
                  · refine lv_iconst (v := zI 0) hx hb dX10_regions_95 rfl ?_
                    refine lv_istore (lv' := [(7, .int (zI 0)), (6, .int (zI v61_2)), (5, .int (zI v46_1)), (2, .int (zI c7)), (4, .int (zI j)), (3, .int (zI i)), (0, .ref (β 0)), (1, .int (bI bc))]) hx hb dX10_regions_96 hl (by decide) rfl (fun ls hl => ?_)
                    have hnr : S_adj (S_nb bc) i j ↔ 0 = 1 := by rw [near9 ⟨hi.1, by omega⟩ ⟨hj.1, by omega⟩, ← hv46_0, ← hv61_0]; first | exact ⟨fun _ => rfl, fun _ => Or.inl c_72⟩ | exact ⟨fun _ => rfl, fun _ => Or.inr ⟨c_76, c_82, c_88⟩⟩ | exact ⟨fun h9 => h9.elim (fun z => absurd z c_72) (fun z => absurd (z.1.symm.trans c_76) (by decide)), fun h9 => absurd h9 (by decide)⟩ | exact ⟨fun h9 => h9.elim (fun z => absurd z c_72) (fun z => absurd z.2.1 c_82), fun h9 => absurd h9 (by decide)⟩ | exact ⟨fun h9 => h9.elim (fun z => absurd z c_72) (fun z => absurd z.2.2 c_88), fun h9 => absurd h9 (by decide)⟩
                    refine lv_iload hx hb dX10_regions_98 (lv_at hl 0 rfl) ?_
                    refine z_ifeq (tgt := 145) hx hb ⟨by omega, by omega⟩ dX10_regions_100 (by decide) (fun c_100 => ?_) (fun c_100 => ?_)
                    · refine z_iinc (k := 4) (v := j + 1) (lv' := [(4, .int (zI (j + 1))), (7, .int (zI 0)), (6, .int (zI v61_2)), (5, .int (zI v46_1)), (2, .int (zI c7)), (3, .int (zI i)), (0, .ref (β 0)), (1, .int (bI bc))]) hx hb dX10_regions_145 hl rfl rfl (by decide) rfl (fun ls hl => ?_)
                      refine lv_goto (tgt := 19) hx hb dX10_regions_148 (by decide) ?_
                      exact ih_19 w5 c7 (j + 1) _ _ hP hD hS _ (lv_sub hl [4, 0, 5, 6, 7] rfl) (by first | assumption | rfl | omega) (by first | assumption | rfl | omega) (by first | exact hI5 | exact RGI_put hn9 hI5 ⟨hi.1, by omega⟩ hrr c_127) (by first | exact hs5 | (rw [zS_set hi.1 49 (by omega), if_pos (by omega)]; omega)) (by first | (intro h9; exact absurd h9 (by decide)) | (intro h9; refine ⟨(hO5 h9).1, fun q z1 z2 z3 => ?_⟩; by_cases e9 : q = j; (focus (rw [e9] at z3 ⊢; first | exact absurd (hnr.mp z3.1) (by decide) | exact absurd c_111 ((RGI_m hI5 ⟨hj.1, by omega⟩).mp z3.2.2) | exact c_127)); exact (hO5 h9).2 q z1 (by omega) z3)) (by omega)
                    · exact absurd c_100 (by decide)
                  · refine lv_iload hx hb dX10_regions_79 (lv_at hl 1 rfl) ?_
                    refine lv_iconst (v := zI 1) hx hb dX10_regions_81 rfl ?_
                    refine z_icne (tgt := 95) hx hb ⟨by omega, by omega⟩ ⟨by omega, by omega⟩ dX10_regions_82 (by decide) (fun c_82 => ?_) (fun c_82 => ?_)
                    · refine lv_iconst (v := zI 0) hx hb dX10_regions_95 rfl ?_
                      refine lv_istore (lv' := [(7, .int (zI 0)), (6, .int (zI v61_2)), (5, .int (zI v46_1)), (2, .int (zI c7)), (4, .int (zI j)), (3, .int (zI i)), (0, .ref (β 0)), (1, .int (bI bc))]) hx hb dX10_regions_96 hl (by decide) rfl (fun ls hl => ?_)
                      have hnr : S_adj (S_nb bc) i j ↔ 0 = 1 := by rw [near9 ⟨hi.1, by omega⟩ ⟨hj.1, by omega⟩, ← hv46_0, ← hv61_0]; first | exact ⟨fun _ => rfl, fun _ => Or.inl c_72⟩ | exact ⟨fun _ => rfl, fun _ => Or.inr ⟨c_76, c_82, c_88⟩⟩ | exact ⟨fun h9 => h9.elim (fun z => absurd z c_72) (fun z => absurd (z.1.symm.trans c_76) (by decide)), fun h9 => absurd h9 (by decide)⟩ | exact ⟨fun h9 => h9.elim (fun z => absurd z c_72) (fun z => absurd z.2.1 c_82), fun h9 => absurd h9 (by decide)⟩ | exact ⟨fun h9 => h9.elim (fun z => absurd z c_72) (fun z => absurd z.2.2 c_88), fun h9 => absurd h9 (by decide)⟩
                      refine lv_iload hx hb dX10_regions_98 (lv_at hl 0 rfl) ?_
                      refine z_ifeq (tgt := 145) hx hb ⟨by omega, by omega⟩ dX10_regions_100 (by decide) (fun c_100 => ?_) (fun c_100 => ?_)
                      · refine z_iinc (k := 4) (v := j + 1) (lv' := [(4, .int (zI (j + 1))), (7, .int (zI 0)), (6, .int (zI v61_2)), (5, .int (zI v46_1)), (2, .int (zI c7)), (3, .int (zI i)), (0, .ref (β 0)), (1, .int (bI bc))]) hx hb dX10_regions_145 hl rfl rfl (by decide) rfl (fun ls hl => ?_)
                        refine lv_goto (tgt := 19) hx hb dX10_regions_148 (by decide) ?_
                        exact ih_19 w5 c7 (j + 1) _ _ hP hD hS _ (lv_sub hl [4, 0, 5, 6, 7] rfl) (by first | assumption | rfl | omega) (by first | assumption | rfl | omega) (by first | exact hI5 | exact RGI_put hn9 hI5 ⟨hi.1, by omega⟩ hrr c_127) (by first | exact hs5 | (rw [zS_set hi.1 49 (by omega), if_pos (by omega)]; omega)) (by first | (intro h9; exact absurd h9 (by decide)) | (intro h9; refine ⟨(hO5 h9).1, fun q z1 z2 z3 => ?_⟩; by_cases e9 : q = j; (focus (rw [e9] at z3 ⊢; first | exact absurd (hnr.mp z3.1) (by decide) | exact absurd c_111 ((RGI_m hI5 ⟨hj.1, by omega⟩).mp z3.2.2) | exact c_127)); exact (hO5 h9).2 q z1 (by omega) z3)) (by omega)
                      · exact absurd c_100 (by decide)
                    · refine lv_iload hx hb dX10_regions_85 (lv_at hl 0 rfl) ?_
                      refine lv_iconst (v := zI 1) hx hb dX10_regions_87 rfl ?_
                      refine z_icne (tgt := 95) hx hb ⟨by omega, by omega⟩ ⟨by omega, by omega⟩ dX10_regions_88 (by decide) (fun c_88 => ?_) (fun c_88 => ?_)
                      · refine lv_iconst (v := zI 0) hx hb dX10_regions_95 rfl ?_
                        refine lv_istore (lv' := [(7, .int (zI 0)), (6, .int (zI v61_2)), (5, .int (zI v46_1)), (2, .int (zI c7)), (4, .int (zI j)), (3, .int (zI i)), (0, .ref (β 0)), (1, .int (bI bc))]) hx hb dX10_regions_96 hl (by decide) rfl (fun ls hl => ?_)
                        have hnr : S_adj (S_nb bc) i j ↔ 0 = 1 := by rw [near9 ⟨hi.1, by omega⟩ ⟨hj.1, by omega⟩, ← hv46_0, ← hv61_0]; first | exact ⟨fun _ => rfl, fun _ => Or.inl c_72⟩ | exact ⟨fun _ => rfl, fun _ => Or.inr ⟨c_76, c_82, c_88⟩⟩ | exact ⟨fun h9 => h9.elim (fun z => absurd z c_72) (fun z => absurd (z.1.symm.trans c_76) (by decide)), fun h9 => absurd h9 (by decide)⟩ | exact ⟨fun h9 => h9.elim (fun z => absurd z c_72) (fun z => absurd z.2.1 c_82), fun h9 => absurd h9 (by decide)⟩ | exact ⟨fun h9 => h9.elim (fun z => absurd z c_72) (fun z => absurd z.2.2 c_88), fun h9 => absurd h9 (by decide)⟩
                        refine lv_iload hx hb dX10_regions_98 (lv_at hl 0 rfl) ?_
                        refine z_ifeq (tgt := 145) hx hb ⟨by omega, by omega⟩ dX10_regions_100 (by decide) (fun c_100 => ?_) (fun c_100 => ?_)
                        · refine z_iinc (k := 4) (v := j + 1) (lv' := [(4, .int (zI (j + 1))), (7, .int (zI 0)), (6, .int (zI v61_2)), (5, .int (zI v46_1)), (2, .int (zI c7)), (3, .int (zI i)), (0, .ref (β 0)), (1, .int (bI bc))]) hx hb dX10_regions_145 hl rfl rfl (by decide) rfl (fun ls hl => ?_)
                          refine lv_goto (tgt := 19) hx hb dX10_regions_148 (by decide) ?_
                          exact ih_19 w5 c7 (j + 1) _ _ hP hD hS _ (lv_sub hl [4, 0, 5, 6, 7] rfl) (by first | assumption | rfl | omega) (by first | assumption | rfl | omega) (by first | exact hI5 | exact RGI_put hn9 hI5 ⟨hi.1, by omega⟩ hrr c_127) (by first | exact hs5 | (rw [zS_set hi.1 49 (by omega), if_pos (by omega)]; omega)) (by first | (intro h9; exact absurd h9 (by decide)) | (intro h9; refine ⟨(hO5 h9).1, fun q z1 z2 z3 => ?_⟩; by_cases e9 : q = j; (focus (rw [e9] at z3 ⊢; first | exact absurd (hnr.mp z3.1) (by decide) | exact absurd c_111 ((RGI_m hI5 ⟨hj.1, by omega⟩).mp z3.2.2) | exact c_127)); exact (hO5 h9).2 q z1 (by omega) z3)) (by omega)
                        · exact absurd c_100 (by decide)
                      · refine lv_iconst (v := zI 1) hx hb dX10_regions_91 rfl ?_
                        refine lv_goto (tgt := 96) hx hb dX10_regions_92 (by decide) ?_
                        refine lv_istore (lv' := [(7, .int (zI 1)), (6, .int (zI v61_2)), (5, .int (zI v46_1)), (2, .int (zI c7)), (4, .int (zI j)), (3, .int (zI i)), (0, .ref (β 0)), (1, .int (bI bc))]) hx hb dX10_regions_96 hl (by decide) rfl (fun ls hl => ?_)
                        have hnr : S_adj (S_nb bc) i j ↔ 1 = 1 := by rw [near9 ⟨hi.1, by omega⟩ ⟨hj.1, by omega⟩, ← hv46_0, ← hv61_0]; first | exact ⟨fun _ => rfl, fun _ => Or.inl c_72⟩ | exact ⟨fun _ => rfl, fun _ => Or.inr ⟨c_76, c_82, c_88⟩⟩ | exact ⟨fun h9 => h9.elim (fun z => absurd z c_72) (fun z => absurd (z.1.symm.trans c_76) (by decide)), fun h9 => absurd h9 (by decide)⟩ | exact ⟨fun h9 => h9.elim (fun z => absurd z c_72) (fun z => absurd z.2.1 c_82), fun h9 => absurd h9 (by decide)⟩ | exact ⟨fun h9 => h9.elim (fun z => absurd z c_72) (fun z => absurd z.2.2 c_88), fun h9 => absurd h9 (by decide)⟩
                        refine lv_iload hx hb dX10_regions_98 (lv_at hl 0 rfl) ?_
                        refine z_ifeq (tgt := 145) hx hb ⟨by omega, by omega⟩ dX10_regions_100 (by decide) (fun c_100 => ?_) (fun c_100 => ?_)
                        · exact absurd c_100 (by decide)
                        · refine lv_aload_n hx hb dX10_regions_103 rfl (lv_at hl 6 rfl) ?_
                          refine va_get (D := D) (ci := 10) (v := .ref (β 10)) (C := RX10) (T := TX10) (N := 17) hx hb hts (fun w h => List.mem_cons_of_mem _ (wx_X10 w h)) hown hK hP 0 rfl rfl 14 (by decide) (hW0 _ wf_X10_38) (fun _ h9 => h9) rfl dX10_regions_104 ?_
                          refine lv_iload hx hb dX10_regions_107 (lv_at hl 4 rfl) ?_
                          refine z_iald (f := w5) hx hb hK hP 10 9 rfl rfl ⟨⟨by omega, by omega⟩, by decide⟩ dX10_regions_109 ?_
                          have hb_109 := hrb j (by omega) (by omega)
                          refine lv_iconst (v := zI (-1)) hx hb dX10_regions_110 rfl ?_
                          refine z_iceq (tgt := 145) hx hb ⟨by omega, by omega⟩ ⟨by omega, by omega⟩ dX10_regions_111 (by decide) (fun c_111 => ?_) (fun c_111 => ?_)
                          · refine z_iinc (k := 4) (v := j + 1) (lv' := [(4, .int (zI (j + 1))), (7, .int (zI 1)), (6, .int (zI v61_2)), (5, .int (zI v46_1)), (2, .int (zI c7)), (3, .int (zI i)), (0, .ref (β 0)), (1, .int (bI bc))]) hx hb dX10_regions_145 hl rfl rfl (by decide) rfl (fun ls hl => ?_)
                            refine lv_goto (tgt := 19) hx hb dX10_regions_148 (by decide) ?_
                            exact ih_19 w5 c7 (j + 1) _ _ hP hD hS _ (lv_sub hl [4, 0, 5, 6, 7] rfl) (by first | assumption | rfl | omega) (by first | assumption | rfl | omega) (by first | exact hI5 | exact RGI_put hn9 hI5 ⟨hi.1, by omega⟩ hrr c_127) (by first | exact hs5 | (rw [zS_set hi.1 49 (by omega), if_pos (by omega)]; omega)) (by first | (intro h9; exact absurd h9 (by decide)) | (intro h9; refine ⟨(hO5 h9).1, fun q z1 z2 z3 => ?_⟩; by_cases e9 : q = j; (focus (rw [e9] at z3 ⊢; first | exact absurd (hnr.mp z3.1) (by decide) | exact absurd c_111 ((RGI_m hI5 ⟨hj.1, by omega⟩).mp z3.2.2) | exact c_127)); exact (hO5 h9).2 q z1 (by omega) z3)) (by omega)
                          · refine lv_aload_n hx hb dX10_regions_114 rfl (lv_at hl 6 rfl) ?_
                            refine va_get (D := D) (ci := 10) (v := .ref (β 10)) (C := RX10) (T := TX10) (N := 17) hx hb hts (fun w h => List.mem_cons_of_mem _ (wx_X10 w h)) hown hK hP 0 rfl rfl 14 (by decide) (hW0 _ wf_X10_38) (fun _ h9 => h9) rfl dX10_regions_115 ?_
                            refine lv_iload hx hb dX10_regions_118 (lv_at hl 4 rfl) ?_
                            refine z_iald (f := w5) hx hb hK hP 10 9 rfl rfl ⟨⟨by omega, by omega⟩, by decide⟩ dX10_regions_120 ?_
                            have hb_120 := hrb j (by omega) (by omega)
                            refine lv_aload_n hx hb dX10_regions_121 rfl (lv_at hl 6 rfl) ?_
                            refine va_get (D := D) (ci := 10) (v := .ref (β 10)) (C := RX10) (T := TX10) (N := 17) hx hb hts (fun w h => List.mem_cons_of_mem _ (wx_X10 w h)) hown hK hP 0 rfl rfl 14 (by decide) (hW0 _ wf_X10_38) (fun _ h9 => h9) rfl dX10_regions_122 ?_
                            refine lv_iload_n hx hb dX10_regions_125 rfl (lv_at hl 5 rfl) ?_
                            refine z_iald (f := w5) hx hb hK hP 10 9 rfl rfl ⟨⟨by omega, by omega⟩, by decide⟩ dX10_regions_126 ?_
                            have hb_126 := hrb i (by omega) (by omega)
                            refine z_icge (tgt := 145) hx hb ⟨by omega, by omega⟩ ⟨by omega, by omega⟩ dX10_regions_127 (by decide) (fun c_127 => ?_) (fun c_127 => ?_)
                            · refine z_iinc (k := 4) (v := j + 1) (lv' := [(4, .int (zI (j + 1))), (7, .int (zI 1)), (6, .int (zI v61_2)), (5, .int (zI v46_1)), (2, .int (zI c7)), (3, .int (zI i)), (0, .ref (β 0)), (1, .int (bI bc))]) hx hb dX10_regions_145 hl rfl rfl (by decide) rfl (fun ls hl => ?_)
                              refine lv_goto (tgt := 19) hx hb dX10_regions_148 (by decide) ?_
                              exact ih_19 w5 c7 (j + 1) _ _ hP hD hS _ (lv_sub hl [4, 0, 5, 6, 7] rfl) (by first | assumption | rfl | omega) (by first | assumption | rfl | omega) (by first | exact hI5 | exact RGI_put hn9 hI5 ⟨hi.1, by omega⟩ hrr c_127) (by first | exact hs5 | (rw [zS_set hi.1 49 (by omega), if_pos (by omega)]; omega)) (by first | (intro h9; exact absurd h9 (by decide)) | (intro h9; refine ⟨(hO5 h9).1, fun q z1 z2 z3 => ?_⟩; by_cases e9 : q = j; (focus (rw [e9] at z3 ⊢; first | exact absurd (hnr.mp z3.1) (by decide) | exact absurd c_111 ((RGI_m hI5 ⟨hj.1, by omega⟩).mp z3.2.2) | exact c_127)); exact (hO5 h9).2 q z1 (by omega) z3)) (by omega)
                            · have hrr : S_rr (S_nb bc) mk9 i j := ⟨hnr.mpr rfl, (RGI_m hI5 ⟨hi.1, by omega⟩).mpr c_33, (RGI_m hI5 ⟨hj.1, by omega⟩).mpr c_111⟩
                              refine lv_aload_n hx hb dX10_regions_130 rfl (lv_at hl 6 rfl) ?_
                              refine va_get (D := D) (ci := 10) (v := .ref (β 10)) (C := RX10) (T := TX10) (N := 17) hx hb hts (fun w h => List.mem_cons_of_mem _ (wx_X10 w h)) hown hK hP 0 rfl rfl 14 (by decide) (hW0 _ wf_X10_38) (fun _ h9 => h9) rfl dX10_regions_131 ?_
                              refine lv_iload_n hx hb dX10_regions_134 rfl (lv_at hl 5 rfl) ?_
                              refine lv_aload_n hx hb dX10_regions_135 rfl (lv_at hl 6 rfl) ?_
                              refine va_get (D := D) (ci := 10) (v := .ref (β 10)) (C := RX10) (T := TX10) (N := 17) hx hb hts (fun w h => List.mem_cons_of_mem _ (wx_X10 w h)) hown hK hP 0 rfl rfl 14 (by decide) (hW0 _ wf_X10_38) (fun _ h9 => h9) rfl dX10_regions_136 ?_
                              refine lv_iload hx hb dX10_regions_139 (lv_at hl 4 rfl) ?_
                              refine z_iald (f := w5) hx hb hK hP 10 9 rfl rfl ⟨⟨by omega, by omega⟩, by decide⟩ dX10_regions_141 ?_
                              have hb_141 := hrb j (by omega) (by omega)
                              refine z_iast (f := w5) (v := w5 j) hx hb hK hP hD hS 10 9 rfl rfl ⟨⟨by omega, by omega⟩, by decide⟩ dX10_regions_142 (fun H locs hP hD hS => ?_)
                              have hP : va_P D vwCl (wM β δ ms mb mo mp mf mn mi mc mq ((zu w5 i (w5 j))) mw mk ml mt ma mx mh) H := hP
                              have hD : va_D A (wM β δ ms mb mo mp mf mn mi mc mq ((zu w5 i (w5 j))) mw mk ml mt ma mx mh) := hD
                              refine lv_iconst (v := zI 1) hx hb dX10_regions_143 rfl ?_
                              refine lv_istore_n (lv' := [(2, .int (zI 1)), (7, .int (zI 1)), (6, .int (zI v61_2)), (5, .int (zI v46_1)), (4, .int (zI j)), (3, .int (zI i)), (0, .ref (β 0)), (1, .int (bI bc))]) hx hb dX10_regions_144 rfl hl (by decide) rfl (fun ls hl => ?_)
                              refine z_iinc (k := 4) (v := j + 1) (lv' := [(4, .int (zI (j + 1))), (2, .int (zI 1)), (7, .int (zI 1)), (6, .int (zI v61_2)), (5, .int (zI v46_1)), (3, .int (zI i)), (0, .ref (β 0)), (1, .int (bI bc))]) hx hb dX10_regions_145 hl rfl rfl (by decide) rfl (fun ls hl => ?_)
                              refine lv_goto (tgt := 19) hx hb dX10_regions_148 (by decide) ?_
                              exact ih_19 (zu w5 i (w5 j)) 1 (j + 1) _ _ hP hD hS _ (lv_sub hl [1, 0, 5, 6, 7] rfl) (by first | assumption | rfl | omega) (by first | assumption | rfl | omega) (by first | exact hI5 | exact RGI_put hn9 hI5 ⟨hi.1, by omega⟩ hrr c_127) (by first | exact hs5 | (rw [zS_set hi.1 49 (by omega), if_pos (by omega)]; omega)) (by first | (intro h9; exact absurd h9 (by decide)) | (intro h9; refine ⟨(hO5 h9).1, fun q z1 z2 z3 => ?_⟩; by_cases e9 : q = j; (focus (rw [e9] at z3 ⊢; first | exact absurd (hnr.mp z3.1) (by decide) | exact absurd c_111 ((RGI_m hI5 ⟨hj.1, by omega⟩).mp z3.2.2) | exact c_127)); exact (hO5 h9).2 q z1 (by omega) z3)) (by omega)

abbrev wz_X10_regionsOf : List Cond := .code yX10_regionsOf cX10_regionsOf 4 (some .int) :: W0
abbrev rm_X10_regionsOf : Room := { frames := 2, cells := 0, slots := 0, locals := 47 }
theorem hd_X10_regionsOf : yX10_regionsOf.cls = RX10 ∧ yX10_regionsOf.cls ≠ "java/lang/invoke/MethodHandle" ∧ yX10_regionsOf.cls ≠ "java/lang/invoke/VarHandle" ∧ (parseMethodDescriptor yX10_regionsOf.desc).map (fun d => d.parameters.length) = some 2 := by decide +kernel
set_option maxHeartbeats 4000000 in
set_option maxRecDepth 100000 in
theorem c_X10_regionsOf (l : Launch) (D : va_G) (τ : Nat → Nat) (β : Nat → Nat) (δ : Nat → ClassId) (ms : IA) (mb : IA) (mo : IA) (mp : BA) (mf : IA) (mn : IA) (mi : IA) (mc : IA) (mq : BA) (mr : IA) (mw : IA) (mk : Int) (ml : Int) (mt : Int) (ma : Int) (mx : Bool) (mh : Int64) (lv9 : Int) (ab : Bool) (hlv : 0 ≤ lv9 ∧ lv9 ≤ 98) (hms : ∀ k, 0 ≤ k → k < 49 → 0 ≤ ms k ∧ ms k ≤ 99) : cM l yX10_regionsOf wz_X10_regionsOf rm_X10_regionsOf D τ (tyM δ) [.ref (β 0), .int (zI lv9), .int (bI ab)] (wM β δ ms mb mo mp mf mn mi mc mq mr mw mk ml mt ma mx mh) (zQi (fun r w => ∃ (r2 : IA), ∃ (v : Int), (v = S_comps (S_nb (!ab)) (fun k => S_hi ms lv9 k == ab)) ∧ (0 ≤ v ∧ v ≤ 49) ∧ r = zI v ∧ wM β δ ms mb mo mp mf mn mi mc mq r2 mw mk ml mt ma mx mh = w)) := by
  refine z_ofM (cc := cX10_regionsOf) (maxL := 4) (ret := (some .int)) (by decide +kernel) rfl (Nat.le_of_ble_eq_true rfl) ?_
  intro pg e s m args below meth c hC hr hlk hnm hK hP A hD hG hA hS ls hl Q hQ
  have hx := hC.1
  have hb := hC.2.1
  have hml := hC.2.2.1
  have hown := hC.2.2.2.1
  have hts := hC.2.2.2.2
  have hB : ∀ w ∈ W0, w ∈ wz_X10_regionsOf := fun _ h => List.mem_cons_of_mem _ h
  have hW0 : ∀ w ∈ W0, w.before args s = true := fun w h => hts w (hB w h)
  have hl : lv_has ls 4 [(0, .ref (β 0)), (1, .int (zI lv9)), (2, .int (bI ab))] := hl
  refine lv_iconst (v := zI 0) hx hb dX10_regionsOf_0 rfl ?_
  refine lv_istore_n (lv' := [(3, .int (zI 0)), (0, .ref (β 0)), (1, .int (zI lv9)), (2, .int (bI ab))]) hx hb dX10_regionsOf_1 rfl hl (by decide) rfl (fun ls hl => ?_)
  suffices HL_2 : ∀ (n_2 : Nat), ∀ (w1 : IA) (i : Int) (H : Heap) (locs : List Loc) (hP : va_P D vwCl (wM β δ ms mb mo mp mf mn mi mc mq w1 mw mk ml mt ma mx mh) H) (hD : va_D A (wM β δ ms mb mo mp mf mn mi mc mq w1 mw mk ml mt ma mx mh)) (hS : va_S A s.heap H locs) (ls : Array Slot) (hl : lv_has ls 4 [(3, .int (zI i)), (0, .ref (β 0)), (1, .int (zI lv9)), (2, .int (bI ab))]) (hi : 0 ≤ i ∧ i ≤ 49) (hw1 : ∀ k, 0 ≤ k → k < i → w1 k = (if (S_hi ms lv9 k == ab) = true then k else -1)) (hm : (49 - i).toNat < n_2), W pg l e rm_X10_regionsOf s m args below meth c H locs 0 0 Q (F0 m 2 ls []) from HL_2 _ mr 0 _ _ hP hD hS _ (lv_sub hl [0, 1, 2, 3] rfl) (by first | assumption | rfl | omega) (by intro k z1 z2; omega) (Nat.lt_succ_self _)
  intro n_2
  induction n_2 with
  | zero => intro w1 i H locs hP hD hS ls hl hi hw1 hm; exact absurd hm (Nat.not_lt_zero _)
  | succ n_2 ih_2 =>
    intro w1 i H locs hP hD hS ls hl hi hw1 hm
    refine lv_iload_n hx hb dX10_regionsOf_2 rfl (lv_at hl 0 rfl) ?_
    refine lv_bipush (v := zI 49) hx hb dX10_regionsOf_3 (zI_b8 (by decide)) ?_
    refine z_icge (tgt := 35) hx hb ⟨by omega, by omega⟩ ⟨by omega, by omega⟩ dX10_regionsOf_5 (by decide) (fun c_5 => ?_) (fun c_5 => ?_)
    · refine lv_aload_n hx hb dX10_regionsOf_35 rfl (lv_at hl 1 rfl) ?_
      refine lv_iload_n hx hb dX10_regionsOf_36 rfl (lv_at hl 3 rfl) ?_
      refine z_ifneB (tgt := 44) hx hb dX10_regionsOf_37 (by decide) (fun c_37 => ?_) (fun c_37 => ?_)
      · refine lv_iconst (v := zI 0) hx hb dX10_regionsOf_44 rfl ?_
        refine z_calli hP hD hS hA (va_runV (As := [.int (bI false)]) (rest := []) hC (c_X10_regions l D τ β δ ms mb mo mp mf mn mi mc mq w1 mw mk ml mt ma mx mh (fun k => S_hi ms lv9 k == ab) false (by exact fun k z1 z2 => hw1 k z1 (by omega)) _) (cwV 1 hts (gV hB wl_X10_168 wn_X10_regions ws_X10_regions wi_X10 wc_X10_regions) rfl rfl rfl hd_X10_regions ⟨Nat.le_of_ble_eq_true rfl, Nat.le_of_ble_eq_true rfl⟩) (zp_V hK hP hD hS hA hG (ci := 10) (q0 := 0) rfl rfl rfl) rfl rfl hl.1 rfl (lv_room (Nat.le_of_ble_eq_true rfl)) dX10_regionsOf_45 ⟨Nat.le_of_ble_eq_true rfl, Nat.le_of_ble_eq_true rfl⟩) (fun r w1 H locs hq9 hP hD hS => ?_)
        obtain ⟨r45_1, v45_2, hv45_0, hv45_1, rfl, rfl⟩ := hq9
        have hP : va_P D vwCl (wM β δ ms mb mo mp mf mn mi mc mq r45_1 mw mk ml mt ma mx mh) H := hP
        have hD : va_D A (wM β δ ms mb mo mp mf mn mi mc mq r45_1 mw mk ml mt ma mx mh) := hD
        exact z_iret hC hr hlk hQ hP hD hS ⟨r45_1, v45_2, (by rw [c_37]; rw [c_37] at hv45_0; exact hv45_0), (by omega), rfl, rfl⟩ dX10_regionsOf_48
      · refine lv_iconst (v := zI 1) hx hb dX10_regionsOf_40 rfl ?_
        refine lv_goto (tgt := 45) hx hb dX10_regionsOf_41 (by decide) ?_
        refine z_calli hP hD hS hA (va_runV (As := [.int (bI true)]) (rest := []) hC (c_X10_regions l D τ β δ ms mb mo mp mf mn mi mc mq w1 mw mk ml mt ma mx mh (fun k => S_hi ms lv9 k == ab) true (by exact fun k z1 z2 => hw1 k z1 (by omega)) _) (cwV 1 hts (gV hB wl_X10_168 wn_X10_regions ws_X10_regions wi_X10 wc_X10_regions) rfl rfl rfl hd_X10_regions ⟨Nat.le_of_ble_eq_true rfl, Nat.le_of_ble_eq_true rfl⟩) (zp_V hK hP hD hS hA hG (ci := 10) (q0 := 0) rfl rfl rfl) rfl rfl hl.1 rfl (lv_room (Nat.le_of_ble_eq_true rfl)) dX10_regionsOf_45 ⟨Nat.le_of_ble_eq_true rfl, Nat.le_of_ble_eq_true rfl⟩) (fun r w1 H locs hq9 hP hD hS => ?_)
        obtain ⟨r45_3, v45_4, hv45_0, hv45_1, rfl, rfl⟩ := hq9
        have hP : va_P D vwCl (wM β δ ms mb mo mp mf mn mi mc mq r45_3 mw mk ml mt ma mx mh) H := hP
        have hD : va_D A (wM β δ ms mb mo mp mf mn mi mc mq r45_3 mw mk ml mt ma mx mh) := hD
        exact z_iret hC hr hlk hQ hP hD hS ⟨r45_3, v45_4, (by rw [c_37]; rw [c_37] at hv45_0; exact hv45_0), (by omega), rfl, rfl⟩ dX10_regionsOf_48
    · refine lv_aload_n hx hb dX10_regionsOf_8 rfl (lv_at hl 1 rfl) ?_
      refine va_get (D := D) (ci := 10) (v := .ref (β 10)) (C := RX10) (T := TX10) (N := 17) hx hb hts (fun w h => List.mem_cons_of_mem _ (wx_X10 w h)) hown hK hP 0 rfl rfl 14 (by decide) (hW0 _ wf_X10_38) (fun _ h9 => h9) rfl dX10_regionsOf_9 ?_
      refine lv_iload_n hx hb dX10_regionsOf_12 rfl (lv_at hl 0 rfl) ?_
      refine lv_aload_n hx hb dX10_regionsOf_13 rfl (lv_at hl 1 rfl) ?_
      refine lv_iload_n hx hb dX10_regionsOf_14 rfl (lv_at hl 0 rfl) ?_
      refine lv_iload_n hx hb dX10_regionsOf_15 rfl (lv_at hl 2 rfl) ?_
      refine z_calli hP hD hS hA (va_runV (As := [.int (zI i), .int (zI lv9)]) (rest := [.int (zI i), .ref (β 10)]) hC (c_X10_isAbove l D τ β δ ms mb mo mp mf mn mi mc mq w1 mw mk ml mt ma mx mh i lv9 (by first | assumption | rfl | omega) (by first | assumption | rfl | omega) (by first | assumption | rfl | omega) _) (cwV 2 hts (gV hB wl_X10_129 wn_X10_isAbove ws_X10_isAbove wi_X10 wc_X10_isAbove) rfl rfl rfl hd_X10_isAbove ⟨Nat.le_of_ble_eq_true rfl, Nat.le_of_ble_eq_true rfl⟩) (zp_V hK hP hD hS hA hG (ci := 10) (q0 := 0) rfl rfl rfl) rfl rfl hl.1 rfl (lv_room (Nat.le_of_ble_eq_true rfl)) dX10_regionsOf_16 ⟨Nat.le_of_ble_eq_true rfl, Nat.le_of_ble_eq_true rfl⟩) (fun r w1 H locs hq9 hP hD hS => ?_)
      obtain ⟨v16_5, hv16_0, rfl, rfl⟩ := hq9
      have hP : va_P D vwCl (wM β δ ms mb mo mp mf mn mi mc mq w1 mw mk ml mt ma mx mh) H := hP
      have hD : va_D A (wM β δ ms mb mo mp mf mn mi mc mq w1 mw mk ml mt ma mx mh) := hD
      refine lv_iload_n hx hb dX10_regionsOf_19 rfl (lv_at hl 3 rfl) ?_
      refine z_icneB (tgt := 27) hx hb dX10_regionsOf_20 (by decide) (fun c_20 => ?_) (fun c_20 => ?_)
      · refine lv_iconst (v := zI (-1)) hx hb dX10_regionsOf_27 rfl ?_
        refine z_iast (f := w1) (v := (-1)) hx hb hK hP hD hS 10 9 rfl rfl ⟨⟨by omega, by omega⟩, by decide⟩ dX10_regionsOf_28 (fun H locs hP hD hS => ?_)
        have hP : va_P D vwCl (wM β δ ms mb mo mp mf mn mi mc mq ((zu w1 i (-1))) mw mk ml mt ma mx mh) H := hP
        have hD : va_D A (wM β δ ms mb mo mp mf mn mi mc mq ((zu w1 i (-1))) mw mk ml mt ma mx mh) := hD
        refine z_iinc (k := 0) (v := i + 1) (lv' := [(3, .int (zI (i + 1))), (0, .ref (β 0)), (1, .int (zI lv9)), (2, .int (bI ab))]) hx hb dX10_regionsOf_29 hl rfl rfl (by decide) rfl (fun ls hl => ?_)
        refine lv_goto (tgt := 2) hx hb dX10_regionsOf_32 (by decide) ?_
        exact ih_2 (zu w1 i (-1)) (i + 1) _ _ hP hD hS _ (lv_sub hl [0, 1, 2, 3] rfl) (by first | assumption | rfl | omega) (by intro k z1 z2; by_cases e9 : k = i; (focus (rw [e9, zu_s]; rw [hv16_0] at c_20; first | (rw [if_pos (beq_iff_eq.mpr c_20)]; done) | (rw [if_neg (fun h9 => c_20 (beq_iff_eq.mp h9))]; done))); (rw [zu_n e9]; exact hw1 k z1 (by omega))) (by omega)
      · refine lv_iload_n hx hb dX10_regionsOf_23 rfl (lv_at hl 0 rfl) ?_
        refine lv_goto (tgt := 28) hx hb dX10_regionsOf_24 (by decide) ?_
        refine z_iast (f := w1) (v := i) hx hb hK hP hD hS 10 9 rfl rfl ⟨⟨by omega, by omega⟩, by decide⟩ dX10_regionsOf_28 (fun H locs hP hD hS => ?_)
        have hP : va_P D vwCl (wM β δ ms mb mo mp mf mn mi mc mq (zu w1 i i) mw mk ml mt ma mx mh) H := hP
        have hD : va_D A (wM β δ ms mb mo mp mf mn mi mc mq (zu w1 i i) mw mk ml mt ma mx mh) := hD
        refine z_iinc (k := 0) (v := i + 1) (lv' := [(3, .int (zI (i + 1))), (0, .ref (β 0)), (1, .int (zI lv9)), (2, .int (bI ab))]) hx hb dX10_regionsOf_29 hl rfl rfl (by decide) rfl (fun ls hl => ?_)
        refine lv_goto (tgt := 2) hx hb dX10_regionsOf_32 (by decide) ?_
        exact ih_2 (zu w1 i i) (i + 1) _ _ hP hD hS _ (lv_sub hl [0, 1, 2, 3] rfl) (by first | assumption | rfl | omega) (by intro k z1 z2; by_cases e9 : k = i; (focus (rw [e9, zu_s]; rw [hv16_0] at c_20; first | (rw [if_pos (beq_iff_eq.mpr c_20)]; done) | (rw [if_neg (fun h9 => c_20 (beq_iff_eq.mp h9))]; done))); (rw [zu_n e9]; exact hw1 k z1 (by omega))) (by omega)

abbrev wz_X10_hills : List Cond := .code yX10_hills cX10_hills 2 (some .int) :: W0
abbrev rm_X10_hills : Room := { frames := 3, cells := 0, slots := 0, locals := 70 }
theorem hd_X10_hills : yX10_hills.cls = RX10 ∧ yX10_hills.cls ≠ "java/lang/invoke/MethodHandle" ∧ yX10_hills.cls ≠ "java/lang/invoke/VarHandle" ∧ (parseMethodDescriptor yX10_hills.desc).map (fun d => d.parameters.length) = some 1 := by decide +kernel
set_option maxHeartbeats 4000000 in
set_option maxRecDepth 100000 in
theorem c_X10_hills (l : Launch) (D : va_G) (τ : Nat → Nat) (β : Nat → Nat) (δ : Nat → ClassId) (ms : IA) (mb : IA) (mo : IA) (mp : BA) (mf : IA) (mn : IA) (mi : IA) (mc : IA) (mq : BA) (mr : IA) (mw : IA) (mk : Int) (ml : Int) (mt : Int) (ma : Int) (mx : Bool) (mh : Int64) (lv9 : Int) (hlv : -2147483648 ≤ lv9 ∧ lv9 < 2147483648) (hms : ∀ k, 0 ≤ k → k < 49 → 0 ≤ ms k ∧ ms k ≤ 99) : cM l yX10_hills wz_X10_hills rm_X10_hills D τ (tyM δ) [.ref (β 0), .int (zI lv9)] (wM β δ ms mb mo mp mf mn mi mc mq mr mw mk ml mt ma mx mh) (zQi (fun r w => ∃ (r2 : IA), ∃ (t2 : Int), ∃ (v : Int), (t2 = S_tlev lv9) ∧ (t2 = 0 → v = S_comps (S_nb (!true)) (fun k => S_hi ms lv9 k == true)) ∧ r = zI v ∧ wM β δ ms mb mo mp mf mn mi mc mq r2 mw mk ml t2 ma mx mh = w)) := by
  refine z_ofM (cc := cX10_hills) (maxL := 2) (ret := (some .int)) (by decide +kernel) rfl (Nat.le_of_ble_eq_true rfl) ?_
  intro pg e s m args below meth c hC hr hlk hnm hK hP A hD hG hA hS ls hl Q hQ
  have hx := hC.1
  have hb := hC.2.1
  have hml := hC.2.2.1
  have hown := hC.2.2.2.1
  have hts := hC.2.2.2.2
  have hB : ∀ w ∈ W0, w ∈ wz_X10_hills := fun _ h => List.mem_cons_of_mem _ h
  have hW0 : ∀ w ∈ W0, w.before args s = true := fun w h => hts w (hB w h)
  have hl : lv_has ls 2 [(0, .ref (β 0)), (1, .int (zI lv9))] := hl
  refine lv_aload_n hx hb dX10_hills_0 rfl (lv_at hl 0 rfl) ?_
  refine lv_iload_n hx hb dX10_hills_1 rfl (lv_at hl 1 rfl) ?_
  refine z_calli hP hD hS hA (va_runV (As := [.int (zI lv9)]) (rest := []) hC (c_X10_isLevel l D τ β δ ms mb mo mp mf mn mi mc mq mr mw mk ml mt ma mx mh lv9 (by first | assumption | rfl | omega) _) (cwV 1 hts (gV hB wl_X10_132 wn_X10_isLevel ws_X10_isLevel wi_X10 wc_X10_isLevel) rfl rfl rfl hd_X10_isLevel ⟨Nat.le_of_ble_eq_true rfl, Nat.le_of_ble_eq_true rfl⟩) (zp_V hK hP hD hS hA hG (ci := 10) (q0 := 0) rfl rfl rfl) rfl rfl hl.1 rfl (lv_room (Nat.le_of_ble_eq_true rfl)) dX10_hills_2 ⟨Nat.le_of_ble_eq_true rfl, Nat.le_of_ble_eq_true rfl⟩) (fun r w1 H locs hq9 hP hD hS => ?_)
  obtain ⟨t2_1, v2_2, hv2_0, hv2_1, rfl, rfl⟩ := hq9
  have hP : va_P D vwCl (wM β δ ms mb mo mp mf mn mi mc mq mr mw mk ml t2_1 ma mx mh) H := hP
  have hD : va_D A (wM β δ ms mb mo mp mf mn mi mc mq mr mw mk ml t2_1 ma mx mh) := hD
  refine z_ifeqB (tgt := 17) hx hb dX10_hills_5 (by decide) (fun c_5 => ?_) (fun c_5 => ?_)
  · have hb_5 := zb_neg hv2_0 c_5
    refine lv_iconst (v := zI 0) hx hb dX10_hills_17 rfl ?_
    exact z_iret hC hr hlk hQ hP hD hS ⟨mr, t2_1, 0, (by exact hv2_1), (by first | exact fun _ => hv11_0 | (intro h9; rw [hv2_1] at h9; unfold S_tlev at h9; rw [if_neg hb_5] at h9; exact absurd h9 (by decide))), rfl, rfl⟩ dX10_hills_18
  · have hb_5 := hv2_0.mp c_5
    refine lv_aload_n hx hb dX10_hills_8 rfl (lv_at hl 0 rfl) ?_
    refine lv_iload_n hx hb dX10_hills_9 rfl (lv_at hl 1 rfl) ?_
    refine lv_iconst (v := zI 1) hx hb dX10_hills_10 rfl ?_
    refine z_calli hP hD hS hA (va_runV (As := [.int (zI lv9), .int (bI true)]) (rest := []) hC (c_X10_regionsOf l D τ β δ ms mb mo mp mf mn mi mc mq mr mw mk ml t2_1 ma mx mh lv9 true (by exact hb_5) (by first | assumption | rfl | omega) _) (cwV 2 hts (gV hB wl_X10_181 wn_X10_regionsOf ws_X10_regionsOf wi_X10 wc_X10_regionsOf) rfl rfl rfl hd_X10_regionsOf ⟨Nat.le_of_ble_eq_true rfl, Nat.le_of_ble_eq_true rfl⟩) (zp_V hK hP hD hS hA hG (ci := 10) (q0 := 0) rfl rfl rfl) rfl rfl hl.1 rfl (lv_room (Nat.le_of_ble_eq_true rfl)) dX10_hills_11 ⟨Nat.le_of_ble_eq_true rfl, Nat.le_of_ble_eq_true rfl⟩) (fun r w1 H locs hq9 hP hD hS => ?_)
    obtain ⟨r11_3, v11_4, hv11_0, hv11_1, rfl, rfl⟩ := hq9
    have hP : va_P D vwCl (wM β δ ms mb mo mp mf mn mi mc mq r11_3 mw mk ml t2_1 ma mx mh) H := hP
    have hD : va_D A (wM β δ ms mb mo mp mf mn mi mc mq r11_3 mw mk ml t2_1 ma mx mh) := hD
    refine lv_goto (tgt := 18) hx hb dX10_hills_14 (by decide) ?_
    exact z_iret hC hr hlk hQ hP hD hS ⟨r11_3, t2_1, v11_4, (by exact hv2_1), (by first | exact fun _ => hv11_0 | (intro h9; rw [hv2_1] at h9; unfold S_tlev at h9; rw [if_neg hb_5] at h9; exact absurd h9 (by decide))), rfl, rfl⟩ dX10_hills_18

abbrev wz_X10_hollows : List Cond := .code yX10_hollows cX10_hollows 2 (some .int) :: W0
abbrev rm_X10_hollows : Room := { frames := 3, cells := 0, slots := 0, locals := 70 }
theorem hd_X10_hollows : yX10_hollows.cls = RX10 ∧ yX10_hollows.cls ≠ "java/lang/invoke/MethodHandle" ∧ yX10_hollows.cls ≠ "java/lang/invoke/VarHandle" ∧ (parseMethodDescriptor yX10_hollows.desc).map (fun d => d.parameters.length) = some 1 := by decide +kernel
set_option maxHeartbeats 4000000 in
set_option maxRecDepth 100000 in
theorem c_X10_hollows (l : Launch) (D : va_G) (τ : Nat → Nat) (β : Nat → Nat) (δ : Nat → ClassId) (ms : IA) (mb : IA) (mo : IA) (mp : BA) (mf : IA) (mn : IA) (mi : IA) (mc : IA) (mq : BA) (mr : IA) (mw : IA) (mk : Int) (ml : Int) (mt : Int) (ma : Int) (mx : Bool) (mh : Int64) (lv9 : Int) (hlv : -2147483648 ≤ lv9 ∧ lv9 < 2147483648) (hms : ∀ k, 0 ≤ k → k < 49 → 0 ≤ ms k ∧ ms k ≤ 99) : cM l yX10_hollows wz_X10_hollows rm_X10_hollows D τ (tyM δ) [.ref (β 0), .int (zI lv9)] (wM β δ ms mb mo mp mf mn mi mc mq mr mw mk ml mt ma mx mh) (zQi (fun r w => ∃ (r2 : IA), ∃ (t2 : Int), ∃ (v : Int), (t2 = S_tlev lv9) ∧ (t2 = 0 → v = S_comps (S_nb (!false)) (fun k => S_hi ms lv9 k == false)) ∧ r = zI v ∧ wM β δ ms mb mo mp mf mn mi mc mq r2 mw mk ml t2 ma mx mh = w)) := by
  refine z_ofM (cc := cX10_hollows) (maxL := 2) (ret := (some .int)) (by decide +kernel) rfl (Nat.le_of_ble_eq_true rfl) ?_
  intro pg e s m args below meth c hC hr hlk hnm hK hP A hD hG hA hS ls hl Q hQ
  have hx := hC.1
  have hb := hC.2.1
  have hml := hC.2.2.1
  have hown := hC.2.2.2.1
  have hts := hC.2.2.2.2
  have hB : ∀ w ∈ W0, w ∈ wz_X10_hollows := fun _ h => List.mem_cons_of_mem _ h
  have hW0 : ∀ w ∈ W0, w.before args s = true := fun w h => hts w (hB w h)
  have hl : lv_has ls 2 [(0, .ref (β 0)), (1, .int (zI lv9))] := hl
  refine lv_aload_n hx hb dX10_hollows_0 rfl (lv_at hl 0 rfl) ?_
  refine lv_iload_n hx hb dX10_hollows_1 rfl (lv_at hl 1 rfl) ?_
  refine z_calli hP hD hS hA (va_runV (As := [.int (zI lv9)]) (rest := []) hC (c_X10_isLevel l D τ β δ ms mb mo mp mf mn mi mc mq mr mw mk ml mt ma mx mh lv9 (by first | assumption | rfl | omega) _) (cwV 1 hts (gV hB wl_X10_132 wn_X10_isLevel ws_X10_isLevel wi_X10 wc_X10_isLevel) rfl rfl rfl hd_X10_isLevel ⟨Nat.le_of_ble_eq_true rfl, Nat.le_of_ble_eq_true rfl⟩) (zp_V hK hP hD hS hA hG (ci := 10) (q0 := 0) rfl rfl rfl) rfl rfl hl.1 rfl (lv_room (Nat.le_of_ble_eq_true rfl)) dX10_hollows_2 ⟨Nat.le_of_ble_eq_true rfl, Nat.le_of_ble_eq_true rfl⟩) (fun r w1 H locs hq9 hP hD hS => ?_)
  obtain ⟨t2_1, v2_2, hv2_0, hv2_1, rfl, rfl⟩ := hq9
  have hP : va_P D vwCl (wM β δ ms mb mo mp mf mn mi mc mq mr mw mk ml t2_1 ma mx mh) H := hP
  have hD : va_D A (wM β δ ms mb mo mp mf mn mi mc mq mr mw mk ml t2_1 ma mx mh) := hD
  refine z_ifeqB (tgt := 17) hx hb dX10_hollows_5 (by decide) (fun c_5 => ?_) (fun c_5 => ?_)
  · have hb_5 := zb_neg hv2_0 c_5
    refine lv_iconst (v := zI 0) hx hb dX10_hollows_17 rfl ?_
    exact z_iret hC hr hlk hQ hP hD hS ⟨mr, t2_1, 0, (by exact hv2_1), (by first | exact fun _ => hv11_0 | (intro h9; rw [hv2_1] at h9; unfold S_tlev at h9; rw [if_neg hb_5] at h9; exact absurd h9 (by decide))), rfl, rfl⟩ dX10_hollows_18
  · have hb_5 := hv2_0.mp c_5
    refine lv_aload_n hx hb dX10_hollows_8 rfl (lv_at hl 0 rfl) ?_
    refine lv_iload_n hx hb dX10_hollows_9 rfl (lv_at hl 1 rfl) ?_
    refine lv_iconst (v := zI 0) hx hb dX10_hollows_10 rfl ?_
    refine z_calli hP hD hS hA (va_runV (As := [.int (zI lv9), .int (bI false)]) (rest := []) hC (c_X10_regionsOf l D τ β δ ms mb mo mp mf mn mi mc mq mr mw mk ml t2_1 ma mx mh lv9 false (by exact hb_5) (by first | assumption | rfl | omega) _) (cwV 2 hts (gV hB wl_X10_181 wn_X10_regionsOf ws_X10_regionsOf wi_X10 wc_X10_regionsOf) rfl rfl rfl hd_X10_regionsOf ⟨Nat.le_of_ble_eq_true rfl, Nat.le_of_ble_eq_true rfl⟩) (zp_V hK hP hD hS hA hG (ci := 10) (q0 := 0) rfl rfl rfl) rfl rfl hl.1 rfl (lv_room (Nat.le_of_ble_eq_true rfl)) dX10_hollows_11 ⟨Nat.le_of_ble_eq_true rfl, Nat.le_of_ble_eq_true rfl⟩) (fun r w1 H locs hq9 hP hD hS => ?_)
    obtain ⟨r11_3, v11_4, hv11_0, hv11_1, rfl, rfl⟩ := hq9
    have hP : va_P D vwCl (wM β δ ms mb mo mp mf mn mi mc mq r11_3 mw mk ml t2_1 ma mx mh) H := hP
    have hD : va_D A (wM β δ ms mb mo mp mf mn mi mc mq r11_3 mw mk ml t2_1 ma mx mh) := hD
    refine lv_goto (tgt := 18) hx hb dX10_hollows_14 (by decide) ?_
    exact z_iret hC hr hlk hQ hP hD hS ⟨r11_3, t2_1, v11_4, (by exact hv2_1), (by first | exact fun _ => hv11_0 | (intro h9; rw [hv2_1] at h9; unfold S_tlev at h9; rw [if_neg hb_5] at h9; exact absurd h9 (by decide))), rfl, rfl⟩ dX10_hollows_18

abbrev wz_X10_floods : List Cond := .code yX10_floods cX10_floods 6 none :: W0
abbrev rm_X10_floods : Room := { frames := 3, cells := 0, slots := 0, locals := 66 }
theorem hd_X10_floods : yX10_floods.cls = RX10 ∧ yX10_floods.cls ≠ "java/lang/invoke/MethodHandle" ∧ yX10_floods.cls ≠ "java/lang/invoke/VarHandle" ∧ (parseMethodDescriptor yX10_floods.desc).map (fun d => d.parameters.length) = some 0 := by decide +kernel
set_option maxHeartbeats 4000000 in
set_option maxRecDepth 100000 in
theorem c_X10_floods (l : Launch) (D : va_G) (τ : Nat → Nat) (β : Nat → Nat) (δ : Nat → ClassId) (ms : IA) (mb : IA) (mo : IA) (mp : BA) (mf : IA) (mn : IA) (mi : IA) (mc : IA) (mq : BA) (mr : IA) (mw : IA) (mk : Int) (ml : Int) (mt : Int) (ma : Int) (mx : Bool) (mh : Int64) (hms : ∀ k, 0 ≤ k → k < 49 → 0 ≤ ms k ∧ ms k ≤ 99) : cM l yX10_floods wz_X10_floods rm_X10_floods D τ (tyM δ) [.ref (β 0)] (wM β δ ms mb mo mp mf mn mi mc mq mr mw mk ml mt ma mx mh) (zQv (fun w => ∃ (w2 : IA), (∀ k, 0 ≤ k → k < 49 → w2 k = S_spill ms k) ∧ wM β δ ms mb mo mp mf mn mi mc mq mr w2 mk ml mt ma mx mh = w)) := by
  refine z_ofM (cc := cX10_floods) (maxL := 6) (ret := none) (by decide +kernel) rfl (Nat.le_of_ble_eq_true rfl) ?_
  intro pg e s m args below meth c hC hr hlk hnm hK hP A hD hG hA hS ls hl Q hQ
  have hx := hC.1
  have hb := hC.2.1
  have hml := hC.2.2.1
  have hown := hC.2.2.2.1
  have hts := hC.2.2.2.2
  have hB : ∀ w ∈ W0, w ∈ wz_X10_floods := fun _ h => List.mem_cons_of_mem _ h
  have hW0 : ∀ w ∈ W0, w.before args s = true := fun w h => hts w (hB w h)
  have hl : lv_has ls 6 [(0, .ref (β 0))] := hl
  refine lv_iconst (v := zI 0) hx hb dX10_floods_0 rfl ?_
  refine lv_istore_n (lv' := [(1, .int (zI 0)), (0, .ref (β 0))]) hx hb dX10_floods_1 rfl hl (by decide) rfl (fun ls hl => ?_)
  suffices HL_2 : ∀ (n_2 : Nat), ∀ (w1 : IA) (i : Int) (H : Heap) (locs : List Loc) (hP : va_P D vwCl (wM β δ ms mb mo mp mf mn mi mc mq mr w1 mk ml mt ma mx mh) H) (hD : va_D A (wM β δ ms mb mo mp mf mn mi mc mq mr w1 mk ml mt ma mx mh)) (hS : va_S A s.heap H locs) (ls : Array Slot) (hl : lv_has ls 6 [(1, .int (zI i)), (0, .ref (β 0))]) (hi : 0 ≤ i ∧ i ≤ 49) (hw1 : ∀ k, 0 ≤ k → k < i → w1 k = (if cb (S_bd k) = true then ms k else 99)) (hm : (49 - i).toNat < n_2), W pg l e rm_X10_floods s m args below meth c H locs 0 0 Q (F0 m 2 ls []) from HL_2 _ mw 0 _ _ hP hD hS _ (lv_sub hl [0, 1] rfl) (by first | assumption | rfl | omega) (by intro k z1 z2; omega) (Nat.lt_succ_self _)
  intro n_2
  induction n_2 with
  | zero => intro w1 i H locs hP hD hS ls hl hi hw1 hm; exact absurd hm (Nat.not_lt_zero _)
  | succ n_2 ih_2 =>
    intro w1 i H locs hP hD hS ls hl hi hw1 hm
    refine lv_iload_n hx hb dX10_floods_2 rfl (lv_at hl 0 rfl) ?_
    refine lv_bipush (v := zI 49) hx hb dX10_floods_3 (zI_b8 (by decide)) ?_
    refine z_icge (tgt := 38) hx hb ⟨by omega, by omega⟩ ⟨by omega, by omega⟩ dX10_floods_5 (by decide) (fun c_5 => ?_) (fun c_5 => ?_)
    · refine lv_iconst (v := zI 1) hx hb dX10_floods_38 rfl ?_
      refine lv_istore_n (lv' := [(1, .int (zI 1)), (0, .ref (β 0))]) hx hb dX10_floods_39 rfl hl (by decide) rfl (fun ls hl => ?_)
      suffices HL_40 : ∀ (n_40 : Nat), ∀ (w3 : IA) (c8 : Int) (H : Heap) (locs : List Loc) (hP : va_P D vwCl (wM β δ ms mb mo mp mf mn mi mc mq mr w3 mk ml mt ma mx mh) H) (hD : va_D A (wM β δ ms mb mo mp mf mn mi mc mq mr w3 mk ml mt ma mx mh)) (hS : va_S A s.heap H locs) (ls : Array Slot) (hl : lv_has ls 6 [(1, .int (zI c8)), (0, .ref (β 0))]) (hc8 : c8 = 0 ∨ c8 = 1) (hI : WI ms w3) (hO : c8 = 0 → ∀ k, 0 ≤ k → k < 49 → WX ms w3 k) (hm : (2 * zS w3 49 + c8).toNat < n_40), W pg l e rm_X10_floods s m args below meth c H locs 0 0 Q (F0 m 40 ls []) from HL_40 _ w1 1 _ _ hP hD hS _ (lv_sub hl [0, 1] rfl) (by first | assumption | rfl | omega) (by exact WI_0 hms (fun k z1 z2 => hw1 k z1 (by omega))) (by intro h9; exact absurd h9 (by decide)) (Nat.lt_succ_self _)
      intro n_40
      induction n_40 with
      | zero => intro w3 c8 H locs hP hD hS ls hl hc8 hI hO hm; exact absurd hm (Nat.not_lt_zero _)
      | succ n_40 ih_40 =>
        intro w3 c8 H locs hP hD hS ls hl hc8 hI hO hm
        refine lv_iload_n hx hb dX10_floods_40 rfl (lv_at hl 0 rfl) ?_
        refine z_ifeq (tgt := 140) hx hb ⟨by omega, by omega⟩ dX10_floods_41 (by decide) (fun c_41 => ?_) (fun c_41 => ?_)
        · exact z_vret hC hr hlk hQ hP hD hS ⟨w3, (by exact WI_end hms hI (hO (by omega))), rfl⟩ dX10_floods_140
        · refine lv_iconst (v := zI 0) hx hb dX10_floods_44 rfl ?_
          refine lv_istore_n (lv' := [(1, .int (zI 0)), (0, .ref (β 0))]) hx hb dX10_floods_45 rfl hl (by decide) rfl (fun ls hl => ?_)
          refine lv_iconst (v := zI 0) hx hb dX10_floods_46 rfl ?_
          refine lv_istore_n (lv' := [(2, .int (zI 0)), (1, .int (zI 0)), (0, .ref (β 0))]) hx hb dX10_floods_47 rfl hl (by decide) rfl (fun ls hl => ?_)
          suffices HL_48 : ∀ (n_48 : Nat), ∀ (w4 : IA) (c9 : Int) (i : Int) (H : Heap) (locs : List Loc) (hP : va_P D vwCl (wM β δ ms mb mo mp mf mn mi mc mq mr w4 mk ml mt ma mx mh) H) (hD : va_D A (wM β δ ms mb mo mp mf mn mi mc mq mr w4 mk ml mt ma mx mh)) (hS : va_S A s.heap H locs) (ls : Array Slot) (hl : lv_has ls 6 [(1, .int (zI c9)), (2, .int (zI i)), (0, .ref (β 0))]) (hi : 0 ≤ i ∧ i ≤ 49) (hc9 : c9 = 0 ∨ c9 = 1) (hI4 : WI ms w4) (hs4 : zS w4 49 ≤ zS w3 49 - c9) (hO4 : c9 = 0 → ∀ k, 0 ≤ k → k < i → WX ms w4 k) (hm : (49 - i).toNat < n_48), W pg l e rm_X10_floods s m args below meth c H locs 0 0 Q (F0 m 48 ls []) from HL_48 _ w3 0 0 _ _ hP hD hS _ (lv_sub hl [1, 0, 2] rfl) (by first | assumption | rfl | omega) (by first | assumption | rfl | omega) (by exact hI) (by first | assumption | rfl | omega) (by intro _ k z1 z2; omega) (Nat.lt_succ_self _)
          intro n_48
          induction n_48 with
          | zero => intro w4 c9 i H locs hP hD hS ls hl hi hc9 hI4 hs4 hO4 hm; exact absurd hm (Nat.not_lt_zero _)
          | succ n_48 ih_48 =>
            intro w4 c9 i H locs hP hD hS ls hl hi hc9 hI4 hs4 hO4 hm
            refine lv_iload_n hx hb dX10_floods_48 rfl (lv_at hl 1 rfl) ?_
            refine lv_bipush (v := zI 49) hx hb dX10_floods_49 (zI_b8 (by decide)) ?_
            refine z_icge (tgt := 137) hx hb ⟨by omega, by omega⟩ ⟨by omega, by omega⟩ dX10_floods_51 (by decide) (fun c_51 => ?_) (fun c_51 => ?_)
            · refine lv_goto (tgt := 40) hx hb dX10_floods_137 (by decide) ?_
              exact ih_40 w4 c9 _ _ hP hD hS _ (lv_sub hl [0, 2] rfl) (by exact hc9) (by exact hI4) (by intro h9 k z1 z2; exact hO4 h9 k z1 (by omega)) (by have z8 := WI_sum hms hI; have z9 := WI_sum hms hI4; omega)
            · refine lv_iconst (v := zI 0) hx hb dX10_floods_54 rfl ?_
              refine lv_istore_n (lv' := [(3, .int (zI 0)), (1, .int (zI c9)), (2, .int (zI i)), (0, .ref (β 0))]) hx hb dX10_floods_55 rfl hl (by decide) rfl (fun ls hl => ?_)
              suffices HL_56 : ∀ (n_56 : Nat), ∀ (w5 : IA) (c7 : Int) (w : Int) (H : Heap) (locs : List Loc) (hP : va_P D vwCl (wM β δ ms mb mo mp mf mn mi mc mq mr w5 mk ml mt ma mx mh) H) (hD : va_D A (wM β δ ms mb mo mp mf mn mi mc mq mr w5 mk ml mt ma mx mh)) (hS : va_S A s.heap H locs) (ls : Array Slot) (hl : lv_has ls 6 [(1, .int (zI c7)), (3, .int (zI w)), (2, .int (zI i)), (0, .ref (β 0))]) (hw : 0 ≤ w ∧ w ≤ 4) (hc7 : c7 = 0 ∨ c7 = 1) (hI5 : WI ms w5) (hs5 : zS w5 49 ≤ zS w3 49 - c7) (hO5 : c7 = 0 → (∀ k, 0 ≤ k → k < i → WX ms w5 k) ∧ (∀ s, 0 ≤ s → s < w → 0 ≤ S_step i s → w5 i ≤ zmax (ms i) (w5 (S_step i s)))) (hm : (4 - w).toNat < n_56), W pg l e rm_X10_floods s m args below meth c H locs 0 0 Q (F0 m 56 ls []) from HL_56 _ w4 c9 0 _ _ hP hD hS _ (lv_sub hl [1, 0, 2, 3] rfl) (by first | assumption | rfl | omega) (by exact hc9) (by exact hI4) (by exact hs4) (by intro h9; exact ⟨hO4 h9, fun s z1 z2 => by omega⟩) (Nat.lt_succ_self _)
              intro n_56
              induction n_56 with
              | zero => intro w5 c7 w H locs hP hD hS ls hl hw hc7 hI5 hs5 hO5 hm; exact absurd hm (Nat.not_lt_zero _)
              | succ n_56 ih_56 =>
                intro w5 c7 w H locs hP hD hS ls hl hw hc7 hI5 hs5 hO5 hm
                have hwr := WI_b hms hI5
                refine lv_iload_n hx hb dX10_floods_56 rfl (lv_at hl 1 rfl) ?_
                refine lv_iconst (v := zI 4) hx hb dX10_floods_57 rfl ?_
                refine z_icge (tgt := 131) hx hb ⟨by omega, by omega⟩ ⟨by omega, by omega⟩ dX10_floods_58 (by decide) (fun c_58 => ?_) (fun c_58 => ?_)
                · refine z_iinc (k := 2) (v := i + 1) (lv' := [(2, .int (zI (i + 1))), (1, .int (zI c7)), (3, .int (zI w)), (0, .ref (β 0))]) hx hb dX10_floods_131 hl rfl rfl (by decide) rfl (fun ls hl => ?_)
                  refine lv_goto (tgt := 48) hx hb dX10_floods_134 (by decide) ?_
                  exact ih_48 w5 c7 (i + 1) _ _ hP hD hS _ (lv_sub hl [1, 0, 3] rfl) (by first | assumption | rfl | omega) (by exact hc7) (by exact hI5) (by exact hs5) (by intro h9 k z1 z2; by_cases e9 : k = i; (focus (rw [e9]; first | exact WX_bd hI5 ⟨hi.1, by omega⟩ hb_65 | exact WX_in ⟨hi.1, by omega⟩ (fun s z3 z4 z5 => (hO5 h9).2 s z3 (by omega) z5))); exact (hO5 h9).1 k z1 (by omega)) (by omega)
                · refine lv_iload_n hx hb dX10_floods_61 rfl (lv_at hl 2 rfl) ?_
                  refine z_calli hP hD hS hA (va_runS (As := [.int (zI i)]) (rest := []) hC (c_X10_isBorder l D τ _ _ i (by first | assumption | rfl | omega) _) (va_cwS 1 hts (gS hB wl_X10_202 wt_X10_isBorder wi_X10 wc_X10_isBorder) rfl rfl rfl hd_X10_isBorder.2 ⟨Nat.le_of_ble_eq_true rfl, Nat.le_of_ble_eq_true rfl⟩) (zp_S hK hP hD hS hA hG) rfl rfl hl.1 rfl (lv_room (Nat.le_of_ble_eq_true rfl)) dX10_floods_62 ⟨Nat.le_of_ble_eq_true rfl, Nat.le_of_ble_eq_true rfl⟩) (fun r w1 H locs hq9 hP hD hS => ?_)
                  obtain ⟨v62_1, hv62_0, rfl, rfl⟩ := hq9
                  refine z_ifneB (tgt := 131) hx hb dX10_floods_65 (by decide) (fun c_65 => ?_) (fun c_65 => ?_)
                  · have hb_65 := hv62_0.mp c_65
                    refine z_iinc (k := 2) (v := i + 1) (lv' := [(2, .int (zI (i + 1))), (1, .int (zI c7)), (3, .int (zI w)), (0, .ref (β 0))]) hx hb dX10_floods_131 hl rfl rfl (by decide) rfl (fun ls hl => ?_)
                    refine lv_goto (tgt := 48) hx hb dX10_floods_134 (by decide) ?_
                    exact ih_48 w5 c7 (i + 1) _ _ hP hD hS _ (lv_sub hl [1, 0, 3] rfl) (by first | assumption | rfl | omega) (by exact hc7) (by exact hI5) (by exact hs5) (by intro h9 k z1 z2; by_cases e9 : k = i; (focus (rw [e9]; first | exact WX_bd hI5 ⟨hi.1, by omega⟩ hb_65 | exact WX_in ⟨hi.1, by omega⟩ (fun s z3 z4 z5 => (hO5 h9).2 s z3 (by omega) z5))); exact (hO5 h9).1 k z1 (by omega)) (by omega)
                  · have hb_65 := zb_neg hv62_0 c_65
                    refine lv_aload_n hx hb dX10_floods_68 rfl (lv_at hl 3 rfl) ?_
                    refine va_get (D := D) (ci := 10) (v := .ref (β 11)) (C := RX10) (T := TX10) (N := 17) hx hb hts (fun w h => List.mem_cons_of_mem _ (wx_X10 w h)) hown hK hP 0 rfl rfl 15 (by decide) (hW0 _ wf_X10_41) (fun _ h9 => h9) rfl dX10_floods_69 ?_
                    refine lv_iload_n hx hb dX10_floods_72 rfl (lv_at hl 2 rfl) ?_
                    refine lv_iload_n hx hb dX10_floods_73 rfl (lv_at hl 1 rfl) ?_
                    refine z_calli hP hD hS hA (va_runS (As := [.int (zI i), .int (zI w)]) (rest := [.ref (β 11)]) hC (c_X10_next l D τ _ _ i w (by first | assumption | rfl | omega) (by first | assumption | rfl | omega) _) (va_cwS 2 hts (gS hB wl_X10_70 wt_X10_next wi_X10 wc_X10_next) rfl rfl rfl hd_X10_next.2 ⟨Nat.le_of_ble_eq_true rfl, Nat.le_of_ble_eq_true rfl⟩) (zp_S hK hP hD hS hA hG) rfl rfl hl.1 rfl (lv_room (Nat.le_of_ble_eq_true rfl)) dX10_floods_74 ⟨Nat.le_of_ble_eq_true rfl, Nat.le_of_ble_eq_true rfl⟩) (fun r w1 H locs hq9 hP hD hS => ?_)
                    obtain ⟨v74_2, hv74_0, hv74_1, rfl, rfl⟩ := hq9
                    have hnx : 0 ≤ S_step i w := S_step_nb ⟨hi.1, by omega⟩ hb_65 ⟨hw.1, by omega⟩
                    refine z_iald (f := w5) hx hb hK hP 11 10 rfl rfl ⟨⟨by omega, by omega⟩, by decide⟩ dX10_floods_77 ?_
                    have hb_77 := hwr v74_2 (by omega) (by omega)
                    refine lv_istore (lv' := [(4, .int (zI (w5 v74_2))), (1, .int (zI c7)), (3, .int (zI w)), (2, .int (zI i)), (0, .ref (β 0))]) hx hb dX10_floods_78 hl (by decide) rfl (fun ls hl => ?_)
                    refine lv_iload hx hb dX10_floods_80 (lv_at hl 0 rfl) ?_
                    refine lv_aload_n hx hb dX10_floods_82 rfl (lv_at hl 4 rfl) ?_
                    refine va_get (D := D) (ci := 10) (v := .ref (β 1)) (C := RX10) (T := TX10) (N := 17) hx hb hts (fun w h => List.mem_cons_of_mem _ (wx_X10 w h)) hown hK hP 0 rfl rfl 0 (by decide) (hW0 _ wf_X10_7) (fun _ h9 => h9) rfl dX10_floods_83 ?_
                    refine lv_iload_n hx hb dX10_floods_86 rfl (lv_at hl 3 rfl) ?_
                    refine z_iald (f := ms) hx hb hK hP 1 0 rfl rfl ⟨⟨by omega, by omega⟩, by decide⟩ dX10_floods_87 ?_
                    have hb_87 := hms i (by omega) (by omega)
                    refine z_icle (tgt := 96) hx hb ⟨by omega, by omega⟩ ⟨by omega, by omega⟩ dX10_floods_88 (by decide) (fun c_88 => ?_) (fun c_88 => ?_)
                    · refine lv_aload_n hx hb dX10_floods_96 rfl (lv_at hl 4 rfl) ?_
                      refine va_get (D := D) (ci := 10) (v := .ref (β 1)) (C := RX10) (T := TX10) (N := 17) hx hb hts (fun w h => List.mem_cons_of_mem _ (wx_X10 w h)) hown hK hP 0 rfl rfl 0 (by decide) (hW0 _ wf_X10_7) (fun _ h9 => h9) rfl dX10_floods_97 ?_
                      refine lv_iload_n hx hb dX10_floods_100 rfl (lv_at hl 3 rfl) ?_
                      refine z_iald (f := ms) hx hb hK hP 1 0 rfl rfl ⟨⟨by omega, by omega⟩, by decide⟩ dX10_floods_101 ?_
                      have hb_101 := hms i (by omega) (by omega)
                      refine lv_istore (lv' := [(5, .int (zI (ms i))), (4, .int (zI (w5 v74_2))), (1, .int (zI c7)), (3, .int (zI w)), (2, .int (zI i)), (0, .ref (β 0))]) hx hb dX10_floods_102 hl (by decide) rfl (fun ls hl => ?_)
                      have hzz : (ms i) = zmax (ms i) (w5 (S_step i w)) := by rw [← hv74_0]; unfold zmax; first | (rw [if_pos c_88]; done) | (rw [if_neg (by omega)]; done)
                      refine lv_iload hx hb dX10_floods_104 (lv_at hl 0 rfl) ?_
                      refine lv_aload_n hx hb dX10_floods_106 rfl (lv_at hl 5 rfl) ?_
                      refine va_get (D := D) (ci := 10) (v := .ref (β 11)) (C := RX10) (T := TX10) (N := 17) hx hb hts (fun w h => List.mem_cons_of_mem _ (wx_X10 w h)) hown hK hP 0 rfl rfl 15 (by decide) (hW0 _ wf_X10_41) (fun _ h9 => h9) rfl dX10_floods_107 ?_
                      refine lv_iload_n hx hb dX10_floods_110 rfl (lv_at hl 4 rfl) ?_
                      refine z_iald (f := w5) hx hb hK hP 11 10 rfl rfl ⟨⟨by omega, by omega⟩, by decide⟩ dX10_floods_111 ?_
                      have hb_111 := hwr i (by omega) (by omega)
                      refine z_icge (tgt := 125) hx hb ⟨by omega, by omega⟩ ⟨by omega, by omega⟩ dX10_floods_112 (by decide) (fun c_112 => ?_) (fun c_112 => ?_)
                      · refine z_iinc (k := 3) (v := w + 1) (lv' := [(3, .int (zI (w + 1))), (5, .int (zI (ms i))), (4, .int (zI (w5 v74_2))), (1, .int (zI c7)), (2, .int (zI i)), (0, .ref (β 0))]) hx hb dX10_floods_125 hl rfl rfl (by decide) rfl (fun ls hl => ?_)
                        refine lv_goto (tgt := 56) hx hb dX10_floods_128 (by decide) ?_
                        exact ih_56 w5 c7 (w + 1) _ _ hP hD hS _ (lv_sub hl [3, 0, 4, 5] rfl) (by first | assumption | rfl | omega) (by first | assumption | rfl | omega) (by first | exact hI5 | exact WI_put hI5 ⟨hi.1, by omega⟩ ⟨hw.1, by omega⟩ hb_65 hnx hzz (by omega)) (by first | exact hs5 | (rw [zS_set hi.1 49 (by omega), if_pos (by omega)]; omega)) (by first | (intro h9; exact absurd h9 (by decide)) | (intro h9; refine ⟨(hO5 h9).1, fun s z1 z2 z3 => ?_⟩; by_cases e9 : s = w; (focus (rw [e9, ← hzz]; omega)); exact (hO5 h9).2 s z1 (by omega) z3)) (by omega)
                      · refine lv_aload_n hx hb dX10_floods_115 rfl (lv_at hl 5 rfl) ?_
                        refine va_get (D := D) (ci := 10) (v := .ref (β 11)) (C := RX10) (T := TX10) (N := 17) hx hb hts (fun w h => List.mem_cons_of_mem _ (wx_X10 w h)) hown hK hP 0 rfl rfl 15 (by decide) (hW0 _ wf_X10_41) (fun _ h9 => h9) rfl dX10_floods_116 ?_
                        refine lv_iload_n hx hb dX10_floods_119 rfl (lv_at hl 4 rfl) ?_
                        refine lv_iload hx hb dX10_floods_120 (lv_at hl 0 rfl) ?_
                        refine z_iast (f := w5) (v := ms i) hx hb hK hP hD hS 11 10 rfl rfl ⟨⟨by omega, by omega⟩, by decide⟩ dX10_floods_122 (fun H locs hP hD hS => ?_)
                        have hP : va_P D vwCl (wM β δ ms mb mo mp mf mn mi mc mq mr ((zu w5 i (ms i))) mk ml mt ma mx mh) H := hP
                        have hD : va_D A (wM β δ ms mb mo mp mf mn mi mc mq mr ((zu w5 i (ms i))) mk ml mt ma mx mh) := hD
                        refine lv_iconst (v := zI 1) hx hb dX10_floods_123 rfl ?_
                        refine lv_istore_n (lv' := [(1, .int (zI 1)), (5, .int (zI (ms i))), (4, .int (zI (w5 v74_2))), (3, .int (zI w)), (2, .int (zI i)), (0, .ref (β 0))]) hx hb dX10_floods_124 rfl hl (by decide) rfl (fun ls hl => ?_)
                        refine z_iinc (k := 3) (v := w + 1) (lv' := [(3, .int (zI (w + 1))), (1, .int (zI 1)), (5, .int (zI (ms i))), (4, .int (zI (w5 v74_2))), (2, .int (zI i)), (0, .ref (β 0))]) hx hb dX10_floods_125 hl rfl rfl (by decide) rfl (fun ls hl => ?_)
                        refine lv_goto (tgt := 56) hx hb dX10_floods_128 (by decide) ?_
                        exact ih_56 (zu w5 i (ms i)) 1 (w + 1) _ _ hP hD hS _ (lv_sub hl [1, 0, 4, 5] rfl) (by first | assumption | rfl | omega) (by first | assumption | rfl | omega) (by first | exact hI5 | exact WI_put hI5 ⟨hi.1, by omega⟩ ⟨hw.1, by omega⟩ hb_65 hnx hzz (by omega)) (by first | exact hs5 | (rw [zS_set hi.1 49 (by omega), if_pos (by omega)]; omega)) (by first | (intro h9; exact absurd h9 (by decide)) | (intro h9; refine ⟨(hO5 h9).1, fun s z1 z2 z3 => ?_⟩; by_cases e9 : s = w; (focus (rw [e9, ← hzz]; omega)); exact (hO5 h9).2 s z1 (by omega) z3)) (by omega)
                    · refine lv_iload hx hb dX10_floods_91 (lv_at hl 0 rfl) ?_
                      refine lv_goto (tgt := 102) hx hb dX10_floods_93 (by decide) ?_
                      refine lv_istore (lv' := [(5, .int (zI (w5 v74_2))), (4, .int (zI (w5 v74_2))), (1, .int (zI c7)), (3, .int (zI w)), (2, .int (zI i)), (0, .ref (β 0))]) hx hb dX10_floods_102 hl (by decide) rfl (fun ls hl => ?_)
                      have hzz : (w5 v74_2) = zmax (ms i) (w5 (S_step i w)) := by rw [← hv74_0]; unfold zmax; first | (rw [if_pos c_88]; done) | (rw [if_neg (by omega)]; done)
                      refine lv_iload hx hb dX10_floods_104 (lv_at hl 0 rfl) ?_
                      refine lv_aload_n hx hb dX10_floods_106 rfl (lv_at hl 5 rfl) ?_
                      refine va_get (D := D) (ci := 10) (v := .ref (β 11)) (C := RX10) (T := TX10) (N := 17) hx hb hts (fun w h => List.mem_cons_of_mem _ (wx_X10 w h)) hown hK hP 0 rfl rfl 15 (by decide) (hW0 _ wf_X10_41) (fun _ h9 => h9) rfl dX10_floods_107 ?_
                      refine lv_iload_n hx hb dX10_floods_110 rfl (lv_at hl 4 rfl) ?_
                      refine z_iald (f := w5) hx hb hK hP 11 10 rfl rfl ⟨⟨by omega, by omega⟩, by decide⟩ dX10_floods_111 ?_
                      have hb_111 := hwr i (by omega) (by omega)
                      refine z_icge (tgt := 125) hx hb ⟨by omega, by omega⟩ ⟨by omega, by omega⟩ dX10_floods_112 (by decide) (fun c_112 => ?_) (fun c_112 => ?_)
                      · refine z_iinc (k := 3) (v := w + 1) (lv' := [(3, .int (zI (w + 1))), (5, .int (zI (w5 v74_2))), (4, .int (zI (w5 v74_2))), (1, .int (zI c7)), (2, .int (zI i)), (0, .ref (β 0))]) hx hb dX10_floods_125 hl rfl rfl (by decide) rfl (fun ls hl => ?_)
                        refine lv_goto (tgt := 56) hx hb dX10_floods_128 (by decide) ?_
                        exact ih_56 w5 c7 (w + 1) _ _ hP hD hS _ (lv_sub hl [3, 0, 4, 5] rfl) (by first | assumption | rfl | omega) (by first | assumption | rfl | omega) (by first | exact hI5 | exact WI_put hI5 ⟨hi.1, by omega⟩ ⟨hw.1, by omega⟩ hb_65 hnx hzz (by omega)) (by first | exact hs5 | (rw [zS_set hi.1 49 (by omega), if_pos (by omega)]; omega)) (by first | (intro h9; exact absurd h9 (by decide)) | (intro h9; refine ⟨(hO5 h9).1, fun s z1 z2 z3 => ?_⟩; by_cases e9 : s = w; (focus (rw [e9, ← hzz]; omega)); exact (hO5 h9).2 s z1 (by omega) z3)) (by omega)
                      · refine lv_aload_n hx hb dX10_floods_115 rfl (lv_at hl 5 rfl) ?_
                        refine va_get (D := D) (ci := 10) (v := .ref (β 11)) (C := RX10) (T := TX10) (N := 17) hx hb hts (fun w h => List.mem_cons_of_mem _ (wx_X10 w h)) hown hK hP 0 rfl rfl 15 (by decide) (hW0 _ wf_X10_41) (fun _ h9 => h9) rfl dX10_floods_116 ?_
                        refine lv_iload_n hx hb dX10_floods_119 rfl (lv_at hl 4 rfl) ?_
                        refine lv_iload hx hb dX10_floods_120 (lv_at hl 0 rfl) ?_
                        refine z_iast (f := w5) (v := w5 v74_2) hx hb hK hP hD hS 11 10 rfl rfl ⟨⟨by omega, by omega⟩, by decide⟩ dX10_floods_122 (fun H locs hP hD hS => ?_)
                        have hP : va_P D vwCl (wM β δ ms mb mo mp mf mn mi mc mq mr ((zu w5 i (w5 v74_2))) mk ml mt ma mx mh) H := hP
                        have hD : va_D A (wM β δ ms mb mo mp mf mn mi mc mq mr ((zu w5 i (w5 v74_2))) mk ml mt ma mx mh) := hD
                        refine lv_iconst (v := zI 1) hx hb dX10_floods_123 rfl ?_
                        refine lv_istore_n (lv' := [(1, .int (zI 1)), (5, .int (zI (w5 v74_2))), (4, .int (zI (w5 v74_2))), (3, .int (zI w)), (2, .int (zI i)), (0, .ref (β 0))]) hx hb dX10_floods_124 rfl hl (by decide) rfl (fun ls hl => ?_)
                        refine z_iinc (k := 3) (v := w + 1) (lv' := [(3, .int (zI (w + 1))), (1, .int (zI 1)), (5, .int (zI (w5 v74_2))), (4, .int (zI (w5 v74_2))), (2, .int (zI i)), (0, .ref (β 0))]) hx hb dX10_floods_125 hl rfl rfl (by decide) rfl (fun ls hl => ?_)
                        refine lv_goto (tgt := 56) hx hb dX10_floods_128 (by decide) ?_
                        exact ih_56 (zu w5 i (w5 v74_2)) 1 (w + 1) _ _ hP hD hS _ (lv_sub hl [1, 0, 4, 5] rfl) (by first | assumption | rfl | omega) (by first | assumption | rfl | omega) (by first | exact hI5 | exact WI_put hI5 ⟨hi.1, by omega⟩ ⟨hw.1, by omega⟩ hb_65 hnx hzz (by omega)) (by first | exact hs5 | (rw [zS_set hi.1 49 (by omega), if_pos (by omega)]; omega)) (by first | (intro h9; exact absurd h9 (by decide)) | (intro h9; refine ⟨(hO5 h9).1, fun s z1 z2 z3 => ?_⟩; by_cases e9 : s = w; (focus (rw [e9, ← hzz]; omega)); exact (hO5 h9).2 s z1 (by omega) z3)) (by omega)
    · refine lv_aload_n hx hb dX10_floods_8 rfl (lv_at hl 1 rfl) ?_
      refine va_get (D := D) (ci := 10) (v := .ref (β 11)) (C := RX10) (T := TX10) (N := 17) hx hb hts (fun w h => List.mem_cons_of_mem _ (wx_X10 w h)) hown hK hP 0 rfl rfl 15 (by decide) (hW0 _ wf_X10_41) (fun _ h9 => h9) rfl dX10_floods_9 ?_
      refine lv_iload_n hx hb dX10_floods_12 rfl (lv_at hl 0 rfl) ?_
      refine lv_iload_n hx hb dX10_floods_13 rfl (lv_at hl 0 rfl) ?_
      refine z_calli hP hD hS hA (va_runS (As := [.int (zI i)]) (rest := [.int (zI i), .ref (β 11)]) hC (c_X10_isBorder l D τ _ _ i (by first | assumption | rfl | omega) _) (va_cwS 1 hts (gS hB wl_X10_202 wt_X10_isBorder wi_X10 wc_X10_isBorder) rfl rfl rfl hd_X10_isBorder.2 ⟨Nat.le_of_ble_eq_true rfl, Nat.le_of_ble_eq_true rfl⟩) (zp_S hK hP hD hS hA hG) rfl rfl hl.1 rfl (lv_room (Nat.le_of_ble_eq_true rfl)) dX10_floods_14 ⟨Nat.le_of_ble_eq_true rfl, Nat.le_of_ble_eq_true rfl⟩) (fun r w1 H locs hq9 hP hD hS => ?_)
      obtain ⟨v14_3, hv14_0, rfl, rfl⟩ := hq9
      refine z_ifeqB (tgt := 29) hx hb dX10_floods_17 (by decide) (fun c_17 => ?_) (fun c_17 => ?_)
      · have hb_17 := zb_neg hv14_0 c_17
        refine lv_bipush (v := zI 99) hx hb dX10_floods_29 (zI_b8 (by decide)) ?_
        refine z_iast (f := w1) (v := 99) hx hb hK hP hD hS 11 10 rfl rfl ⟨⟨by omega, by omega⟩, by decide⟩ dX10_floods_31 (fun H locs hP hD hS => ?_)
        have hP : va_P D vwCl (wM β δ ms mb mo mp mf mn mi mc mq mr (zu w1 i 99) mk ml mt ma mx mh) H := hP
        have hD : va_D A (wM β δ ms mb mo mp mf mn mi mc mq mr (zu w1 i 99) mk ml mt ma mx mh) := hD
        refine z_iinc (k := 0) (v := i + 1) (lv' := [(1, .int (zI (i + 1))), (0, .ref (β 0))]) hx hb dX10_floods_32 hl rfl rfl (by decide) rfl (fun ls hl => ?_)
        refine lv_goto (tgt := 2) hx hb dX10_floods_35 (by decide) ?_
        exact ih_2 (zu w1 i 99) (i + 1) _ _ hP hD hS _ (lv_sub hl [0, 1] rfl) (by first | assumption | rfl | omega) (by intro k z1 z2; by_cases e9 : k = i; (focus (rw [e9, zu_s]; first | (rw [if_pos (cb_iff.mpr (show S_bd i from hb_17))]; done) | (rw [if_neg (by rw [cb_f.mpr (show ¬ S_bd i from hb_17)]; decide)]; done))); (rw [zu_n e9]; exact hw1 k z1 (by omega))) (by omega)
      · have hb_17 := hv14_0.mp c_17
        refine lv_aload_n hx hb dX10_floods_20 rfl (lv_at hl 1 rfl) ?_
        refine va_get (D := D) (ci := 10) (v := .ref (β 1)) (C := RX10) (T := TX10) (N := 17) hx hb hts (fun w h => List.mem_cons_of_mem _ (wx_X10 w h)) hown hK hP 0 rfl rfl 0 (by decide) (hW0 _ wf_X10_7) (fun _ h9 => h9) rfl dX10_floods_21 ?_
        refine lv_iload_n hx hb dX10_floods_24 rfl (lv_at hl 0 rfl) ?_
        refine z_iald (f := ms) hx hb hK hP 1 0 rfl rfl ⟨⟨by omega, by omega⟩, by decide⟩ dX10_floods_25 ?_
        have hb_25 := hms i (by omega) (by omega)
        refine lv_goto (tgt := 31) hx hb dX10_floods_26 (by decide) ?_
        refine z_iast (f := w1) (v := ms i) hx hb hK hP hD hS 11 10 rfl rfl ⟨⟨by omega, by omega⟩, by decide⟩ dX10_floods_31 (fun H locs hP hD hS => ?_)
        have hP : va_P D vwCl (wM β δ ms mb mo mp mf mn mi mc mq mr ((zu w1 i (ms i))) mk ml mt ma mx mh) H := hP
        have hD : va_D A (wM β δ ms mb mo mp mf mn mi mc mq mr ((zu w1 i (ms i))) mk ml mt ma mx mh) := hD
        refine z_iinc (k := 0) (v := i + 1) (lv' := [(1, .int (zI (i + 1))), (0, .ref (β 0))]) hx hb dX10_floods_32 hl rfl rfl (by decide) rfl (fun ls hl => ?_)
        refine lv_goto (tgt := 2) hx hb dX10_floods_35 (by decide) ?_
        exact ih_2 (zu w1 i (ms i)) (i + 1) _ _ hP hD hS _ (lv_sub hl [0, 1] rfl) (by first | assumption | rfl | omega) (by intro k z1 z2; by_cases e9 : k = i; (focus (rw [e9, zu_s]; first | (rw [if_pos (cb_iff.mpr (show S_bd i from hb_17))]; done) | (rw [if_neg (by rw [cb_f.mpr (show ¬ S_bd i from hb_17)]; decide)]; done))); (rw [zu_n e9]; exact hw1 k z1 (by omega))) (by omega)

abbrev wz_X10_spill : List Cond := .code yX10_spill cX10_spill 3 (some .int) :: W0
abbrev rm_X10_spill : Room := { frames := 4, cells := 0, slots := 0, locals := 91 }
theorem hd_X10_spill : yX10_spill.cls = RX10 ∧ yX10_spill.cls ≠ "java/lang/invoke/MethodHandle" ∧ yX10_spill.cls ≠ "java/lang/invoke/VarHandle" ∧ (parseMethodDescriptor yX10_spill.desc).map (fun d => d.parameters.length) = some 2 := by decide +kernel
set_option maxHeartbeats 4000000 in
set_option maxRecDepth 100000 in
theorem c_X10_spill (l : Launch) (D : va_G) (τ : Nat → Nat) (β : Nat → Nat) (δ : Nat → ClassId) (ms : IA) (mb : IA) (mo : IA) (mp : BA) (mf : IA) (mn : IA) (mi : IA) (mc : IA) (mq : BA) (mr : IA) (mw : IA) (mk : Int) (ml : Int) (mt : Int) (ma : Int) (mx : Bool) (mh : Int64) (r9 : Int) (c9 : Int) (hr9 : -2147483648 ≤ r9 ∧ r9 < 2147483648) (hc9 : -2147483648 ≤ c9 ∧ c9 < 2147483648) (hms : ∀ k, 0 ≤ k → k < 49 → 0 ≤ ms k ∧ ms k ≤ 99) : cM l yX10_spill wz_X10_spill rm_X10_spill D τ (tyM δ) [.ref (β 0), .int (zI r9), .int (zI c9)] (wM β δ ms mb mo mp mf mn mi mc mq mr mw mk ml mt ma mx mh) (zQi (fun r w => ∃ (w2 : IA), ∃ (t2 : Int), ∃ (v : Int), (t2 = S_tpt r9 c9) ∧ (t2 = 0 → v = S_spill ms (7 * r9 + c9)) ∧ r = zI v ∧ wM β δ ms mb mo mp mf mn mi mc mq mr w2 mk ml t2 ma mx mh = w)) := by
  refine z_ofM (cc := cX10_spill) (maxL := 3) (ret := (some .int)) (by decide +kernel) rfl (Nat.le_of_ble_eq_true rfl) ?_
  intro pg e s m args below meth c hC hr hlk hnm hK hP A hD hG hA hS ls hl Q hQ
  have hx := hC.1
  have hb := hC.2.1
  have hml := hC.2.2.1
  have hown := hC.2.2.2.1
  have hts := hC.2.2.2.2
  have hB : ∀ w ∈ W0, w ∈ wz_X10_spill := fun _ h => List.mem_cons_of_mem _ h
  have hW0 : ∀ w ∈ W0, w.before args s = true := fun w h => hts w (hB w h)
  have hl : lv_has ls 3 [(0, .ref (β 0)), (1, .int (zI r9)), (2, .int (zI c9))] := hl
  refine lv_aload_n hx hb dX10_spill_0 rfl (lv_at hl 0 rfl) ?_
  refine lv_iload_n hx hb dX10_spill_1 rfl (lv_at hl 1 rfl) ?_
  refine lv_iload_n hx hb dX10_spill_2 rfl (lv_at hl 2 rfl) ?_
  refine z_calli hP hD hS hA (va_runV (As := [.int (zI r9), .int (zI c9)]) (rest := []) hC (c_X10_isThere l D τ β δ ms mb mo mp mf mn mi mc mq mr mw mk ml mt ma mx mh r9 c9 (by first | assumption | rfl | omega) (by first | assumption | rfl | omega) _) (cwV 2 hts (gV hB wl_X10_120 wn_X10_isThere ws_X10_isThere wi_X10 wc_X10_isThere) rfl rfl rfl hd_X10_isThere ⟨Nat.le_of_ble_eq_true rfl, Nat.le_of_ble_eq_true rfl⟩) (zp_V hK hP hD hS hA hG (ci := 10) (q0 := 0) rfl rfl rfl) rfl rfl hl.1 rfl (lv_room (Nat.le_of_ble_eq_true rfl)) dX10_spill_3 ⟨Nat.le_of_ble_eq_true rfl, Nat.le_of_ble_eq_true rfl⟩) (fun r w1 H locs hq9 hP hD hS => ?_)
  obtain ⟨t3_1, v3_2, hv3_0, hv3_1, rfl, rfl⟩ := hq9
  have hP : va_P D vwCl (wM β δ ms mb mo mp mf mn mi mc mq mr mw mk ml t3_1 ma mx mh) H := hP
  have hD : va_D A (wM β δ ms mb mo mp mf mn mi mc mq mr mw mk ml t3_1 ma mx mh) := hD
  refine z_ifneB (tgt := 11) hx hb dX10_spill_6 (by decide) (fun c_6 => ?_) (fun c_6 => ?_)
  · have hb_6 := hv3_0.mp c_6
    refine lv_aload_n hx hb dX10_spill_11 rfl (lv_at hl 0 rfl) ?_
    refine z_callv hP hD hS hA (va_runV (As := []) (rest := []) hC (c_X10_floods l D τ β δ ms mb mo mp mf mn mi mc mq mr mw mk ml t3_1 ma mx mh (by first | assumption | rfl | omega) _) (cwV 0 hts (gV hB wl_X10_205 wn_X10_floods ws_X10_floods wi_X10 wc_X10_floods) rfl rfl rfl hd_X10_floods ⟨Nat.le_of_ble_eq_true rfl, Nat.le_of_ble_eq_true rfl⟩) (zp_V hK hP hD hS hA hG (ci := 10) (q0 := 0) rfl rfl rfl) rfl rfl hl.1 rfl (lv_room (Nat.le_of_ble_eq_true rfl)) dX10_spill_12 ⟨Nat.le_of_ble_eq_true rfl, Nat.le_of_ble_eq_true rfl⟩) (fun w1 H locs hq9 hP hD hS => ?_)
    obtain ⟨w12_3, hv12_0, rfl⟩ := hq9
    have hP : va_P D vwCl (wM β δ ms mb mo mp mf mn mi mc mq mr w12_3 mk ml t3_1 ma mx mh) H := hP
    have hD : va_D A (wM β δ ms mb mo mp mf mn mi mc mq mr w12_3 mk ml t3_1 ma mx mh) := hD
    refine lv_aload_n hx hb dX10_spill_15 rfl (lv_at hl 0 rfl) ?_
    refine va_get (D := D) (ci := 10) (v := .ref (β 11)) (C := RX10) (T := TX10) (N := 17) hx hb hts (fun w h => List.mem_cons_of_mem _ (wx_X10 w h)) hown hK hP 0 rfl rfl 15 (by decide) (hW0 _ wf_X10_41) (fun _ h9 => h9) rfl dX10_spill_16 ?_
    refine lv_bipush (v := zI 7) hx hb dX10_spill_19 (zI_b8 (by decide)) ?_
    refine lv_iload_n hx hb dX10_spill_21 rfl (lv_at hl 1 rfl) ?_
    refine z_imul hx hb dX10_spill_22 ?_
    refine lv_iload_n hx hb dX10_spill_23 rfl (lv_at hl 2 rfl) ?_
    refine z_iadd hx hb dX10_spill_24 ?_
    refine z_iald (f := w12_3) hx hb hK hP 11 10 rfl rfl ⟨⟨by omega, by omega⟩, by decide⟩ dX10_spill_25 ?_
    exact z_iret hC hr hlk hQ hP hD hS ⟨w12_3, t3_1, w12_3 ((7 * r9) + c9), (by exact hv3_1), (by first | exact fun _ => hv12_0 _ (by omega) (by omega) | (intro h9; rw [hv3_1] at h9; unfold S_tpt at h9; rw [if_neg hb_6] at h9; exact absurd h9 (by decide))), rfl, rfl⟩ dX10_spill_26
  · have hb_6 := zb_neg hv3_0 c_6
    refine lv_iconst (v := zI 0) hx hb dX10_spill_9 rfl ?_
    exact z_iret hC hr hlk hQ hP hD hS ⟨mw, t3_1, 0, (by exact hv3_1), (by first | exact fun _ => hv12_0 _ (by omega) (by omega) | (intro h9; rw [hv3_1] at h9; unfold S_tpt at h9; rw [if_neg hb_6] at h9; exact absurd h9 (by decide))), rfl, rfl⟩ dX10_spill_10

abbrev wz_X10_spillByWays : List Cond := .code yX10_spillByWays cX10_spillByWays 3 (some .int) :: W0
abbrev rm_X10_spillByWays : Room := { frames := 5, cells := 0, slots := 0, locals := 113 }
theorem hd_X10_spillByWays : yX10_spillByWays.cls = RX10 ∧ yX10_spillByWays.cls ≠ "java/lang/invoke/MethodHandle" ∧ yX10_spillByWays.cls ≠ "java/lang/invoke/VarHandle" ∧ (parseMethodDescriptor yX10_spillByWays.desc).map (fun d => d.parameters.length) = some 2 := by decide +kernel
set_option maxHeartbeats 4000000 in
set_option maxRecDepth 100000 in
theorem c_X10_spillByWays (l : Launch) (D : va_G) (τ : Nat → Nat) (β : Nat → Nat) (δ : Nat → ClassId) (ms : IA) (mb : IA) (mo : IA) (mp : BA) (mf : IA) (mn : IA) (mi : IA) (mc : IA) (mq : BA) (mr : IA) (mw : IA) (mk : Int) (ml : Int) (mt : Int) (ma : Int) (mx : Bool) (mh : Int64) (r9 : Int) (c9 : Int) (hr9 : -2147483648 ≤ r9 ∧ r9 < 2147483648) (hc9 : -2147483648 ≤ c9 ∧ c9 < 2147483648) (hms : ∀ k, 0 ≤ k → k < 49 → 0 ≤ ms k ∧ ms k ≤ 99) : cM l yX10_spillByWays wz_X10_spillByWays rm_X10_spillByWays D τ (tyM δ) [.ref (β 0), .int (zI r9), .int (zI c9)] (wM β δ ms mb mo mp mf mn mi mc mq mr mw mk ml mt ma mx mh) (zQi (fun r w => ∃ (w2 : IA), ∃ (t2 : Int), ∃ (v : Int), (t2 = S_tpt r9 c9) ∧ (t2 = 0 → v = S_spill ms (7 * r9 + c9)) ∧ r = zI v ∧ wM β δ ms mb mo mp mf mn mi mc mq mr w2 mk ml t2 ma mx mh = w)) := by
  refine z_ofM (cc := cX10_spillByWays) (maxL := 3) (ret := (some .int)) (by decide +kernel) rfl (Nat.le_of_ble_eq_true rfl) ?_
  intro pg e s m args below meth c hC hr hlk hnm hK hP A hD hG hA hS ls hl Q hQ
  have hx := hC.1
  have hb := hC.2.1
  have hml := hC.2.2.1
  have hown := hC.2.2.2.1
  have hts := hC.2.2.2.2
  have hB : ∀ w ∈ W0, w ∈ wz_X10_spillByWays := fun _ h => List.mem_cons_of_mem _ h
  have hW0 : ∀ w ∈ W0, w.before args s = true := fun w h => hts w (hB w h)
  have hl : lv_has ls 3 [(0, .ref (β 0)), (1, .int (zI r9)), (2, .int (zI c9))] := hl
  refine lv_aload_n hx hb dX10_spillByWays_0 rfl (lv_at hl 0 rfl) ?_
  refine lv_iload_n hx hb dX10_spillByWays_1 rfl (lv_at hl 1 rfl) ?_
  refine lv_iload_n hx hb dX10_spillByWays_2 rfl (lv_at hl 2 rfl) ?_
  refine z_calli hP hD hS hA (va_runV (As := [.int (zI r9), .int (zI c9)]) (rest := []) hC (c_X10_spill l D τ β δ ms mb mo mp mf mn mi mc mq mr mw mk ml mt ma mx mh r9 c9 (by first | assumption | rfl | omega) (by first | assumption | rfl | omega) (by first | assumption | rfl | omega) _) (cwV 2 hts (gV hB wl_X10_208 wn_X10_spill ws_X10_spill wi_X10 wc_X10_spill) rfl rfl rfl hd_X10_spill ⟨Nat.le_of_ble_eq_true rfl, Nat.le_of_ble_eq_true rfl⟩) (zp_V hK hP hD hS hA hG (ci := 10) (q0 := 0) rfl rfl rfl) rfl rfl hl.1 rfl (lv_room (Nat.le_of_ble_eq_true rfl)) dX10_spillByWays_3 ⟨Nat.le_of_ble_eq_true rfl, Nat.le_of_ble_eq_true rfl⟩) (fun r w1 H locs hq9 hP hD hS => ?_)
  obtain ⟨w3_1, t3_2, v3_3, hv3_0, hv3_1, rfl, rfl⟩ := hq9
  have hP : va_P D vwCl (wM β δ ms mb mo mp mf mn mi mc mq mr w3_1 mk ml t3_2 ma mx mh) H := hP
  have hD : va_D A (wM β δ ms mb mo mp mf mn mi mc mq mr w3_1 mk ml t3_2 ma mx mh) := hD
  exact z_iret hC hr hlk hQ hP hD hS ⟨w3_1, t3_2, v3_3, (by first | assumption | rfl | omega), (by first | assumption | rfl | omega), rfl, rfl⟩ dX10_spillByWays_6

abbrev wz_X10_spillByLevels : List Cond := .code yX10_spillByLevels cX10_spillByLevels 3 (some .int) :: W0
abbrev rm_X10_spillByLevels : Room := { frames := 5, cells := 0, slots := 0, locals := 113 }
theorem hd_X10_spillByLevels : yX10_spillByLevels.cls = RX10 ∧ yX10_spillByLevels.cls ≠ "java/lang/invoke/MethodHandle" ∧ yX10_spillByLevels.cls ≠ "java/lang/invoke/VarHandle" ∧ (parseMethodDescriptor yX10_spillByLevels.desc).map (fun d => d.parameters.length) = some 2 := by decide +kernel
set_option maxHeartbeats 4000000 in
set_option maxRecDepth 100000 in
theorem c_X10_spillByLevels (l : Launch) (D : va_G) (τ : Nat → Nat) (β : Nat → Nat) (δ : Nat → ClassId) (ms : IA) (mb : IA) (mo : IA) (mp : BA) (mf : IA) (mn : IA) (mi : IA) (mc : IA) (mq : BA) (mr : IA) (mw : IA) (mk : Int) (ml : Int) (mt : Int) (ma : Int) (mx : Bool) (mh : Int64) (r9 : Int) (c9 : Int) (hr9 : -2147483648 ≤ r9 ∧ r9 < 2147483648) (hc9 : -2147483648 ≤ c9 ∧ c9 < 2147483648) (hms : ∀ k, 0 ≤ k → k < 49 → 0 ≤ ms k ∧ ms k ≤ 99) : cM l yX10_spillByLevels wz_X10_spillByLevels rm_X10_spillByLevels D τ (tyM δ) [.ref (β 0), .int (zI r9), .int (zI c9)] (wM β δ ms mb mo mp mf mn mi mc mq mr mw mk ml mt ma mx mh) (zQi (fun r w => ∃ (w2 : IA), ∃ (t2 : Int), ∃ (v : Int), (t2 = S_tpt r9 c9) ∧ (t2 = 0 → v = S_spill ms (7 * r9 + c9)) ∧ r = zI v ∧ wM β δ ms mb mo mp mf mn mi mc mq mr w2 mk ml t2 ma mx mh = w)) := by
  refine z_ofM (cc := cX10_spillByLevels) (maxL := 3) (ret := (some .int)) (by decide +kernel) rfl (Nat.le_of_ble_eq_true rfl) ?_
  intro pg e s m args below meth c hC hr hlk hnm hK hP A hD hG hA hS ls hl Q hQ
  have hx := hC.1
  have hb := hC.2.1
  have hml := hC.2.2.1
  have hown := hC.2.2.2.1
  have hts := hC.2.2.2.2
  have hB : ∀ w ∈ W0, w ∈ wz_X10_spillByLevels := fun _ h => List.mem_cons_of_mem _ h
  have hW0 : ∀ w ∈ W0, w.before args s = true := fun w h => hts w (hB w h)
  have hl : lv_has ls 3 [(0, .ref (β 0)), (1, .int (zI r9)), (2, .int (zI c9))] := hl
  refine lv_aload_n hx hb dX10_spillByLevels_0 rfl (lv_at hl 0 rfl) ?_
  refine lv_iload_n hx hb dX10_spillByLevels_1 rfl (lv_at hl 1 rfl) ?_
  refine lv_iload_n hx hb dX10_spillByLevels_2 rfl (lv_at hl 2 rfl) ?_
  refine z_calli hP hD hS hA (va_runV (As := [.int (zI r9), .int (zI c9)]) (rest := []) hC (c_X10_spill l D τ β δ ms mb mo mp mf mn mi mc mq mr mw mk ml mt ma mx mh r9 c9 (by first | assumption | rfl | omega) (by first | assumption | rfl | omega) (by first | assumption | rfl | omega) _) (cwV 2 hts (gV hB wl_X10_208 wn_X10_spill ws_X10_spill wi_X10 wc_X10_spill) rfl rfl rfl hd_X10_spill ⟨Nat.le_of_ble_eq_true rfl, Nat.le_of_ble_eq_true rfl⟩) (zp_V hK hP hD hS hA hG (ci := 10) (q0 := 0) rfl rfl rfl) rfl rfl hl.1 rfl (lv_room (Nat.le_of_ble_eq_true rfl)) dX10_spillByLevels_3 ⟨Nat.le_of_ble_eq_true rfl, Nat.le_of_ble_eq_true rfl⟩) (fun r w1 H locs hq9 hP hD hS => ?_)
  obtain ⟨w3_1, t3_2, v3_3, hv3_0, hv3_1, rfl, rfl⟩ := hq9
  have hP : va_P D vwCl (wM β δ ms mb mo mp mf mn mi mc mq mr w3_1 mk ml t3_2 ma mx mh) H := hP
  have hD : va_D A (wM β δ ms mb mo mp mf mn mi mc mq mr w3_1 mk ml t3_2 ma mx mh) := hD
  exact z_iret hC hr hlk hQ hP hD hS ⟨w3_1, t3_2, v3_3, (by first | assumption | rfl | omega), (by first | assumption | rfl | omega), rfl, rfl⟩ dX10_spillByLevels_6

abbrev wz_X10_depthOf : List Cond := .code yX10_depthOf cX10_depthOf 4 (some .int) :: W0
abbrev rm_X10_depthOf : Room := { frames := 5, cells := 0, slots := 0, locals := 113 }
theorem hd_X10_depthOf : yX10_depthOf.cls = RX10 ∧ yX10_depthOf.cls ≠ "java/lang/invoke/MethodHandle" ∧ yX10_depthOf.cls ≠ "java/lang/invoke/VarHandle" ∧ (parseMethodDescriptor yX10_depthOf.desc).map (fun d => d.parameters.length) = some 2 := by decide +kernel
set_option maxHeartbeats 4000000 in
set_option maxRecDepth 100000 in
theorem c_X10_depthOf (l : Launch) (D : va_G) (τ : Nat → Nat) (β : Nat → Nat) (δ : Nat → ClassId) (ms : IA) (mb : IA) (mo : IA) (mp : BA) (mf : IA) (mn : IA) (mi : IA) (mc : IA) (mq : BA) (mr : IA) (mw : IA) (mk : Int) (ml : Int) (mt : Int) (ma : Int) (mx : Bool) (mh : Int64) (r9 : Int) (c9 : Int) (hr9 : -2147483648 ≤ r9 ∧ r9 < 2147483648) (hc9 : -2147483648 ≤ c9 ∧ c9 < 2147483648) (hms : ∀ k, 0 ≤ k → k < 49 → 0 ≤ ms k ∧ ms k ≤ 99) : cM l yX10_depthOf wz_X10_depthOf rm_X10_depthOf D τ (tyM δ) [.ref (β 0), .int (zI r9), .int (zI c9)] (wM β δ ms mb mo mp mf mn mi mc mq mr mw mk ml mt ma mx mh) (zQi (fun r w => ∃ (w2 : IA), ∃ (t2 : Int), ∃ (v : Int), (t2 = S_tpt r9 c9) ∧ (t2 = 0 → v = S_spill ms (7 * r9 + c9) - ms (7 * r9 + c9)) ∧ r = zI v ∧ wM β δ ms mb mo mp mf mn mi mc mq mr w2 mk ml t2 ma mx mh = w)) := by
  refine z_ofM (cc := cX10_depthOf) (maxL := 4) (ret := (some .int)) (by decide +kernel) rfl (Nat.le_of_ble_eq_true rfl) ?_
  intro pg e s m args below meth c hC hr hlk hnm hK hP A hD hG hA hS ls hl Q hQ
  have hx := hC.1
  have hb := hC.2.1
  have hml := hC.2.2.1
  have hown := hC.2.2.2.1
  have hts := hC.2.2.2.2
  have hB : ∀ w ∈ W0, w ∈ wz_X10_depthOf := fun _ h => List.mem_cons_of_mem _ h
  have hW0 : ∀ w ∈ W0, w.before args s = true := fun w h => hts w (hB w h)
  have hl : lv_has ls 4 [(0, .ref (β 0)), (1, .int (zI r9)), (2, .int (zI c9))] := hl
  refine lv_aload_n hx hb dX10_depthOf_0 rfl (lv_at hl 0 rfl) ?_
  refine lv_iload_n hx hb dX10_depthOf_1 rfl (lv_at hl 1 rfl) ?_
  refine lv_iload_n hx hb dX10_depthOf_2 rfl (lv_at hl 2 rfl) ?_
  refine z_calli hP hD hS hA (va_runV (As := [.int (zI r9), .int (zI c9)]) (rest := []) hC (c_X10_spill l D τ β δ ms mb mo mp mf mn mi mc mq mr mw mk ml mt ma mx mh r9 c9 (by first | assumption | rfl | omega) (by first | assumption | rfl | omega) (by first | assumption | rfl | omega) _) (cwV 2 hts (gV hB wl_X10_208 wn_X10_spill ws_X10_spill wi_X10 wc_X10_spill) rfl rfl rfl hd_X10_spill ⟨Nat.le_of_ble_eq_true rfl, Nat.le_of_ble_eq_true rfl⟩) (zp_V hK hP hD hS hA hG (ci := 10) (q0 := 0) rfl rfl rfl) rfl rfl hl.1 rfl (lv_room (Nat.le_of_ble_eq_true rfl)) dX10_depthOf_3 ⟨Nat.le_of_ble_eq_true rfl, Nat.le_of_ble_eq_true rfl⟩) (fun r w1 H locs hq9 hP hD hS => ?_)
  obtain ⟨w3_1, t3_2, v3_3, hv3_0, hv3_1, rfl, rfl⟩ := hq9
  have hP : va_P D vwCl (wM β δ ms mb mo mp mf mn mi mc mq mr w3_1 mk ml t3_2 ma mx mh) H := hP
  have hD : va_D A (wM β δ ms mb mo mp mf mn mi mc mq mr w3_1 mk ml t3_2 ma mx mh) := hD
  refine lv_istore_n (lv' := [(3, .int (zI v3_3)), (0, .ref (β 0)), (1, .int (zI r9)), (2, .int (zI c9))]) hx hb dX10_depthOf_6 rfl hl (by decide) rfl (fun ls hl => ?_)
  refine lv_aload_n hx hb dX10_depthOf_7 rfl (lv_at hl 1 rfl) ?_
  refine va_get (D := D) (ci := 10) (v := .int (zI t3_2)) (C := RX10) (T := TX10) (N := 17) hx hb hts (fun w h => List.mem_cons_of_mem _ (wx_X10 w h)) hown hK hP 0 rfl rfl 7 (by decide) (hW0 _ wf_X10_44) (fun _ h9 => h9) rfl dX10_depthOf_8 ?_
  have htb : 0 ≤ t3_2 ∧ t3_2 ≤ 1 := by rw [hv3_0]; unfold S_tpt; split <;> omega
  refine z_ifne (tgt := 30) hx hb ⟨by omega, by omega⟩ dX10_depthOf_11 (by decide) (fun c_11 => ?_) (fun c_11 => ?_)
  · refine lv_iconst (v := zI 0) hx hb dX10_depthOf_30 rfl ?_
    exact z_iret hC hr hlk hQ hP hD hS ⟨w3_1, t3_2, 0, (by exact hv3_0), (by first | (intro h9; rw [hv3_1 h9]; done) | exact fun h9 => absurd h9 c_11), rfl, rfl⟩ dX10_depthOf_31
  · have hpp : (0 ≤ r9 ∧ r9 ≤ 6) ∧ (0 ≤ c9 ∧ c9 ≤ 6) := by rw [hv3_0] at c_11; unfold S_tpt at c_11; split at c_11; assumption; exact absurd c_11 (by decide)
    refine lv_iload_n hx hb dX10_depthOf_14 rfl (lv_at hl 0 rfl) ?_
    refine lv_aload_n hx hb dX10_depthOf_15 rfl (lv_at hl 1 rfl) ?_
    refine va_get (D := D) (ci := 10) (v := .ref (β 1)) (C := RX10) (T := TX10) (N := 17) hx hb hts (fun w h => List.mem_cons_of_mem _ (wx_X10 w h)) hown hK hP 0 rfl rfl 0 (by decide) (hW0 _ wf_X10_7) (fun _ h9 => h9) rfl dX10_depthOf_16 ?_
    refine lv_bipush (v := zI 7) hx hb dX10_depthOf_19 (zI_b8 (by decide)) ?_
    refine lv_iload_n hx hb dX10_depthOf_21 rfl (lv_at hl 2 rfl) ?_
    refine z_imul hx hb dX10_depthOf_22 ?_
    refine lv_iload_n hx hb dX10_depthOf_23 rfl (lv_at hl 3 rfl) ?_
    refine z_iadd hx hb dX10_depthOf_24 ?_
    refine z_iald (f := ms) hx hb hK hP 1 0 rfl rfl ⟨⟨by omega, by omega⟩, by decide⟩ dX10_depthOf_25 ?_
    refine z_isub hx hb dX10_depthOf_26 ?_
    refine lv_goto (tgt := 31) hx hb dX10_depthOf_27 (by decide) ?_
    exact z_iret hC hr hlk hQ hP hD hS ⟨w3_1, t3_2, v3_3 - (ms ((7 * r9) + c9)), (by exact hv3_0), (by first | (intro h9; rw [hv3_1 h9]; done) | exact fun h9 => absurd h9 c_11), rfl, rfl⟩ dX10_depthOf_31

abbrev wz_X10_allWater : List Cond := .code yX10_allWater cX10_allWater 3 (some .int) :: W0
abbrev rm_X10_allWater : Room := { frames := 4, cells := 0, slots := 0, locals := 91 }
theorem hd_X10_allWater : yX10_allWater.cls = RX10 ∧ yX10_allWater.cls ≠ "java/lang/invoke/MethodHandle" ∧ yX10_allWater.cls ≠ "java/lang/invoke/VarHandle" ∧ (parseMethodDescriptor yX10_allWater.desc).map (fun d => d.parameters.length) = some 0 := by decide +kernel
set_option maxHeartbeats 4000000 in
set_option maxRecDepth 100000 in
theorem c_X10_allWater (l : Launch) (D : va_G) (τ : Nat → Nat) (β : Nat → Nat) (δ : Nat → ClassId) (ms : IA) (mb : IA) (mo : IA) (mp : BA) (mf : IA) (mn : IA) (mi : IA) (mc : IA) (mq : BA) (mr : IA) (mw : IA) (mk : Int) (ml : Int) (mt : Int) (ma : Int) (mx : Bool) (mh : Int64) (hms : ∀ k, 0 ≤ k → k < 49 → 0 ≤ ms k ∧ ms k ≤ 99) : cM l yX10_allWater wz_X10_allWater rm_X10_allWater D τ (tyM δ) [.ref (β 0)] (wM β δ ms mb mo mp mf mn mi mc mq mr mw mk ml mt ma mx mh) (zQi (fun r w => ∃ (w2 : IA), ∃ (v : Int), (v = zS (fun k => S_spill ms k - ms k) 49) ∧ (-4851 ≤ v ∧ v ≤ 4900) ∧ r = zI v ∧ wM β δ ms mb mo mp mf mn mi mc mq mr w2 mk ml mt ma mx mh = w)) := by
  refine z_ofM (cc := cX10_allWater) (maxL := 3) (ret := (some .int)) (by decide +kernel) rfl (Nat.le_of_ble_eq_true rfl) ?_
  intro pg e s m args below meth c hC hr hlk hnm hK hP A hD hG hA hS ls hl Q hQ
  have hx := hC.1
  have hb := hC.2.1
  have hml := hC.2.2.1
  have hown := hC.2.2.2.1
  have hts := hC.2.2.2.2
  have hB : ∀ w ∈ W0, w ∈ wz_X10_allWater := fun _ h => List.mem_cons_of_mem _ h
  have hW0 : ∀ w ∈ W0, w.before args s = true := fun w h => hts w (hB w h)
  have hl : lv_has ls 3 [(0, .ref (β 0))] := hl
  refine lv_aload_n hx hb dX10_allWater_0 rfl (lv_at hl 0 rfl) ?_
  refine z_callv hP hD hS hA (va_runV (As := []) (rest := []) hC (c_X10_floods l D τ β δ ms mb mo mp mf mn mi mc mq mr mw mk ml mt ma mx mh (by first | assumption | rfl | omega) _) (cwV 0 hts (gV hB wl_X10_205 wn_X10_floods ws_X10_floods wi_X10 wc_X10_floods) rfl rfl rfl hd_X10_floods ⟨Nat.le_of_ble_eq_true rfl, Nat.le_of_ble_eq_true rfl⟩) (zp_V hK hP hD hS hA hG (ci := 10) (q0 := 0) rfl rfl rfl) rfl rfl hl.1 rfl (lv_room (Nat.le_of_ble_eq_true rfl)) dX10_allWater_1 ⟨Nat.le_of_ble_eq_true rfl, Nat.le_of_ble_eq_true rfl⟩) (fun w1 H locs hq9 hP hD hS => ?_)
  obtain ⟨w1_1, hv1_0, rfl⟩ := hq9
  have hP : va_P D vwCl (wM β δ ms mb mo mp mf mn mi mc mq mr w1_1 mk ml mt ma mx mh) H := hP
  have hD : va_D A (wM β δ ms mb mo mp mf mn mi mc mq mr w1_1 mk ml mt ma mx mh) := hD
  have hwr : ∀ k, 0 ≤ k → k < 49 → 0 ≤ w1_1 k ∧ w1_1 k ≤ 100 := fun k z1 z2 => by rw [hv1_0 k z1 z2]; exact S_spill_b ms k
  refine lv_iconst (v := zI 0) hx hb dX10_allWater_4 rfl ?_
  refine lv_istore_n (lv' := [(1, .int (zI 0)), (0, .ref (β 0))]) hx hb dX10_allWater_5 rfl hl (by decide) rfl (fun ls hl => ?_)
  refine lv_iconst (v := zI 0) hx hb dX10_allWater_6 rfl ?_
  refine lv_istore_n (lv' := [(2, .int (zI 0)), (1, .int (zI 0)), (0, .ref (β 0))]) hx hb dX10_allWater_7 rfl hl (by decide) rfl (fun ls hl => ?_)
  suffices HL_8 : ∀ (n_8 : Nat), ∀ (g : Int) (i : Int) (H : Heap) (locs : List Loc) (hP : va_P D vwCl (wM β δ ms mb mo mp mf mn mi mc mq mr w1_1 mk ml mt ma mx mh) H) (hD : va_D A (wM β δ ms mb mo mp mf mn mi mc mq mr w1_1 mk ml mt ma mx mh)) (hS : va_S A s.heap H locs) (ls : Array Slot) (hl : lv_has ls 3 [(1, .int (zI g)), (2, .int (zI i)), (0, .ref (β 0))]) (hi : 0 ≤ i ∧ i ≤ 49) (hg : g = zS (fun k => S_spill ms k - ms k) i) (hgb : -(99 * i) ≤ g ∧ g ≤ 100 * i) (hm : (49 - i).toNat < n_8), W pg l e rm_X10_allWater s m args below meth c H locs 0 0 Q (F0 m 8 ls []) from HL_8 _ 0 0 _ _ hP hD hS _ (lv_sub hl [1, 0, 2] rfl) (by first | assumption | rfl | omega) (by exact (zS_0 _).symm) (by first | assumption | rfl | omega) (Nat.lt_succ_self _)
  intro n_8
  induction n_8 with
  | zero => intro g i H locs hP hD hS ls hl hi hg hgb hm; exact absurd hm (Nat.not_lt_zero _)
  | succ n_8 ih_8 =>
    intro g i H locs hP hD hS ls hl hi hg hgb hm
    refine lv_iload_n hx hb dX10_allWater_8 rfl (lv_at hl 1 rfl) ?_
    refine lv_bipush (v := zI 49) hx hb dX10_allWater_9 (zI_b8 (by decide)) ?_
    refine z_icge (tgt := 36) hx hb ⟨by omega, by omega⟩ ⟨by omega, by omega⟩ dX10_allWater_11 (by decide) (fun c_11 => ?_) (fun c_11 => ?_)
    · refine lv_iload_n hx hb dX10_allWater_36 rfl (lv_at hl 0 rfl) ?_
      exact z_iret hC hr hlk hQ hP hD hS ⟨w1_1, g, (by rw [hg, show i = 49 by omega]), (by omega), rfl, rfl⟩ dX10_allWater_37
    · refine lv_iload_n hx hb dX10_allWater_14 rfl (lv_at hl 0 rfl) ?_
      refine lv_aload_n hx hb dX10_allWater_15 rfl (lv_at hl 2 rfl) ?_
      refine va_get (D := D) (ci := 10) (v := .ref (β 11)) (C := RX10) (T := TX10) (N := 17) hx hb hts (fun w h => List.mem_cons_of_mem _ (wx_X10 w h)) hown hK hP 0 rfl rfl 15 (by decide) (hW0 _ wf_X10_41) (fun _ h9 => h9) rfl dX10_allWater_16 ?_
      refine lv_iload_n hx hb dX10_allWater_19 rfl (lv_at hl 1 rfl) ?_
      refine z_iald (f := w1_1) hx hb hK hP 11 10 rfl rfl ⟨⟨by omega, by omega⟩, by decide⟩ dX10_allWater_20 ?_
      have hb_20 := hwr i (by omega) (by omega)
      refine lv_aload_n hx hb dX10_allWater_21 rfl (lv_at hl 2 rfl) ?_
      refine va_get (D := D) (ci := 10) (v := .ref (β 1)) (C := RX10) (T := TX10) (N := 17) hx hb hts (fun w h => List.mem_cons_of_mem _ (wx_X10 w h)) hown hK hP 0 rfl rfl 0 (by decide) (hW0 _ wf_X10_7) (fun _ h9 => h9) rfl dX10_allWater_22 ?_
      refine lv_iload_n hx hb dX10_allWater_25 rfl (lv_at hl 1 rfl) ?_
      refine z_iald (f := ms) hx hb hK hP 1 0 rfl rfl ⟨⟨by omega, by omega⟩, by decide⟩ dX10_allWater_26 ?_
      have hb_26 := hms i (by omega) (by omega)
      refine z_isub hx hb dX10_allWater_27 ?_
      refine z_iadd hx hb dX10_allWater_28 ?_
      refine lv_istore_n (lv' := [(1, .int (zI (g + ((w1_1 i) - (ms i))))), (2, .int (zI i)), (0, .ref (β 0))]) hx hb dX10_allWater_29 rfl hl (by decide) rfl (fun ls hl => ?_)
      refine z_iinc (k := 1) (v := i + 1) (lv' := [(2, .int (zI (i + 1))), (1, .int (zI (g + ((w1_1 i) - (ms i))))), (0, .ref (β 0))]) hx hb dX10_allWater_30 hl rfl rfl (by decide) rfl (fun ls hl => ?_)
      refine lv_goto (tgt := 8) hx hb dX10_allWater_33 (by decide) ?_
      exact ih_8 (g + ((w1_1 i) - (ms i))) (i + 1) _ _ hP hD hS _ (lv_sub hl [1, 0, 2] rfl) (by first | assumption | rfl | omega) (by rw [zS_up hi.1, ← hg, hv1_0 i hi.1 (by omega)]) (by first | assumption | rfl | omega) (by omega)

abbrev wz_X10_water : List Cond := .code yX10_water cX10_water 1 (some .int) :: W0
abbrev rm_X10_water : Room := { frames := 5, cells := 0, slots := 0, locals := 113 }
theorem hd_X10_water : yX10_water.cls = RX10 ∧ yX10_water.cls ≠ "java/lang/invoke/MethodHandle" ∧ yX10_water.cls ≠ "java/lang/invoke/VarHandle" ∧ (parseMethodDescriptor yX10_water.desc).map (fun d => d.parameters.length) = some 0 := by decide +kernel
set_option maxHeartbeats 4000000 in
set_option maxRecDepth 100000 in
theorem c_X10_water (l : Launch) (D : va_G) (τ : Nat → Nat) (β : Nat → Nat) (δ : Nat → ClassId) (ms : IA) (mb : IA) (mo : IA) (mp : BA) (mf : IA) (mn : IA) (mi : IA) (mc : IA) (mq : BA) (mr : IA) (mw : IA) (mk : Int) (ml : Int) (mt : Int) (ma : Int) (mx : Bool) (mh : Int64) (hms : ∀ k, 0 ≤ k → k < 49 → 0 ≤ ms k ∧ ms k ≤ 99) : cM l yX10_water wz_X10_water rm_X10_water D τ (tyM δ) [.ref (β 0)] (wM β δ ms mb mo mp mf mn mi mc mq mr mw mk ml mt ma mx mh) (zQi (fun r w => ∃ (w2 : IA), ∃ (v : Int), (v = zS (fun k => S_spill ms k - ms k) 49) ∧ (-4851 ≤ v ∧ v ≤ 4900) ∧ r = zI v ∧ wM β δ ms mb mo mp mf mn mi mc mq mr w2 mk ml 0 ma mx mh = w)) := by
  refine z_ofM (cc := cX10_water) (maxL := 1) (ret := (some .int)) (by decide +kernel) rfl (Nat.le_of_ble_eq_true rfl) ?_
  intro pg e s m args below meth c hC hr hlk hnm hK hP A hD hG hA hS ls hl Q hQ
  have hx := hC.1
  have hb := hC.2.1
  have hml := hC.2.2.1
  have hown := hC.2.2.2.1
  have hts := hC.2.2.2.2
  have hB : ∀ w ∈ W0, w ∈ wz_X10_water := fun _ h => List.mem_cons_of_mem _ h
  have hW0 : ∀ w ∈ W0, w.before args s = true := fun w h => hts w (hB w h)
  have hl : lv_has ls 1 [(0, .ref (β 0))] := hl
  refine lv_aload_n hx hb dX10_water_0 rfl (lv_at hl 0 rfl) ?_
  refine lv_iconst (v := zI 0) hx hb dX10_water_1 rfl ?_
  refine va_put (D := D) (ci := 10) (v := .int (zI 0)) (ty := .int) (C := RX10) (T := TX10) (N := 17) hx hb hts (fun w h => List.mem_cons_of_mem _ (wx_X10 w h)) tyX10 tyX10_ok nmX10 hown hK hP hD hS 0 rfl rfl 7 (by decide) (hW0 _ wf_X10_44) (fun _ h9 => h9) rfl (by decide +kernel) rfl rfl (Nat.le_of_ble_eq_true rfl) dX10_water_2 (fun H locs hP hD hS => ?_)
  have hP : va_P D vwCl (wM β δ ms mb mo mp mf mn mi mc mq mr mw mk ml 0 ma mx mh) H := hP
  have hD : va_D A (wM β δ ms mb mo mp mf mn mi mc mq mr mw mk ml 0 ma mx mh) := hD
  refine lv_aload_n hx hb dX10_water_5 rfl (lv_at hl 0 rfl) ?_
  refine z_calli hP hD hS hA (va_runV (As := []) (rest := []) hC (c_X10_allWater l D τ β δ ms mb mo mp mf mn mi mc mq mr mw mk ml 0 ma mx mh (by first | assumption | rfl | omega) _) (cwV 0 hts (gV hB wl_X10_211 wn_X10_allWater ws_X10_allWater wi_X10 wc_X10_allWater) rfl rfl rfl hd_X10_allWater ⟨Nat.le_of_ble_eq_true rfl, Nat.le_of_ble_eq_true rfl⟩) (zp_V hK hP hD hS hA hG (ci := 10) (q0 := 0) rfl rfl rfl) rfl rfl hl.1 rfl (lv_room (Nat.le_of_ble_eq_true rfl)) dX10_water_6 ⟨Nat.le_of_ble_eq_true rfl, Nat.le_of_ble_eq_true rfl⟩) (fun r w1 H locs hq9 hP hD hS => ?_)
  obtain ⟨w6_1, v6_2, hv6_0, hv6_1, rfl, rfl⟩ := hq9
  have hP : va_P D vwCl (wM β δ ms mb mo mp mf mn mi mc mq mr w6_1 mk ml 0 ma mx mh) H := hP
  have hD : va_D A (wM β δ ms mb mo mp mf mn mi mc mq mr w6_1 mk ml 0 ma mx mh) := hD
  exact z_iret hC hr hlk hQ hP hD hS ⟨w6_1, v6_2, (by first | assumption | rfl | omega), (by first | assumption | rfl | omega), rfl, rfl⟩ dX10_water_9

abbrev wz_X10_allPonds : List Cond := .code yX10_allPonds cX10_allPonds 2 (some .int) :: W0
abbrev rm_X10_allPonds : Room := { frames := 4, cells := 0, slots := 0, locals := 91 }
theorem hd_X10_allPonds : yX10_allPonds.cls = RX10 ∧ yX10_allPonds.cls ≠ "java/lang/invoke/MethodHandle" ∧ yX10_allPonds.cls ≠ "java/lang/invoke/VarHandle" ∧ (parseMethodDescriptor yX10_allPonds.desc).map (fun d => d.parameters.length) = some 0 := by decide +kernel
set_option maxHeartbeats 4000000 in
set_option maxRecDepth 100000 in
theorem c_X10_allPonds (l : Launch) (D : va_G) (τ : Nat → Nat) (β : Nat → Nat) (δ : Nat → ClassId) (ms : IA) (mb : IA) (mo : IA) (mp : BA) (mf : IA) (mn : IA) (mi : IA) (mc : IA) (mq : BA) (mr : IA) (mw : IA) (mk : Int) (ml : Int) (mt : Int) (ma : Int) (mx : Bool) (mh : Int64) (hms : ∀ k, 0 ≤ k → k < 49 → 0 ≤ ms k ∧ ms k ≤ 99) : cM l yX10_allPonds wz_X10_allPonds rm_X10_allPonds D τ (tyM δ) [.ref (β 0)] (wM β δ ms mb mo mp mf mn mi mc mq mr mw mk ml mt ma mx mh) (zQi (fun r w => ∃ (w2 : IA), ∃ (r2 : IA), ∃ (v : Int), (v = S_comps 4 (fun k => decide (ms k < S_spill ms k))) ∧ (0 ≤ v ∧ v ≤ 49) ∧ r = zI v ∧ wM β δ ms mb mo mp mf mn mi mc mq r2 w2 mk ml mt ma mx mh = w)) := by
  refine z_ofM (cc := cX10_allPonds) (maxL := 2) (ret := (some .int)) (by decide +kernel) rfl (Nat.le_of_ble_eq_true rfl) ?_
  intro pg e s m args below meth c hC hr hlk hnm hK hP A hD hG hA hS ls hl Q hQ
  have hx := hC.1
  have hb := hC.2.1
  have hml := hC.2.2.1
  have hown := hC.2.2.2.1
  have hts := hC.2.2.2.2
  have hB : ∀ w ∈ W0, w ∈ wz_X10_allPonds := fun _ h => List.mem_cons_of_mem _ h
  have hW0 : ∀ w ∈ W0, w.before args s = true := fun w h => hts w (hB w h)
  have hl : lv_has ls 2 [(0, .ref (β 0))] := hl
  refine lv_aload_n hx hb dX10_allPonds_0 rfl (lv_at hl 0 rfl) ?_
  refine z_callv hP hD hS hA (va_runV (As := []) (rest := []) hC (c_X10_floods l D τ β δ ms mb mo mp mf mn mi mc mq mr mw mk ml mt ma mx mh (by first | assumption | rfl | omega) _) (cwV 0 hts (gV hB wl_X10_205 wn_X10_floods ws_X10_floods wi_X10 wc_X10_floods) rfl rfl rfl hd_X10_floods ⟨Nat.le_of_ble_eq_true rfl, Nat.le_of_ble_eq_true rfl⟩) (zp_V hK hP hD hS hA hG (ci := 10) (q0 := 0) rfl rfl rfl) rfl rfl hl.1 rfl (lv_room (Nat.le_of_ble_eq_true rfl)) dX10_allPonds_1 ⟨Nat.le_of_ble_eq_true rfl, Nat.le_of_ble_eq_true rfl⟩) (fun w1 H locs hq9 hP hD hS => ?_)
  obtain ⟨w1_1, hv1_0, rfl⟩ := hq9
  have hP : va_P D vwCl (wM β δ ms mb mo mp mf mn mi mc mq mr w1_1 mk ml mt ma mx mh) H := hP
  have hD : va_D A (wM β δ ms mb mo mp mf mn mi mc mq mr w1_1 mk ml mt ma mx mh) := hD
  have hwr : ∀ k, 0 ≤ k → k < 49 → 0 ≤ w1_1 k ∧ w1_1 k ≤ 100 := fun k z1 z2 => by rw [hv1_0 k z1 z2]; exact S_spill_b ms k
  refine lv_iconst (v := zI 0) hx hb dX10_allPonds_4 rfl ?_
  refine lv_istore_n (lv' := [(1, .int (zI 0)), (0, .ref (β 0))]) hx hb dX10_allPonds_5 rfl hl (by decide) rfl (fun ls hl => ?_)
  suffices HL_6 : ∀ (n_6 : Nat), ∀ (w1 : IA) (i : Int) (H : Heap) (locs : List Loc) (hP : va_P D vwCl (wM β δ ms mb mo mp mf mn mi mc mq w1 w1_1 mk ml mt ma mx mh) H) (hD : va_D A (wM β δ ms mb mo mp mf mn mi mc mq w1 w1_1 mk ml mt ma mx mh)) (hS : va_S A s.heap H locs) (ls : Array Slot) (hl : lv_has ls 2 [(1, .int (zI i)), (0, .ref (β 0))]) (hi : 0 ≤ i ∧ i ≤ 49) (hw1 : ∀ k, 0 ≤ k → k < i → w1 k = (if decide (ms k < S_spill ms k) = true then k else -1)) (hm : (49 - i).toNat < n_6), W pg l e rm_X10_allPonds s m args below meth c H locs 0 0 Q (F0 m 6 ls []) from HL_6 _ mr 0 _ _ hP hD hS _ (lv_sub hl [0, 1] rfl) (by first | assumption | rfl | omega) (by intro k z1 z2; omega) (Nat.lt_succ_self _)
  intro n_6
  induction n_6 with
  | zero => intro w1 i H locs hP hD hS ls hl hi hw1 hm; exact absurd hm (Nat.not_lt_zero _)
  | succ n_6 ih_6 =>
    intro w1 i H locs hP hD hS ls hl hi hw1 hm
    refine lv_iload_n hx hb dX10_allPonds_6 rfl (lv_at hl 0 rfl) ?_
    refine lv_bipush (v := zI 49) hx hb dX10_allPonds_7 (zI_b8 (by decide)) ?_
    refine z_icge (tgt := 44) hx hb ⟨by omega, by omega⟩ ⟨by omega, by omega⟩ dX10_allPonds_9 (by decide) (fun c_9 => ?_) (fun c_9 => ?_)
    · refine lv_aload_n hx hb dX10_allPonds_44 rfl (lv_at hl 1 rfl) ?_
      refine lv_iconst (v := zI 0) hx hb dX10_allPonds_45 rfl ?_
      refine z_calli hP hD hS hA (va_runV (As := [.int (bI false)]) (rest := []) hC (c_X10_regions l D τ β δ ms mb mo mp mf mn mi mc mq w1 w1_1 mk ml mt ma mx mh (fun k => decide (ms k < S_spill ms k)) false (by exact fun k z1 z2 => hw1 k z1 (by omega)) _) (cwV 1 hts (gV hB wl_X10_168 wn_X10_regions ws_X10_regions wi_X10 wc_X10_regions) rfl rfl rfl hd_X10_regions ⟨Nat.le_of_ble_eq_true rfl, Nat.le_of_ble_eq_true rfl⟩) (zp_V hK hP hD hS hA hG (ci := 10) (q0 := 0) rfl rfl rfl) rfl rfl hl.1 rfl (lv_room (Nat.le_of_ble_eq_true rfl)) dX10_allPonds_46 ⟨Nat.le_of_ble_eq_true rfl, Nat.le_of_ble_eq_true rfl⟩) (fun r w1 H locs hq9 hP hD hS => ?_)
      obtain ⟨r46_2, v46_3, hv46_0, hv46_1, rfl, rfl⟩ := hq9
      have hP : va_P D vwCl (wM β δ ms mb mo mp mf mn mi mc mq r46_2 w1_1 mk ml mt ma mx mh) H := hP
      have hD : va_D A (wM β δ ms mb mo mp mf mn mi mc mq r46_2 w1_1 mk ml mt ma mx mh) := hD
      exact z_iret hC hr hlk hQ hP hD hS ⟨w1_1, r46_2, v46_3, (by exact hv46_0), (by omega), rfl, rfl⟩ dX10_allPonds_49
    · refine lv_aload_n hx hb dX10_allPonds_12 rfl (lv_at hl 1 rfl) ?_
      refine va_get (D := D) (ci := 10) (v := .ref (β 10)) (C := RX10) (T := TX10) (N := 17) hx hb hts (fun w h => List.mem_cons_of_mem _ (wx_X10 w h)) hown hK hP 0 rfl rfl 14 (by decide) (hW0 _ wf_X10_38) (fun _ h9 => h9) rfl dX10_allPonds_13 ?_
      refine lv_iload_n hx hb dX10_allPonds_16 rfl (lv_at hl 0 rfl) ?_
      refine lv_aload_n hx hb dX10_allPonds_17 rfl (lv_at hl 1 rfl) ?_
      refine va_get (D := D) (ci := 10) (v := .ref (β 11)) (C := RX10) (T := TX10) (N := 17) hx hb hts (fun w h => List.mem_cons_of_mem _ (wx_X10 w h)) hown hK hP 0 rfl rfl 15 (by decide) (hW0 _ wf_X10_41) (fun _ h9 => h9) rfl dX10_allPonds_18 ?_
      refine lv_iload_n hx hb dX10_allPonds_21 rfl (lv_at hl 0 rfl) ?_
      refine z_iald (f := w1_1) hx hb hK hP 11 10 rfl rfl ⟨⟨by omega, by omega⟩, by decide⟩ dX10_allPonds_22 ?_
      have hb_22 := hwr i (by omega) (by omega)
      refine lv_aload_n hx hb dX10_allPonds_23 rfl (lv_at hl 1 rfl) ?_
      refine va_get (D := D) (ci := 10) (v := .ref (β 1)) (C := RX10) (T := TX10) (N := 17) hx hb hts (fun w h => List.mem_cons_of_mem _ (wx_X10 w h)) hown hK hP 0 rfl rfl 0 (by decide) (hW0 _ wf_X10_7) (fun _ h9 => h9) rfl dX10_allPonds_24 ?_
      refine lv_iload_n hx hb dX10_allPonds_27 rfl (lv_at hl 0 rfl) ?_
      refine z_iald (f := ms) hx hb hK hP 1 0 rfl rfl ⟨⟨by omega, by omega⟩, by decide⟩ dX10_allPonds_28 ?_
      have hb_28 := hms i (by omega) (by omega)
      refine z_icle (tgt := 36) hx hb ⟨by omega, by omega⟩ ⟨by omega, by omega⟩ dX10_allPonds_29 (by decide) (fun c_29 => ?_) (fun c_29 => ?_)
      · refine lv_iconst (v := zI (-1)) hx hb dX10_allPonds_36 rfl ?_
        refine z_iast (f := w1) (v := (-1)) hx hb hK hP hD hS 10 9 rfl rfl ⟨⟨by omega, by omega⟩, by decide⟩ dX10_allPonds_37 (fun H locs hP hD hS => ?_)
        have hP : va_P D vwCl (wM β δ ms mb mo mp mf mn mi mc mq ((zu w1 i (-1))) w1_1 mk ml mt ma mx mh) H := hP
        have hD : va_D A (wM β δ ms mb mo mp mf mn mi mc mq ((zu w1 i (-1))) w1_1 mk ml mt ma mx mh) := hD
        refine z_iinc (k := 0) (v := i + 1) (lv' := [(1, .int (zI (i + 1))), (0, .ref (β 0))]) hx hb dX10_allPonds_38 hl rfl rfl (by decide) rfl (fun ls hl => ?_)
        refine lv_goto (tgt := 6) hx hb dX10_allPonds_41 (by decide) ?_
        exact ih_6 (zu w1 i (-1)) (i + 1) _ _ hP hD hS _ (lv_sub hl [0, 1] rfl) (by first | assumption | rfl | omega) (by intro k z1 z2; by_cases e9 : k = i; (focus (rw [e9, zu_s, ← hv1_0 i hi.1 (by omega)]; first | (rw [if_pos (decide_eq_true c_29)]; done) | (rw [if_neg (fun h9 => absurd (of_decide_eq_true h9) (by omega))]; done))); (rw [zu_n e9]; exact hw1 k z1 (by omega))) (by omega)
      · refine lv_iload_n hx hb dX10_allPonds_32 rfl (lv_at hl 0 rfl) ?_
        refine lv_goto (tgt := 37) hx hb dX10_allPonds_33 (by decide) ?_
        refine z_iast (f := w1) (v := i) hx hb hK hP hD hS 10 9 rfl rfl ⟨⟨by omega, by omega⟩, by decide⟩ dX10_allPonds_37 (fun H locs hP hD hS => ?_)
        have hP : va_P D vwCl (wM β δ ms mb mo mp mf mn mi mc mq (zu w1 i i) w1_1 mk ml mt ma mx mh) H := hP
        have hD : va_D A (wM β δ ms mb mo mp mf mn mi mc mq (zu w1 i i) w1_1 mk ml mt ma mx mh) := hD
        refine z_iinc (k := 0) (v := i + 1) (lv' := [(1, .int (zI (i + 1))), (0, .ref (β 0))]) hx hb dX10_allPonds_38 hl rfl rfl (by decide) rfl (fun ls hl => ?_)
        refine lv_goto (tgt := 6) hx hb dX10_allPonds_41 (by decide) ?_
        exact ih_6 (zu w1 i i) (i + 1) _ _ hP hD hS _ (lv_sub hl [0, 1] rfl) (by first | assumption | rfl | omega) (by intro k z1 z2; by_cases e9 : k = i; (focus (rw [e9, zu_s, ← hv1_0 i hi.1 (by omega)]; first | (rw [if_pos (decide_eq_true c_29)]; done) | (rw [if_neg (fun h9 => absurd (of_decide_eq_true h9) (by omega))]; done))); (rw [zu_n e9]; exact hw1 k z1 (by omega))) (by omega)

abbrev wz_X10_ponds : List Cond := .code yX10_ponds cX10_ponds 1 (some .int) :: W0
abbrev rm_X10_ponds : Room := { frames := 5, cells := 0, slots := 0, locals := 112 }
theorem hd_X10_ponds : yX10_ponds.cls = RX10 ∧ yX10_ponds.cls ≠ "java/lang/invoke/MethodHandle" ∧ yX10_ponds.cls ≠ "java/lang/invoke/VarHandle" ∧ (parseMethodDescriptor yX10_ponds.desc).map (fun d => d.parameters.length) = some 0 := by decide +kernel
set_option maxHeartbeats 4000000 in
set_option maxRecDepth 100000 in
theorem c_X10_ponds (l : Launch) (D : va_G) (τ : Nat → Nat) (β : Nat → Nat) (δ : Nat → ClassId) (ms : IA) (mb : IA) (mo : IA) (mp : BA) (mf : IA) (mn : IA) (mi : IA) (mc : IA) (mq : BA) (mr : IA) (mw : IA) (mk : Int) (ml : Int) (mt : Int) (ma : Int) (mx : Bool) (mh : Int64) (hms : ∀ k, 0 ≤ k → k < 49 → 0 ≤ ms k ∧ ms k ≤ 99) : cM l yX10_ponds wz_X10_ponds rm_X10_ponds D τ (tyM δ) [.ref (β 0)] (wM β δ ms mb mo mp mf mn mi mc mq mr mw mk ml mt ma mx mh) (zQi (fun r w => ∃ (w2 : IA), ∃ (r2 : IA), ∃ (v : Int), (v = S_comps 4 (fun k => decide (ms k < S_spill ms k))) ∧ (0 ≤ v ∧ v ≤ 49) ∧ r = zI v ∧ wM β δ ms mb mo mp mf mn mi mc mq r2 w2 mk ml 0 ma mx mh = w)) := by
  refine z_ofM (cc := cX10_ponds) (maxL := 1) (ret := (some .int)) (by decide +kernel) rfl (Nat.le_of_ble_eq_true rfl) ?_
  intro pg e s m args below meth c hC hr hlk hnm hK hP A hD hG hA hS ls hl Q hQ
  have hx := hC.1
  have hb := hC.2.1
  have hml := hC.2.2.1
  have hown := hC.2.2.2.1
  have hts := hC.2.2.2.2
  have hB : ∀ w ∈ W0, w ∈ wz_X10_ponds := fun _ h => List.mem_cons_of_mem _ h
  have hW0 : ∀ w ∈ W0, w.before args s = true := fun w h => hts w (hB w h)
  have hl : lv_has ls 1 [(0, .ref (β 0))] := hl
  refine lv_aload_n hx hb dX10_ponds_0 rfl (lv_at hl 0 rfl) ?_
  refine lv_iconst (v := zI 0) hx hb dX10_ponds_1 rfl ?_
  refine va_put (D := D) (ci := 10) (v := .int (zI 0)) (ty := .int) (C := RX10) (T := TX10) (N := 17) hx hb hts (fun w h => List.mem_cons_of_mem _ (wx_X10 w h)) tyX10 tyX10_ok nmX10 hown hK hP hD hS 0 rfl rfl 7 (by decide) (hW0 _ wf_X10_44) (fun _ h9 => h9) rfl (by decide +kernel) rfl rfl (Nat.le_of_ble_eq_true rfl) dX10_ponds_2 (fun H locs hP hD hS => ?_)
  have hP : va_P D vwCl (wM β δ ms mb mo mp mf mn mi mc mq mr mw mk ml 0 ma mx mh) H := hP
  have hD : va_D A (wM β δ ms mb mo mp mf mn mi mc mq mr mw mk ml 0 ma mx mh) := hD
  refine lv_aload_n hx hb dX10_ponds_5 rfl (lv_at hl 0 rfl) ?_
  refine z_calli hP hD hS hA (va_runV (As := []) (rest := []) hC (c_X10_allPonds l D τ β δ ms mb mo mp mf mn mi mc mq mr mw mk ml 0 ma mx mh (by first | assumption | rfl | omega) _) (cwV 0 hts (gV hB wl_X10_214 wn_X10_allPonds ws_X10_allPonds wi_X10 wc_X10_allPonds) rfl rfl rfl hd_X10_allPonds ⟨Nat.le_of_ble_eq_true rfl, Nat.le_of_ble_eq_true rfl⟩) (zp_V hK hP hD hS hA hG (ci := 10) (q0 := 0) rfl rfl rfl) rfl rfl hl.1 rfl (lv_room (Nat.le_of_ble_eq_true rfl)) dX10_ponds_6 ⟨Nat.le_of_ble_eq_true rfl, Nat.le_of_ble_eq_true rfl⟩) (fun r w1 H locs hq9 hP hD hS => ?_)
  obtain ⟨w6_1, r6_2, v6_3, hv6_0, hv6_1, rfl, rfl⟩ := hq9
  have hP : va_P D vwCl (wM β δ ms mb mo mp mf mn mi mc mq r6_2 w6_1 mk ml 0 ma mx mh) H := hP
  have hD : va_D A (wM β δ ms mb mo mp mf mn mi mc mq r6_2 w6_1 mk ml 0 ma mx mh) := hD
  exact z_iret hC hr hlk hQ hP hD hS ⟨w6_1, r6_2, v6_3, (by first | assumption | rfl | omega), (by first | assumption | rfl | omega), rfl, rfl⟩ dX10_ponds_9

