abbrev wz_X6_washDown : List Cond := .code yX6_washDown cX6_washDown 5 (some .int) :: W0
abbrev rm_X6_washDown : Room := { frames := 2, cells := 0, slots := 0, locals := 43 }
theorem hd_X6_washDown : yX6_washDown.cls = RX6 ∧ yX6_washDown.cls ≠ "java/lang/invoke/MethodHandle" ∧ yX6_washDown.cls ≠ "java/lang/invoke/VarHandle" ∧ (parseMethodDescriptor yX6_washDown.desc).map (fun d => d.parameters.length) = some 1 := by decide +kernel
set_option maxHeartbeats 4000000 in
set_option maxRecDepth 100000 in
theorem c_X6_washDown (l : Launch) (D : va_G) (τ : Nat → Nat) (α : Nat → Nat) (γ : Nat → ClassId) (h : IA) (old : IA) (ch : IA) (rg : TRg) (ln : TLn) (nx : IA) (dr : IA) (qu : IA) (pd : TPd) (ct : TCt) (sg : TSg) (od : TOd) (hs : THs) (hh : ∀ k, 0 ≤ k → k < 49 → 0 ≤ h k ∧ h k ≤ 99) (hnx : ∀ k, 0 ≤ k → k < 49 → nx k = S_next h k) : cM l yX6_washDown wz_X6_washDown rm_X6_washDown D τ (tyH γ) [.ref (α 1), .ref (α 4)] (wH α γ (h, old, ch) rg ln (nx, dr, qu) pd ct sg od hs) (zQi (fun r w => ∃ (h2 : IA), ∃ (c2 : IA), ∃ (v : Int), (h2 = S_wash1 h) ∧ (v = S_given1 h) ∧ (0 ≤ v ∧ v ≤ 49) ∧ r = zI v ∧ wH α γ (h2, old, c2) rg ln (nx, dr, qu) pd ct sg od hs = w)) := by
  refine z_ofM (cc := cX6_washDown) (maxL := 5) (ret := (some .int)) (by decide +kernel) rfl (Nat.le_of_ble_eq_true rfl) ?_
  intro pg e s m args below meth c hC hr hlk hnm hK hP A hD hG hA hS ls hl Q hQ
  have hx := hC.1
  have hb := hC.2.1
  have hml := hC.2.2.1
  have hown := hC.2.2.2.1
  have hts := hC.2.2.2.2
  have hB : ∀ w ∈ W0, w ∈ wz_X6_washDown := fun _ h => List.mem_cons_of_mem _ h
  have hW0 : ∀ w ∈ W0, w.before args s = true := fun w h => hts w (hB w h)
  have hl : lv_has ls 5 [(0, .ref (α 1)), (1, .ref (α 4))] := hl
  refine lv_aload_n hx hb dX6_washDown_0 rfl (lv_at hl 0 rfl) ?_
  refine va_get (D := D) (ci := 6) (v := .ref (α 12)) (C := RX6) (T := TX6) (N := 3) hx hb hts (fun w h => List.mem_cons_of_mem _ (wx_X6 w h)) hown hK hP 1 rfl rfl 2 (by decide) (hW0 _ wf_X6_18) (fun _ h9 => h9) rfl dX6_washDown_1 ?_
  refine lv_iconst (v := zI 0) hx hb dX6_washDown_4 rfl ?_
  refine z_callv hP hD hS hA (va_runS (As := [.ref (α 12), .int (zI 0)]) (rest := []) hC (c_J7_fill_53178__ch l D τ α γ h old ch rg ln (nx, dr, qu) pd ct sg od hs 0 (by first | assumption | rfl | omega) _) (va_cwS 2 hts (gS hB wl_X6_55 wt_J7_fill_53178 wi_J7 wc_J7_fill_53178) rfl rfl rfl hd_J7_fill_53178.2 ⟨Nat.le_of_ble_eq_true rfl, Nat.le_of_ble_eq_true rfl⟩) (zp_S hK hP hD hS hA hG) rfl rfl hl.1 rfl (lv_room (Nat.le_of_ble_eq_true rfl)) dX6_washDown_5 ⟨Nat.le_of_ble_eq_true rfl, Nat.le_of_ble_eq_true rfl⟩) (fun w1 H locs hq9 hP hD hS => ?_)
  obtain ⟨f5_1, hv5_0, rfl⟩ := hq9
  have hP : va_P D vwCl (wH α γ (h, old, f5_1) rg ln (nx, dr, qu) pd ct sg od hs) H := hP
  have hD : va_D A (wH α γ (h, old, f5_1) rg ln (nx, dr, qu) pd ct sg od hs) := hD
  refine lv_iconst (v := zI 0) hx hb dX6_washDown_8 rfl ?_
  refine lv_istore_n (lv' := [(2, .int (zI 0)), (0, .ref (α 1)), (1, .ref (α 4))]) hx hb dX6_washDown_9 rfl hl (by decide) rfl (fun ls hl => ?_)
  refine lv_iconst (v := zI 0) hx hb dX6_washDown_10 rfl ?_
  refine lv_istore_n (lv' := [(3, .int (zI 0)), (2, .int (zI 0)), (0, .ref (α 1)), (1, .ref (α 4))]) hx hb dX6_washDown_11 rfl hl (by decide) rfl (fun ls hl => ?_)
  suffices HL_12 : ∀ (n_12 : Nat), ∀ (c1 : IA) (g : Int) (i : Int) (H : Heap) (locs : List Loc) (hP : va_P D vwCl (wH α γ (h, old, c1) rg ln (nx, dr, qu) pd ct sg od hs) H) (hD : va_D A (wH α γ (h, old, c1) rg ln (nx, dr, qu) pd ct sg od hs)) (hS : va_S A s.heap H locs) (ls : Array Slot) (hl : lv_has ls 5 [(2, .int (zI g)), (3, .int (zI i)), (0, .ref (α 1)), (1, .ref (α 4))]) (hi : 0 ≤ i ∧ i ≤ 49) (hc1 : c1 = zmix 49 (fun _ => 0) ch ∧ i = 0 ∨ (∀ k, 0 ≤ k → k < 49 → c1 k = S_wc h i k)) (hg : g = zC (S_steep h) i) (hgb : 0 ≤ g ∧ g ≤ i) (hm : (49 - i).toNat < n_12), W pg l e rm_X6_washDown s m args below meth c H locs 0 0 Q (F0 m 12 ls []) from HL_12 _ f5_1 0 0 _ _ hP hD hS _ (lv_sub hl [1, 0, 2, 3] rfl) (by first | assumption | rfl | omega) (by exact Or.inl ⟨hv5_0, rfl⟩) (by exact (zC_0 _).symm) (by first | assumption | rfl | omega) (Nat.lt_succ_self _)
  intro n_12
  induction n_12 with
  | zero => intro c1 g i H locs hP hD hS ls hl hi hc1 hg hgb hm; exact absurd hm (Nat.not_lt_zero _)
  | succ n_12 ih_12 =>
    intro c1 g i H locs hP hD hS ls hl hi hc1 hg hgb hm
    refine lv_iload_n hx hb dX6_washDown_12 rfl (lv_at hl 1 rfl) ?_
    refine lv_bipush (v := zI 49) hx hb dX6_washDown_13 (zI_b8 (by decide)) ?_
    have hcc : ∀ k, 0 ≤ k → k < 49 → c1 k = S_wc h i k := by rcases hc1 with ⟨q, e⟩ | q; (intro k k1 k2; rw [q, zmix_at ⟨k1, k2⟩, e, S_wc_0]); exact q
    have hcb : ∀ k, -i ≤ S_wc h i k ∧ S_wc h i k ≤ i := S_wc_b i hi.1
    refine z_icge (tgt := 81) hx hb ⟨by omega, by omega⟩ ⟨by omega, by omega⟩ dX6_washDown_15 (by decide) (fun c_15 => ?_) (fun c_15 => ?_)
    · have hcz : ∀ k, 0 ≤ k → k < 49 → c1 k = S_wc h 49 k := (show i = 49 by omega) ▸ hcc
      have hczb := S_wc_b (h := h) 49 (by omega)
      have ez : i = 49 := by omega
      refine lv_iconst (v := zI 0) hx hb dX6_washDown_81 rfl ?_
      refine lv_istore_n (lv' := [(3, .int (zI 0)), (2, .int (zI g)), (0, .ref (α 1)), (1, .ref (α 4))]) hx hb dX6_washDown_82 rfl hl (by decide) rfl (fun ls hl => ?_)
      suffices HL_83 : ∀ (n_83 : Nat), ∀ (h1 : IA) (i : Int) (H : Heap) (locs : List Loc) (hP : va_P D vwCl (wH α γ (h1, old, c1) rg ln (nx, dr, qu) pd ct sg od hs) H) (hD : va_D A (wH α γ (h1, old, c1) rg ln (nx, dr, qu) pd ct sg od hs)) (hS : va_S A s.heap H locs) (ls : Array Slot) (hl : lv_has ls 5 [(3, .int (zI i)), (2, .int (zI g)), (0, .ref (α 1)), (1, .ref (α 4))]) (hi3 : 0 ≤ i ∧ i ≤ 49) (hh1 : h1 = zmix i (fun k => clip (h k + S_wc h 49 k)) h) (hm : (49 - i).toNat < n_83), W pg l e rm_X6_washDown s m args below meth c H locs 0 0 Q (F0 m 83 ls []) from HL_83 _ h 0 _ _ hP hD hS _ (lv_sub hl [0, 1, 2, 3] rfl) (by first | assumption | rfl | omega) (by exact (zmix_0 _ _).symm) (Nat.lt_succ_self _)
      intro n_83
      induction n_83 with
      | zero => intro h1 i H locs hP hD hS ls hl hi3 hh1 hm; exact absurd hm (Nat.not_lt_zero _)
      | succ n_83 ih_83 =>
        intro h1 i H locs hP hD hS ls hl hi3 hh1 hm
        refine lv_iload_n hx hb dX6_washDown_83 rfl (lv_at hl 0 rfl) ?_
        refine lv_bipush (v := zI 49) hx hb dX6_washDown_84 (zI_b8 (by decide)) ?_
        have hb1 : ∀ k, 0 ≤ k → k < 49 → 0 ≤ h1 k ∧ h1 k ≤ 99 := by rw [hh1]; exact zmix_b hh (fun k => clip_b _)
        refine z_icge (tgt := 113) hx hb ⟨by omega, by omega⟩ ⟨by omega, by omega⟩ dX6_washDown_86 (by decide) (fun c_86 => ?_) (fun c_86 => ?_)
        · refine lv_iload_n hx hb dX6_washDown_113 rfl (lv_at hl 1 rfl) ?_
          exact z_iret hC hr hlk hQ hP hD hS ⟨h1, c1, g, (by rw [hh1, show i = 49 by omega]; rfl), (by rw [hg, ez]; rfl), (by omega), rfl, rfl⟩ dX6_washDown_114
        · have b95 := hb1 i (by omega) (by omega)
          have q98 := hcz i (by omega) (by omega)
          have b98 := hczb i
          refine lv_aload_n hx hb dX6_washDown_89 rfl (lv_at hl 2 rfl) ?_
          refine lv_iload_n hx hb dX6_washDown_90 rfl (lv_at hl 0 rfl) ?_
          refine lv_aload_n hx hb dX6_washDown_91 rfl (lv_at hl 2 rfl) ?_
          refine va_get (D := D) (ci := 6) (v := .ref (α 10)) (C := RX6) (T := TX6) (N := 3) hx hb hts (fun w h => List.mem_cons_of_mem _ (wx_X6 w h)) hown hK hP 1 rfl rfl 0 (by decide) (hW0 _ wf_X6_9) (fun _ h9 => h9) rfl dX6_washDown_92 ?_
          refine lv_iload_n hx hb dX6_washDown_95 rfl (lv_at hl 0 rfl) ?_
          refine z_iald (f := h1) hx hb hK hP 10 0 rfl rfl ⟨⟨by omega, by omega⟩, by decide⟩ dX6_washDown_96 ?_
          have hb_96 := hh i (by omega) (by omega)
          refine lv_aload_n hx hb dX6_washDown_97 rfl (lv_at hl 2 rfl) ?_
          refine va_get (D := D) (ci := 6) (v := .ref (α 12)) (C := RX6) (T := TX6) (N := 3) hx hb hts (fun w h => List.mem_cons_of_mem _ (wx_X6 w h)) hown hK hP 1 rfl rfl 2 (by decide) (hW0 _ wf_X6_18) (fun _ h9 => h9) rfl dX6_washDown_98 ?_
          refine lv_iload_n hx hb dX6_washDown_101 rfl (lv_at hl 0 rfl) ?_
          refine z_iald (f := c1) hx hb hK hP 12 2 rfl rfl ⟨⟨by omega, by omega⟩, by decide⟩ dX6_washDown_102 ?_
          refine z_iadd hx hb dX6_washDown_103 ?_
          refine z_callv hP hD hS hA (va_runV (As := [.int (zI i), .int (zI ((h1 i) + (c1 i)))]) (rest := []) hC (c_X6_put l D τ α γ h1 old c1 rg ln (nx, dr, qu) pd ct sg od hs i ((h1 i) + (c1 i)) (by first | assumption | rfl | omega) (by first | assumption | rfl | omega) _) (cwV 2 hts (gV hB wl_X6_41 wn_X6_put ws_X6_put wi_X6 wc_X6_put) rfl rfl rfl hd_X6_put ⟨Nat.le_of_ble_eq_true rfl, Nat.le_of_ble_eq_true rfl⟩) (zp_V hK hP hD hS hA hG (ci := 6) (q0 := 1) rfl rfl rfl) rfl rfl hl.1 rfl (lv_room (Nat.le_of_ble_eq_true rfl)) dX6_washDown_104 ⟨Nat.le_of_ble_eq_true rfl, Nat.le_of_ble_eq_true rfl⟩) (fun w1 H locs hq9 hP hD hS => ?_)
          obtain ⟨h104_2, hv104_0, rfl⟩ := hq9
          have hP : va_P D vwCl (wH α γ (h104_2, old, c1) rg ln (nx, dr, qu) pd ct sg od hs) H := hP
          have hD : va_D A (wH α γ (h104_2, old, c1) rg ln (nx, dr, qu) pd ct sg od hs) := hD
          refine z_iinc (k := 0) (v := i + 1) (lv' := [(3, .int (zI (i + 1))), (2, .int (zI g)), (0, .ref (α 1)), (1, .ref (α 4))]) hx hb dX6_washDown_107 hl rfl rfl (by decide) rfl (fun ls hl => ?_)
          refine lv_goto (tgt := 83) hx hb dX6_washDown_110 (by decide) ?_
          exact ih_83 h104_2 (i + 1) _ _ hP hD hS _ (lv_sub hl [0, 1, 2, 3] rfl) (by first | assumption | rfl | omega) (by rw [hv104_0, S_put_in (by omega), hh1]; exact zmix_up hi3.1 (congrArg clip (by rw [zmix_ge (Int.le_refl _), hcz i (by omega) (by omega)]))) (by omega)
    · refine lv_aload_n hx hb dX6_washDown_18 rfl (lv_at hl 3 rfl) ?_
      refine lv_iload_n hx hb dX6_washDown_19 rfl (lv_at hl 1 rfl) ?_
      refine z_calli hP hD hS hA (va_runV (As := [.int (zI i)]) (rest := []) hC (c_X8_next l D τ α γ (h, old, c1) rg ln nx dr qu pd ct sg od hs h i (by first | assumption | rfl | omega) (by first | assumption | rfl | omega) _) (cwV 1 hts (gV hB wl_X6_61 wn_X8_next ws_X8_next wi_X8 wc_X8_next) rfl rfl rfl hd_X8_next ⟨Nat.le_of_ble_eq_true rfl, Nat.le_of_ble_eq_true rfl⟩) (zp_V hK hP hD hS hA hG (ci := 8) (q0 := 4) rfl rfl rfl) rfl rfl hl.1 rfl (lv_room (Nat.le_of_ble_eq_true rfl)) dX6_washDown_20 ⟨Nat.le_of_ble_eq_true rfl, Nat.le_of_ble_eq_true rfl⟩) (fun r w1 H locs hq9 hP hD hS => ?_)
      obtain ⟨v20_3, hv20_0, hv20_1, hv20_2, rfl, rfl⟩ := hq9
      have hP : va_P D vwCl (wH α γ (h, old, c1) rg ln (nx, dr, qu) pd ct sg od hs) H := hP
      have hD : va_D A (wH α γ (h, old, c1) rg ln (nx, dr, qu) pd ct sg od hs) := hD
      refine lv_istore (lv' := [(4, .int (zI v20_3)), (2, .int (zI g)), (3, .int (zI i)), (0, .ref (α 1)), (1, .ref (α 4))]) hx hb dX6_washDown_23 hl (by decide) rfl (fun ls hl => ?_)
      have e20 := hv20_0 (by omega)
      refine lv_iload hx hb dX6_washDown_25 (lv_at hl 0 rfl) ?_
      refine z_calli hP hD hS hA (va_runSN (As := [.int (zI v20_3)]) (rest := []) hC (c_X9_isPoint l D τ _ _ v20_3 (by first | assumption | rfl | omega) _) ⟨va_cnB 1 hts (gC hB wc_X9_isPoint) rfl rfl rfl (hG.2.2.2.2.2.2.2 _ (List.mem_of_getElem? (i := 9) rfl)) (hW0 _ wi_X9) hd_X9_isPoint.2 ⟨Nat.le_of_ble_eq_true rfl, Nat.le_of_ble_eq_true rfl⟩, (hW0 _ wt_X9_isPoint), trivial⟩ (zp_S hK hP hD hS hA hG) rfl rfl hl.1 rfl (lv_room (Nat.le_of_ble_eq_true rfl)) dX6_washDown_27 ⟨Nat.le_of_ble_eq_true rfl, Nat.le_of_ble_eq_true rfl⟩) (fun r w1 H locs hq9 hP hD hS => ?_)
      obtain ⟨v27_4, hv27_0, rfl, rfl⟩ := hq9
      refine z_ifeqB (tgt := 75) hx hb dX6_washDown_30 (by decide) (fun c_30 => ?_) (fun c_30 => ?_)
      · have hb_30 := zb_neg hv27_0 c_30
        have d0 := S_drop_next (h := h) (k := i) (by omega) (by omega)
        refine z_iinc (k := 2) (v := i + 1) (lv' := [(3, .int (zI (i + 1))), (4, .int (zI v20_3)), (2, .int (zI g)), (0, .ref (α 1)), (1, .ref (α 4))]) hx hb dX6_washDown_75 hl rfl rfl (by decide) rfl (fun ls hl => ?_)
        refine lv_goto (tgt := 12) hx hb dX6_washDown_78 (by decide) ?_
        exact ih_12 c1 g (i + 1) _ _ hP hD hS _ (lv_sub hl [2, 0, 3, 4] rfl) (by first | assumption | rfl | omega) (by refine Or.inr (fun k k1 k2 => ?_); rw [S_wc_up hi.1]; first | (rw [if_neg (by unfold S_steep; simp only [decide_eq_true_eq]; omega)]; exact hcc k k1 k2) | (rw [if_pos (by unfold S_steep; simp only [decide_eq_true_eq]; omega), e20]; unfold zu; have q1 := hcc i hi.1 (by omega); have q2 := hcc (S_next h i) (by omega) (by omega); have q3 := hcc k k1 k2; simp only [q1, q2, q3])) (by rw [zC_up hi.1, ← hg]; first | (rw [z1_f (by unfold S_steep; simp only [decide_eq_false_iff_not]; omega)]; omega) | (rw [z1_t (by unfold S_steep; simp only [decide_eq_true_eq]; omega)])) (by first | assumption | rfl | omega) (by omega)
      · have hb_30 := hv27_0.mp c_30
        have d1 := S_drop_to (h := h) (k := i) (by omega)
        rw [← e20] at d1
        have hne := S_next_ne (h := h) (k := i) (by omega)
        refine lv_aload_n hx hb dX6_washDown_33 rfl (lv_at hl 3 rfl) ?_
        refine va_get (D := D) (ci := 6) (v := .ref (α 10)) (C := RX6) (T := TX6) (N := 3) hx hb hts (fun w h => List.mem_cons_of_mem _ (wx_X6 w h)) hown hK hP 1 rfl rfl 0 (by decide) (hW0 _ wf_X6_9) (fun _ h9 => h9) rfl dX6_washDown_34 ?_
        refine lv_iload_n hx hb dX6_washDown_37 rfl (lv_at hl 2 rfl) ?_
        refine z_iald (f := h) hx hb hK hP 10 0 rfl rfl ⟨⟨by omega, by omega⟩, by decide⟩ dX6_washDown_38 ?_
        have hb_38 := hh i (by omega) (by omega)
        refine lv_aload_n hx hb dX6_washDown_39 rfl (lv_at hl 3 rfl) ?_
        refine va_get (D := D) (ci := 6) (v := .ref (α 10)) (C := RX6) (T := TX6) (N := 3) hx hb hts (fun w h => List.mem_cons_of_mem _ (wx_X6 w h)) hown hK hP 1 rfl rfl 0 (by decide) (hW0 _ wf_X6_9) (fun _ h9 => h9) rfl dX6_washDown_40 ?_
        refine lv_iload hx hb dX6_washDown_43 (lv_at hl 0 rfl) ?_
        refine z_iald (f := h) hx hb hK hP 10 0 rfl rfl ⟨⟨by omega, by omega⟩, by decide⟩ dX6_washDown_45 ?_
        have hb_45 := hh v20_3 (by omega) (by omega)
        refine z_isub hx hb dX6_washDown_46 ?_
        refine lv_iconst (v := zI 2) hx hb dX6_washDown_47 rfl ?_
        refine z_iclt (tgt := 75) hx hb ⟨by omega, by omega⟩ ⟨by omega, by omega⟩ dX6_washDown_48 (by decide) (fun c_48 => ?_) (fun c_48 => ?_)
        · have hs9 : ¬ 2 ≤ S_drop h i := by omega
          refine z_iinc (k := 2) (v := i + 1) (lv' := [(3, .int (zI (i + 1))), (4, .int (zI v20_3)), (2, .int (zI g)), (0, .ref (α 1)), (1, .ref (α 4))]) hx hb dX6_washDown_75 hl rfl rfl (by decide) rfl (fun ls hl => ?_)
          refine lv_goto (tgt := 12) hx hb dX6_washDown_78 (by decide) ?_
          exact ih_12 c1 g (i + 1) _ _ hP hD hS _ (lv_sub hl [2, 0, 3, 4] rfl) (by first | assumption | rfl | omega) (by refine Or.inr (fun k k1 k2 => ?_); rw [S_wc_up hi.1]; first | (rw [if_neg (by unfold S_steep; simp only [decide_eq_true_eq]; omega)]; exact hcc k k1 k2) | (rw [if_pos (by unfold S_steep; simp only [decide_eq_true_eq]; omega), e20]; unfold zu; have q1 := hcc i hi.1 (by omega); have q2 := hcc (S_next h i) (by omega) (by omega); have q3 := hcc k k1 k2; simp only [q1, q2, q3])) (by rw [zC_up hi.1, ← hg]; first | (rw [z1_f (by unfold S_steep; simp only [decide_eq_false_iff_not]; omega)]; omega) | (rw [z1_t (by unfold S_steep; simp only [decide_eq_true_eq]; omega)])) (by first | assumption | rfl | omega) (by omega)
        · have b55 := hcb i
          have q55 := hcc i (by omega) (by omega)
          have b65 := hcb v20_3
          have q65 := hcc v20_3 (by omega) (by omega)
          refine lv_aload_n hx hb dX6_washDown_51 rfl (lv_at hl 3 rfl) ?_
          refine va_get (D := D) (ci := 6) (v := .ref (α 12)) (C := RX6) (T := TX6) (N := 3) hx hb hts (fun w h => List.mem_cons_of_mem _ (wx_X6 w h)) hown hK hP 1 rfl rfl 2 (by decide) (hW0 _ wf_X6_18) (fun _ h9 => h9) rfl dX6_washDown_52 ?_
          refine lv_iload_n hx hb dX6_washDown_55 rfl (lv_at hl 2 rfl) ?_
          refine lv_dup2_11 hx hb dX6_washDown_56 rfl rfl ?_
          refine z_iald (f := c1) hx hb hK hP 12 2 rfl rfl ⟨⟨by omega, by omega⟩, by decide⟩ dX6_washDown_57 ?_
          refine lv_iconst (v := zI 1) hx hb dX6_washDown_58 rfl ?_
          refine z_isub hx hb dX6_washDown_59 ?_
          refine z_iast (f := c1) (v := (c1 i) - 1) hx hb hK hP hD hS 12 2 rfl rfl ⟨⟨by omega, by omega⟩, by decide⟩ dX6_washDown_60 (fun H locs hP hD hS => ?_)
          have hP : va_P D vwCl (wH α γ (h, old, zu c1 i ((c1 i) - 1)) rg ln (nx, dr, qu) pd ct sg od hs) H := hP
          have hD : va_D A (wH α γ (h, old, zu c1 i ((c1 i) - 1)) rg ln (nx, dr, qu) pd ct sg od hs) := hD
          refine lv_aload_n hx hb dX6_washDown_61 rfl (lv_at hl 3 rfl) ?_
          refine va_get (D := D) (ci := 6) (v := .ref (α 12)) (C := RX6) (T := TX6) (N := 3) hx hb hts (fun w h => List.mem_cons_of_mem _ (wx_X6 w h)) hown hK hP 1 rfl rfl 2 (by decide) (hW0 _ wf_X6_18) (fun _ h9 => h9) rfl dX6_washDown_62 ?_
          refine lv_iload hx hb dX6_washDown_65 (lv_at hl 0 rfl) ?_
          refine lv_dup2_11 hx hb dX6_washDown_67 rfl rfl ?_
          refine z_iald (f := zu c1 i ((c1 i) - 1)) hx hb hK hP 12 2 rfl rfl ⟨⟨by omega, by omega⟩, by decide⟩ dX6_washDown_68 ?_
          refine lv_iconst (v := zI 1) hx hb dX6_washDown_69 rfl ?_
          refine z_iadd hx hb dX6_washDown_70 ?_
          refine z_iast (f := zu c1 i ((c1 i) - 1)) (v := ((zu c1 i ((c1 i) - 1)) v20_3) + 1) hx hb hK hP hD hS 12 2 rfl rfl ⟨⟨by omega, by omega⟩, by decide⟩ dX6_washDown_71 (fun H locs hP hD hS => ?_)
          have hP : va_P D vwCl (wH α γ (h, old, zu (zu c1 i ((c1 i) - 1)) v20_3 (((zu c1 i ((c1 i) - 1)) v20_3) + 1)) rg ln (nx, dr, qu) pd ct sg od hs) H := hP
          have hD : va_D A (wH α γ (h, old, zu (zu c1 i ((c1 i) - 1)) v20_3 (((zu c1 i ((c1 i) - 1)) v20_3) + 1)) rg ln (nx, dr, qu) pd ct sg od hs) := hD
          refine z_iinc (k := 1) (v := g + 1) (lv' := [(2, .int (zI (g + 1))), (4, .int (zI v20_3)), (3, .int (zI i)), (0, .ref (α 1)), (1, .ref (α 4))]) hx hb dX6_washDown_72 hl rfl rfl (by decide) rfl (fun ls hl => ?_)
          refine z_iinc (k := 2) (v := i + 1) (lv' := [(3, .int (zI (i + 1))), (2, .int (zI (g + 1))), (4, .int (zI v20_3)), (0, .ref (α 1)), (1, .ref (α 4))]) hx hb dX6_washDown_75 hl rfl rfl (by decide) rfl (fun ls hl => ?_)
          refine lv_goto (tgt := 12) hx hb dX6_washDown_78 (by decide) ?_
          exact ih_12 (zu (zu c1 i ((c1 i) - 1)) v20_3 (((zu c1 i ((c1 i) - 1)) v20_3) + 1)) (g + 1) (i + 1) _ _ hP hD hS _ (lv_sub hl [1, 0, 3, 4] rfl) (by first | assumption | rfl | omega) (by refine Or.inr (fun k k1 k2 => ?_); rw [S_wc_up hi.1]; first | (rw [if_neg (by unfold S_steep; simp only [decide_eq_true_eq]; omega)]; exact hcc k k1 k2) | (rw [if_pos (by unfold S_steep; simp only [decide_eq_true_eq]; omega), e20]; unfold zu; have q1 := hcc i hi.1 (by omega); have q2 := hcc (S_next h i) (by omega) (by omega); have q3 := hcc k k1 k2; simp only [q1, q2, q3])) (by rw [zC_up hi.1, ← hg]; first | (rw [z1_f (by unfold S_steep; simp only [decide_eq_false_iff_not]; omega)]; omega) | (rw [z1_t (by unfold S_steep; simp only [decide_eq_true_eq]; omega)])) (by first | assumption | rfl | omega) (by omega)

abbrev wz_X5_clear : List Cond := .code yX5_clear cX5_clear 2 none :: W0
abbrev rm_X5_clear : Room := { frames := 0, cells := 0, slots := 0, locals := 0 }
theorem hd_X5_clear : yX5_clear.cls = RX5 ∧ yX5_clear.cls ≠ "java/lang/invoke/MethodHandle" ∧ yX5_clear.cls ≠ "java/lang/invoke/VarHandle" ∧ (parseMethodDescriptor yX5_clear.desc).map (fun d => d.parameters.length) = some 0 := by decide +kernel
set_option maxHeartbeats 4000000 in
set_option maxRecDepth 100000 in
theorem c_X5_clear (l : Launch) (D : va_G) (τ : Nat → Nat) (α : Nat → Nat) (γ : Nat → ClassId) (rl : TRl) (wt : BA) (qu5 : IA) (ln : TLn) (sl : TSl) (pd : TPd) (ct : TCt) (sg : TSg) (od : TOd) (hs : THs) : cM l yX5_clear wz_X5_clear rm_X5_clear D τ (tyH γ) [.ref (α 2)] (wH α γ rl (wt, qu5) ln sl pd ct sg od hs) (zQv (fun w => ∃ (w2 : BA), (w2 = bmix 49 (fun _ => false) wt) ∧ wH α γ rl (w2, qu5) ln sl pd ct sg od hs = w)) := by
  refine z_ofM (cc := cX5_clear) (maxL := 2) (ret := none) (by decide +kernel) rfl (Nat.le_of_ble_eq_true rfl) ?_
  intro pg e s m args below meth c hC hr hlk hnm hK hP A hD hG hA hS ls hl Q hQ
  have hx := hC.1
  have hb := hC.2.1
  have hml := hC.2.2.1
  have hown := hC.2.2.2.1
  have hts := hC.2.2.2.2
  have hB : ∀ w ∈ W0, w ∈ wz_X5_clear := fun _ h => List.mem_cons_of_mem _ h
  have hW0 : ∀ w ∈ W0, w.before args s = true := fun w h => hts w (hB w h)
  have hl : lv_has ls 2 [(0, .ref (α 2))] := hl
  refine lv_iconst (v := zI 0) hx hb dX5_clear_0 rfl ?_
  refine lv_istore_n (lv' := [(1, .int (zI 0)), (0, .ref (α 2))]) hx hb dX5_clear_1 rfl hl (by decide) rfl (fun ls hl => ?_)
  suffices HL_2 : ∀ (n_2 : Nat), ∀ (w1 : BA) (i : Int) (H : Heap) (locs : List Loc) (hP : va_P D vwCl (wH α γ rl (w1, qu5) ln sl pd ct sg od hs) H) (hD : va_D A (wH α γ rl (w1, qu5) ln sl pd ct sg od hs)) (hS : va_S A s.heap H locs) (ls : Array Slot) (hl : lv_has ls 2 [(1, .int (zI i)), (0, .ref (α 2))]) (hi : 0 ≤ i ∧ i ≤ 49) (hw1 : w1 = bmix i (fun _ => false) wt) (hm : (49 - i).toNat < n_2), W pg l e rm_X5_clear s m args below meth c H locs 0 0 Q (F0 m 2 ls []) from HL_2 _ wt 0 _ _ hP hD hS _ (lv_sub hl [0, 1] rfl) (by first | assumption | rfl | omega) (by exact (bmix_0 _ _).symm) (Nat.lt_succ_self _)
  intro n_2
  induction n_2 with
  | zero => intro w1 i H locs hP hD hS ls hl hi hw1 hm; exact absurd hm (Nat.not_lt_zero _)
  | succ n_2 ih_2 =>
    intro w1 i H locs hP hD hS ls hl hi hw1 hm
    refine lv_iload_n hx hb dX5_clear_2 rfl (lv_at hl 0 rfl) ?_
    refine lv_bipush (v := zI 49) hx hb dX5_clear_3 (zI_b8 (by decide)) ?_
    refine z_icge (tgt := 21) hx hb ⟨by omega, by omega⟩ ⟨by omega, by omega⟩ dX5_clear_5 (by decide) (fun c_5 => ?_) (fun c_5 => ?_)
    · exact z_vret hC hr hlk hQ hP hD hS ⟨w1, (by rw [hw1, show i = 49 by omega]), rfl⟩ dX5_clear_21
    · refine lv_aload_n hx hb dX5_clear_8 rfl (lv_at hl 1 rfl) ?_
      refine va_get (D := D) (ci := 5) (v := .ref (α 13)) (C := RX5) (T := TX5) (N := 2) hx hb hts (fun w h => List.mem_cons_of_mem _ (wx_X5 w h)) hown hK hP 2 rfl rfl 0 (by decide) (hW0 _ wf_X5_9) (fun _ h9 => h9) rfl dX5_clear_9 ?_
      refine lv_iload_n hx hb dX5_clear_12 rfl (lv_at hl 0 rfl) ?_
      refine lv_iconst (v := zI 0) hx hb dX5_clear_13 rfl ?_
      refine z_zast (f := w1) (v := false) hx hb hK hP hD hS 13 3 rfl rfl ⟨⟨by omega, by omega⟩, by decide⟩ dX5_clear_14 (fun H locs hP hD hS => ?_)
      have hP : va_P D vwCl (wH α γ rl (bu w1 i false, qu5) ln sl pd ct sg od hs) H := hP
      have hD : va_D A (wH α γ rl (bu w1 i false, qu5) ln sl pd ct sg od hs) := hD
      refine z_iinc (k := 0) (v := i + 1) (lv' := [(1, .int (zI (i + 1))), (0, .ref (α 2))]) hx hb dX5_clear_15 hl rfl rfl (by decide) rfl (fun ls hl => ?_)
      refine lv_goto (tgt := 2) hx hb dX5_clear_18 (by decide) ?_
      exact ih_2 (bu w1 i false) (i + 1) _ _ hP hD hS _ (lv_sub hl [0, 1] rfl) (by first | assumption | rfl | omega) (by rw [hw1]; exact bmix_up hi.1 rfl) (by omega)

abbrev wz_X5_add : List Cond := .code yX5_add cX5_add 2 none :: W0
abbrev rm_X5_add : Room := { frames := 1, cells := 0, slots := 0, locals := 20 }
theorem hd_X5_add : yX5_add.cls = RX5 ∧ yX5_add.cls ≠ "java/lang/invoke/MethodHandle" ∧ yX5_add.cls ≠ "java/lang/invoke/VarHandle" ∧ (parseMethodDescriptor yX5_add.desc).map (fun d => d.parameters.length) = some 1 := by decide +kernel
set_option maxHeartbeats 4000000 in
set_option maxRecDepth 100000 in
theorem c_X5_add (l : Launch) (D : va_G) (τ : Nat → Nat) (α : Nat → Nat) (γ : Nat → ClassId) (rl : TRl) (wt : BA) (qu5 : IA) (ln : TLn) (sl : TSl) (pd : TPd) (ct : TCt) (sg : TSg) (od : TOd) (hs : THs) (a : Int) (ha : 0 ≤ a ∧ a < 49) : cM l yX5_add wz_X5_add rm_X5_add D τ (tyH γ) [.ref (α 2), .int (zI a)] (wH α γ rl (wt, qu5) ln sl pd ct sg od hs) (zQv (fun w => ∃ (w2 : BA), (w2 = bu wt a true) ∧ wH α γ rl (w2, qu5) ln sl pd ct sg od hs = w)) := by
  refine z_ofM (cc := cX5_add) (maxL := 2) (ret := none) (by decide +kernel) rfl (Nat.le_of_ble_eq_true rfl) ?_
  intro pg e s m args below meth c hC hr hlk hnm hK hP A hD hG hA hS ls hl Q hQ
  have hx := hC.1
  have hb := hC.2.1
  have hml := hC.2.2.1
  have hown := hC.2.2.2.1
  have hts := hC.2.2.2.2
  have hB : ∀ w ∈ W0, w ∈ wz_X5_add := fun _ h => List.mem_cons_of_mem _ h
  have hW0 : ∀ w ∈ W0, w.before args s = true := fun w h => hts w (hB w h)
  have hl : lv_has ls 2 [(0, .ref (α 2)), (1, .int (zI a))] := hl
  refine lv_iload_n hx hb dX5_add_0 rfl (lv_at hl 1 rfl) ?_
  refine z_calli hP hD hS hA (va_runSN (As := [.int (zI a)]) (rest := []) hC (c_X9_isPoint l D τ _ _ a (by first | assumption | rfl | omega) _) ⟨va_cnB 1 hts (gC hB wc_X9_isPoint) rfl rfl rfl (hG.2.2.2.2.2.2.2 _ (List.mem_of_getElem? (i := 7) rfl)) (hW0 _ wi_X9) hd_X9_isPoint.2 ⟨Nat.le_of_ble_eq_true rfl, Nat.le_of_ble_eq_true rfl⟩, (hW0 _ wt_X9_isPoint), trivial⟩ (zp_S hK hP hD hS hA hG) rfl rfl hl.1 rfl (lv_room (Nat.le_of_ble_eq_true rfl)) dX5_add_1 ⟨Nat.le_of_ble_eq_true rfl, Nat.le_of_ble_eq_true rfl⟩) (fun r w1 H locs hq9 hP hD hS => ?_)
  obtain ⟨v1_1, hv1_0, rfl, rfl⟩ := hq9
  refine z_ifeqB (tgt := 14) hx hb dX5_add_4 (by decide) (fun c_4 => ?_) (fun c_4 => ?_)
  · have hb_4 := zb_neg hv1_0 c_4
    exact absurd ha hb_4
  · have hb_4 := hv1_0.mp c_4
    refine lv_aload_n hx hb dX5_add_7 rfl (lv_at hl 0 rfl) ?_
    refine va_get (D := D) (ci := 5) (v := .ref (α 13)) (C := RX5) (T := TX5) (N := 2) hx hb hts (fun w h => List.mem_cons_of_mem _ (wx_X5 w h)) hown hK hP 2 rfl rfl 0 (by decide) (hW0 _ wf_X5_9) (fun _ h9 => h9) rfl dX5_add_8 ?_
    refine lv_iload_n hx hb dX5_add_11 rfl (lv_at hl 1 rfl) ?_
    refine lv_iconst (v := zI 1) hx hb dX5_add_12 rfl ?_
    refine z_zast (f := wt) (v := true) hx hb hK hP hD hS 13 3 rfl rfl ⟨⟨by omega, by omega⟩, by decide⟩ dX5_add_13 (fun H locs hP hD hS => ?_)
    have hP : va_P D vwCl (wH α γ rl (bu wt a true, qu5) ln sl pd ct sg od hs) H := hP
    have hD : va_D A (wH α γ rl (bu wt a true, qu5) ln sl pd ct sg od hs) := hD
    exact z_vret hC hr hlk hQ hP hD hS ⟨bu wt a true, (by first | assumption | rfl | omega), rfl⟩ dX5_add_14

abbrev wz_X5_isWaiting : List Cond := .code yX5_isWaiting cX5_isWaiting 2 (some .boolean) :: W0
abbrev rm_X5_isWaiting : Room := { frames := 1, cells := 0, slots := 0, locals := 20 }
theorem hd_X5_isWaiting : yX5_isWaiting.cls = RX5 ∧ yX5_isWaiting.cls ≠ "java/lang/invoke/MethodHandle" ∧ yX5_isWaiting.cls ≠ "java/lang/invoke/VarHandle" ∧ (parseMethodDescriptor yX5_isWaiting.desc).map (fun d => d.parameters.length) = some 1 := by decide +kernel
set_option maxHeartbeats 4000000 in
set_option maxRecDepth 100000 in
theorem c_X5_isWaiting (l : Launch) (D : va_G) (τ : Nat → Nat) (α : Nat → Nat) (γ : Nat → ClassId) (rl : TRl) (wt : BA) (qu5 : IA) (ln : TLn) (sl : TSl) (pd : TPd) (ct : TCt) (sg : TSg) (od : TOd) (hs : THs) (a : Int) (ha : -2147483648 ≤ a ∧ a < 2147483648) : cM l yX5_isWaiting wz_X5_isWaiting rm_X5_isWaiting D τ (tyH γ) [.ref (α 2), .int (zI a)] (wH α γ rl (wt, qu5) ln sl pd ct sg od hs) (zQi (fun r w => ∃ (v : Bool), (v = true ↔ ((0 ≤ a ∧ a < 49) ∧ wt a = true)) ∧ r = bI v ∧ wH α γ rl (wt, qu5) ln sl pd ct sg od hs = w)) := by
  refine z_ofM (cc := cX5_isWaiting) (maxL := 2) (ret := (some .boolean)) (by decide +kernel) rfl (Nat.le_of_ble_eq_true rfl) ?_
  intro pg e s m args below meth c hC hr hlk hnm hK hP A hD hG hA hS ls hl Q hQ
  have hx := hC.1
  have hb := hC.2.1
  have hml := hC.2.2.1
  have hown := hC.2.2.2.1
  have hts := hC.2.2.2.2
  have hB : ∀ w ∈ W0, w ∈ wz_X5_isWaiting := fun _ h => List.mem_cons_of_mem _ h
  have hW0 : ∀ w ∈ W0, w.before args s = true := fun w h => hts w (hB w h)
  have hl : lv_has ls 2 [(0, .ref (α 2)), (1, .int (zI a))] := hl
  refine lv_iload_n hx hb dX5_isWaiting_0 rfl (lv_at hl 1 rfl) ?_
  refine z_calli hP hD hS hA (va_runSN (As := [.int (zI a)]) (rest := []) hC (c_X9_isPoint l D τ _ _ a (by first | assumption | rfl | omega) _) ⟨va_cnB 1 hts (gC hB wc_X9_isPoint) rfl rfl rfl (hG.2.2.2.2.2.2.2 _ (List.mem_of_getElem? (i := 7) rfl)) (hW0 _ wi_X9) hd_X9_isPoint.2 ⟨Nat.le_of_ble_eq_true rfl, Nat.le_of_ble_eq_true rfl⟩, (hW0 _ wt_X9_isPoint), trivial⟩ (zp_S hK hP hD hS hA hG) rfl rfl hl.1 rfl (lv_room (Nat.le_of_ble_eq_true rfl)) dX5_isWaiting_1 ⟨Nat.le_of_ble_eq_true rfl, Nat.le_of_ble_eq_true rfl⟩) (fun r w1 H locs hq9 hP hD hS => ?_)
  obtain ⟨v1_1, hv1_0, rfl, rfl⟩ := hq9
  refine z_ifeqB (tgt := 20) hx hb dX5_isWaiting_4 (by decide) (fun c_4 => ?_) (fun c_4 => ?_)
  · have hb_4 := zb_neg hv1_0 c_4
    refine lv_iconst (v := zI 0) hx hb dX5_isWaiting_20 rfl ?_
    refine W.eq (g2 := F0 m 21 ls [.int (bI false)]) rfl ?_
    exact z_zret hC hr hlk hQ hP hD hS ⟨false, (by first | exact ⟨fun _ => ⟨hb_4, c_13⟩, fun _ => rfl⟩ | exact ⟨fun h9 => (by cases h9), fun h9 => absurd h9.1 hb_4⟩ | exact ⟨fun h9 => (by cases h9), fun h9 => (by rw [h9.2] at c_13; cases c_13)⟩), rfl, rfl⟩ dX5_isWaiting_21
  · have hb_4 := hv1_0.mp c_4
    refine lv_aload_n hx hb dX5_isWaiting_7 rfl (lv_at hl 0 rfl) ?_
    refine va_get (D := D) (ci := 5) (v := .ref (α 13)) (C := RX5) (T := TX5) (N := 2) hx hb hts (fun w h => List.mem_cons_of_mem _ (wx_X5 w h)) hown hK hP 2 rfl rfl 0 (by decide) (hW0 _ wf_X5_9) (fun _ h9 => h9) rfl dX5_isWaiting_8 ?_
    refine lv_iload_n hx hb dX5_isWaiting_11 rfl (lv_at hl 1 rfl) ?_
    refine z_zald (f := wt) hx hb hK hP 13 3 rfl rfl ⟨⟨by omega, by omega⟩, by decide⟩ dX5_isWaiting_12 ?_
    refine z_ifeqB (tgt := 20) hx hb dX5_isWaiting_13 (by decide) (fun c_13 => ?_) (fun c_13 => ?_)
    · refine lv_iconst (v := zI 0) hx hb dX5_isWaiting_20 rfl ?_
      refine W.eq (g2 := F0 m 21 ls [.int (bI false)]) rfl ?_
      exact z_zret hC hr hlk hQ hP hD hS ⟨false, (by first | exact ⟨fun _ => ⟨hb_4, c_13⟩, fun _ => rfl⟩ | exact ⟨fun h9 => (by cases h9), fun h9 => absurd h9.1 hb_4⟩ | exact ⟨fun h9 => (by cases h9), fun h9 => (by rw [h9.2] at c_13; cases c_13)⟩), rfl, rfl⟩ dX5_isWaiting_21
    · refine lv_iconst (v := zI 1) hx hb dX5_isWaiting_16 rfl ?_
      refine lv_goto (tgt := 21) hx hb dX5_isWaiting_17 (by decide) ?_
      refine W.eq (g2 := F0 m 21 ls [.int (bI true)]) rfl ?_
      exact z_zret hC hr hlk hQ hP hD hS ⟨true, (by first | exact ⟨fun _ => ⟨hb_4, c_13⟩, fun _ => rfl⟩ | exact ⟨fun h9 => (by cases h9), fun h9 => absurd h9.1 hb_4⟩ | exact ⟨fun h9 => (by cases h9), fun h9 => (by rw [h9.2] at c_13; cases c_13)⟩), rfl, rfl⟩ dX5_isWaiting_21

abbrev wz_X5_reach : List Cond := .code yX5_reach cX5_reach 7 none :: W0
abbrev rm_X5_reach : Room := { frames := 2, cells := 0, slots := 0, locals := 42 }
theorem hd_X5_reach : yX5_reach.cls = RX5 ∧ yX5_reach.cls ≠ "java/lang/invoke/MethodHandle" ∧ yX5_reach.cls ≠ "java/lang/invoke/VarHandle" ∧ (parseMethodDescriptor yX5_reach.desc).map (fun d => d.parameters.length) = some 2 := by decide +kernel
set_option maxHeartbeats 4000000 in
set_option maxRecDepth 100000 in
theorem c_X5_reach (l : Launch) (D : va_G) (τ : Nat → Nat) (α : Nat → Nat) (γ : Nat → ClassId) (rl : TRl) (wt : BA) (qu5 : IA) (ln : TLn) (sl : TSl) (pd : TPd) (ct : TCt) (sg : TSg) (od : TOd) (hs : THs) (a : Int) (n : Int) (ha : 0 ≤ a ∧ a < 49) (hn : n = 4 ∨ n = 8) : cM l yX5_reach wz_X5_reach rm_X5_reach D τ (tyH γ) [.ref (α 2), .int (zI a), .int (zI n)] (wH α γ rl (wt, qu5) ln sl pd ct sg od hs) (zQv (fun w => ∃ (w2 : BA), ∃ (q2 : IA), (w2 = if wt a = true then S_rem n wt a else wt) ∧ wH α γ rl (w2, q2) ln sl pd ct sg od hs = w)) := by
  refine z_ofM (cc := cX5_reach) (maxL := 7) (ret := none) (by decide +kernel) rfl (Nat.le_of_ble_eq_true rfl) ?_
  intro pg e s m args below meth c hC hr hlk hnm hK hP A hD hG hA hS ls hl Q hQ
  have hx := hC.1
  have hb := hC.2.1
  have hml := hC.2.2.1
  have hown := hC.2.2.2.1
  have hts := hC.2.2.2.2
  have hB : ∀ w ∈ W0, w ∈ wz_X5_reach := fun _ h => List.mem_cons_of_mem _ h
  have hW0 : ∀ w ∈ W0, w.before args s = true := fun w h => hts w (hB w h)
  have hl : lv_has ls 7 [(0, .ref (α 2)), (1, .int (zI a)), (2, .int (zI n))] := hl
  refine lv_aload_n hx hb dX5_reach_0 rfl (lv_at hl 0 rfl) ?_
  refine lv_iload_n hx hb dX5_reach_1 rfl (lv_at hl 1 rfl) ?_
  refine z_calli hP hD hS hA (va_runV (As := [.int (zI a)]) (rest := []) hC (c_X5_isWaiting l D τ α γ rl wt qu5 ln sl pd ct sg od hs a (by first | assumption | rfl | omega) _) (cwV 1 hts (gV hB wl_X5_27 wn_X5_isWaiting ws_X5_isWaiting wi_X5 wc_X5_isWaiting) rfl rfl rfl hd_X5_isWaiting ⟨Nat.le_of_ble_eq_true rfl, Nat.le_of_ble_eq_true rfl⟩) (zp_V hK hP hD hS hA hG (ci := 5) (q0 := 2) rfl rfl rfl) rfl rfl hl.1 rfl (lv_room (Nat.le_of_ble_eq_true rfl)) dX5_reach_2 ⟨Nat.le_of_ble_eq_true rfl, Nat.le_of_ble_eq_true rfl⟩) (fun r w1 H locs hq9 hP hD hS => ?_)
  obtain ⟨v2_1, hv2_0, rfl, rfl⟩ := hq9
  have hP : va_P D vwCl (wH α γ rl (wt, qu5) ln sl pd ct sg od hs) H := hP
  have hD : va_D A (wH α γ rl (wt, qu5) ln sl pd ct sg od hs) := hD
  refine z_ifneB (tgt := 9) hx hb dX5_reach_5 (by decide) (fun c_5 => ?_) (fun c_5 => ?_)
  · have hb_5 := hv2_0.mp c_5
    refine lv_aload_n hx hb dX5_reach_9 rfl (lv_at hl 0 rfl) ?_
    refine va_get (D := D) (ci := 5) (v := .ref (α 13)) (C := RX5) (T := TX5) (N := 2) hx hb hts (fun w h => List.mem_cons_of_mem _ (wx_X5 w h)) hown hK hP 2 rfl rfl 0 (by decide) (hW0 _ wf_X5_9) (fun _ h9 => h9) rfl dX5_reach_10 ?_
    refine lv_iload_n hx hb dX5_reach_13 rfl (lv_at hl 1 rfl) ?_
    refine lv_iconst (v := zI 0) hx hb dX5_reach_14 rfl ?_
    refine z_zast (f := wt) (v := false) hx hb hK hP hD hS 13 3 rfl rfl ⟨⟨by omega, by omega⟩, by decide⟩ dX5_reach_15 (fun H locs hP hD hS => ?_)
    have hP : va_P D vwCl (wH α γ rl (bu wt a false, qu5) ln sl pd ct sg od hs) H := hP
    have hD : va_D A (wH α γ rl (bu wt a false, qu5) ln sl pd ct sg od hs) := hD
    refine lv_aload_n hx hb dX5_reach_16 rfl (lv_at hl 0 rfl) ?_
    refine va_get (D := D) (ci := 5) (v := .ref (α 14)) (C := RX5) (T := TX5) (N := 2) hx hb hts (fun w h => List.mem_cons_of_mem _ (wx_X5 w h)) hown hK hP 2 rfl rfl 1 (by decide) (hW0 _ wf_X5_15) (fun _ h9 => h9) rfl dX5_reach_17 ?_
    refine lv_iconst (v := zI 0) hx hb dX5_reach_20 rfl ?_
    refine lv_iload_n hx hb dX5_reach_21 rfl (lv_at hl 1 rfl) ?_
    refine z_iast (f := qu5) (v := a) hx hb hK hP hD hS 14 4 rfl rfl ⟨⟨by omega, by omega⟩, by decide⟩ dX5_reach_22 (fun H locs hP hD hS => ?_)
    have hP : va_P D vwCl (wH α γ rl (bu wt a false, zu qu5 0 a) ln sl pd ct sg od hs) H := hP
    have hD : va_D A (wH α γ rl (bu wt a false, zu qu5 0 a) ln sl pd ct sg od hs) := hD
    refine lv_iconst (v := zI 1) hx hb dX5_reach_23 rfl ?_
    refine lv_istore_n (lv' := [(3, .int (zI 1)), (0, .ref (α 2)), (1, .int (zI a)), (2, .int (zI n))]) hx hb dX5_reach_24 rfl hl (by decide) rfl (fun ls hl => ?_)
    refine lv_iconst (v := zI 0) hx hb dX5_reach_25 rfl ?_
    refine lv_istore (lv' := [(4, .int (zI 0)), (3, .int (zI 1)), (0, .ref (α 2)), (1, .int (zI a)), (2, .int (zI n))]) hx hb dX5_reach_26 hl (by decide) rfl (fun ls hl => ?_)
    suffices HL_28 : ∀ (n_28 : Nat), ∀ (w : BA) (q : IA) (e8 : Int) (hd : Int) (H : Heap) (locs : List Loc) (hP : va_P D vwCl (wH α γ rl (w, q) ln sl pd ct sg od hs) H) (hD : va_D A (wH α γ rl (w, q) ln sl pd ct sg od hs)) (hS : va_S A s.heap H locs) (ls : Array Slot) (hl : lv_has ls 7 [(3, .int (zI e8)), (4, .int (zI hd)), (0, .ref (α 2)), (1, .int (zI a)), (2, .int (zI n))]) (hI : RQ n wt a w q e8 hd 0) (hr8 : 1 ≤ e8 ∧ e8 ≤ 49 ∧ 0 ≤ hd ∧ hd ≤ e8) (hm : (49 - hd).toNat < n_28), W pg l e rm_X5_reach s m args below meth c H locs 0 0 Q (F0 m 28 ls []) from HL_28 _ (bu wt a false) (zu qu5 0 a) 1 0 _ _ hP hD hS _ (lv_sub hl [1, 0, 2, 3, 4] rfl) (by exact RQ_init ha hb_5.2) (by first | assumption | rfl | omega) (Nat.lt_succ_self _)
    intro n_28
    induction n_28 with
    | zero => intro w q e8 hd H locs hP hD hS ls hl hI hr8 hm; exact absurd hm (Nat.not_lt_zero _)
    | succ n_28 ih_28 =>
      intro w q e8 hd H locs hP hD hS ls hl hI hr8 hm
      refine lv_iload hx hb dX5_reach_28 (lv_at hl 1 rfl) ?_
      refine lv_iload_n hx hb dX5_reach_30 rfl (lv_at hl 0 rfl) ?_
      refine z_icge (tgt := 110) hx hb ⟨by omega, by omega⟩ ⟨by omega, by omega⟩ dX5_reach_31 (by decide) (fun c_31 => ?_) (fun c_31 => ?_)
      · exact z_vret hC hr hlk hQ hP hD hS ⟨w, q, (by rw [if_pos hb_5.2]; exact RQ_end hI (by omega)), rfl⟩ dX5_reach_110
      · refine lv_iload hx hb dX5_reach_34 (lv_at hl 1 rfl) ?_
        refine lv_bipush (v := zI 49) hx hb dX5_reach_36 (zI_b8 (by decide)) ?_
        refine z_icge (tgt := 110) hx hb ⟨by omega, by omega⟩ ⟨by omega, by omega⟩ dX5_reach_38 (by decide) (fun c_38 => ?_) (fun c_38 => ?_)
        · exact z_vret hC hr hlk hQ hP hD hS ⟨w, q, (by rw [if_pos hb_5.2]; exact RQ_end hI (by omega)), rfl⟩ dX5_reach_110
        · refine lv_iconst (v := zI 0) hx hb dX5_reach_41 rfl ?_
          refine lv_istore (lv' := [(5, .int (zI 0)), (3, .int (zI e8)), (4, .int (zI hd)), (0, .ref (α 2)), (1, .int (zI a)), (2, .int (zI n))]) hx hb dX5_reach_42 hl (by decide) rfl (fun ls hl => ?_)
          suffices HL_44 : ∀ (n_44 : Nat), ∀ (w1 : BA) (q1 : IA) (e1 : Int) (j : Int) (H : Heap) (locs : List Loc) (hP : va_P D vwCl (wH α γ rl (w1, q1) ln sl pd ct sg od hs) H) (hD : va_D A (wH α γ rl (w1, q1) ln sl pd ct sg od hs)) (hS : va_S A s.heap H locs) (ls : Array Slot) (hl : lv_has ls 7 [(3, .int (zI e1)), (5, .int (zI j)), (4, .int (zI hd)), (0, .ref (α 2)), (1, .int (zI a)), (2, .int (zI n))]) (hj : 0 ≤ j ∧ j ≤ n) (hJ : RQ n wt a w1 q1 e1 hd j) (hr1 : 1 ≤ e1 ∧ e1 ≤ 49 ∧ 0 ≤ hd ∧ hd < e1) (hm : (n - j).toNat < n_44), W pg l e rm_X5_reach s m args below meth c H locs 0 0 Q (F0 m 44 ls []) from HL_44 _ w q e8 0 _ _ hP hD hS _ (lv_sub hl [1, 0, 2, 3, 4, 5] rfl) (by first | assumption | rfl | omega) (by exact hI) (by first | assumption | rfl | omega) (Nat.lt_succ_self _)
          intro n_44
          induction n_44 with
          | zero => intro w1 q1 e1 j H locs hP hD hS ls hl hj hJ hr1 hm; exact absurd hm (Nat.not_lt_zero _)
          | succ n_44 ih_44 =>
            intro w1 q1 e1 j H locs hP hD hS ls hl hj hJ hr1 hm
            refine lv_iload hx hb dX5_reach_44 (lv_at hl 1 rfl) ?_
            have hqr := (RQ_rng hJ) hd (by omega) (by omega)
            refine lv_iload_n hx hb dX5_reach_46 rfl (lv_at hl 5 rfl) ?_
            refine z_icge (tgt := 104) hx hb ⟨by omega, by omega⟩ ⟨by omega, by omega⟩ dX5_reach_47 (by decide) (fun c_47 => ?_) (fun c_47 => ?_)
            · refine z_iinc (k := 2) (v := hd + 1) (lv' := [(4, .int (zI (hd + 1))), (3, .int (zI e1)), (5, .int (zI j)), (0, .ref (α 2)), (1, .int (zI a)), (2, .int (zI n))]) hx hb dX5_reach_104 hl rfl rfl (by decide) rfl (fun ls hl => ?_)
              refine lv_goto (tgt := 28) hx hb dX5_reach_107 (by decide) ?_
              exact ih_28 w1 q1 e1 (hd + 1) _ _ hP hD hS _ (lv_sub hl [1, 0, 3, 4, 5] rfl) (by exact RQ_out (show RQ n wt a w1 q1 e1 hd n from (show j = n by omega) ▸ hJ) (by omega)) (by omega) (by omega)
            · refine lv_aload_n hx hb dX5_reach_50 rfl (lv_at hl 3 rfl) ?_
              refine va_get (D := D) (ci := 5) (v := .ref (α 14)) (C := RX5) (T := TX5) (N := 2) hx hb hts (fun w h => List.mem_cons_of_mem _ (wx_X5 w h)) hown hK hP 2 rfl rfl 1 (by decide) (hW0 _ wf_X5_15) (fun _ h9 => h9) rfl dX5_reach_51 ?_
              refine lv_iload hx hb dX5_reach_54 (lv_at hl 2 rfl) ?_
              refine z_iald (f := q1) hx hb hK hP 14 4 rfl rfl ⟨⟨by omega, by omega⟩, by decide⟩ dX5_reach_56 ?_
              refine lv_iload hx hb dX5_reach_57 (lv_at hl 1 rfl) ?_
              refine z_calli hP hD hS hA (va_runSN (As := [.int (zI (q1 hd)), .int (zI j)]) (rest := []) hC (c_X9_stepFrom l D τ _ _ (q1 hd) j (by first | assumption | rfl | omega) (by first | assumption | rfl | omega) _) ⟨va_cnB 2 hts (gC hB wc_X9_stepFrom) rfl rfl rfl (hG.2.2.2.2.2.2.2 _ (List.mem_of_getElem? (i := 8) rfl)) (hW0 _ wi_X9) hd_X9_stepFrom.2 ⟨Nat.le_of_ble_eq_true rfl, Nat.le_of_ble_eq_true rfl⟩, (hW0 _ wt_X9_stepFrom), trivial⟩ (zp_S hK hP hD hS hA hG) rfl rfl hl.1 rfl (lv_room (Nat.le_of_ble_eq_true rfl)) dX5_reach_59 ⟨Nat.le_of_ble_eq_true rfl, Nat.le_of_ble_eq_true rfl⟩) (fun r w1 H locs hq9 hP hD hS => ?_)
              obtain ⟨v59_2, hv59_0, hv59_1, rfl, rfl⟩ := hq9
              refine lv_istore (lv' := [(6, .int (zI v59_2)), (3, .int (zI e1)), (5, .int (zI j)), (4, .int (zI hd)), (0, .ref (α 2)), (1, .int (zI a)), (2, .int (zI n))]) hx hb dX5_reach_62 hl (by decide) rfl (fun ls hl => ?_)
              refine lv_aload_n hx hb dX5_reach_64 rfl (lv_at hl 4 rfl) ?_
              refine lv_iload hx hb dX5_reach_65 (lv_at hl 0 rfl) ?_
              refine z_calli hP hD hS hA (va_runV (As := [.int (zI v59_2)]) (rest := []) hC (c_X5_isWaiting l D τ α γ rl w1 q1 ln sl pd ct sg od hs v59_2 (by first | assumption | rfl | omega) _) (cwV 1 hts (gV hB wl_X5_27 wn_X5_isWaiting ws_X5_isWaiting wi_X5 wc_X5_isWaiting) rfl rfl rfl hd_X5_isWaiting ⟨Nat.le_of_ble_eq_true rfl, Nat.le_of_ble_eq_true rfl⟩) (zp_V hK hP hD hS hA hG (ci := 5) (q0 := 2) rfl rfl rfl) rfl rfl hl.1 rfl (lv_room (Nat.le_of_ble_eq_true rfl)) dX5_reach_67 ⟨Nat.le_of_ble_eq_true rfl, Nat.le_of_ble_eq_true rfl⟩) (fun r w1 H locs hq9 hP hD hS => ?_)
              obtain ⟨v67_3, hv67_0, rfl, rfl⟩ := hq9
              have hP : va_P D vwCl (wH α γ rl (w1, q1) ln sl pd ct sg od hs) H := hP
              have hD : va_D A (wH α γ rl (w1, q1) ln sl pd ct sg od hs) := hD
              refine z_ifeqB (tgt := 98) hx hb dX5_reach_70 (by decide) (fun c_70 => ?_) (fun c_70 => ?_)
              · have hb_70 := zb_neg hv67_0 c_70
                refine z_iinc (k := 2) (v := j + 1) (lv' := [(5, .int (zI (j + 1))), (6, .int (zI v59_2)), (3, .int (zI e1)), (4, .int (zI hd)), (0, .ref (α 2)), (1, .int (zI a)), (2, .int (zI n))]) hx hb dX5_reach_98 hl rfl rfl (by decide) rfl (fun ls hl => ?_)
                refine lv_goto (tgt := 44) hx hb dX5_reach_101 (by decide) ?_
                exact ih_44 w1 q1 e1 (j + 1) _ _ hP hD hS _ (lv_sub hl [2, 0, 3, 4, 5, 6] rfl) (by first | assumption | rfl | omega) (by first | (have z9 := (RQ_new hJ ⟨hj.1, by omega⟩ (by omega) (by rw [← hv59_0]; exact hb_70.1) (by rw [← hv59_0]; exact hb_70.2)).2; rw [← hv59_0] at z9; exact z9) | (refine RQ_skip hJ (fun z8 => ?_); rw [← hv59_0] at z8 ⊢; exact Bool.eq_false_iff.mpr (fun z7 => hb_70 ⟨⟨z8, hv59_1.2⟩, z7⟩))) (by omega) (by omega)
              · have hb_70 := hv67_0.mp c_70
                refine lv_iload_n hx hb dX5_reach_73 rfl (lv_at hl 1 rfl) ?_
                refine lv_bipush (v := zI 49) hx hb dX5_reach_74 (zI_b8 (by decide)) ?_
                refine z_icge (tgt := 98) hx hb ⟨by omega, by omega⟩ ⟨by omega, by omega⟩ dX5_reach_76 (by decide) (fun c_76 => ?_) (fun c_76 => ?_)
                · exact absurd (RQ_new hJ ⟨hj.1, by omega⟩ (by omega) (by rw [← hv59_0]; exact hb_70.1) (by rw [← hv59_0]; exact hb_70.2)).1 (by omega)
                · refine lv_aload_n hx hb dX5_reach_79 rfl (lv_at hl 4 rfl) ?_
                  refine va_get (D := D) (ci := 5) (v := .ref (α 13)) (C := RX5) (T := TX5) (N := 2) hx hb hts (fun w h => List.mem_cons_of_mem _ (wx_X5 w h)) hown hK hP 2 rfl rfl 0 (by decide) (hW0 _ wf_X5_9) (fun _ h9 => h9) rfl dX5_reach_80 ?_
                  refine lv_iload hx hb dX5_reach_83 (lv_at hl 0 rfl) ?_
                  refine lv_iconst (v := zI 0) hx hb dX5_reach_85 rfl ?_
                  refine z_zast (f := w1) (v := false) hx hb hK hP hD hS 13 3 rfl rfl ⟨⟨by omega, by omega⟩, by decide⟩ dX5_reach_86 (fun H locs hP hD hS => ?_)
                  have hP : va_P D vwCl (wH α γ rl (bu w1 v59_2 false, q1) ln sl pd ct sg od hs) H := hP
                  have hD : va_D A (wH α γ rl (bu w1 v59_2 false, q1) ln sl pd ct sg od hs) := hD
                  refine lv_aload_n hx hb dX5_reach_87 rfl (lv_at hl 4 rfl) ?_
                  refine va_get (D := D) (ci := 5) (v := .ref (α 14)) (C := RX5) (T := TX5) (N := 2) hx hb hts (fun w h => List.mem_cons_of_mem _ (wx_X5 w h)) hown hK hP 2 rfl rfl 1 (by decide) (hW0 _ wf_X5_15) (fun _ h9 => h9) rfl dX5_reach_88 ?_
                  refine lv_iload_n hx hb dX5_reach_91 rfl (lv_at hl 1 rfl) ?_
                  refine lv_iload hx hb dX5_reach_92 (lv_at hl 0 rfl) ?_
                  refine z_iast (f := q1) (v := v59_2) hx hb hK hP hD hS 14 4 rfl rfl ⟨⟨by omega, by omega⟩, by decide⟩ dX5_reach_94 (fun H locs hP hD hS => ?_)
                  have hP : va_P D vwCl (wH α γ rl (bu w1 v59_2 false, zu q1 e1 v59_2) ln sl pd ct sg od hs) H := hP
                  have hD : va_D A (wH α γ rl (bu w1 v59_2 false, zu q1 e1 v59_2) ln sl pd ct sg od hs) := hD
                  refine z_iinc (k := 1) (v := e1 + 1) (lv' := [(3, .int (zI (e1 + 1))), (6, .int (zI v59_2)), (5, .int (zI j)), (4, .int (zI hd)), (0, .ref (α 2)), (1, .int (zI a)), (2, .int (zI n))]) hx hb dX5_reach_95 hl rfl rfl (by decide) rfl (fun ls hl => ?_)
                  refine z_iinc (k := 2) (v := j + 1) (lv' := [(5, .int (zI (j + 1))), (3, .int (zI (e1 + 1))), (6, .int (zI v59_2)), (4, .int (zI hd)), (0, .ref (α 2)), (1, .int (zI a)), (2, .int (zI n))]) hx hb dX5_reach_98 hl rfl rfl (by decide) rfl (fun ls hl => ?_)
                  refine lv_goto (tgt := 44) hx hb dX5_reach_101 (by decide) ?_
                  exact ih_44 (bu w1 v59_2 false) (zu q1 e1 v59_2) (e1 + 1) (j + 1) _ _ hP hD hS _ (lv_sub hl [1, 0, 3, 4, 5, 6] rfl) (by first | assumption | rfl | omega) (by first | (have z9 := (RQ_new hJ ⟨hj.1, by omega⟩ (by omega) (by rw [← hv59_0]; exact hb_70.1) (by rw [← hv59_0]; exact hb_70.2)).2; rw [← hv59_0] at z9; exact z9) | (refine RQ_skip hJ (fun z8 => ?_); rw [← hv59_0] at z8 ⊢; exact Bool.eq_false_iff.mpr (fun z7 => hb_70 ⟨⟨z8, hv59_1.2⟩, z7⟩))) (by omega) (by omega)
  · have hb_5 := zb_neg hv2_0 c_5
    exact z_vret hC hr hlk hQ hP hD hS ⟨wt, qu5, (by rw [if_neg (fun h9 => hb_5 ⟨ha, h9⟩)]), rfl⟩ dX5_reach_8

abbrev wz_X5_count : List Cond := .code yX5_count cX5_count 4 (some .int) :: W0
abbrev rm_X5_count : Room := { frames := 3, cells := 0, slots := 0, locals := 68 }
theorem hd_X5_count : yX5_count.cls = RX5 ∧ yX5_count.cls ≠ "java/lang/invoke/MethodHandle" ∧ yX5_count.cls ≠ "java/lang/invoke/VarHandle" ∧ (parseMethodDescriptor yX5_count.desc).map (fun d => d.parameters.length) = some 1 := by decide +kernel
set_option maxHeartbeats 4000000 in
set_option maxRecDepth 100000 in
theorem c_X5_count (l : Launch) (D : va_G) (τ : Nat → Nat) (α : Nat → Nat) (γ : Nat → ClassId) (rl : TRl) (wt : BA) (qu5 : IA) (ln : TLn) (sl : TSl) (pd : TPd) (ct : TCt) (sg : TSg) (od : TOd) (hs : THs) (n : Int) (hn : n = 4 ∨ n = 8) : cM l yX5_count wz_X5_count rm_X5_count D τ (tyH γ) [.ref (α 2), .int (zI n)] (wH α γ rl (wt, qu5) ln sl pd ct sg od hs) (zQi (fun r w => ∃ (w2 : BA), ∃ (q2 : IA), ∃ (v : Int), (v = S_comps n wt) ∧ (0 ≤ v ∧ v ≤ 49) ∧ r = zI v ∧ wH α γ rl (w2, q2) ln sl pd ct sg od hs = w)) := by
  refine z_ofM (cc := cX5_count) (maxL := 4) (ret := (some .int)) (by decide +kernel) rfl (Nat.le_of_ble_eq_true rfl) ?_
  intro pg e s m args below meth c hC hr hlk hnm hK hP A hD hG hA hS ls hl Q hQ
  have hx := hC.1
  have hb := hC.2.1
  have hml := hC.2.2.1
  have hown := hC.2.2.2.1
  have hts := hC.2.2.2.2
  have hB : ∀ w ∈ W0, w ∈ wz_X5_count := fun _ h => List.mem_cons_of_mem _ h
  have hW0 : ∀ w ∈ W0, w.before args s = true := fun w h => hts w (hB w h)
  have hl : lv_has ls 4 [(0, .ref (α 2)), (1, .int (zI n))] := hl
  refine lv_iconst (v := zI 0) hx hb dX5_count_0 rfl ?_
  refine lv_istore_n (lv' := [(2, .int (zI 0)), (0, .ref (α 2)), (1, .int (zI n))]) hx hb dX5_count_1 rfl hl (by decide) rfl (fun ls hl => ?_)
  refine lv_iconst (v := zI 0) hx hb dX5_count_2 rfl ?_
  refine lv_istore_n (lv' := [(3, .int (zI 0)), (2, .int (zI 0)), (0, .ref (α 2)), (1, .int (zI n))]) hx hb dX5_count_3 rfl hl (by decide) rfl (fun ls hl => ?_)
  suffices HL_4 : ∀ (n_4 : Nat), ∀ (w : BA) (q : IA) (cn : Int) (i : Int) (H : Heap) (locs : List Loc) (hP : va_P D vwCl (wH α γ rl (w, q) ln sl pd ct sg od hs) H) (hD : va_D A (wH α γ rl (w, q) ln sl pd ct sg od hs)) (hS : va_S A s.heap H locs) (ls : Array Slot) (hl : lv_has ls 4 [(2, .int (zI cn)), (3, .int (zI i)), (0, .ref (α 2)), (1, .int (zI n))]) (hi : 0 ≤ i ∧ i ≤ 49) (hw : w = S_left8 n wt i) (hc8 : cn = zC (fun k => cb (wt k = true ∧ ∀ j, 0 ≤ j → j < k → wt j = true → ¬ Cn (S_rr n wt) j k)) i) (hcb : 0 ≤ cn ∧ cn ≤ i) (hm : (49 - i).toNat < n_4), W pg l e rm_X5_count s m args below meth c H locs 0 0 Q (F0 m 4 ls []) from HL_4 _ wt qu5 0 0 _ _ hP hD hS _ (lv_sub hl [1, 0, 2, 3] rfl) (by first | assumption | rfl | omega) (by exact S_left8_0 n wt) (by exact (zC_0 _).symm) (by first | assumption | rfl | omega) (Nat.lt_succ_self _)
  intro n_4
  induction n_4 with
  | zero => intro w q cn i H locs hP hD hS ls hl hi hw hc8 hcb hm; exact absurd hm (Nat.not_lt_zero _)
  | succ n_4 ih_4 =>
    intro w q cn i H locs hP hD hS ls hl hi hw hc8 hcb hm
    refine lv_iload_n hx hb dX5_count_4 rfl (lv_at hl 1 rfl) ?_
    refine lv_bipush (v := zI 49) hx hb dX5_count_5 (zI_b8 (by decide)) ?_
    refine z_icge (tgt := 34) hx hb ⟨by omega, by omega⟩ ⟨by omega, by omega⟩ dX5_count_7 (by decide) (fun c_7 => ?_) (fun c_7 => ?_)
    · refine lv_iload_n hx hb dX5_count_34 rfl (lv_at hl 0 rfl) ?_
      exact z_iret hC hr hlk hQ hP hD hS ⟨w, q, cn, (by rw [hc8, show i = 49 by omega]; rfl), (by omega), rfl, rfl⟩ dX5_count_35
    · refine lv_aload_n hx hb dX5_count_10 rfl (lv_at hl 2 rfl) ?_
      refine va_get (D := D) (ci := 5) (v := .ref (α 13)) (C := RX5) (T := TX5) (N := 2) hx hb hts (fun w h => List.mem_cons_of_mem _ (wx_X5 w h)) hown hK hP 2 rfl rfl 0 (by decide) (hW0 _ wf_X5_9) (fun _ h9 => h9) rfl dX5_count_11 ?_
      refine lv_iload_n hx hb dX5_count_14 rfl (lv_at hl 1 rfl) ?_
      refine z_zald (f := w) hx hb hK hP 13 3 rfl rfl ⟨⟨by omega, by omega⟩, by decide⟩ dX5_count_15 ?_
      refine z_ifeqB (tgt := 28) hx hb dX5_count_16 (by decide) (fun c_16 => ?_) (fun c_16 => ?_)
      · refine z_iinc (k := 1) (v := i + 1) (lv' := [(3, .int (zI (i + 1))), (2, .int (zI cn)), (0, .ref (α 2)), (1, .int (zI n))]) hx hb dX5_count_28 hl rfl rfl (by decide) rfl (fun ls hl => ?_)
        refine lv_goto (tgt := 4) hx hb dX5_count_31 (by decide) ?_
        exact ih_4 w q cn (i + 1) _ _ hP hD hS _ (lv_sub hl [1, 0, 2, 3] rfl) (by first | assumption | rfl | omega) (by first | (rw [hw]; exact S_left8_skip (by rw [← hw]; exact c_16)) | (rw [hv25_0, if_pos c_16, hw]; exact S_left8_up hn hi.1 (by rw [← hw]; exact c_16))) (by rw [zC_up hi.1, ← hc8, ← S_left8_c, ← hw]; first | (rw [z1_f c_16]; omega) | (rw [z1_t c_16])) (by first | assumption | rfl | omega) (by omega)
      · refine z_iinc (k := 0) (v := cn + 1) (lv' := [(2, .int (zI (cn + 1))), (3, .int (zI i)), (0, .ref (α 2)), (1, .int (zI n))]) hx hb dX5_count_19 hl rfl rfl (by decide) rfl (fun ls hl => ?_)
        refine lv_aload_n hx hb dX5_count_22 rfl (lv_at hl 2 rfl) ?_
        refine lv_iload_n hx hb dX5_count_23 rfl (lv_at hl 1 rfl) ?_
        refine lv_iload_n hx hb dX5_count_24 rfl (lv_at hl 3 rfl) ?_
        refine z_callv hP hD hS hA (va_runV (As := [.int (zI i), .int (zI n)]) (rest := []) hC (c_X5_reach l D τ α γ rl w q ln sl pd ct sg od hs i n (by first | assumption | rfl | omega) (by first | assumption | rfl | omega) _) (cwV 2 hts (gV hB wl_X5_23 wn_X5_reach ws_X5_reach wi_X5 wc_X5_reach) rfl rfl rfl hd_X5_reach ⟨Nat.le_of_ble_eq_true rfl, Nat.le_of_ble_eq_true rfl⟩) (zp_V hK hP hD hS hA hG (ci := 5) (q0 := 2) rfl rfl rfl) rfl rfl hl.1 rfl (lv_room (Nat.le_of_ble_eq_true rfl)) dX5_count_25 ⟨Nat.le_of_ble_eq_true rfl, Nat.le_of_ble_eq_true rfl⟩) (fun w1 H locs hq9 hP hD hS => ?_)
        obtain ⟨w25_1, q25_2, hv25_0, rfl⟩ := hq9
        have hP : va_P D vwCl (wH α γ rl (w25_1, q25_2) ln sl pd ct sg od hs) H := hP
        have hD : va_D A (wH α γ rl (w25_1, q25_2) ln sl pd ct sg od hs) := hD
        refine z_iinc (k := 1) (v := i + 1) (lv' := [(3, .int (zI (i + 1))), (2, .int (zI (cn + 1))), (0, .ref (α 2)), (1, .int (zI n))]) hx hb dX5_count_28 hl rfl rfl (by decide) rfl (fun ls hl => ?_)
        refine lv_goto (tgt := 4) hx hb dX5_count_31 (by decide) ?_
        exact ih_4 w25_1 q25_2 (cn + 1) (i + 1) _ _ hP hD hS _ (lv_sub hl [1, 0, 2, 3] rfl) (by first | assumption | rfl | omega) (by first | (rw [hw]; exact S_left8_skip (by rw [← hw]; exact c_16)) | (rw [hv25_0, if_pos c_16, hw]; exact S_left8_up hn hi.1 (by rw [← hw]; exact c_16))) (by rw [zC_up hi.1, ← hc8, ← S_left8_c, ← hw]; first | (rw [z1_f c_16]; omega) | (rw [z1_t c_16])) (by first | assumption | rfl | omega) (by omega)

