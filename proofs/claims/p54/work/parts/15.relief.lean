abbrev wz_X6_has : List Cond := .code yX6_has cX6_has 3 (some .boolean) :: W0
abbrev rm_X6_has : Room := { frames := 0, cells := 0, slots := 0, locals := 0 }
theorem hd_X6_has : yX6_has.cls = RX6 ∧ yX6_has.cls ≠ "java/lang/invoke/MethodHandle" ∧ yX6_has.cls ≠ "java/lang/invoke/VarHandle" ∧ (parseMethodDescriptor yX6_has.desc).map (fun d => d.parameters.length) = some 1 := by decide +kernel
set_option maxHeartbeats 4000000 in
set_option maxRecDepth 100000 in
theorem c_X6_has (l : Launch) (D : va_G) (τ : Nat → Nat) (α : Nat → Nat) (γ : Nat → ClassId) (h : IA) (old : IA) (ch : IA) (rg : TRg) (ln : TLn) (sl : TSl) (pd : TPd) (ct : TCt) (sg : TSg) (od : TOd) (hs : THs) (a : Int) (ha : -2147483648 ≤ a ∧ a < 2147483648) (hh : ∀ k, 0 ≤ k → k < 49 → 0 ≤ h k ∧ h k ≤ 99) : cM l yX6_has wz_X6_has rm_X6_has D τ (tyH γ) [.ref (α 1), .int (zI a)] (wH α γ (h, old, ch) rg ln sl pd ct sg od hs) (zQi (fun r w => ∃ (v : Bool), (v = true ↔ (∃ k, 0 ≤ k ∧ k < 49 ∧ h k = a)) ∧ r = bI v ∧ wH α γ (h, old, ch) rg ln sl pd ct sg od hs = w)) := by
  refine z_ofM (cc := cX6_has) (maxL := 3) (ret := (some .boolean)) (by decide +kernel) rfl (Nat.le_of_ble_eq_true rfl) ?_
  intro pg e s m args below meth c hC hr hlk hnm hK hP A hD hG hA hS ls hl Q hQ
  have hx := hC.1
  have hb := hC.2.1
  have hml := hC.2.2.1
  have hown := hC.2.2.2.1
  have hts := hC.2.2.2.2
  have hB : ∀ w ∈ W0, w ∈ wz_X6_has := fun _ h => List.mem_cons_of_mem _ h
  have hW0 : ∀ w ∈ W0, w.before args s = true := fun w h => hts w (hB w h)
  have hl : lv_has ls 3 [(0, .ref (α 1)), (1, .int (zI a))] := hl
  refine lv_iconst (v := zI 0) hx hb dX6_has_0 rfl ?_
  refine lv_istore_n (lv' := [(2, .int (zI 0)), (0, .ref (α 1)), (1, .int (zI a))]) hx hb dX6_has_1 rfl hl (by decide) rfl (fun ls hl => ?_)
  suffices HL_2 : ∀ (n_2 : Nat), ∀ (i : Int) (H : Heap) (locs : List Loc) (hP : va_P D vwCl (wH α γ (h, old, ch) rg ln sl pd ct sg od hs) H) (hD : va_D A (wH α γ (h, old, ch) rg ln sl pd ct sg od hs)) (hS : va_S A s.heap H locs) (ls : Array Slot) (hl : lv_has ls 3 [(2, .int (zI i)), (0, .ref (α 1)), (1, .int (zI a))]) (hi : 0 ≤ i ∧ i ≤ 49) (hc : ∀ k, 0 ≤ k → k < i → ¬ h k = a) (hm : (49 - i).toNat < n_2), W pg l e rm_X6_has s m args below meth c H locs 0 0 Q (F0 m 2 ls []) from HL_2 _ 0 _ _ hP hD hS _ (lv_sub hl [0, 1, 2] rfl) (by first | assumption | rfl | omega) (by intro k h1 h2; omega) (Nat.lt_succ_self _)
  intro n_2
  induction n_2 with
  | zero => intro i H locs hP hD hS ls hl hi hc hm; exact absurd hm (Nat.not_lt_zero _)
  | succ n_2 ih_2 =>
    intro i H locs hP hD hS ls hl hi hc hm
    refine lv_iload_n hx hb dX6_has_2 rfl (lv_at hl 0 rfl) ?_
    refine lv_bipush (v := zI 49) hx hb dX6_has_3 (zI_b8 (by decide)) ?_
    refine z_icge (tgt := 26) hx hb ⟨by omega, by omega⟩ ⟨by omega, by omega⟩ dX6_has_5 (by decide) (fun c_5 => ?_) (fun c_5 => ?_)
    · refine lv_iconst (v := zI 0) hx hb dX6_has_26 rfl ?_
      refine W.eq (g2 := F0 m 27 ls [.int (bI false)]) rfl ?_
      exact z_zret hC hr hlk hQ hP hD hS ⟨false, (by exact ⟨fun h9 => (by cases h9), fun ⟨k, h1, h2, h3⟩ => absurd h3 (hc k h1 (by omega))⟩), rfl, rfl⟩ dX6_has_27
    · refine lv_aload_n hx hb dX6_has_8 rfl (lv_at hl 1 rfl) ?_
      refine va_get (D := D) (ci := 6) (v := .ref (α 10)) (C := RX6) (T := TX6) (N := 3) hx hb hts (fun w h => List.mem_cons_of_mem _ (wx_X6 w h)) hown hK hP 1 rfl rfl 0 (by decide) (hW0 _ wf_X6_9) (fun _ h9 => h9) rfl dX6_has_9 ?_
      refine lv_iload_n hx hb dX6_has_12 rfl (lv_at hl 0 rfl) ?_
      refine z_iald (f := h) hx hb hK hP 10 0 rfl rfl ⟨⟨by omega, by omega⟩, by decide⟩ dX6_has_13 ?_
      have hb_13 := hh i (by omega) (by omega)
      refine lv_iload_n hx hb dX6_has_14 rfl (lv_at hl 2 rfl) ?_
      refine z_icne (tgt := 20) hx hb ⟨by omega, by omega⟩ ⟨by omega, by omega⟩ dX6_has_15 (by decide) (fun c_15 => ?_) (fun c_15 => ?_)
      · refine z_iinc (k := 0) (v := i + 1) (lv' := [(2, .int (zI (i + 1))), (0, .ref (α 1)), (1, .int (zI a))]) hx hb dX6_has_20 hl rfl rfl (by decide) rfl (fun ls hl => ?_)
        refine lv_goto (tgt := 2) hx hb dX6_has_23 (by decide) ?_
        exact ih_2 (i + 1) _ _ hP hD hS _ (lv_sub hl [0, 1, 2] rfl) (by first | assumption | rfl | omega) (by intro k h1 h2 h3; by_cases e9 : k = i; (subst e9; exact c_15 h3); exact hc k h1 (by omega) h3) (by omega)
      · refine lv_iconst (v := zI 1) hx hb dX6_has_18 rfl ?_
        refine W.eq (g2 := F0 m 19 ls [.int (bI true)]) rfl ?_
        exact z_zret hC hr hlk hQ hP hD hS ⟨true, (by exact ⟨fun _ => ⟨i, by omega, by omega, c_15⟩, fun _ => rfl⟩), rfl, rfl⟩ dX6_has_19

abbrev wz_X6_heapUp : List Cond := .code yX6_heapUp cX6_heapUp 9 (some .int) :: W0
abbrev rm_X6_heapUp : Room := { frames := 2, cells := 0, slots := 0, locals := 52 }
theorem hd_X6_heapUp : yX6_heapUp.cls = RX6 ∧ yX6_heapUp.cls ≠ "java/lang/invoke/MethodHandle" ∧ yX6_heapUp.cls ≠ "java/lang/invoke/VarHandle" ∧ (parseMethodDescriptor yX6_heapUp.desc).map (fun d => d.parameters.length) = some 2 := by decide +kernel
set_option maxHeartbeats 4000000 in
set_option maxRecDepth 100000 in
theorem c_X6_heapUp (l : Launch) (D : va_G) (τ : Nat → Nat) (α : Nat → Nat) (γ : Nat → ClassId) (h : IA) (old : IA) (ch : IA) (rg : TRg) (ln : TLn) (sl : TSl) (pd : TPd) (ct : TCt) (sg : TSg) (od : TOd) (hs : THs) (p : Int) (a : Int) (hp : 0 ≤ p ∧ p < 49) (ha : -60 ≤ a ∧ a ≤ 60 ∧ a ≠ 0) (hh : ∀ k, 0 ≤ k → k < 49 → 0 ≤ h k ∧ h k ≤ 99) : cM l yX6_heapUp wz_X6_heapUp rm_X6_heapUp D τ (tyH γ) [.ref (α 1), .int (zI p), .int (zI a)] (wH α γ (h, old, ch) rg ln sl pd ct sg od hs) (zQi (fun r w => ∃ (h2 : IA), ∃ (o2 : IA), ∃ (v : Int), (h2 = S_heap h p a) ∧ (v = S_diff (S_heap h p a) h) ∧ (0 ≤ v ∧ v ≤ 49) ∧ r = zI v ∧ wH α γ (h2, o2, ch) rg ln sl pd ct sg od hs = w)) := by
  refine z_ofM (cc := cX6_heapUp) (maxL := 9) (ret := (some .int)) (by decide +kernel) rfl (Nat.le_of_ble_eq_true rfl) ?_
  intro pg e s m args below meth c hC hr hlk hnm hK hP A hD hG hA hS ls hl Q hQ
  have hx := hC.1
  have hb := hC.2.1
  have hml := hC.2.2.1
  have hown := hC.2.2.2.1
  have hts := hC.2.2.2.2
  have hB : ∀ w ∈ W0, w ∈ wz_X6_heapUp := fun _ h => List.mem_cons_of_mem _ h
  have hW0 : ∀ w ∈ W0, w.before args s = true := fun w h => hts w (hB w h)
  have hl : lv_has ls 9 [(0, .ref (α 1)), (1, .int (zI p)), (2, .int (zI a))] := hl
  refine lv_aload_n hx hb dX6_heapUp_0 rfl (lv_at hl 0 rfl) ?_
  refine z_callv hP hD hS hA (va_runV (As := []) (rest := []) hC (c_X6_remember l D τ α γ h old ch rg ln sl pd ct sg od hs _) (cwV 0 hts (gV hB wl_X6_34 wn_X6_remember ws_X6_remember wi_X6 wc_X6_remember) rfl rfl rfl hd_X6_remember ⟨Nat.le_of_ble_eq_true rfl, Nat.le_of_ble_eq_true rfl⟩) (zp_V hK hP hD hS hA hG (ci := 6) (q0 := 1) rfl rfl rfl) rfl rfl hl.1 rfl (lv_room (Nat.le_of_ble_eq_true rfl)) dX6_heapUp_1 ⟨Nat.le_of_ble_eq_true rfl, Nat.le_of_ble_eq_true rfl⟩) (fun w1 H locs hq9 hP hD hS => ?_)
  obtain ⟨o1_1, hv1_0, rfl⟩ := hq9
  have hP : va_P D vwCl (wH α γ (h, o1_1, ch) rg ln sl pd ct sg od hs) H := hP
  have hD : va_D A (wH α γ (h, o1_1, ch) rg ln sl pd ct sg od hs) := hD
  refine lv_iload_n hx hb dX6_heapUp_4 rfl (lv_at hl 2 rfl) ?_
  refine z_mabs hx hb (hml.trans hl.1.symm) hown (hW0 _ wl_X6_37) (hW0 _ wt_Lib_Math_abs_name) (hW0 _ wi_Math) (hW0 _ wc_Lib_Math_abs_name) (Nat.le_of_ble_eq_true rfl) (Nat.le_of_ble_eq_true rfl) (Nat.le_of_ble_eq_true rfl) (Nat.le_of_ble_eq_true rfl) ⟨by omega, by omega⟩ dX6_heapUp_5 ?_
  obtain ⟨x5_2, hx5_2⟩ : ∃ z : Int, z = zabs a := ⟨_, rfl⟩
  rw [← hx5_2]
  have kx5_2 := zabs_spec a
  rw [← hx5_2] at kx5_2
  refine lv_istore_n (lv' := [(3, .int (zI x5_2)), (0, .ref (α 1)), (1, .int (zI p)), (2, .int (zI a))]) hx hb dX6_heapUp_8 rfl hl (by decide) rfl (fun ls hl => ?_)
  refine lv_iload_n hx hb dX6_heapUp_9 rfl (lv_at hl 0 rfl) ?_
  refine lv_iconst (v := zI 2) hx hb dX6_heapUp_10 rfl ?_
  refine z_iadd hx hb dX6_heapUp_11 ?_
  refine lv_iconst (v := zI 3) hx hb dX6_heapUp_12 rfl ?_
  refine z_idiv hx hb ⟨⟨by omega, by omega⟩, by omega, by omega⟩ dX6_heapUp_13 ?_
  refine lv_istore (lv' := [(4, .int (zI ((x5_2 + 2) / 3))), (3, .int (zI x5_2)), (0, .ref (α 1)), (1, .int (zI p)), (2, .int (zI a))]) hx hb dX6_heapUp_14 hl (by decide) rfl (fun ls hl => ?_)
  refine lv_iconst (v := zI 0) hx hb dX6_heapUp_16 rfl ?_
  refine lv_istore (lv' := [(5, .int (zI 0)), (4, .int (zI ((x5_2 + 2) / 3))), (3, .int (zI x5_2)), (0, .ref (α 1)), (1, .int (zI p)), (2, .int (zI a))]) hx hb dX6_heapUp_17 hl (by decide) rfl (fun ls hl => ?_)
  suffices HL_19 : ∀ (n_19 : Nat), ∀ (h1 : IA) (i : Int) (H : Heap) (locs : List Loc) (hP : va_P D vwCl (wH α γ (h1, o1_1, ch) rg ln sl pd ct sg od hs) H) (hD : va_D A (wH α γ (h1, o1_1, ch) rg ln sl pd ct sg od hs)) (hS : va_S A s.heap H locs) (ls : Array Slot) (hl : lv_has ls 9 [(5, .int (zI i)), (4, .int (zI ((x5_2 + 2) / 3))), (3, .int (zI x5_2)), (0, .ref (α 1)), (1, .int (zI p)), (2, .int (zI a))]) (hi : 0 ≤ i ∧ i ≤ 49) (hh1 : h1 = zmix i (fun k => S_heapv h p a k) h) (hm : (49 - i).toNat < n_19), W pg l e rm_X6_heapUp s m args below meth c H locs 0 0 Q (F0 m 19 ls []) from HL_19 _ h 0 _ _ hP hD hS _ (lv_sub hl [0, 1, 2, 3, 4, 5] rfl) (by first | assumption | rfl | omega) (by exact (zmix_0 _ _).symm) (Nat.lt_succ_self _)
  intro n_19
  induction n_19 with
  | zero => intro h1 i H locs hP hD hS ls hl hi hh1 hm; exact absurd hm (Nat.not_lt_zero _)
  | succ n_19 ih_19 =>
    intro h1 i H locs hP hD hS ls hl hi hh1 hm
    refine lv_iload hx hb dX6_heapUp_19 (lv_at hl 0 rfl) ?_
    have hb1 : ∀ k, 0 ≤ k → k < 49 → 0 ≤ h1 k ∧ h1 k ≤ 99 := by rw [hh1]; exact zmix_b hh (fun k => S_heapv_b)
    refine lv_bipush (v := zI 49) hx hb dX6_heapUp_21 (zI_b8 (by decide)) ?_
    refine z_icge (tgt := 105) hx hb ⟨by omega, by omega⟩ ⟨by omega, by omega⟩ dX6_heapUp_23 (by decide) (fun c_23 => ?_) (fun c_23 => ?_)
    · have ei : i = 49 := by omega
      refine lv_aload_n hx hb dX6_heapUp_105 rfl (lv_at hl 3 rfl) ?_
      refine z_calli hP hD hS hA (va_runV (As := []) (rest := []) hC (c_X6_countChanged l D τ α γ h1 o1_1 ch rg ln sl pd ct sg od hs (by exact hb1) (by intro k h1 h2; rw [hv1_0, zmix_at ⟨h1, h2⟩]; exact hh k h1 h2) _) (cwV 0 hts (gV hB wl_X6_45 wn_X6_countChanged ws_X6_countChanged wi_X6 wc_X6_countChanged) rfl rfl rfl hd_X6_countChanged ⟨Nat.le_of_ble_eq_true rfl, Nat.le_of_ble_eq_true rfl⟩) (zp_V hK hP hD hS hA hG (ci := 6) (q0 := 1) rfl rfl rfl) rfl rfl hl.1 rfl (lv_room (Nat.le_of_ble_eq_true rfl)) dX6_heapUp_106 ⟨Nat.le_of_ble_eq_true rfl, Nat.le_of_ble_eq_true rfl⟩) (fun r w1 H locs hq9 hP hD hS => ?_)
      obtain ⟨v106_3, hv106_0, hv106_1, rfl, rfl⟩ := hq9
      have hP : va_P D vwCl (wH α γ (h1, o1_1, ch) rg ln sl pd ct sg od hs) H := hP
      have hD : va_D A (wH α γ (h1, o1_1, ch) rg ln sl pd ct sg od hs) := hD
      exact z_iret hC hr hlk hQ hP hD hS ⟨h1, o1_1, v106_3, (by rw [hh1, ei]; rfl), (by rw [hv106_0]; exact S_diff_congr (fun k h1 h2 => by rw [hh1, ei]; rfl) (fun k h1 h2 => by rw [hv1_0, zmix_at ⟨h1, h2⟩])), (by first | assumption | rfl | omega), rfl, rfl⟩ dX6_heapUp_109
    · refine lv_iload hx hb dX6_heapUp_26 (lv_at hl 0 rfl) ?_
      refine lv_bipush (v := zI 7) hx hb dX6_heapUp_28 (zI_b8 (by decide)) ?_
      refine z_idiv hx hb ⟨⟨by omega, by omega⟩, by omega, by omega⟩ dX6_heapUp_30 ?_
      refine lv_iload_n hx hb dX6_heapUp_31 rfl (lv_at hl 4 rfl) ?_
      refine lv_bipush (v := zI 7) hx hb dX6_heapUp_32 (zI_b8 (by decide)) ?_
      refine z_idiv hx hb ⟨⟨by omega, by omega⟩, by omega, by omega⟩ dX6_heapUp_34 ?_
      refine z_isub hx hb dX6_heapUp_35 ?_
      refine z_mabs hx hb (hml.trans hl.1.symm) hown (hW0 _ wl_X6_37) (hW0 _ wt_Lib_Math_abs_name) (hW0 _ wi_Math) (hW0 _ wc_Lib_Math_abs_name) (Nat.le_of_ble_eq_true rfl) (Nat.le_of_ble_eq_true rfl) (Nat.le_of_ble_eq_true rfl) (Nat.le_of_ble_eq_true rfl) ⟨by omega, by omega⟩ dX6_heapUp_36 ?_
      obtain ⟨x36_4, hx36_4⟩ : ∃ z : Int, z = zabs ((i / 7) - (p / 7)) := ⟨_, rfl⟩
      rw [← hx36_4]
      have kx36_4 := zabs_spec ((i / 7) - (p / 7))
      rw [← hx36_4] at kx36_4
      refine lv_istore (lv' := [(6, .int (zI x36_4)), (5, .int (zI i)), (4, .int (zI ((x5_2 + 2) / 3))), (3, .int (zI x5_2)), (0, .ref (α 1)), (1, .int (zI p)), (2, .int (zI a))]) hx hb dX6_heapUp_39 hl (by decide) rfl (fun ls hl => ?_)
      refine lv_iload hx hb dX6_heapUp_41 (lv_at hl 1 rfl) ?_
      refine lv_bipush (v := zI 7) hx hb dX6_heapUp_43 (zI_b8 (by decide)) ?_
      refine z_irem hx hb ⟨⟨by omega, by omega⟩, by omega, by omega⟩ dX6_heapUp_45 ?_
      refine lv_iload_n hx hb dX6_heapUp_46 rfl (lv_at hl 5 rfl) ?_
      refine lv_bipush (v := zI 7) hx hb dX6_heapUp_47 (zI_b8 (by decide)) ?_
      refine z_irem hx hb ⟨⟨by omega, by omega⟩, by omega, by omega⟩ dX6_heapUp_49 ?_
      refine z_isub hx hb dX6_heapUp_50 ?_
      refine z_mabs hx hb (hml.trans hl.1.symm) hown (hW0 _ wl_X6_37) (hW0 _ wt_Lib_Math_abs_name) (hW0 _ wi_Math) (hW0 _ wc_Lib_Math_abs_name) (Nat.le_of_ble_eq_true rfl) (Nat.le_of_ble_eq_true rfl) (Nat.le_of_ble_eq_true rfl) (Nat.le_of_ble_eq_true rfl) ⟨by omega, by omega⟩ dX6_heapUp_51 ?_
      obtain ⟨x51_5, hx51_5⟩ : ∃ z : Int, z = zabs ((i % 7) - (p % 7)) := ⟨_, rfl⟩
      rw [← hx51_5]
      have kx51_5 := zabs_spec ((i % 7) - (p % 7))
      rw [← hx51_5] at kx51_5
      refine lv_istore (lv' := [(7, .int (zI x51_5)), (6, .int (zI x36_4)), (5, .int (zI i)), (4, .int (zI ((x5_2 + 2) / 3))), (3, .int (zI x5_2)), (0, .ref (α 1)), (1, .int (zI p)), (2, .int (zI a))]) hx hb dX6_heapUp_54 hl (by decide) rfl (fun ls hl => ?_)
      refine lv_iload_n hx hb dX6_heapUp_56 rfl (lv_at hl 4 rfl) ?_
      refine lv_iload hx hb dX6_heapUp_57 (lv_at hl 1 rfl) ?_
      refine lv_iload hx hb dX6_heapUp_59 (lv_at hl 0 rfl) ?_
      refine z_iadd hx hb dX6_heapUp_61 ?_
      refine lv_iload hx hb dX6_heapUp_62 (lv_at hl 3 rfl) ?_
      refine z_imul hx hb dX6_heapUp_64 ?_
      refine z_isub hx hb dX6_heapUp_65 ?_
      have hz66 := zmul_b (x := x36_4 + x51_5) (y := ((x5_2 + 2) / 3)) (a := 12) (b := 20) (by omega) (by omega)
      refine lv_istore (lv' := [(8, .int (zI (x5_2 - ((x36_4 + x51_5) * ((x5_2 + 2) / 3))))), (7, .int (zI x51_5)), (6, .int (zI x36_4)), (5, .int (zI i)), (4, .int (zI ((x5_2 + 2) / 3))), (3, .int (zI x5_2)), (0, .ref (α 1)), (1, .int (zI p)), (2, .int (zI a))]) hx hb dX6_heapUp_66 hl (by decide) rfl (fun ls hl => ?_)
      have hL : (x5_2 - ((x36_4 + x51_5) * ((x5_2 + 2) / 3))) = S_left p a i := by unfold S_left; simp only [*]
      refine lv_iload hx hb dX6_heapUp_68 (lv_at hl 0 rfl) ?_
      refine z_ifle (tgt := 99) hx hb ⟨by omega, by omega⟩ dX6_heapUp_70 (by decide) (fun c_70 => ?_) (fun c_70 => ?_)
      · refine z_iinc (k := 3) (v := i + 1) (lv' := [(5, .int (zI (i + 1))), (8, .int (zI (x5_2 - ((x36_4 + x51_5) * ((x5_2 + 2) / 3))))), (7, .int (zI x51_5)), (6, .int (zI x36_4)), (4, .int (zI ((x5_2 + 2) / 3))), (3, .int (zI x5_2)), (0, .ref (α 1)), (1, .int (zI p)), (2, .int (zI a))]) hx hb dX6_heapUp_99 hl rfl rfl (by decide) rfl (fun ls hl => ?_)
        refine lv_goto (tgt := 19) hx hb dX6_heapUp_102 (by decide) ?_
        exact ih_19 h1 (i + 1) _ _ hP hD hS _ (lv_sub hl [0, 4, 5, 6, 7, 8] rfl) (by first | assumption | rfl | omega) (by first | (rw [hh1]; exact zmix_skip hi.1 (S_heapv_0 (by omega) (hh i (by omega) (by omega))).symm) | (rw [hv96_0, S_put_in (by omega), hh1]; refine zmix_up hi.1 ?_; rw [zmix_ge (Int.le_refl _), hL]; first | exact (S_heapv_pos (by omega) (by omega)).symm | exact (S_heapv_neg (by omega) (by omega)).symm)) (by omega)
      · refine lv_aload_n hx hb dX6_heapUp_73 rfl (lv_at hl 6 rfl) ?_
        refine lv_iload hx hb dX6_heapUp_74 (lv_at hl 3 rfl) ?_
        refine lv_aload_n hx hb dX6_heapUp_76 rfl (lv_at hl 6 rfl) ?_
        refine va_get (D := D) (ci := 6) (v := .ref (α 10)) (C := RX6) (T := TX6) (N := 3) hx hb hts (fun w h => List.mem_cons_of_mem _ (wx_X6 w h)) hown hK hP 1 rfl rfl 0 (by decide) (hW0 _ wf_X6_9) (fun _ h9 => h9) rfl dX6_heapUp_77 ?_
        refine lv_iload hx hb dX6_heapUp_80 (lv_at hl 3 rfl) ?_
        refine z_iald (f := h1) hx hb hK hP 10 0 rfl rfl ⟨⟨by omega, by omega⟩, by decide⟩ dX6_heapUp_82 ?_
        have hb_82 := hb1 i (by omega) (by omega)
        refine lv_iload_n hx hb dX6_heapUp_83 rfl (lv_at hl 8 rfl) ?_
        refine z_ifle (tgt := 92) hx hb ⟨by omega, by omega⟩ dX6_heapUp_84 (by decide) (fun c_84 => ?_) (fun c_84 => ?_)
        · refine lv_iload hx hb dX6_heapUp_92 (lv_at hl 0 rfl) ?_
          refine z_ineg hx hb dX6_heapUp_94 ?_
          refine z_iadd hx hb dX6_heapUp_95 ?_
          refine z_callv hP hD hS hA (va_runV (As := [.int (zI i), .int (zI ((h1 i) + (-(x5_2 - ((x36_4 + x51_5) * ((x5_2 + 2) / 3))))))]) (rest := []) hC (c_X6_put l D τ α γ h1 o1_1 ch rg ln sl pd ct sg od hs i ((h1 i) + (-(x5_2 - ((x36_4 + x51_5) * ((x5_2 + 2) / 3))))) (by first | assumption | rfl | omega) (by first | assumption | rfl | omega) _) (cwV 2 hts (gV hB wl_X6_41 wn_X6_put ws_X6_put wi_X6 wc_X6_put) rfl rfl rfl hd_X6_put ⟨Nat.le_of_ble_eq_true rfl, Nat.le_of_ble_eq_true rfl⟩) (zp_V hK hP hD hS hA hG (ci := 6) (q0 := 1) rfl rfl rfl) rfl rfl hl.1 rfl (lv_room (Nat.le_of_ble_eq_true rfl)) dX6_heapUp_96 ⟨Nat.le_of_ble_eq_true rfl, Nat.le_of_ble_eq_true rfl⟩) (fun w1 H locs hq9 hP hD hS => ?_)
          obtain ⟨h96_6, hv96_0, rfl⟩ := hq9
          have hP : va_P D vwCl (wH α γ (h96_6, o1_1, ch) rg ln sl pd ct sg od hs) H := hP
          have hD : va_D A (wH α γ (h96_6, o1_1, ch) rg ln sl pd ct sg od hs) := hD
          refine z_iinc (k := 3) (v := i + 1) (lv' := [(5, .int (zI (i + 1))), (8, .int (zI (x5_2 - ((x36_4 + x51_5) * ((x5_2 + 2) / 3))))), (7, .int (zI x51_5)), (6, .int (zI x36_4)), (4, .int (zI ((x5_2 + 2) / 3))), (3, .int (zI x5_2)), (0, .ref (α 1)), (1, .int (zI p)), (2, .int (zI a))]) hx hb dX6_heapUp_99 hl rfl rfl (by decide) rfl (fun ls hl => ?_)
          refine lv_goto (tgt := 19) hx hb dX6_heapUp_102 (by decide) ?_
          exact ih_19 h96_6 (i + 1) _ _ hP hD hS _ (lv_sub hl [0, 4, 5, 6, 7, 8] rfl) (by first | assumption | rfl | omega) (by first | (rw [hh1]; exact zmix_skip hi.1 (S_heapv_0 (by omega) (hh i (by omega) (by omega))).symm) | (rw [hv96_0, S_put_in (by omega), hh1]; refine zmix_up hi.1 ?_; rw [zmix_ge (Int.le_refl _), hL]; first | exact (S_heapv_pos (by omega) (by omega)).symm | exact (S_heapv_neg (by omega) (by omega)).symm)) (by omega)
        · refine lv_iload hx hb dX6_heapUp_87 (lv_at hl 0 rfl) ?_
          refine lv_goto (tgt := 95) hx hb dX6_heapUp_89 (by decide) ?_
          refine z_iadd hx hb dX6_heapUp_95 ?_
          refine z_callv hP hD hS hA (va_runV (As := [.int (zI i), .int (zI ((h1 i) + (x5_2 - ((x36_4 + x51_5) * ((x5_2 + 2) / 3)))))]) (rest := []) hC (c_X6_put l D τ α γ h1 o1_1 ch rg ln sl pd ct sg od hs i ((h1 i) + (x5_2 - ((x36_4 + x51_5) * ((x5_2 + 2) / 3)))) (by first | assumption | rfl | omega) (by first | assumption | rfl | omega) _) (cwV 2 hts (gV hB wl_X6_41 wn_X6_put ws_X6_put wi_X6 wc_X6_put) rfl rfl rfl hd_X6_put ⟨Nat.le_of_ble_eq_true rfl, Nat.le_of_ble_eq_true rfl⟩) (zp_V hK hP hD hS hA hG (ci := 6) (q0 := 1) rfl rfl rfl) rfl rfl hl.1 rfl (lv_room (Nat.le_of_ble_eq_true rfl)) dX6_heapUp_96 ⟨Nat.le_of_ble_eq_true rfl, Nat.le_of_ble_eq_true rfl⟩) (fun w1 H locs hq9 hP hD hS => ?_)
          obtain ⟨h96_7, hv96_0, rfl⟩ := hq9
          have hP : va_P D vwCl (wH α γ (h96_7, o1_1, ch) rg ln sl pd ct sg od hs) H := hP
          have hD : va_D A (wH α γ (h96_7, o1_1, ch) rg ln sl pd ct sg od hs) := hD
          refine z_iinc (k := 3) (v := i + 1) (lv' := [(5, .int (zI (i + 1))), (8, .int (zI (x5_2 - ((x36_4 + x51_5) * ((x5_2 + 2) / 3))))), (7, .int (zI x51_5)), (6, .int (zI x36_4)), (4, .int (zI ((x5_2 + 2) / 3))), (3, .int (zI x5_2)), (0, .ref (α 1)), (1, .int (zI p)), (2, .int (zI a))]) hx hb dX6_heapUp_99 hl rfl rfl (by decide) rfl (fun ls hl => ?_)
          refine lv_goto (tgt := 19) hx hb dX6_heapUp_102 (by decide) ?_
          exact ih_19 h96_7 (i + 1) _ _ hP hD hS _ (lv_sub hl [0, 4, 5, 6, 7, 8] rfl) (by first | assumption | rfl | omega) (by first | (rw [hh1]; exact zmix_skip hi.1 (S_heapv_0 (by omega) (hh i (by omega) (by omega))).symm) | (rw [hv96_0, S_put_in (by omega), hh1]; refine zmix_up hi.1 ?_; rw [zmix_ge (Int.le_refl _), hL]; first | exact (S_heapv_pos (by omega) (by omega)).symm | exact (S_heapv_neg (by omega) (by omega)).symm)) (by omega)

abbrev wz_X6_oldMean : List Cond := .code yX6_oldMean cX6_oldMean 6 (some .int) :: W0
abbrev rm_X6_oldMean : Room := { frames := 2, cells := 0, slots := 0, locals := 42 }
theorem hd_X6_oldMean : yX6_oldMean.cls = RX6 ∧ yX6_oldMean.cls ≠ "java/lang/invoke/MethodHandle" ∧ yX6_oldMean.cls ≠ "java/lang/invoke/VarHandle" ∧ (parseMethodDescriptor yX6_oldMean.desc).map (fun d => d.parameters.length) = some 1 := by decide +kernel
set_option maxHeartbeats 4000000 in
set_option maxRecDepth 100000 in
theorem c_X6_oldMean (l : Launch) (D : va_G) (τ : Nat → Nat) (α : Nat → Nat) (γ : Nat → ClassId) (h : IA) (old : IA) (ch : IA) (rg : TRg) (ln : TLn) (sl : TSl) (pd : TPd) (ct : TCt) (sg : TSg) (od : TOd) (hs : THs) (p : Int) (hp : 0 ≤ p ∧ p < 49) (ho : ∀ k, 0 ≤ k → k < 49 → 0 ≤ old k ∧ old k ≤ 99) : cM l yX6_oldMean wz_X6_oldMean rm_X6_oldMean D τ (tyH γ) [.ref (α 1), .int (zI p)] (wH α γ (h, old, ch) rg ln sl pd ct sg od hs) (zQi (fun r w => ∃ (v : Int), (v = S_mean old p) ∧ (0 ≤ v ∧ v ≤ 99) ∧ r = zI v ∧ wH α γ (h, old, ch) rg ln sl pd ct sg od hs = w)) := by
  refine z_ofM (cc := cX6_oldMean) (maxL := 6) (ret := (some .int)) (by decide +kernel) rfl (Nat.le_of_ble_eq_true rfl) ?_
  intro pg e s m args below meth c hC hr hlk hnm hK hP A hD hG hA hS ls hl Q hQ
  have hx := hC.1
  have hb := hC.2.1
  have hml := hC.2.2.1
  have hown := hC.2.2.2.1
  have hts := hC.2.2.2.2
  have hB : ∀ w ∈ W0, w ∈ wz_X6_oldMean := fun _ h => List.mem_cons_of_mem _ h
  have hW0 : ∀ w ∈ W0, w.before args s = true := fun w h => hts w (hB w h)
  have hl : lv_has ls 6 [(0, .ref (α 1)), (1, .int (zI p))] := hl
  refine lv_iconst (v := zI 0) hx hb dX6_oldMean_0 rfl ?_
  refine lv_istore_n (lv' := [(2, .int (zI 0)), (0, .ref (α 1)), (1, .int (zI p))]) hx hb dX6_oldMean_1 rfl hl (by decide) rfl (fun ls hl => ?_)
  refine lv_iconst (v := zI 0) hx hb dX6_oldMean_2 rfl ?_
  refine lv_istore_n (lv' := [(3, .int (zI 0)), (2, .int (zI 0)), (0, .ref (α 1)), (1, .int (zI p))]) hx hb dX6_oldMean_3 rfl hl (by decide) rfl (fun ls hl => ?_)
  refine lv_iload_n hx hb dX6_oldMean_4 rfl (lv_at hl 3 rfl) ?_
  refine z_calli hP hD hS hA (va_runSN (As := [.int (zI p)]) (rest := []) hC (c_X9_isPoint l D τ _ _ p (by first | assumption | rfl | omega) _) ⟨va_cnB 1 hts (gC hB wc_X9_isPoint) rfl rfl rfl (hG.2.2.2.2.2.2.2 _ (List.mem_of_getElem? (i := 9) rfl)) (hW0 _ wi_X9) hd_X9_isPoint.2 ⟨Nat.le_of_ble_eq_true rfl, Nat.le_of_ble_eq_true rfl⟩, (hW0 _ wt_X9_isPoint), trivial⟩ (zp_S hK hP hD hS hA hG) rfl rfl hl.1 rfl (lv_room (Nat.le_of_ble_eq_true rfl)) dX6_oldMean_5 ⟨Nat.le_of_ble_eq_true rfl, Nat.le_of_ble_eq_true rfl⟩) (fun r w1 H locs hq9 hP hD hS => ?_)
  obtain ⟨v5_1, hv5_0, rfl, rfl⟩ := hq9
  refine z_ifeqB (tgt := 20) hx hb dX6_oldMean_8 (by decide) (fun c_8 => ?_) (fun c_8 => ?_)
  · have hb_8 := zb_neg hv5_0 c_8
    exact absurd hp hb_8
  · have hb_8 := hv5_0.mp c_8
    refine lv_aload_n hx hb dX6_oldMean_11 rfl (lv_at hl 2 rfl) ?_
    refine va_get (D := D) (ci := 6) (v := .ref (α 11)) (C := RX6) (T := TX6) (N := 3) hx hb hts (fun w h => List.mem_cons_of_mem _ (wx_X6 w h)) hown hK hP 1 rfl rfl 1 (by decide) (hW0 _ wf_X6_15) (fun _ h9 => h9) rfl dX6_oldMean_12 ?_
    refine lv_iload_n hx hb dX6_oldMean_15 rfl (lv_at hl 3 rfl) ?_
    refine z_iald (f := old) hx hb hK hP 11 1 rfl rfl ⟨⟨by omega, by omega⟩, by decide⟩ dX6_oldMean_16 ?_
    have hb_16 := ho p (by omega) (by omega)
    refine lv_istore_n (lv' := [(2, .int (zI (old p))), (3, .int (zI 0)), (0, .ref (α 1)), (1, .int (zI p))]) hx hb dX6_oldMean_17 rfl hl (by decide) rfl (fun ls hl => ?_)
    refine lv_iconst (v := zI 1) hx hb dX6_oldMean_18 rfl ?_
    refine lv_istore_n (lv' := [(3, .int (zI 1)), (2, .int (zI (old p))), (0, .ref (α 1)), (1, .int (zI p))]) hx hb dX6_oldMean_19 rfl hl (by decide) rfl (fun ls hl => ?_)
    refine lv_iconst (v := zI 0) hx hb dX6_oldMean_20 rfl ?_
    refine lv_istore (lv' := [(4, .int (zI 0)), (3, .int (zI 1)), (2, .int (zI (old p))), (0, .ref (α 1)), (1, .int (zI p))]) hx hb dX6_oldMean_21 hl (by decide) rfl (fun ls hl => ?_)
    suffices HL_23 : ∀ (n_23 : Nat), ∀ (t : Int) (cn : Int) (i : Int) (H : Heap) (locs : List Loc) (hP : va_P D vwCl (wH α γ (h, old, ch) rg ln sl pd ct sg od hs) H) (hD : va_D A (wH α γ (h, old, ch) rg ln sl pd ct sg od hs)) (hS : va_S A s.heap H locs) (ls : Array Slot) (hl : lv_has ls 6 [(2, .int (zI t)), (3, .int (zI cn)), (4, .int (zI i)), (0, .ref (α 1)), (1, .int (zI p))]) (hi : 0 ≤ i ∧ i ≤ 4) (ht : t = old p + zS (S_mt old p) i) (hcn : cn = 1 + zS (S_mc p) i) (htb : 0 ≤ t ∧ t ≤ 99 * cn) (hcb : 1 ≤ cn ∧ cn ≤ 1 + i) (hm : (4 - i).toNat < n_23), W pg l e rm_X6_oldMean s m args below meth c H locs 0 0 Q (F0 m 23 ls []) from HL_23 _ (old p) 1 0 _ _ hP hD hS _ (lv_sub hl [2, 1, 0, 3, 4] rfl) (by first | assumption | rfl | omega) (by rw [zS_0]; omega) (by rw [zS_0]; rfl) (by first | assumption | rfl | omega) (by first | assumption | rfl | omega) (Nat.lt_succ_self _)
    intro n_23
    induction n_23 with
    | zero => intro t cn i H locs hP hD hS ls hl hi ht hcn htb hcb hm; exact absurd hm (Nat.not_lt_zero _)
    | succ n_23 ih_23 =>
      intro t cn i H locs hP hD hS ls hl hi ht hcn htb hcb hm
      refine lv_iload hx hb dX6_oldMean_23 (lv_at hl 2 rfl) ?_
      refine lv_iconst (v := zI 4) hx hb dX6_oldMean_25 rfl ?_
      refine z_icge (tgt := 64) hx hb ⟨by omega, by omega⟩ ⟨by omega, by omega⟩ dX6_oldMean_26 (by decide) (fun c_26 => ?_) (fun c_26 => ?_)
      · have ei : i = 4 := by omega
        refine lv_iload_n hx hb dX6_oldMean_64 rfl (lv_at hl 1 rfl) ?_
        refine z_ifne (tgt := 72) hx hb ⟨by omega, by omega⟩ dX6_oldMean_65 (by decide) (fun c_65 => ?_) (fun c_65 => ?_)
        · refine lv_iload_n hx hb dX6_oldMean_72 rfl (lv_at hl 0 rfl) ?_
          refine lv_iload_n hx hb dX6_oldMean_73 rfl (lv_at hl 1 rfl) ?_
          refine z_idiv hx hb ⟨⟨by omega, by omega⟩, by omega, by omega⟩ dX6_oldMean_74 ?_
          exact z_iret hC hr hlk hQ hP hD hS ⟨t / cn, (by unfold S_mean; rw [ht, hcn, ei]), (by exact S_mean_b htb hcb.1), rfl, rfl⟩ dX6_oldMean_75
        · exact absurd c_65 (by omega)
      · refine lv_iload_n hx hb dX6_oldMean_29 rfl (lv_at hl 4 rfl) ?_
        refine lv_iload hx hb dX6_oldMean_30 (lv_at hl 2 rfl) ?_
        refine z_calli hP hD hS hA (va_runSN (As := [.int (zI p), .int (zI i)]) (rest := []) hC (c_X9_stepFrom l D τ _ _ p i (by first | assumption | rfl | omega) (by first | assumption | rfl | omega) _) ⟨va_cnB 2 hts (gC hB wc_X9_stepFrom) rfl rfl rfl (hG.2.2.2.2.2.2.2 _ (List.mem_of_getElem? (i := 10) rfl)) (hW0 _ wi_X9) hd_X9_stepFrom.2 ⟨Nat.le_of_ble_eq_true rfl, Nat.le_of_ble_eq_true rfl⟩, (hW0 _ wt_X9_stepFrom), trivial⟩ (zp_S hK hP hD hS hA hG) rfl rfl hl.1 rfl (lv_room (Nat.le_of_ble_eq_true rfl)) dX6_oldMean_32 ⟨Nat.le_of_ble_eq_true rfl, Nat.le_of_ble_eq_true rfl⟩) (fun r w1 H locs hq9 hP hD hS => ?_)
        obtain ⟨v32_2, hv32_0, hv32_1, rfl, rfl⟩ := hq9
        refine lv_istore (lv' := [(5, .int (zI v32_2)), (2, .int (zI t)), (3, .int (zI cn)), (4, .int (zI i)), (0, .ref (α 1)), (1, .int (zI p))]) hx hb dX6_oldMean_35 hl (by decide) rfl (fun ls hl => ?_)
        refine lv_iload hx hb dX6_oldMean_37 (lv_at hl 0 rfl) ?_
        refine z_calli hP hD hS hA (va_runSN (As := [.int (zI v32_2)]) (rest := []) hC (c_X9_isPoint l D τ _ _ v32_2 (by first | assumption | rfl | omega) _) ⟨va_cnB 1 hts (gC hB wc_X9_isPoint) rfl rfl rfl (hG.2.2.2.2.2.2.2 _ (List.mem_of_getElem? (i := 9) rfl)) (hW0 _ wi_X9) hd_X9_isPoint.2 ⟨Nat.le_of_ble_eq_true rfl, Nat.le_of_ble_eq_true rfl⟩, (hW0 _ wt_X9_isPoint), trivial⟩ (zp_S hK hP hD hS hA hG) rfl rfl hl.1 rfl (lv_room (Nat.le_of_ble_eq_true rfl)) dX6_oldMean_39 ⟨Nat.le_of_ble_eq_true rfl, Nat.le_of_ble_eq_true rfl⟩) (fun r w1 H locs hq9 hP hD hS => ?_)
        obtain ⟨v39_3, hv39_0, rfl, rfl⟩ := hq9
        refine z_ifeqB (tgt := 58) hx hb dX6_oldMean_42 (by decide) (fun c_42 => ?_) (fun c_42 => ?_)
        · have hb_42 := zb_neg hv39_0 c_42
          refine z_iinc (k := 3) (v := i + 1) (lv' := [(4, .int (zI (i + 1))), (5, .int (zI v32_2)), (2, .int (zI t)), (3, .int (zI cn)), (0, .ref (α 1)), (1, .int (zI p))]) hx hb dX6_oldMean_58 hl rfl rfl (by decide) rfl (fun ls hl => ?_)
          refine lv_goto (tgt := 23) hx hb dX6_oldMean_61 (by decide) ?_
          exact ih_23 t cn (i + 1) _ _ hP hD hS _ (lv_sub hl [2, 3, 0, 4, 5] rfl) (by first | assumption | rfl | omega) (by rw [zS_up hi.1, ht]; unfold S_mt; rw [← hv32_0]; first | (rw [if_pos (by omega)]; omega) | (rw [if_neg (by omega)]; omega)) (by rw [zS_up hi.1, hcn]; unfold S_mc; rw [← hv32_0]; first | (rw [if_pos (by omega)]; omega) | (rw [if_neg (by omega)]; omega)) (by first | assumption | rfl | omega) (by first | assumption | rfl | omega) (by omega)
        · have hb_42 := hv39_0.mp c_42
          refine lv_iload_n hx hb dX6_oldMean_45 rfl (lv_at hl 1 rfl) ?_
          refine lv_aload_n hx hb dX6_oldMean_46 rfl (lv_at hl 4 rfl) ?_
          refine va_get (D := D) (ci := 6) (v := .ref (α 11)) (C := RX6) (T := TX6) (N := 3) hx hb hts (fun w h => List.mem_cons_of_mem _ (wx_X6 w h)) hown hK hP 1 rfl rfl 1 (by decide) (hW0 _ wf_X6_15) (fun _ h9 => h9) rfl dX6_oldMean_47 ?_
          refine lv_iload hx hb dX6_oldMean_50 (lv_at hl 0 rfl) ?_
          refine z_iald (f := old) hx hb hK hP 11 1 rfl rfl ⟨⟨by omega, by omega⟩, by decide⟩ dX6_oldMean_52 ?_
          have hb_52 := ho v32_2 (by omega) (by omega)
          refine z_iadd hx hb dX6_oldMean_53 ?_
          refine lv_istore_n (lv' := [(2, .int (zI (t + (old v32_2)))), (5, .int (zI v32_2)), (3, .int (zI cn)), (4, .int (zI i)), (0, .ref (α 1)), (1, .int (zI p))]) hx hb dX6_oldMean_54 rfl hl (by decide) rfl (fun ls hl => ?_)
          refine z_iinc (k := 2) (v := cn + 1) (lv' := [(3, .int (zI (cn + 1))), (2, .int (zI (t + (old v32_2)))), (5, .int (zI v32_2)), (4, .int (zI i)), (0, .ref (α 1)), (1, .int (zI p))]) hx hb dX6_oldMean_55 hl rfl rfl (by decide) rfl (fun ls hl => ?_)
          refine z_iinc (k := 3) (v := i + 1) (lv' := [(4, .int (zI (i + 1))), (3, .int (zI (cn + 1))), (2, .int (zI (t + (old v32_2)))), (5, .int (zI v32_2)), (0, .ref (α 1)), (1, .int (zI p))]) hx hb dX6_oldMean_58 hl rfl rfl (by decide) rfl (fun ls hl => ?_)
          refine lv_goto (tgt := 23) hx hb dX6_oldMean_61 (by decide) ?_
          exact ih_23 (t + (old v32_2)) (cn + 1) (i + 1) _ _ hP hD hS _ (lv_sub hl [2, 1, 0, 4, 5] rfl) (by first | assumption | rfl | omega) (by rw [zS_up hi.1, ht]; unfold S_mt; rw [← hv32_0]; first | (rw [if_pos (by omega)]; omega) | (rw [if_neg (by omega)]; omega)) (by rw [zS_up hi.1, hcn]; unfold S_mc; rw [← hv32_0]; first | (rw [if_pos (by omega)]; omega) | (rw [if_neg (by omega)]; omega)) (by first | assumption | rfl | omega) (by first | assumption | rfl | omega) (by omega)

abbrev wz_X6_smoothOut : List Cond := .code yX6_smoothOut cX6_smoothOut 2 (some .int) :: W0
abbrev rm_X6_smoothOut : Room := { frames := 3, cells := 0, slots := 0, locals := 67 }
theorem hd_X6_smoothOut : yX6_smoothOut.cls = RX6 ∧ yX6_smoothOut.cls ≠ "java/lang/invoke/MethodHandle" ∧ yX6_smoothOut.cls ≠ "java/lang/invoke/VarHandle" ∧ (parseMethodDescriptor yX6_smoothOut.desc).map (fun d => d.parameters.length) = some 0 := by decide +kernel
set_option maxHeartbeats 4000000 in
set_option maxRecDepth 100000 in
theorem c_X6_smoothOut (l : Launch) (D : va_G) (τ : Nat → Nat) (α : Nat → Nat) (γ : Nat → ClassId) (h : IA) (old : IA) (ch : IA) (rg : TRg) (ln : TLn) (sl : TSl) (pd : TPd) (ct : TCt) (sg : TSg) (od : TOd) (hs : THs) (hh : ∀ k, 0 ≤ k → k < 49 → 0 ≤ h k ∧ h k ≤ 99) : cM l yX6_smoothOut wz_X6_smoothOut rm_X6_smoothOut D τ (tyH γ) [.ref (α 1)] (wH α γ (h, old, ch) rg ln sl pd ct sg od hs) (zQi (fun r w => ∃ (h2 : IA), ∃ (o2 : IA), ∃ (v : Int), (h2 = S_smooth h) ∧ (v = S_diff (S_smooth h) h) ∧ (0 ≤ v ∧ v ≤ 49) ∧ r = zI v ∧ wH α γ (h2, o2, ch) rg ln sl pd ct sg od hs = w)) := by
  refine z_ofM (cc := cX6_smoothOut) (maxL := 2) (ret := (some .int)) (by decide +kernel) rfl (Nat.le_of_ble_eq_true rfl) ?_
  intro pg e s m args below meth c hC hr hlk hnm hK hP A hD hG hA hS ls hl Q hQ
  have hx := hC.1
  have hb := hC.2.1
  have hml := hC.2.2.1
  have hown := hC.2.2.2.1
  have hts := hC.2.2.2.2
  have hB : ∀ w ∈ W0, w ∈ wz_X6_smoothOut := fun _ h => List.mem_cons_of_mem _ h
  have hW0 : ∀ w ∈ W0, w.before args s = true := fun w h => hts w (hB w h)
  have hl : lv_has ls 2 [(0, .ref (α 1))] := hl
  refine lv_aload_n hx hb dX6_smoothOut_0 rfl (lv_at hl 0 rfl) ?_
  refine z_callv hP hD hS hA (va_runV (As := []) (rest := []) hC (c_X6_remember l D τ α γ h old ch rg ln sl pd ct sg od hs _) (cwV 0 hts (gV hB wl_X6_34 wn_X6_remember ws_X6_remember wi_X6 wc_X6_remember) rfl rfl rfl hd_X6_remember ⟨Nat.le_of_ble_eq_true rfl, Nat.le_of_ble_eq_true rfl⟩) (zp_V hK hP hD hS hA hG (ci := 6) (q0 := 1) rfl rfl rfl) rfl rfl hl.1 rfl (lv_room (Nat.le_of_ble_eq_true rfl)) dX6_smoothOut_1 ⟨Nat.le_of_ble_eq_true rfl, Nat.le_of_ble_eq_true rfl⟩) (fun w1 H locs hq9 hP hD hS => ?_)
  obtain ⟨o1_1, hv1_0, rfl⟩ := hq9
  have hP : va_P D vwCl (wH α γ (h, o1_1, ch) rg ln sl pd ct sg od hs) H := hP
  have hD : va_D A (wH α γ (h, o1_1, ch) rg ln sl pd ct sg od hs) := hD
  refine lv_iconst (v := zI 0) hx hb dX6_smoothOut_4 rfl ?_
  refine lv_istore_n (lv' := [(1, .int (zI 0)), (0, .ref (α 1))]) hx hb dX6_smoothOut_5 rfl hl (by decide) rfl (fun ls hl => ?_)
  suffices HL_6 : ∀ (n_6 : Nat), ∀ (h1 : IA) (i : Int) (H : Heap) (locs : List Loc) (hP : va_P D vwCl (wH α γ (h1, o1_1, ch) rg ln sl pd ct sg od hs) H) (hD : va_D A (wH α γ (h1, o1_1, ch) rg ln sl pd ct sg od hs)) (hS : va_S A s.heap H locs) (ls : Array Slot) (hl : lv_has ls 2 [(1, .int (zI i)), (0, .ref (α 1))]) (hi : 0 ≤ i ∧ i ≤ 49) (hh1 : h1 = zmix i (fun k => clip (S_mean h k)) h) (hm : (49 - i).toNat < n_6), W pg l e rm_X6_smoothOut s m args below meth c H locs 0 0 Q (F0 m 6 ls []) from HL_6 _ h 0 _ _ hP hD hS _ (lv_sub hl [0, 1] rfl) (by first | assumption | rfl | omega) (by exact (zmix_0 _ _).symm) (Nat.lt_succ_self _)
  intro n_6
  induction n_6 with
  | zero => intro h1 i H locs hP hD hS ls hl hi hh1 hm; exact absurd hm (Nat.not_lt_zero _)
  | succ n_6 ih_6 =>
    intro h1 i H locs hP hD hS ls hl hi hh1 hm
    refine lv_iload_n hx hb dX6_smoothOut_6 rfl (lv_at hl 0 rfl) ?_
    refine lv_bipush (v := zI 49) hx hb dX6_smoothOut_7 (zI_b8 (by decide)) ?_
    refine z_icge (tgt := 28) hx hb ⟨by omega, by omega⟩ ⟨by omega, by omega⟩ dX6_smoothOut_9 (by decide) (fun c_9 => ?_) (fun c_9 => ?_)
    · have ei : i = 49 := by omega
      have hb1 : ∀ k, 0 ≤ k → k < 49 → 0 ≤ h1 k ∧ h1 k ≤ 99 := by rw [hh1]; exact zmix_b hh (fun k => clip_b _)
      refine lv_aload_n hx hb dX6_smoothOut_28 rfl (lv_at hl 1 rfl) ?_
      refine z_calli hP hD hS hA (va_runV (As := []) (rest := []) hC (c_X6_countChanged l D τ α γ h1 o1_1 ch rg ln sl pd ct sg od hs (by exact hb1) (by intro k h1 h2; rw [hv1_0, zmix_at ⟨h1, h2⟩]; exact hh k h1 h2) _) (cwV 0 hts (gV hB wl_X6_45 wn_X6_countChanged ws_X6_countChanged wi_X6 wc_X6_countChanged) rfl rfl rfl hd_X6_countChanged ⟨Nat.le_of_ble_eq_true rfl, Nat.le_of_ble_eq_true rfl⟩) (zp_V hK hP hD hS hA hG (ci := 6) (q0 := 1) rfl rfl rfl) rfl rfl hl.1 rfl (lv_room (Nat.le_of_ble_eq_true rfl)) dX6_smoothOut_29 ⟨Nat.le_of_ble_eq_true rfl, Nat.le_of_ble_eq_true rfl⟩) (fun r w1 H locs hq9 hP hD hS => ?_)
      obtain ⟨v29_2, hv29_0, hv29_1, rfl, rfl⟩ := hq9
      have hP : va_P D vwCl (wH α γ (h1, o1_1, ch) rg ln sl pd ct sg od hs) H := hP
      have hD : va_D A (wH α γ (h1, o1_1, ch) rg ln sl pd ct sg od hs) := hD
      exact z_iret hC hr hlk hQ hP hD hS ⟨h1, o1_1, v29_2, (by rw [hh1, ei]; rfl), (by rw [hv29_0]; exact S_diff_congr (fun k h1 h2 => by rw [hh1, ei]; rfl) (fun k h1 h2 => by rw [hv1_0, zmix_at ⟨h1, h2⟩])), (by first | assumption | rfl | omega), rfl, rfl⟩ dX6_smoothOut_32
    · refine lv_aload_n hx hb dX6_smoothOut_12 rfl (lv_at hl 1 rfl) ?_
      refine lv_iload_n hx hb dX6_smoothOut_13 rfl (lv_at hl 0 rfl) ?_
      refine lv_aload_n hx hb dX6_smoothOut_14 rfl (lv_at hl 1 rfl) ?_
      refine lv_iload_n hx hb dX6_smoothOut_15 rfl (lv_at hl 0 rfl) ?_
      refine z_calli hP hD hS hA (va_runV (As := [.int (zI i)]) (rest := [.int (zI i), .ref (α 1)]) hC (c_X6_oldMean l D τ α γ h1 o1_1 ch rg ln sl pd ct sg od hs i (by first | assumption | rfl | omega) (by intro k h1 h2; rw [hv1_0, zmix_at ⟨h1, h2⟩]; exact hh k h1 h2) _) (cwV 1 hts (gV hB wl_X6_49 wn_X6_oldMean ws_X6_oldMean wi_X6 wc_X6_oldMean) rfl rfl rfl hd_X6_oldMean ⟨Nat.le_of_ble_eq_true rfl, Nat.le_of_ble_eq_true rfl⟩) (zp_V hK hP hD hS hA hG (ci := 6) (q0 := 1) rfl rfl rfl) rfl rfl hl.1 rfl (lv_room (Nat.le_of_ble_eq_true rfl)) dX6_smoothOut_16 ⟨Nat.le_of_ble_eq_true rfl, Nat.le_of_ble_eq_true rfl⟩) (fun r w1 H locs hq9 hP hD hS => ?_)
      obtain ⟨v16_3, hv16_0, hv16_1, rfl, rfl⟩ := hq9
      have hP : va_P D vwCl (wH α γ (h1, o1_1, ch) rg ln sl pd ct sg od hs) H := hP
      have hD : va_D A (wH α γ (h1, o1_1, ch) rg ln sl pd ct sg od hs) := hD
      refine z_callv hP hD hS hA (va_runV (As := [.int (zI i), .int (zI v16_3)]) (rest := []) hC (c_X6_put l D τ α γ h1 o1_1 ch rg ln sl pd ct sg od hs i v16_3 (by first | assumption | rfl | omega) (by first | assumption | rfl | omega) _) (cwV 2 hts (gV hB wl_X6_41 wn_X6_put ws_X6_put wi_X6 wc_X6_put) rfl rfl rfl hd_X6_put ⟨Nat.le_of_ble_eq_true rfl, Nat.le_of_ble_eq_true rfl⟩) (zp_V hK hP hD hS hA hG (ci := 6) (q0 := 1) rfl rfl rfl) rfl rfl hl.1 rfl (lv_room (Nat.le_of_ble_eq_true rfl)) dX6_smoothOut_19 ⟨Nat.le_of_ble_eq_true rfl, Nat.le_of_ble_eq_true rfl⟩) (fun w1 H locs hq9 hP hD hS => ?_)
      obtain ⟨h19_4, hv19_0, rfl⟩ := hq9
      have hP : va_P D vwCl (wH α γ (h19_4, o1_1, ch) rg ln sl pd ct sg od hs) H := hP
      have hD : va_D A (wH α γ (h19_4, o1_1, ch) rg ln sl pd ct sg od hs) := hD
      refine z_iinc (k := 0) (v := i + 1) (lv' := [(1, .int (zI (i + 1))), (0, .ref (α 1))]) hx hb dX6_smoothOut_22 hl rfl rfl (by decide) rfl (fun ls hl => ?_)
      refine lv_goto (tgt := 6) hx hb dX6_smoothOut_25 (by decide) ?_
      exact ih_6 h19_4 (i + 1) _ _ hP hD hS _ (lv_sub hl [0, 1] rfl) (by first | assumption | rfl | omega) (by rw [hv19_0, S_put_in (by omega), hh1]; exact zmix_up hi.1 (congrArg clip (hv16_0.trans (S_mean_congr (by omega) (fun k h1 h2 => by rw [hv1_0, zmix_at ⟨h1, h2⟩]))))) (by omega)

abbrev wz_X6_turnRight : List Cond := .code yX6_turnRight cX6_turnRight 3 (some .int) :: W0
abbrev rm_X6_turnRight : Room := { frames := 2, cells := 0, slots := 0, locals := 52 }
theorem hd_X6_turnRight : yX6_turnRight.cls = RX6 ∧ yX6_turnRight.cls ≠ "java/lang/invoke/MethodHandle" ∧ yX6_turnRight.cls ≠ "java/lang/invoke/VarHandle" ∧ (parseMethodDescriptor yX6_turnRight.desc).map (fun d => d.parameters.length) = some 0 := by decide +kernel
set_option maxHeartbeats 4000000 in
set_option maxRecDepth 100000 in
theorem c_X6_turnRight (l : Launch) (D : va_G) (τ : Nat → Nat) (α : Nat → Nat) (γ : Nat → ClassId) (h : IA) (old : IA) (ch : IA) (rg : TRg) (ln : TLn) (sl : TSl) (pd : TPd) (ct : TCt) (sg : TSg) (od : TOd) (hs : THs) (hh : ∀ k, 0 ≤ k → k < 49 → 0 ≤ h k ∧ h k ≤ 99) : cM l yX6_turnRight wz_X6_turnRight rm_X6_turnRight D τ (tyH γ) [.ref (α 1)] (wH α γ (h, old, ch) rg ln sl pd ct sg od hs) (zQi (fun r w => ∃ (h2 : IA), ∃ (o2 : IA), ∃ (v : Int), (h2 = S_turn h) ∧ (v = S_diff (S_turn h) h) ∧ (0 ≤ v ∧ v ≤ 49) ∧ r = zI v ∧ wH α γ (h2, o2, ch) rg ln sl pd ct sg od hs = w)) := by
  refine z_ofM (cc := cX6_turnRight) (maxL := 3) (ret := (some .int)) (by decide +kernel) rfl (Nat.le_of_ble_eq_true rfl) ?_
  intro pg e s m args below meth c hC hr hlk hnm hK hP A hD hG hA hS ls hl Q hQ
  have hx := hC.1
  have hb := hC.2.1
  have hml := hC.2.2.1
  have hown := hC.2.2.2.1
  have hts := hC.2.2.2.2
  have hB : ∀ w ∈ W0, w ∈ wz_X6_turnRight := fun _ h => List.mem_cons_of_mem _ h
  have hW0 : ∀ w ∈ W0, w.before args s = true := fun w h => hts w (hB w h)
  have hl : lv_has ls 3 [(0, .ref (α 1))] := hl
  refine lv_aload_n hx hb dX6_turnRight_0 rfl (lv_at hl 0 rfl) ?_
  refine z_callv hP hD hS hA (va_runV (As := []) (rest := []) hC (c_X6_remember l D τ α γ h old ch rg ln sl pd ct sg od hs _) (cwV 0 hts (gV hB wl_X6_34 wn_X6_remember ws_X6_remember wi_X6 wc_X6_remember) rfl rfl rfl hd_X6_remember ⟨Nat.le_of_ble_eq_true rfl, Nat.le_of_ble_eq_true rfl⟩) (zp_V hK hP hD hS hA hG (ci := 6) (q0 := 1) rfl rfl rfl) rfl rfl hl.1 rfl (lv_room (Nat.le_of_ble_eq_true rfl)) dX6_turnRight_1 ⟨Nat.le_of_ble_eq_true rfl, Nat.le_of_ble_eq_true rfl⟩) (fun w1 H locs hq9 hP hD hS => ?_)
  obtain ⟨o1_1, hv1_0, rfl⟩ := hq9
  have hP : va_P D vwCl (wH α γ (h, o1_1, ch) rg ln sl pd ct sg od hs) H := hP
  have hD : va_D A (wH α γ (h, o1_1, ch) rg ln sl pd ct sg od hs) := hD
  have hbo : ∀ k, 0 ≤ k → k < 49 → 0 ≤ o1_1 k ∧ o1_1 k ≤ 99 := fun k h1 h2 => by rw [hv1_0, zmix_at ⟨h1, h2⟩]; exact hh k h1 h2
  refine lv_iconst (v := zI 0) hx hb dX6_turnRight_4 rfl ?_
  refine lv_istore_n (lv' := [(1, .int (zI 0)), (0, .ref (α 1))]) hx hb dX6_turnRight_5 rfl hl (by decide) rfl (fun ls hl => ?_)
  suffices HL_6 : ∀ (n_6 : Nat), ∀ (h1 : IA) (i : Int) (H : Heap) (locs : List Loc) (hP : va_P D vwCl (wH α γ (h1, o1_1, ch) rg ln sl pd ct sg od hs) H) (hD : va_D A (wH α γ (h1, o1_1, ch) rg ln sl pd ct sg od hs)) (hS : va_S A s.heap H locs) (ls : Array Slot) (hl : lv_has ls 3 [(1, .int (zI i)), (0, .ref (α 1))]) (hi : 0 ≤ i ∧ i ≤ 49) (hh1 : h1 = zmix i (fun k => clip (h (S_pointAt (6 - k % 7) (k / 7)))) h) (hm : (49 - i).toNat < n_6), W pg l e rm_X6_turnRight s m args below meth c H locs 0 0 Q (F0 m 6 ls []) from HL_6 _ h 0 _ _ hP hD hS _ (lv_sub hl [0, 1] rfl) (by first | assumption | rfl | omega) (by exact (zmix_0 _ _).symm) (Nat.lt_succ_self _)
  intro n_6
  induction n_6 with
  | zero => intro h1 i H locs hP hD hS ls hl hi hh1 hm; exact absurd hm (Nat.not_lt_zero _)
  | succ n_6 ih_6 =>
    intro h1 i H locs hP hD hS ls hl hi hh1 hm
    refine lv_iload_n hx hb dX6_turnRight_6 rfl (lv_at hl 0 rfl) ?_
    refine lv_bipush (v := zI 49) hx hb dX6_turnRight_7 (zI_b8 (by decide)) ?_
    refine z_icge (tgt := 51) hx hb ⟨by omega, by omega⟩ ⟨by omega, by omega⟩ dX6_turnRight_9 (by decide) (fun c_9 => ?_) (fun c_9 => ?_)
    · have ei : i = 49 := by omega
      have hb1 : ∀ k, 0 ≤ k → k < 49 → 0 ≤ h1 k ∧ h1 k ≤ 99 := by rw [hh1]; exact zmix_b hh (fun k => clip_b _)
      refine lv_aload_n hx hb dX6_turnRight_51 rfl (lv_at hl 1 rfl) ?_
      refine z_calli hP hD hS hA (va_runV (As := []) (rest := []) hC (c_X6_countChanged l D τ α γ h1 o1_1 ch rg ln sl pd ct sg od hs (by exact hb1) (by intro k h1 h2; rw [hv1_0, zmix_at ⟨h1, h2⟩]; exact hh k h1 h2) _) (cwV 0 hts (gV hB wl_X6_45 wn_X6_countChanged ws_X6_countChanged wi_X6 wc_X6_countChanged) rfl rfl rfl hd_X6_countChanged ⟨Nat.le_of_ble_eq_true rfl, Nat.le_of_ble_eq_true rfl⟩) (zp_V hK hP hD hS hA hG (ci := 6) (q0 := 1) rfl rfl rfl) rfl rfl hl.1 rfl (lv_room (Nat.le_of_ble_eq_true rfl)) dX6_turnRight_52 ⟨Nat.le_of_ble_eq_true rfl, Nat.le_of_ble_eq_true rfl⟩) (fun r w1 H locs hq9 hP hD hS => ?_)
      obtain ⟨v52_2, hv52_0, hv52_1, rfl, rfl⟩ := hq9
      have hP : va_P D vwCl (wH α γ (h1, o1_1, ch) rg ln sl pd ct sg od hs) H := hP
      have hD : va_D A (wH α γ (h1, o1_1, ch) rg ln sl pd ct sg od hs) := hD
      exact z_iret hC hr hlk hQ hP hD hS ⟨h1, o1_1, v52_2, (by rw [hh1, ei]; rfl), (by rw [hv52_0]; exact S_diff_congr (fun k h1 h2 => by rw [hh1, ei]; rfl) (fun k h1 h2 => by rw [hv1_0, zmix_at ⟨h1, h2⟩])), (by first | assumption | rfl | omega), rfl, rfl⟩ dX6_turnRight_55
    · refine lv_bipush (v := zI 6) hx hb dX6_turnRight_12 (zI_b8 (by decide)) ?_
      refine lv_iload_n hx hb dX6_turnRight_14 rfl (lv_at hl 0 rfl) ?_
      refine lv_bipush (v := zI 7) hx hb dX6_turnRight_15 (zI_b8 (by decide)) ?_
      refine z_irem hx hb ⟨⟨by omega, by omega⟩, by omega, by omega⟩ dX6_turnRight_17 ?_
      refine z_isub hx hb dX6_turnRight_18 ?_
      refine lv_iload_n hx hb dX6_turnRight_19 rfl (lv_at hl 0 rfl) ?_
      refine lv_bipush (v := zI 7) hx hb dX6_turnRight_20 (zI_b8 (by decide)) ?_
      refine z_idiv hx hb ⟨⟨by omega, by omega⟩, by omega, by omega⟩ dX6_turnRight_22 ?_
      refine z_calli hP hD hS hA (va_runSN (As := [.int (zI (6 - (i % 7))), .int (zI (i / 7))]) (rest := []) hC (c_X9_pointAt l D τ _ _ (6 - (i % 7)) (i / 7) (by first | assumption | rfl | omega) (by first | assumption | rfl | omega) _) ⟨va_cnB 2 hts (gC hB wc_X9_pointAt) rfl rfl rfl (hG.2.2.2.2.2.2.2 _ (List.mem_of_getElem? (i := 11) rfl)) (hW0 _ wi_X9) hd_X9_pointAt.2 ⟨Nat.le_of_ble_eq_true rfl, Nat.le_of_ble_eq_true rfl⟩, (hW0 _ wt_X9_pointAt), trivial⟩ (zp_S hK hP hD hS hA hG) rfl rfl hl.1 rfl (lv_room (Nat.le_of_ble_eq_true rfl)) dX6_turnRight_23 ⟨Nat.le_of_ble_eq_true rfl, Nat.le_of_ble_eq_true rfl⟩) (fun r w1 H locs hq9 hP hD hS => ?_)
      obtain ⟨v23_3, hv23_0, hv23_1, rfl, rfl⟩ := hq9
      refine lv_istore_n (lv' := [(2, .int (zI v23_3)), (1, .int (zI i)), (0, .ref (α 1))]) hx hb dX6_turnRight_26 rfl hl (by decide) rfl (fun ls hl => ?_)
      refine lv_iload_n hx hb dX6_turnRight_27 rfl (lv_at hl 0 rfl) ?_
      refine z_calli hP hD hS hA (va_runSN (As := [.int (zI v23_3)]) (rest := []) hC (c_X9_isPoint l D τ _ _ v23_3 (by first | assumption | rfl | omega) _) ⟨va_cnB 1 hts (gC hB wc_X9_isPoint) rfl rfl rfl (hG.2.2.2.2.2.2.2 _ (List.mem_of_getElem? (i := 9) rfl)) (hW0 _ wi_X9) hd_X9_isPoint.2 ⟨Nat.le_of_ble_eq_true rfl, Nat.le_of_ble_eq_true rfl⟩, (hW0 _ wt_X9_isPoint), trivial⟩ (zp_S hK hP hD hS hA hG) rfl rfl hl.1 rfl (lv_room (Nat.le_of_ble_eq_true rfl)) dX6_turnRight_28 ⟨Nat.le_of_ble_eq_true rfl, Nat.le_of_ble_eq_true rfl⟩) (fun r w1 H locs hq9 hP hD hS => ?_)
      obtain ⟨v28_4, hv28_0, rfl, rfl⟩ := hq9
      refine z_ifeqB (tgt := 45) hx hb dX6_turnRight_31 (by decide) (fun c_31 => ?_) (fun c_31 => ?_)
      · have hb_31 := zb_neg hv28_0 c_31
        exact absurd (by rw [hv23_0, S_pointAt_in (by omega) (by omega)]; omega) hb_31
      · have hb_31 := hv28_0.mp c_31
        refine lv_aload_n hx hb dX6_turnRight_34 rfl (lv_at hl 2 rfl) ?_
        refine lv_iload_n hx hb dX6_turnRight_35 rfl (lv_at hl 1 rfl) ?_
        refine lv_aload_n hx hb dX6_turnRight_36 rfl (lv_at hl 2 rfl) ?_
        refine va_get (D := D) (ci := 6) (v := .ref (α 11)) (C := RX6) (T := TX6) (N := 3) hx hb hts (fun w h => List.mem_cons_of_mem _ (wx_X6 w h)) hown hK hP 1 rfl rfl 1 (by decide) (hW0 _ wf_X6_15) (fun _ h9 => h9) rfl dX6_turnRight_37 ?_
        refine lv_iload_n hx hb dX6_turnRight_40 rfl (lv_at hl 0 rfl) ?_
        refine z_iald (f := o1_1) hx hb hK hP 11 1 rfl rfl ⟨⟨by omega, by omega⟩, by decide⟩ dX6_turnRight_41 ?_
        have hb_41 := hbo v23_3 (by omega) (by omega)
        refine z_callv hP hD hS hA (va_runV (As := [.int (zI i), .int (zI (o1_1 v23_3))]) (rest := []) hC (c_X6_put l D τ α γ h1 o1_1 ch rg ln sl pd ct sg od hs i (o1_1 v23_3) (by first | assumption | rfl | omega) (by first | assumption | rfl | omega) _) (cwV 2 hts (gV hB wl_X6_41 wn_X6_put ws_X6_put wi_X6 wc_X6_put) rfl rfl rfl hd_X6_put ⟨Nat.le_of_ble_eq_true rfl, Nat.le_of_ble_eq_true rfl⟩) (zp_V hK hP hD hS hA hG (ci := 6) (q0 := 1) rfl rfl rfl) rfl rfl hl.1 rfl (lv_room (Nat.le_of_ble_eq_true rfl)) dX6_turnRight_42 ⟨Nat.le_of_ble_eq_true rfl, Nat.le_of_ble_eq_true rfl⟩) (fun w1 H locs hq9 hP hD hS => ?_)
        obtain ⟨h42_5, hv42_0, rfl⟩ := hq9
        have hP : va_P D vwCl (wH α γ (h42_5, o1_1, ch) rg ln sl pd ct sg od hs) H := hP
        have hD : va_D A (wH α γ (h42_5, o1_1, ch) rg ln sl pd ct sg od hs) := hD
        refine z_iinc (k := 1) (v := i + 1) (lv' := [(1, .int (zI (i + 1))), (2, .int (zI v23_3)), (0, .ref (α 1))]) hx hb dX6_turnRight_45 hl rfl rfl (by decide) rfl (fun ls hl => ?_)
        refine lv_goto (tgt := 6) hx hb dX6_turnRight_48 (by decide) ?_
        exact ih_6 h42_5 (i + 1) _ _ hP hD hS _ (lv_sub hl [0, 2] rfl) (by first | assumption | rfl | omega) (by rw [hv42_0, S_put_in (by omega), hh1]; exact zmix_up hi.1 (congrArg clip (by rw [hv1_0, zmix_at (by omega), hv23_0]))) (by omega)

abbrev wz_J9_floorDiv_7cf53 : List Cond := .code yJ9_floorDiv_7cf53 cJ9_floorDiv_7cf53 3 (some .int) :: W0
abbrev rm_J9_floorDiv_7cf53 : Room := { frames := 0, cells := 0, slots := 0, locals := 0 }
theorem hd_J9_floorDiv_7cf53 : yJ9_floorDiv_7cf53.cls = RJ9 ∧ yJ9_floorDiv_7cf53.cls ≠ "java/lang/invoke/MethodHandle" ∧ yJ9_floorDiv_7cf53.cls ≠ "java/lang/invoke/VarHandle" ∧ (parseMethodDescriptor yJ9_floorDiv_7cf53.desc).map (fun d => d.parameters.length) = some 2 := by decide +kernel
set_option maxHeartbeats 4000000 in
set_option maxRecDepth 100000 in
theorem c_J9_floorDiv_7cf53 (l : Launch) (D : va_G) (τ : Nat → Nat) (ws : va_W) (tys : List (ClassId × FieldType)) (a : Int) (b : Int) (ha : 0 ≤ a ∧ a < 2147483648) (hb2 : 0 < b ∧ b < 2147483648) : cM l yJ9_floorDiv_7cf53 wz_J9_floorDiv_7cf53 rm_J9_floorDiv_7cf53 D τ tys [.int (zI a), .int (zI b)] (ws) (zQi (fun r w => ∃ (v : Int), (v = a / b) ∧ r = zI v ∧ ws = w)) := by
  refine z_ofMF (cc := cJ9_floorDiv_7cf53) (maxL := 3) (ret := (some .int)) (by decide +kernel) rfl (Nat.le_of_ble_eq_true rfl) ?_
  intro pg e s m args below meth c hC hr hlk hnm hK hP A hD hG hA hS ls hl Q hQ
  have hx := hC.1
  have hb := hC.2.1
  have hml := hC.2.2.1
  have hown := hC.2.2.2.1
  have hts := hC.2.2.2.2
  have hB : ∀ w ∈ W0, w ∈ wz_J9_floorDiv_7cf53 := fun _ h => List.mem_cons_of_mem _ h
  have hW0 : ∀ w ∈ W0, w.before args s = true := fun w h => hts w (hB w h)
  have hl : lv_has ls 3 [(0, .int (zI a)), (1, .int (zI b))] := hl
  refine lv_iload_n hx hb dJ9_floorDiv_7cf53_0 rfl (lv_at hl 0 rfl) ?_
  refine lv_iload_n hx hb dJ9_floorDiv_7cf53_1 rfl (lv_at hl 1 rfl) ?_
  refine z_idiv hx hb ⟨⟨by omega, by omega⟩, by omega, by omega⟩ dJ9_floorDiv_7cf53_2 ?_
  refine lv_istore_n (lv' := [(2, .int (zI (a / b))), (0, .int (zI a)), (1, .int (zI b))]) hx hb dJ9_floorDiv_7cf53_3 rfl hl (by decide) rfl (fun ls hl => ?_)
  have hq1 := Int.ediv_nonneg ha.1 (by omega : 0 ≤ b)
  have hq2 := Int.ediv_le_self b ha.1
  refine lv_iload_n hx hb dJ9_floorDiv_7cf53_4 rfl (lv_at hl 1 rfl) ?_
  refine lv_iload_n hx hb dJ9_floorDiv_7cf53_5 rfl (lv_at hl 2 rfl) ?_
  refine z_ixor hx hb ⟨⟨by omega, by omega⟩, by omega, by omega⟩ dJ9_floorDiv_7cf53_6 (fun x6_1 hx6_1 => ?_)
  refine z_ifge (tgt := 21) hx hb ⟨by omega, by omega⟩ dJ9_floorDiv_7cf53_7 (by decide) (fun c_7 => ?_) (fun c_7 => ?_)
  · refine lv_iload_n hx hb dJ9_floorDiv_7cf53_21 rfl (lv_at hl 0 rfl) ?_
    exact z_iret hC hr hlk hQ hP hD hS ⟨a / b, (by first | assumption | rfl | omega), rfl, rfl⟩ dJ9_floorDiv_7cf53_22
  · exact absurd c_7 (by omega)

abbrev wz_J7_fill_53178 : List Cond := .code yJ7_fill_53178 cJ7_fill_53178 4 none :: W0
abbrev rm_J7_fill_53178 : Room := { frames := 0, cells := 0, slots := 0, locals := 0 }
theorem hd_J7_fill_53178 : yJ7_fill_53178.cls = RJ7 ∧ yJ7_fill_53178.cls ≠ "java/lang/invoke/MethodHandle" ∧ yJ7_fill_53178.cls ≠ "java/lang/invoke/VarHandle" ∧ (parseMethodDescriptor yJ7_fill_53178.desc).map (fun d => d.parameters.length) = some 2 := by decide +kernel
set_option maxHeartbeats 4000000 in
set_option maxRecDepth 100000 in
theorem c_J7_fill_53178__ch (l : Launch) (D : va_G) (τ : Nat → Nat) (α : Nat → Nat) (γ : Nat → ClassId) (h : IA) (old : IA) (ch : IA) (rg : TRg) (ln : TLn) (sl : TSl) (pd : TPd) (ct : TCt) (sg : TSg) (od : TOd) (hs : THs) (v : Int) (hv : -2147483648 ≤ v ∧ v < 2147483648) : cM l yJ7_fill_53178 wz_J7_fill_53178 rm_J7_fill_53178 D τ (tyH γ) [.ref (α 12), .int (zI v)] (wH α γ (h, old, ch) rg ln sl pd ct sg od hs) (zQv (fun w => ∃ (f2 : IA), (f2 = zmix 49 (fun _ => v) ch) ∧ wH α γ (h, old, f2) rg ln sl pd ct sg od hs = w)) := by
  refine z_ofM (cc := cJ7_fill_53178) (maxL := 4) (ret := none) (by decide +kernel) rfl (Nat.le_of_ble_eq_true rfl) ?_
  intro pg e s m args below meth c hC hr hlk hnm hK hP A hD hG hA hS ls hl Q hQ
  have hx := hC.1
  have hb := hC.2.1
  have hml := hC.2.2.1
  have hown := hC.2.2.2.1
  have hts := hC.2.2.2.2
  have hB : ∀ w ∈ W0, w ∈ wz_J7_fill_53178 := fun _ h => List.mem_cons_of_mem _ h
  have hW0 : ∀ w ∈ W0, w.before args s = true := fun w h => hts w (hB w h)
  have hl : lv_has ls 4 [(0, .ref (α 12)), (1, .int (zI v))] := hl
  refine lv_iconst (v := zI 0) hx hb dJ7_fill_53178_0 rfl ?_
  refine lv_istore_n (lv' := [(2, .int (zI 0)), (0, .ref (α 12)), (1, .int (zI v))]) hx hb dJ7_fill_53178_1 rfl hl (by decide) rfl (fun ls hl => ?_)
  refine lv_aload_n hx hb dJ7_fill_53178_2 rfl (lv_at hl 1 rfl) ?_
  refine va_alen (v := zI 49) hx hb hK hP 12 2 rfl rfl rfl dJ7_fill_53178_3 ?_
  refine lv_istore_n (lv' := [(3, .int (zI 49)), (2, .int (zI 0)), (0, .ref (α 12)), (1, .int (zI v))]) hx hb dJ7_fill_53178_4 rfl hl (by decide) rfl (fun ls hl => ?_)
  suffices HL_5 : ∀ (n_5 : Nat), ∀ (f1 : IA) (i : Int) (H : Heap) (locs : List Loc) (hP : va_P D vwCl (wH α γ (h, old, f1) rg ln sl pd ct sg od hs) H) (hD : va_D A (wH α γ (h, old, f1) rg ln sl pd ct sg od hs)) (hS : va_S A s.heap H locs) (ls : Array Slot) (hl : lv_has ls 4 [(2, .int (zI i)), (3, .int (zI 49)), (0, .ref (α 12)), (1, .int (zI v))]) (hi : 0 ≤ i ∧ i ≤ 49) (hf : f1 = zmix i (fun _ => v) ch) (hm : (49 - i).toNat < n_5), W pg l e rm_J7_fill_53178 s m args below meth c H locs 0 0 Q (F0 m 5 ls []) from HL_5 _ ch 0 _ _ hP hD hS _ (lv_sub hl [1, 0, 2, 3] rfl) (by first | assumption | rfl | omega) (by exact (zmix_0 _ _).symm) (Nat.lt_succ_self _)
  intro n_5
  induction n_5 with
  | zero => intro f1 i H locs hP hD hS ls hl hi hf hm; exact absurd hm (Nat.not_lt_zero _)
  | succ n_5 ih_5 =>
    intro f1 i H locs hP hD hS ls hl hi hf hm
    refine lv_iload_n hx hb dJ7_fill_53178_5 rfl (lv_at hl 0 rfl) ?_
    refine lv_iload_n hx hb dJ7_fill_53178_6 rfl (lv_at hl 1 rfl) ?_
    refine z_icge (tgt := 20) hx hb ⟨by omega, by omega⟩ ⟨by omega, by omega⟩ dJ7_fill_53178_7 (by decide) (fun c_7 => ?_) (fun c_7 => ?_)
    · have ei : i = 49 := by omega
      exact z_vret hC hr hlk hQ hP hD hS ⟨f1, (by rw [hf, ei]), rfl⟩ dJ7_fill_53178_20
    · refine lv_aload_n hx hb dJ7_fill_53178_10 rfl (lv_at hl 2 rfl) ?_
      refine lv_iload_n hx hb dJ7_fill_53178_11 rfl (lv_at hl 0 rfl) ?_
      refine lv_iload_n hx hb dJ7_fill_53178_12 rfl (lv_at hl 3 rfl) ?_
      refine z_iast (f := f1) (v := v) hx hb hK hP hD hS 12 2 rfl rfl ⟨⟨by omega, by omega⟩, by decide⟩ dJ7_fill_53178_13 (fun H locs hP hD hS => ?_)
      have hP : va_P D vwCl (wH α γ (h, old, zu f1 i v) rg ln sl pd ct sg od hs) H := hP
      have hD : va_D A (wH α γ (h, old, zu f1 i v) rg ln sl pd ct sg od hs) := hD
      refine z_iinc (k := 0) (v := i + 1) (lv' := [(2, .int (zI (i + 1))), (3, .int (zI 49)), (0, .ref (α 12)), (1, .int (zI v))]) hx hb dJ7_fill_53178_14 hl rfl rfl (by decide) rfl (fun ls hl => ?_)
      refine lv_goto (tgt := 5) hx hb dJ7_fill_53178_17 (by decide) ?_
      exact ih_5 (zu f1 i v) (i + 1) _ _ hP hD hS _ (lv_sub hl [0, 1, 2, 3] rfl) (by first | assumption | rfl | omega) (by rw [hf]; exact zmix_up hi.1 rfl) (by omega)

set_option maxHeartbeats 4000000 in
set_option maxRecDepth 100000 in
theorem c_J7_fill_53178__fp (l : Launch) (D : va_G) (τ : Nat → Nat) (α : Nat → Nat) (γ : Nat → ClassId) (rl : TRl) (rg : TRg) (hi8 : BA) (fe : IA) (se : IA) (gn : BA) (fp : IA) (sp : IA) (pn : Int) (tt : Int) (cd8 : Int) (lg : Int) (sl : TSl) (pd : TPd) (ct : TCt) (sg : TSg) (od : TOd) (hs : THs) (v : Int) (hv : -2147483648 ≤ v ∧ v < 2147483648) : cM l yJ7_fill_53178 wz_J7_fill_53178 rm_J7_fill_53178 D τ (tyH γ) [.ref (α 19), .int (zI v)] (wH α γ rl rg (hi8, fe, se, gn, fp, sp, pn, tt, cd8, lg) sl pd ct sg od hs) (zQv (fun w => ∃ (f2 : IA), (f2 = zmix 84 (fun _ => v) fp) ∧ wH α γ rl rg (hi8, fe, se, gn, f2, sp, pn, tt, cd8, lg) sl pd ct sg od hs = w)) := by
  refine z_ofM (cc := cJ7_fill_53178) (maxL := 4) (ret := none) (by decide +kernel) rfl (Nat.le_of_ble_eq_true rfl) ?_
  intro pg e s m args below meth c hC hr hlk hnm hK hP A hD hG hA hS ls hl Q hQ
  have hx := hC.1
  have hb := hC.2.1
  have hml := hC.2.2.1
  have hown := hC.2.2.2.1
  have hts := hC.2.2.2.2
  have hB : ∀ w ∈ W0, w ∈ wz_J7_fill_53178 := fun _ h => List.mem_cons_of_mem _ h
  have hW0 : ∀ w ∈ W0, w.before args s = true := fun w h => hts w (hB w h)
  have hl : lv_has ls 4 [(0, .ref (α 19)), (1, .int (zI v))] := hl
  refine lv_iconst (v := zI 0) hx hb dJ7_fill_53178_0 rfl ?_
  refine lv_istore_n (lv' := [(2, .int (zI 0)), (0, .ref (α 19)), (1, .int (zI v))]) hx hb dJ7_fill_53178_1 rfl hl (by decide) rfl (fun ls hl => ?_)
  refine lv_aload_n hx hb dJ7_fill_53178_2 rfl (lv_at hl 1 rfl) ?_
  refine va_alen (v := zI 84) hx hb hK hP 19 9 rfl rfl rfl dJ7_fill_53178_3 ?_
  refine lv_istore_n (lv' := [(3, .int (zI 84)), (2, .int (zI 0)), (0, .ref (α 19)), (1, .int (zI v))]) hx hb dJ7_fill_53178_4 rfl hl (by decide) rfl (fun ls hl => ?_)
  suffices HL_5 : ∀ (n_5 : Nat), ∀ (f1 : IA) (i : Int) (H : Heap) (locs : List Loc) (hP : va_P D vwCl (wH α γ rl rg (hi8, fe, se, gn, f1, sp, pn, tt, cd8, lg) sl pd ct sg od hs) H) (hD : va_D A (wH α γ rl rg (hi8, fe, se, gn, f1, sp, pn, tt, cd8, lg) sl pd ct sg od hs)) (hS : va_S A s.heap H locs) (ls : Array Slot) (hl : lv_has ls 4 [(2, .int (zI i)), (3, .int (zI 84)), (0, .ref (α 19)), (1, .int (zI v))]) (hi : 0 ≤ i ∧ i ≤ 84) (hf : f1 = zmix i (fun _ => v) fp) (hm : (84 - i).toNat < n_5), W pg l e rm_J7_fill_53178 s m args below meth c H locs 0 0 Q (F0 m 5 ls []) from HL_5 _ fp 0 _ _ hP hD hS _ (lv_sub hl [1, 0, 2, 3] rfl) (by first | assumption | rfl | omega) (by exact (zmix_0 _ _).symm) (Nat.lt_succ_self _)
  intro n_5
  induction n_5 with
  | zero => intro f1 i H locs hP hD hS ls hl hi hf hm; exact absurd hm (Nat.not_lt_zero _)
  | succ n_5 ih_5 =>
    intro f1 i H locs hP hD hS ls hl hi hf hm
    refine lv_iload_n hx hb dJ7_fill_53178_5 rfl (lv_at hl 0 rfl) ?_
    refine lv_iload_n hx hb dJ7_fill_53178_6 rfl (lv_at hl 1 rfl) ?_
    refine z_icge (tgt := 20) hx hb ⟨by omega, by omega⟩ ⟨by omega, by omega⟩ dJ7_fill_53178_7 (by decide) (fun c_7 => ?_) (fun c_7 => ?_)
    · have ei : i = 84 := by omega
      exact z_vret hC hr hlk hQ hP hD hS ⟨f1, (by rw [hf, ei]), rfl⟩ dJ7_fill_53178_20
    · refine lv_aload_n hx hb dJ7_fill_53178_10 rfl (lv_at hl 2 rfl) ?_
      refine lv_iload_n hx hb dJ7_fill_53178_11 rfl (lv_at hl 0 rfl) ?_
      refine lv_iload_n hx hb dJ7_fill_53178_12 rfl (lv_at hl 3 rfl) ?_
      refine z_iast (f := f1) (v := v) hx hb hK hP hD hS 19 9 rfl rfl ⟨⟨by omega, by omega⟩, by decide⟩ dJ7_fill_53178_13 (fun H locs hP hD hS => ?_)
      have hP : va_P D vwCl (wH α γ rl rg (hi8, fe, se, gn, zu f1 i v, sp, pn, tt, cd8, lg) sl pd ct sg od hs) H := hP
      have hD : va_D A (wH α γ rl rg (hi8, fe, se, gn, zu f1 i v, sp, pn, tt, cd8, lg) sl pd ct sg od hs) := hD
      refine z_iinc (k := 0) (v := i + 1) (lv' := [(2, .int (zI (i + 1))), (3, .int (zI 84)), (0, .ref (α 19)), (1, .int (zI v))]) hx hb dJ7_fill_53178_14 hl rfl rfl (by decide) rfl (fun ls hl => ?_)
      refine lv_goto (tgt := 5) hx hb dJ7_fill_53178_17 (by decide) ?_
      exact ih_5 (zu f1 i v) (i + 1) _ _ hP hD hS _ (lv_sub hl [0, 1, 2, 3] rfl) (by first | assumption | rfl | omega) (by rw [hf]; exact zmix_up hi.1 rfl) (by omega)

set_option maxHeartbeats 4000000 in
set_option maxRecDepth 100000 in
theorem c_J7_fill_53178__sp (l : Launch) (D : va_G) (τ : Nat → Nat) (α : Nat → Nat) (γ : Nat → ClassId) (rl : TRl) (rg : TRg) (hi8 : BA) (fe : IA) (se : IA) (gn : BA) (fp : IA) (sp : IA) (pn : Int) (tt : Int) (cd8 : Int) (lg : Int) (sl : TSl) (pd : TPd) (ct : TCt) (sg : TSg) (od : TOd) (hs : THs) (v : Int) (hv : -2147483648 ≤ v ∧ v < 2147483648) : cM l yJ7_fill_53178 wz_J7_fill_53178 rm_J7_fill_53178 D τ (tyH γ) [.ref (α 20), .int (zI v)] (wH α γ rl rg (hi8, fe, se, gn, fp, sp, pn, tt, cd8, lg) sl pd ct sg od hs) (zQv (fun w => ∃ (f2 : IA), (f2 = zmix 84 (fun _ => v) sp) ∧ wH α γ rl rg (hi8, fe, se, gn, fp, f2, pn, tt, cd8, lg) sl pd ct sg od hs = w)) := by
  refine z_ofM (cc := cJ7_fill_53178) (maxL := 4) (ret := none) (by decide +kernel) rfl (Nat.le_of_ble_eq_true rfl) ?_
  intro pg e s m args below meth c hC hr hlk hnm hK hP A hD hG hA hS ls hl Q hQ
  have hx := hC.1
  have hb := hC.2.1
  have hml := hC.2.2.1
  have hown := hC.2.2.2.1
  have hts := hC.2.2.2.2
  have hB : ∀ w ∈ W0, w ∈ wz_J7_fill_53178 := fun _ h => List.mem_cons_of_mem _ h
  have hW0 : ∀ w ∈ W0, w.before args s = true := fun w h => hts w (hB w h)
  have hl : lv_has ls 4 [(0, .ref (α 20)), (1, .int (zI v))] := hl
  refine lv_iconst (v := zI 0) hx hb dJ7_fill_53178_0 rfl ?_
  refine lv_istore_n (lv' := [(2, .int (zI 0)), (0, .ref (α 20)), (1, .int (zI v))]) hx hb dJ7_fill_53178_1 rfl hl (by decide) rfl (fun ls hl => ?_)
  refine lv_aload_n hx hb dJ7_fill_53178_2 rfl (lv_at hl 1 rfl) ?_
  refine va_alen (v := zI 84) hx hb hK hP 20 10 rfl rfl rfl dJ7_fill_53178_3 ?_
  refine lv_istore_n (lv' := [(3, .int (zI 84)), (2, .int (zI 0)), (0, .ref (α 20)), (1, .int (zI v))]) hx hb dJ7_fill_53178_4 rfl hl (by decide) rfl (fun ls hl => ?_)
  suffices HL_5 : ∀ (n_5 : Nat), ∀ (f1 : IA) (i : Int) (H : Heap) (locs : List Loc) (hP : va_P D vwCl (wH α γ rl rg (hi8, fe, se, gn, fp, f1, pn, tt, cd8, lg) sl pd ct sg od hs) H) (hD : va_D A (wH α γ rl rg (hi8, fe, se, gn, fp, f1, pn, tt, cd8, lg) sl pd ct sg od hs)) (hS : va_S A s.heap H locs) (ls : Array Slot) (hl : lv_has ls 4 [(2, .int (zI i)), (3, .int (zI 84)), (0, .ref (α 20)), (1, .int (zI v))]) (hi : 0 ≤ i ∧ i ≤ 84) (hf : f1 = zmix i (fun _ => v) sp) (hm : (84 - i).toNat < n_5), W pg l e rm_J7_fill_53178 s m args below meth c H locs 0 0 Q (F0 m 5 ls []) from HL_5 _ sp 0 _ _ hP hD hS _ (lv_sub hl [1, 0, 2, 3] rfl) (by first | assumption | rfl | omega) (by exact (zmix_0 _ _).symm) (Nat.lt_succ_self _)
  intro n_5
  induction n_5 with
  | zero => intro f1 i H locs hP hD hS ls hl hi hf hm; exact absurd hm (Nat.not_lt_zero _)
  | succ n_5 ih_5 =>
    intro f1 i H locs hP hD hS ls hl hi hf hm
    refine lv_iload_n hx hb dJ7_fill_53178_5 rfl (lv_at hl 0 rfl) ?_
    refine lv_iload_n hx hb dJ7_fill_53178_6 rfl (lv_at hl 1 rfl) ?_
    refine z_icge (tgt := 20) hx hb ⟨by omega, by omega⟩ ⟨by omega, by omega⟩ dJ7_fill_53178_7 (by decide) (fun c_7 => ?_) (fun c_7 => ?_)
    · have ei : i = 84 := by omega
      exact z_vret hC hr hlk hQ hP hD hS ⟨f1, (by rw [hf, ei]), rfl⟩ dJ7_fill_53178_20
    · refine lv_aload_n hx hb dJ7_fill_53178_10 rfl (lv_at hl 2 rfl) ?_
      refine lv_iload_n hx hb dJ7_fill_53178_11 rfl (lv_at hl 0 rfl) ?_
      refine lv_iload_n hx hb dJ7_fill_53178_12 rfl (lv_at hl 3 rfl) ?_
      refine z_iast (f := f1) (v := v) hx hb hK hP hD hS 20 10 rfl rfl ⟨⟨by omega, by omega⟩, by decide⟩ dJ7_fill_53178_13 (fun H locs hP hD hS => ?_)
      have hP : va_P D vwCl (wH α γ rl rg (hi8, fe, se, gn, fp, zu f1 i v, pn, tt, cd8, lg) sl pd ct sg od hs) H := hP
      have hD : va_D A (wH α γ rl rg (hi8, fe, se, gn, fp, zu f1 i v, pn, tt, cd8, lg) sl pd ct sg od hs) := hD
      refine z_iinc (k := 0) (v := i + 1) (lv' := [(2, .int (zI (i + 1))), (3, .int (zI 84)), (0, .ref (α 20)), (1, .int (zI v))]) hx hb dJ7_fill_53178_14 hl rfl rfl (by decide) rfl (fun ls hl => ?_)
      refine lv_goto (tgt := 5) hx hb dJ7_fill_53178_17 (by decide) ?_
      exact ih_5 (zu f1 i v) (i + 1) _ _ hP hD hS _ (lv_sub hl [0, 1, 2, 3] rfl) (by first | assumption | rfl | omega) (by rw [hf]; exact zmix_up hi.1 rfl) (by omega)

