abbrev wz_L_low : List Cond := .code yL_low cL_low 2 (some .int) :: W0
abbrev rm_L_low : Room := { frames := 0, cells := 0, slots := 0, locals := 0 }
theorem hd_L_low : yL_low.cls = RL ∧ yL_low.cls ≠ "java/lang/invoke/MethodHandle" ∧ yL_low.cls ≠ "java/lang/invoke/VarHandle" ∧ (parseMethodDescriptor yL_low.desc).map (fun d => d.parameters.length) = some 2 := by decide +kernel
set_option maxHeartbeats 4000000 in
set_option maxRecDepth 100000 in
theorem c_L_low (l : Launch) (D : va_G) (τ : Nat → Nat) (ws : va_W) (tys : List (ClassId × FieldType)) (v9 : Int) (n9 : Int) (hn9 : 1 ≤ n9 ∧ n9 ≤ 100) : cM l yL_low wz_L_low rm_L_low D τ tys [.int (zI v9), .int (zI n9)] (ws) (zQi (fun r w => ∃ (v : Int), (0 ≤ v ∧ v < n9) ∧ r = zI v ∧ ws = w)) := by
  refine z_ofM (cc := cL_low) (maxL := 2) (ret := (some .int)) (by decide +kernel) rfl (Nat.le_of_ble_eq_true rfl) ?_
  intro pg e s m args below meth c hC hr hlk hnm hK hP A hD hG hA hS ls hl Q hQ
  have hx := hC.1
  have hb := hC.2.1
  have hml := hC.2.2.1
  have hown := hC.2.2.2.1
  have hts := hC.2.2.2.2
  have hB : ∀ w ∈ W0, w ∈ wz_L_low := fun _ h => List.mem_cons_of_mem _ h
  have hW0 : ∀ w ∈ W0, w.before args s = true := fun w h => hts w (hB w h)
  have hl : lv_has ls 2 [(0, .int (zI v9)), (1, .int (zI n9))] := hl
  refine lv_iload_n hx hb dL_low_0 rfl (lv_at hl 0 rfl) ?_
  refine lv_ldc (v := zI 2147483647) hx hb hown (hW0 _ wci_L_7) dL_low_1 ?_
  refine z_iandC hx hb (by decide) dL_low_3 (fun x3_1 hx3_1 => ?_)
  refine lv_iload_n hx hb dL_low_4 rfl (lv_at hl 1 rfl) ?_
  refine z_irem hx hb ⟨⟨by omega, by omega⟩, by omega, by omega⟩ dL_low_5 ?_
  exact z_iret hC hr hlk hQ hP hD hS ⟨x3_1 % n9, (by have z9 := Int.emod_nonneg x3_1 (show n9 ≠ 0 by omega); have z8 := Int.emod_lt_of_pos x3_1 (show 0 < n9 by omega); exact ⟨z9, z8⟩), rfl, rfl⟩ dL_low_6

abbrev wz_L_at : List Cond := .code yL_at cL_at 2 (some .int) :: W0
abbrev rm_L_at : Room := { frames := 3, cells := 0, slots := 0, locals := 65 }
theorem hd_L_at : yL_at.cls = RL ∧ yL_at.cls ≠ "java/lang/invoke/MethodHandle" ∧ yL_at.cls ≠ "java/lang/invoke/VarHandle" ∧ (parseMethodDescriptor yL_at.desc).map (fun d => d.parameters.length) = some 2 := by decide +kernel
set_option maxHeartbeats 4000000 in
set_option maxRecDepth 100000 in
theorem c_L_at (l : Launch) (D : va_G) (τ : Nat → Nat) (α : Nat → Nat) (γ : Nat → ClassId) (h : IA) (old : IA) (ch : IA) (rg : TRg) (ln : TLn) (sl : TSl) (pd : TPd) (ct : TCt) (sg : TSg) (od : TOd) (hs : THs) (p : Int) (hp : 0 ≤ p ∧ p < 49) (hh : ∀ k, 0 ≤ k → k < 49 → 0 ≤ h k ∧ h k ≤ 99) : cM l yL_at wz_L_at rm_L_at D τ (tyH γ) [.ref (α 0), .int (zI p)] (wH α γ (h, old, ch) rg ln sl pd ct sg od hs) (zQi (fun r w => ∃ (v : Int), (v = h p) ∧ (0 ≤ v ∧ v ≤ 99) ∧ r = zI v ∧ wH α γ (h, old, ch) rg ln sl pd ct sg od hs = w)) := by
  refine z_ofM (cc := cL_at) (maxL := 2) (ret := (some .int)) (by decide +kernel) rfl (Nat.le_of_ble_eq_true rfl) ?_
  intro pg e s m args below meth c hC hr hlk hnm hK hP A hD hG hA hS ls hl Q hQ
  have hx := hC.1
  have hb := hC.2.1
  have hml := hC.2.2.1
  have hown := hC.2.2.2.1
  have hts := hC.2.2.2.2
  have hB : ∀ w ∈ W0, w ∈ wz_L_at := fun _ h => List.mem_cons_of_mem _ h
  have hW0 : ∀ w ∈ W0, w.before args s = true := fun w h => hts w (hB w h)
  have hl : lv_has ls 2 [(0, .ref (α 0)), (1, .int (zI p))] := hl
  refine lv_aload_n hx hb dL_at_0 rfl (lv_at hl 0 rfl) ?_
  refine lv_iload_n hx hb dL_at_1 rfl (lv_at hl 1 rfl) ?_
  refine lv_bipush (v := zI 7) hx hb dL_at_2 (zI_b8 (by decide)) ?_
  refine z_idiv hx hb ⟨⟨by omega, by omega⟩, by omega, by omega⟩ dL_at_4 ?_
  refine lv_iload_n hx hb dL_at_5 rfl (lv_at hl 1 rfl) ?_
  refine lv_bipush (v := zI 7) hx hb dL_at_6 (zI_b8 (by decide)) ?_
  refine z_irem hx hb ⟨⟨by omega, by omega⟩, by omega, by omega⟩ dL_at_8 ?_
  refine z_calli hP hD hS hA (va_runV (As := [.int (zI (p / 7)), .int (zI (p % 7))]) (rest := []) hC (c_X9_heightOf l D τ α γ h old ch rg ln sl pd ct sg od hs (p / 7) (p % 7) (by first | assumption | rfl | omega) (by first | assumption | rfl | omega) (by first | assumption | rfl | omega) _) (cwV 2 hts (gV hB wl_L_8 wn_X9_heightOf ws_X9_heightOf wi_X9 wc_X9_heightOf) rfl rfl rfl hd_X9_heightOf ⟨Nat.le_of_ble_eq_true rfl, Nat.le_of_ble_eq_true rfl⟩) (zp_V hK hP hD hS hA hG (ci := 9) (q0 := 0) rfl rfl rfl) rfl rfl hl.1 rfl (lv_room (Nat.le_of_ble_eq_true rfl)) dL_at_9 ⟨Nat.le_of_ble_eq_true rfl, Nat.le_of_ble_eq_true rfl⟩) (fun r w1 H locs hq9 hP hD hS => ?_)
  obtain ⟨v9_1, hv9_0, hv9_1, rfl, rfl⟩ := hq9
  try simp only [e7] at hv9_0
  try simp only [e7] at hv9_1
  have hP : va_P D vwCl (wH α γ (h, old, ch) rg ln sl pd ct sg od hs) H := hP
  have hD : va_D A (wH α γ (h, old, ch) rg ln sl pd ct sg od hs) := hD
  have hb12 := hh p hp.1 hp.2
  exact z_iret hC hr hlk hQ hP hD hS ⟨v9_1, (by exact hv9_1), (by rw [hv9_1]; exact hb12), rfl, rfl⟩ dL_at_12

abbrev wz_L_extreme : List Cond := .code yL_extreme cL_extreme 4 (some .int) :: W0
abbrev rm_L_extreme : Room := { frames := 4, cells := 0, slots := 0, locals := 86 }
theorem hd_L_extreme : yL_extreme.cls = RL ∧ yL_extreme.cls ≠ "java/lang/invoke/MethodHandle" ∧ yL_extreme.cls ≠ "java/lang/invoke/VarHandle" ∧ (parseMethodDescriptor yL_extreme.desc).map (fun d => d.parameters.length) = some 2 := by decide +kernel
set_option maxHeartbeats 4000000 in
set_option maxRecDepth 100000 in
theorem c_L_extreme (l : Launch) (D : va_G) (τ : Nat → Nat) (α : Nat → Nat) (γ : Nat → ClassId) (h : IA) (old : IA) (ch : IA) (rg : TRg) (ln : TLn) (sl : TSl) (pd : TPd) (ct : TCt) (sg : TSg) (od : TOd) (hs : THs) (g9 : Bool) (hh : ∀ k, 0 ≤ k → k < 49 → 0 ≤ h k ∧ h k ≤ 99) : cM l yL_extreme wz_L_extreme rm_L_extreme D τ (tyH γ) [.ref (α 0), .int (bI g9)] (wH α γ (h, old, ch) rg ln sl pd ct sg od hs) (zQi (fun r w => ∃ (v : Int), (∃ k, 0 ≤ k ∧ k < 49 ∧ v = h k) ∧ (g9 = true → ∀ k, 0 ≤ k → k < 49 → h k ≤ v) ∧ (g9 = false → ∀ k, 0 ≤ k → k < 49 → v ≤ h k) ∧ (0 ≤ v ∧ v ≤ 99) ∧ r = zI v ∧ wH α γ (h, old, ch) rg ln sl pd ct sg od hs = w)) := by
  refine z_ofM (cc := cL_extreme) (maxL := 4) (ret := (some .int)) (by decide +kernel) rfl (Nat.le_of_ble_eq_true rfl) ?_
  intro pg e s m args below meth c hC hr hlk hnm hK hP A hD hG hA hS ls hl Q hQ
  have hx := hC.1
  have hb := hC.2.1
  have hml := hC.2.2.1
  have hown := hC.2.2.2.1
  have hts := hC.2.2.2.2
  have hB : ∀ w ∈ W0, w ∈ wz_L_extreme := fun _ h => List.mem_cons_of_mem _ h
  have hW0 : ∀ w ∈ W0, w.before args s = true := fun w h => hts w (hB w h)
  have hl : lv_has ls 4 [(0, .ref (α 0)), (1, .int (bI g9))] := hl
  refine lv_aload_n hx hb dL_extreme_0 rfl (lv_at hl 0 rfl) ?_
  refine lv_iconst (v := zI 0) hx hb dL_extreme_1 rfl ?_
  refine z_calli hP hD hS hA (va_runS (As := [.ref (α 0), .int (zI 0)]) (rest := []) hC (c_L_at l D τ α γ h old ch rg ln sl pd ct sg od hs 0 (by first | assumption | rfl | omega) (by first | assumption | rfl | omega) _) (va_cwS 2 hts (gS hB wl_L_42 wt_L_at wi_L wc_L_at) rfl rfl rfl hd_L_at.2 ⟨Nat.le_of_ble_eq_true rfl, Nat.le_of_ble_eq_true rfl⟩) (zp_S hK hP hD hS hA hG) rfl rfl hl.1 rfl (lv_room (Nat.le_of_ble_eq_true rfl)) dL_extreme_2 ⟨Nat.le_of_ble_eq_true rfl, Nat.le_of_ble_eq_true rfl⟩) (fun r w1 H locs hq9 hP hD hS => ?_)
  obtain ⟨v2_1, hv2_0, hv2_1, rfl, rfl⟩ := hq9
  have hP : va_P D vwCl (wH α γ (h, old, ch) rg ln sl pd ct sg od hs) H := hP
  have hD : va_D A (wH α γ (h, old, ch) rg ln sl pd ct sg od hs) := hD
  refine lv_istore_n (lv' := [(2, .int (zI v2_1)), (0, .ref (α 0)), (1, .int (bI g9))]) hx hb dL_extreme_5 rfl hl (by decide) rfl (fun ls hl => ?_)
  refine lv_iconst (v := zI 1) hx hb dL_extreme_6 rfl ?_
  refine lv_istore_n (lv' := [(3, .int (zI 1)), (2, .int (zI v2_1)), (0, .ref (α 0)), (1, .int (bI g9))]) hx hb dL_extreme_7 rfl hl (by decide) rfl (fun ls hl => ?_)
  suffices HL_8 : ∀ (n_8 : Nat), ∀ (f : Int) (i : Int) (H : Heap) (locs : List Loc) (hP : va_P D vwCl (wH α γ (h, old, ch) rg ln sl pd ct sg od hs) H) (hD : va_D A (wH α γ (h, old, ch) rg ln sl pd ct sg od hs)) (hS : va_S A s.heap H locs) (ls : Array Slot) (hl : lv_has ls 4 [(2, .int (zI f)), (3, .int (zI i)), (0, .ref (α 0)), (1, .int (bI g9))]) (hi : 1 ≤ i ∧ i ≤ 49) (hf1 : ∃ k, 0 ≤ k ∧ k < 49 ∧ f = h k) (hf2 : g9 = true → ∀ k, 0 ≤ k → k < i → h k ≤ f) (hf3 : g9 = false → ∀ k, 0 ≤ k → k < i → f ≤ h k) (hfb : 0 ≤ f ∧ f ≤ 99) (hm : (49 - i).toNat < n_8), W pg l e rm_L_extreme s m args below meth c H locs 0 0 Q (F0 m 8 ls []) from HL_8 _ v2_1 1 _ _ hP hD hS _ (lv_sub hl [1, 0, 2, 3] rfl) (by first | assumption | rfl | omega) (by exact ⟨0, by omega, by omega, hv2_0⟩) (by intro _ k a b; rw [show k = 0 by omega]; omega) (by intro _ k a b; rw [show k = 0 by omega]; omega) (by exact hv2_1) (Nat.lt_succ_self _)
  intro n_8
  induction n_8 with
  | zero => intro f i H locs hP hD hS ls hl hi hf1 hf2 hf3 hfb hm; exact absurd hm (Nat.not_lt_zero _)
  | succ n_8 ih_8 =>
    intro f i H locs hP hD hS ls hl hi hf1 hf2 hf3 hfb hm
    refine lv_iload_n hx hb dL_extreme_8 rfl (lv_at hl 1 rfl) ?_
    refine lv_bipush (v := zI 49) hx hb dL_extreme_9 (zI_b8 (by decide)) ?_
    refine z_icge (tgt := 57) hx hb ⟨by omega, by omega⟩ ⟨by omega, by omega⟩ dL_extreme_11 (by decide) (fun c_11 => ?_) (fun c_11 => ?_)
    · have i49 : i = 49 := by omega
      refine lv_iload_n hx hb dL_extreme_57 rfl (lv_at hl 0 rfl) ?_
      exact z_iret hC hr hlk hQ hP hD hS ⟨f, (by exact hf1), (by intro hg k a b; exact hf2 hg k a (by omega)), (by intro hg k a b; exact hf3 hg k a (by omega)), (by exact hfb), rfl, rfl⟩ dL_extreme_58
    · refine lv_iload_n hx hb dL_extreme_14 rfl (lv_at hl 3 rfl) ?_
      refine lv_aload_n hx hb dL_extreme_15 rfl (lv_at hl 2 rfl) ?_
      refine lv_iload_n hx hb dL_extreme_16 rfl (lv_at hl 1 rfl) ?_
      refine z_calli hP hD hS hA (va_runS (As := [.ref (α 0), .int (zI i)]) (rest := [.int (bI g9)]) hC (c_L_at l D τ α γ h old ch rg ln sl pd ct sg od hs i (by first | assumption | rfl | omega) (by first | assumption | rfl | omega) _) (va_cwS 2 hts (gS hB wl_L_42 wt_L_at wi_L wc_L_at) rfl rfl rfl hd_L_at.2 ⟨Nat.le_of_ble_eq_true rfl, Nat.le_of_ble_eq_true rfl⟩) (zp_S hK hP hD hS hA hG) rfl rfl hl.1 rfl (lv_room (Nat.le_of_ble_eq_true rfl)) dL_extreme_17 ⟨Nat.le_of_ble_eq_true rfl, Nat.le_of_ble_eq_true rfl⟩) (fun r w1 H locs hq9 hP hD hS => ?_)
      obtain ⟨v17_2, hv17_0, hv17_1, rfl, rfl⟩ := hq9
      have hP : va_P D vwCl (wH α γ (h, old, ch) rg ln sl pd ct sg od hs) H := hP
      have hD : va_D A (wH α γ (h, old, ch) rg ln sl pd ct sg od hs) := hD
      refine lv_iload_n hx hb dL_extreme_20 rfl (lv_at hl 0 rfl) ?_
      refine z_icle (tgt := 28) hx hb ⟨by omega, by omega⟩ ⟨by omega, by omega⟩ dL_extreme_21 (by decide) (fun c_21 => ?_) (fun c_21 => ?_)
      · refine lv_iconst (v := zI 0) hx hb dL_extreme_28 rfl ?_
        refine W.eq (g2 := F0 m 29 ls [.int (bI false), .int (bI g9)]) rfl ?_
        refine z_icneB (tgt := 49) hx hb dL_extreme_29 (by decide) (fun c_29 => ?_) (fun c_29 => ?_)
        · refine lv_iload_n hx hb dL_extreme_49 rfl (lv_at hl 0 rfl) ?_
          refine lv_istore_n (lv' := [(2, .int (zI f)), (3, .int (zI i)), (0, .ref (α 0)), (1, .int (bI g9))]) hx hb dL_extreme_50 rfl hl (by decide) rfl (fun ls hl => ?_)
          refine z_iinc (k := 1) (v := i + 1) (lv' := [(3, .int (zI (i + 1))), (2, .int (zI f)), (0, .ref (α 0)), (1, .int (bI g9))]) hx hb dL_extreme_51 hl rfl rfl (by decide) rfl (fun ls hl => ?_)
          refine lv_goto (tgt := 8) hx hb dL_extreme_54 (by decide) ?_
          exact ih_8 f (i + 1) _ _ hP hD hS _ (lv_sub hl [1, 0, 2, 3] rfl) (by first | assumption | rfl | omega) (by first | exact hf1 | exact ⟨i, by omega, by omega, hv43_0⟩) (by intro hg k k0 k1; have z9 := hf2 hg; by_cases e9 : k = i <;> first | (exfalso; simp [hg] at c_29; done) | (rw [e9]; omega) | (have z8 := z9 k k0 (by omega); omega)) (by intro hg k k0 k1; have z9 := hf3 hg; by_cases e9 : k = i <;> first | (exfalso; simp [hg] at c_29; done) | (rw [e9]; omega) | (have z8 := z9 k k0 (by omega); omega)) (by first | exact hfb | exact hv43_1) (by omega)
        · refine lv_aload_n hx hb dL_extreme_32 rfl (lv_at hl 2 rfl) ?_
          refine lv_iload_n hx hb dL_extreme_33 rfl (lv_at hl 1 rfl) ?_
          refine z_calli hP hD hS hA (va_runS (As := [.ref (α 0), .int (zI i)]) (rest := []) hC (c_L_at l D τ α γ h old ch rg ln sl pd ct sg od hs i (by first | assumption | rfl | omega) (by first | assumption | rfl | omega) _) (va_cwS 2 hts (gS hB wl_L_42 wt_L_at wi_L wc_L_at) rfl rfl rfl hd_L_at.2 ⟨Nat.le_of_ble_eq_true rfl, Nat.le_of_ble_eq_true rfl⟩) (zp_S hK hP hD hS hA hG) rfl rfl hl.1 rfl (lv_room (Nat.le_of_ble_eq_true rfl)) dL_extreme_34 ⟨Nat.le_of_ble_eq_true rfl, Nat.le_of_ble_eq_true rfl⟩) (fun r w1 H locs hq9 hP hD hS => ?_)
          obtain ⟨v34_3, hv34_0, hv34_1, rfl, rfl⟩ := hq9
          have hP : va_P D vwCl (wH α γ (h, old, ch) rg ln sl pd ct sg od hs) H := hP
          have hD : va_D A (wH α γ (h, old, ch) rg ln sl pd ct sg od hs) := hD
          refine lv_iload_n hx hb dL_extreme_37 rfl (lv_at hl 0 rfl) ?_
          refine z_iceq (tgt := 49) hx hb ⟨by omega, by omega⟩ ⟨by omega, by omega⟩ dL_extreme_38 (by decide) (fun c_38 => ?_) (fun c_38 => ?_)
          · refine lv_iload_n hx hb dL_extreme_49 rfl (lv_at hl 0 rfl) ?_
            refine lv_istore_n (lv' := [(2, .int (zI f)), (3, .int (zI i)), (0, .ref (α 0)), (1, .int (bI g9))]) hx hb dL_extreme_50 rfl hl (by decide) rfl (fun ls hl => ?_)
            refine z_iinc (k := 1) (v := i + 1) (lv' := [(3, .int (zI (i + 1))), (2, .int (zI f)), (0, .ref (α 0)), (1, .int (bI g9))]) hx hb dL_extreme_51 hl rfl rfl (by decide) rfl (fun ls hl => ?_)
            refine lv_goto (tgt := 8) hx hb dL_extreme_54 (by decide) ?_
            exact ih_8 f (i + 1) _ _ hP hD hS _ (lv_sub hl [1, 0, 2, 3] rfl) (by first | assumption | rfl | omega) (by first | exact hf1 | exact ⟨i, by omega, by omega, hv43_0⟩) (by intro hg k k0 k1; have z9 := hf2 hg; by_cases e9 : k = i <;> first | (exfalso; simp [hg] at c_29; done) | (rw [e9]; omega) | (have z8 := z9 k k0 (by omega); omega)) (by intro hg k k0 k1; have z9 := hf3 hg; by_cases e9 : k = i <;> first | (exfalso; simp [hg] at c_29; done) | (rw [e9]; omega) | (have z8 := z9 k k0 (by omega); omega)) (by first | exact hfb | exact hv43_1) (by omega)
          · refine lv_aload_n hx hb dL_extreme_41 rfl (lv_at hl 2 rfl) ?_
            refine lv_iload_n hx hb dL_extreme_42 rfl (lv_at hl 1 rfl) ?_
            refine z_calli hP hD hS hA (va_runS (As := [.ref (α 0), .int (zI i)]) (rest := []) hC (c_L_at l D τ α γ h old ch rg ln sl pd ct sg od hs i (by first | assumption | rfl | omega) (by first | assumption | rfl | omega) _) (va_cwS 2 hts (gS hB wl_L_42 wt_L_at wi_L wc_L_at) rfl rfl rfl hd_L_at.2 ⟨Nat.le_of_ble_eq_true rfl, Nat.le_of_ble_eq_true rfl⟩) (zp_S hK hP hD hS hA hG) rfl rfl hl.1 rfl (lv_room (Nat.le_of_ble_eq_true rfl)) dL_extreme_43 ⟨Nat.le_of_ble_eq_true rfl, Nat.le_of_ble_eq_true rfl⟩) (fun r w1 H locs hq9 hP hD hS => ?_)
            obtain ⟨v43_4, hv43_0, hv43_1, rfl, rfl⟩ := hq9
            have hP : va_P D vwCl (wH α γ (h, old, ch) rg ln sl pd ct sg od hs) H := hP
            have hD : va_D A (wH α γ (h, old, ch) rg ln sl pd ct sg od hs) := hD
            refine lv_goto (tgt := 50) hx hb dL_extreme_46 (by decide) ?_
            refine lv_istore_n (lv' := [(2, .int (zI v43_4)), (3, .int (zI i)), (0, .ref (α 0)), (1, .int (bI g9))]) hx hb dL_extreme_50 rfl hl (by decide) rfl (fun ls hl => ?_)
            refine z_iinc (k := 1) (v := i + 1) (lv' := [(3, .int (zI (i + 1))), (2, .int (zI v43_4)), (0, .ref (α 0)), (1, .int (bI g9))]) hx hb dL_extreme_51 hl rfl rfl (by decide) rfl (fun ls hl => ?_)
            refine lv_goto (tgt := 8) hx hb dL_extreme_54 (by decide) ?_
            exact ih_8 v43_4 (i + 1) _ _ hP hD hS _ (lv_sub hl [1, 0, 2, 3] rfl) (by first | assumption | rfl | omega) (by first | exact hf1 | exact ⟨i, by omega, by omega, hv43_0⟩) (by intro hg k k0 k1; have z9 := hf2 hg; by_cases e9 : k = i <;> first | (exfalso; simp [hg] at c_29; done) | (rw [e9]; omega) | (have z8 := z9 k k0 (by omega); omega)) (by intro hg k k0 k1; have z9 := hf3 hg; by_cases e9 : k = i <;> first | (exfalso; simp [hg] at c_29; done) | (rw [e9]; omega) | (have z8 := z9 k k0 (by omega); omega)) (by first | exact hfb | exact hv43_1) (by omega)
      · refine lv_iconst (v := zI 1) hx hb dL_extreme_24 rfl ?_
        refine lv_goto (tgt := 29) hx hb dL_extreme_25 (by decide) ?_
        refine W.eq (g2 := F0 m 29 ls [.int (bI true), .int (bI g9)]) rfl ?_
        refine z_icneB (tgt := 49) hx hb dL_extreme_29 (by decide) (fun c_29 => ?_) (fun c_29 => ?_)
        · refine lv_iload_n hx hb dL_extreme_49 rfl (lv_at hl 0 rfl) ?_
          refine lv_istore_n (lv' := [(2, .int (zI f)), (3, .int (zI i)), (0, .ref (α 0)), (1, .int (bI g9))]) hx hb dL_extreme_50 rfl hl (by decide) rfl (fun ls hl => ?_)
          refine z_iinc (k := 1) (v := i + 1) (lv' := [(3, .int (zI (i + 1))), (2, .int (zI f)), (0, .ref (α 0)), (1, .int (bI g9))]) hx hb dL_extreme_51 hl rfl rfl (by decide) rfl (fun ls hl => ?_)
          refine lv_goto (tgt := 8) hx hb dL_extreme_54 (by decide) ?_
          exact ih_8 f (i + 1) _ _ hP hD hS _ (lv_sub hl [1, 0, 2, 3] rfl) (by first | assumption | rfl | omega) (by first | exact hf1 | exact ⟨i, by omega, by omega, hv43_0⟩) (by intro hg k k0 k1; have z9 := hf2 hg; by_cases e9 : k = i <;> first | (exfalso; simp [hg] at c_29; done) | (rw [e9]; omega) | (have z8 := z9 k k0 (by omega); omega)) (by intro hg k k0 k1; have z9 := hf3 hg; by_cases e9 : k = i <;> first | (exfalso; simp [hg] at c_29; done) | (rw [e9]; omega) | (have z8 := z9 k k0 (by omega); omega)) (by first | exact hfb | exact hv43_1) (by omega)
        · refine lv_aload_n hx hb dL_extreme_32 rfl (lv_at hl 2 rfl) ?_
          refine lv_iload_n hx hb dL_extreme_33 rfl (lv_at hl 1 rfl) ?_
          refine z_calli hP hD hS hA (va_runS (As := [.ref (α 0), .int (zI i)]) (rest := []) hC (c_L_at l D τ α γ h old ch rg ln sl pd ct sg od hs i (by first | assumption | rfl | omega) (by first | assumption | rfl | omega) _) (va_cwS 2 hts (gS hB wl_L_42 wt_L_at wi_L wc_L_at) rfl rfl rfl hd_L_at.2 ⟨Nat.le_of_ble_eq_true rfl, Nat.le_of_ble_eq_true rfl⟩) (zp_S hK hP hD hS hA hG) rfl rfl hl.1 rfl (lv_room (Nat.le_of_ble_eq_true rfl)) dL_extreme_34 ⟨Nat.le_of_ble_eq_true rfl, Nat.le_of_ble_eq_true rfl⟩) (fun r w1 H locs hq9 hP hD hS => ?_)
          obtain ⟨v34_5, hv34_0, hv34_1, rfl, rfl⟩ := hq9
          have hP : va_P D vwCl (wH α γ (h, old, ch) rg ln sl pd ct sg od hs) H := hP
          have hD : va_D A (wH α γ (h, old, ch) rg ln sl pd ct sg od hs) := hD
          refine lv_iload_n hx hb dL_extreme_37 rfl (lv_at hl 0 rfl) ?_
          refine z_iceq (tgt := 49) hx hb ⟨by omega, by omega⟩ ⟨by omega, by omega⟩ dL_extreme_38 (by decide) (fun c_38 => ?_) (fun c_38 => ?_)
          · refine lv_iload_n hx hb dL_extreme_49 rfl (lv_at hl 0 rfl) ?_
            refine lv_istore_n (lv' := [(2, .int (zI f)), (3, .int (zI i)), (0, .ref (α 0)), (1, .int (bI g9))]) hx hb dL_extreme_50 rfl hl (by decide) rfl (fun ls hl => ?_)
            refine z_iinc (k := 1) (v := i + 1) (lv' := [(3, .int (zI (i + 1))), (2, .int (zI f)), (0, .ref (α 0)), (1, .int (bI g9))]) hx hb dL_extreme_51 hl rfl rfl (by decide) rfl (fun ls hl => ?_)
            refine lv_goto (tgt := 8) hx hb dL_extreme_54 (by decide) ?_
            exact ih_8 f (i + 1) _ _ hP hD hS _ (lv_sub hl [1, 0, 2, 3] rfl) (by first | assumption | rfl | omega) (by first | exact hf1 | exact ⟨i, by omega, by omega, hv43_0⟩) (by intro hg k k0 k1; have z9 := hf2 hg; by_cases e9 : k = i <;> first | (exfalso; simp [hg] at c_29; done) | (rw [e9]; omega) | (have z8 := z9 k k0 (by omega); omega)) (by intro hg k k0 k1; have z9 := hf3 hg; by_cases e9 : k = i <;> first | (exfalso; simp [hg] at c_29; done) | (rw [e9]; omega) | (have z8 := z9 k k0 (by omega); omega)) (by first | exact hfb | exact hv43_1) (by omega)
          · refine lv_aload_n hx hb dL_extreme_41 rfl (lv_at hl 2 rfl) ?_
            refine lv_iload_n hx hb dL_extreme_42 rfl (lv_at hl 1 rfl) ?_
            refine z_calli hP hD hS hA (va_runS (As := [.ref (α 0), .int (zI i)]) (rest := []) hC (c_L_at l D τ α γ h old ch rg ln sl pd ct sg od hs i (by first | assumption | rfl | omega) (by first | assumption | rfl | omega) _) (va_cwS 2 hts (gS hB wl_L_42 wt_L_at wi_L wc_L_at) rfl rfl rfl hd_L_at.2 ⟨Nat.le_of_ble_eq_true rfl, Nat.le_of_ble_eq_true rfl⟩) (zp_S hK hP hD hS hA hG) rfl rfl hl.1 rfl (lv_room (Nat.le_of_ble_eq_true rfl)) dL_extreme_43 ⟨Nat.le_of_ble_eq_true rfl, Nat.le_of_ble_eq_true rfl⟩) (fun r w1 H locs hq9 hP hD hS => ?_)
            obtain ⟨v43_6, hv43_0, hv43_1, rfl, rfl⟩ := hq9
            have hP : va_P D vwCl (wH α γ (h, old, ch) rg ln sl pd ct sg od hs) H := hP
            have hD : va_D A (wH α γ (h, old, ch) rg ln sl pd ct sg od hs) := hD
            refine lv_goto (tgt := 50) hx hb dL_extreme_46 (by decide) ?_
            refine lv_istore_n (lv' := [(2, .int (zI v43_6)), (3, .int (zI i)), (0, .ref (α 0)), (1, .int (bI g9))]) hx hb dL_extreme_50 rfl hl (by decide) rfl (fun ls hl => ?_)
            refine z_iinc (k := 1) (v := i + 1) (lv' := [(3, .int (zI (i + 1))), (2, .int (zI v43_6)), (0, .ref (α 0)), (1, .int (bI g9))]) hx hb dL_extreme_51 hl rfl rfl (by decide) rfl (fun ls hl => ?_)
            refine lv_goto (tgt := 8) hx hb dL_extreme_54 (by decide) ?_
            exact ih_8 v43_6 (i + 1) _ _ hP hD hS _ (lv_sub hl [1, 0, 2, 3] rfl) (by first | assumption | rfl | omega) (by first | exact hf1 | exact ⟨i, by omega, by omega, hv43_0⟩) (by intro hg k k0 k1; have z9 := hf2 hg; by_cases e9 : k = i <;> first | (exfalso; simp [hg] at c_29; done) | (rw [e9]; omega) | (have z8 := z9 k k0 (by omega); omega)) (by intro hg k k0 k1; have z9 := hf3 hg; by_cases e9 : k = i <;> first | (exfalso; simp [hg] at c_29; done) | (rw [e9]; omega) | (have z8 := z9 k k0 (by omega); omega)) (by first | exact hfb | exact hv43_1) (by omega)

abbrev wz_L_isHeaped : List Cond := .code yL_isHeaped cL_isHeaped 8 (some .boolean) :: W0
abbrev rm_L_isHeaped : Room := { frames := 4, cells := 0, slots := 0, locals := 104 }
theorem hd_L_isHeaped : yL_isHeaped.cls = RL ∧ yL_isHeaped.cls ≠ "java/lang/invoke/MethodHandle" ∧ yL_isHeaped.cls ≠ "java/lang/invoke/VarHandle" ∧ (parseMethodDescriptor yL_isHeaped.desc).map (fun d => d.parameters.length) = some 4 := by decide +kernel
set_option maxHeartbeats 4000000 in
set_option maxRecDepth 100000 in
theorem c_L_isHeaped (l : Launch) (D : va_G) (τ : Nat → Nat) (α : Nat → Nat) (γ : Nat → ClassId) (h : IA) (old : IA) (ch : IA) (rg : TRg) (ln : TLn) (sl : TSl) (pd : TPd) (ct : TCt) (sg : TSg) (od : TOd) (sv : IA) (sl9 : IA) (tk : BA) (ct9 : Int) (r9 : Int) (c9 : Int) (a : Int) (hr9 : 0 ≤ r9 ∧ r9 ≤ 6) (hc9 : 0 ≤ c9 ∧ c9 ≤ 6) (ham : (-60 ≤ a ∧ a ≤ 60) ∧ a ≠ 0) (hh : ∀ k, 0 ≤ k → k < 49 → 0 ≤ h k ∧ h k ≤ 99) (hct : 0 ≤ ct9 ∧ ct9 ≤ 6) : cM l yL_isHeaped wz_L_isHeaped rm_L_isHeaped D τ (tyH γ) [.ref (α 0), .int (zI r9), .int (zI c9), .int (zI a)] (wH α γ (h, old, ch) rg ln sl pd ct sg od (sv, sl9, tk, ct9)) (zQi (fun r w => ∃ (h_p : IA), ∃ (old_p : IA), ∃ (ch_p : IA), ∃ (sv_p : IA), ∃ (sl9_p : IA), ∃ (tk_p : BA), ∃ (ct9_p : Int), ∃ (v : Bool), (v = true) ∧ (∀ k, 0 ≤ k → k < 49 → 0 ≤ h_p k ∧ h_p k ≤ 99) ∧ (0 ≤ ct9_p ∧ ct9_p ≤ 6) ∧ r = bI v ∧ wH α γ (h_p, old_p, ch_p) rg ln sl pd ct sg od (sv_p, sl9_p, tk_p, ct9_p) = w)) := by
  refine z_ofM (cc := cL_isHeaped) (maxL := 8) (ret := (some .boolean)) (by decide +kernel) rfl (Nat.le_of_ble_eq_true rfl) ?_
  intro pg e s m args below meth c hC hr hlk hnm hK hP A hD hG hA hS ls hl Q hQ
  have hx := hC.1
  have hb := hC.2.1
  have hml := hC.2.2.1
  have hown := hC.2.2.2.1
  have hts := hC.2.2.2.2
  have hB : ∀ w ∈ W0, w ∈ wz_L_isHeaped := fun _ h => List.mem_cons_of_mem _ h
  have hW0 : ∀ w ∈ W0, w.before args s = true := fun w h => hts w (hB w h)
  have hl : lv_has ls 8 [(0, .ref (α 0)), (1, .int (zI r9)), (2, .int (zI c9)), (3, .int (zI a))] := hl
  refine lv_aload_n hx hb dL_isHeaped_0 rfl (lv_at hl 0 rfl) ?_
  refine z_calli hP hD hS hA (va_runV (As := []) (rest := []) hC (c_X9_bulk l D τ α γ h old ch rg ln sl pd ct sg od (sv, sl9, tk, ct9) (by first | assumption | rfl | omega) _) (cwV 0 hts (gV hB wl_L_46 wn_X9_bulk ws_X9_bulk wi_X9 wc_X9_bulk) rfl rfl rfl hd_X9_bulk ⟨Nat.le_of_ble_eq_true rfl, Nat.le_of_ble_eq_true rfl⟩) (zp_V hK hP hD hS hA hG (ci := 9) (q0 := 0) rfl rfl rfl) rfl rfl hl.1 rfl (lv_room (Nat.le_of_ble_eq_true rfl)) dL_isHeaped_1 ⟨Nat.le_of_ble_eq_true rfl, Nat.le_of_ble_eq_true rfl⟩) (fun r w1 H locs hq9 hP hD hS => ?_)
  obtain ⟨v1_1, hv1_0, hv1_1, rfl, rfl⟩ := hq9
  have hP : va_P D vwCl (wH α γ (h, old, ch) rg ln sl pd ct sg od (sv, sl9, tk, ct9)) H := hP
  have hD : va_D A (wH α γ (h, old, ch) rg ln sl pd ct sg od (sv, sl9, tk, ct9)) := hD
  refine lv_istore (lv' := [(4, .int (zI v1_1)), (0, .ref (α 0)), (1, .int (zI r9)), (2, .int (zI c9)), (3, .int (zI a))]) hx hb dL_isHeaped_4 hl (by decide) rfl (fun ls hl => ?_)
  refine lv_aload_n hx hb dL_isHeaped_6 rfl (lv_at hl 1 rfl) ?_
  refine lv_iload_n hx hb dL_isHeaped_7 rfl (lv_at hl 2 rfl) ?_
  refine lv_iload_n hx hb dL_isHeaped_8 rfl (lv_at hl 3 rfl) ?_
  refine z_calli hP hD hS hA (va_runV (As := [.int (zI r9), .int (zI c9)]) (rest := []) hC (c_X9_heightOf l D τ α γ h old ch rg ln sl pd ct sg od (sv, sl9, tk, ct9) r9 c9 (by first | assumption | rfl | omega) (by first | assumption | rfl | omega) (by first | assumption | rfl | omega) _) (cwV 2 hts (gV hB wl_L_8 wn_X9_heightOf ws_X9_heightOf wi_X9 wc_X9_heightOf) rfl rfl rfl hd_X9_heightOf ⟨Nat.le_of_ble_eq_true rfl, Nat.le_of_ble_eq_true rfl⟩) (zp_V hK hP hD hS hA hG (ci := 9) (q0 := 0) rfl rfl rfl) rfl rfl hl.1 rfl (lv_room (Nat.le_of_ble_eq_true rfl)) dL_isHeaped_9 ⟨Nat.le_of_ble_eq_true rfl, Nat.le_of_ble_eq_true rfl⟩) (fun r w1 H locs hq9 hP hD hS => ?_)
  obtain ⟨v9_2, hv9_0, hv9_1, rfl, rfl⟩ := hq9
  have hP : va_P D vwCl (wH α γ (h, old, ch) rg ln sl pd ct sg od (sv, sl9, tk, ct9)) H := hP
  have hD : va_D A (wH α γ (h, old, ch) rg ln sl pd ct sg od (sv, sl9, tk, ct9)) := hD
  have e9b := hh (7 * r9 + c9) (by omega) (by omega)
  refine lv_istore (lv' := [(5, .int (zI v9_2)), (4, .int (zI v1_1)), (0, .ref (α 0)), (1, .int (zI r9)), (2, .int (zI c9)), (3, .int (zI a))]) hx hb dL_isHeaped_12 hl (by decide) rfl (fun ls hl => ?_)
  refine lv_iload hx hb dL_isHeaped_14 (lv_at hl 0 rfl) ?_
  refine lv_iload_n hx hb dL_isHeaped_16 rfl (lv_at hl 5 rfl) ?_
  refine z_iadd hx hb dL_isHeaped_17 ?_
  have HJ_45 : ∀ (due : Int) (H : Heap) (locs : List Loc) (hP : va_P D vwCl (wH α γ (h, old, ch) rg ln sl pd ct sg od (sv, sl9, tk, ct9)) H) (hD : va_D A (wH α γ (h, old, ch) rg ln sl pd ct sg od (sv, sl9, tk, ct9))) (hS : va_S A s.heap H locs) (ls : Array Slot) (hl : lv_has ls 8 [(6, .int (zI due)), (5, .int (zI v9_2)), (4, .int (zI v1_1)), (0, .ref (α 0)), (1, .int (zI r9)), (2, .int (zI c9)), (3, .int (zI a))]) (hdue : due = clip (h (7 * r9 + c9) + a)) (hdb : 0 ≤ due ∧ due ≤ 99), W pg l e rm_L_isHeaped s m args below meth c H locs 0 0 Q (F0 m 45 ls []) := by
    intro due H locs hP hD hS ls hl hdue hdb
    refine lv_aload_n hx hb dL_isHeaped_45 rfl (lv_at hl 3 rfl) ?_
    refine lv_iload_n hx hb dL_isHeaped_46 rfl (lv_at hl 4 rfl) ?_
    refine lv_iload_n hx hb dL_isHeaped_47 rfl (lv_at hl 5 rfl) ?_
    refine lv_iload_n hx hb dL_isHeaped_48 rfl (lv_at hl 6 rfl) ?_
    refine z_calli hP hD hS hA (va_runV (As := [.int (zI r9), .int (zI c9), .int (zI a)]) (rest := []) hC (c_X9_heap l D τ α γ h old ch rg ln sl pd ct sg od sv sl9 tk ct9 r9 c9 a (by first | assumption | rfl | omega) (by first | assumption | rfl | omega) (by first | assumption | rfl | omega) (by first | assumption | rfl | omega) (by first | assumption | rfl | omega) _) (cwV 3 hts (gV hB wl_L_49 wn_X9_heap ws_X9_heap wi_X9 wc_X9_heap) rfl rfl rfl hd_X9_heap ⟨Nat.le_of_ble_eq_true rfl, Nat.le_of_ble_eq_true rfl⟩) (zp_V hK hP hD hS hA hG (ci := 9) (q0 := 0) rfl rfl rfl) rfl rfl hl.1 rfl (lv_room (Nat.le_of_ble_eq_true rfl)) dL_isHeaped_49 ⟨Nat.le_of_ble_eq_true rfl, Nat.le_of_ble_eq_true rfl⟩) (fun r w1 H locs hq9 hP hD hS => ?_)
    obtain ⟨h49_3, o49_4, s49_5, c49_6, v49_7, hv49_0, hv49_1, hv49_2, hv49_3, hv49_4, rfl, rfl⟩ := hq9
    have hP : va_P D vwCl (wH α γ (h49_3, o49_4, ch) rg ln sl pd ct sg od (s49_5, sl9, tk, c49_6)) H := hP
    have hD : va_D A (wH α γ (h49_3, o49_4, ch) rg ln sl pd ct sg od (s49_5, sl9, tk, c49_6)) := hD
    have hh2 : ∀ k, 0 ≤ k → k < 49 → 0 ≤ h49_3 k ∧ h49_3 k ≤ 99 := by (rw [hv49_2]; exact heap_hh hh)
    have b49 := q_diff_b (S_heap h (7 * r9 + c9) a) h
    rw [← hv49_1] at b49
    refine lv_istore (lv' := [(7, .int (zI v49_7)), (6, .int (zI due)), (5, .int (zI v9_2)), (4, .int (zI v1_1)), (0, .ref (α 0)), (1, .int (zI r9)), (2, .int (zI c9)), (3, .int (zI a))]) hx hb dL_isHeaped_52 hl (by decide) rfl (fun ls hl => ?_)
    refine lv_aload_n hx hb dL_isHeaped_54 rfl (lv_at hl 4 rfl) ?_
    refine lv_iload_n hx hb dL_isHeaped_55 rfl (lv_at hl 5 rfl) ?_
    refine lv_iload_n hx hb dL_isHeaped_56 rfl (lv_at hl 6 rfl) ?_
    refine z_calli hP hD hS hA (va_runV (As := [.int (zI r9), .int (zI c9)]) (rest := []) hC (c_X9_heightOf l D τ α γ h49_3 o49_4 ch rg ln sl pd ct sg od (s49_5, sl9, tk, c49_6) r9 c9 (by first | assumption | rfl | omega) (by first | assumption | rfl | omega) (by exact hh2) _) (cwV 2 hts (gV hB wl_L_8 wn_X9_heightOf ws_X9_heightOf wi_X9 wc_X9_heightOf) rfl rfl rfl hd_X9_heightOf ⟨Nat.le_of_ble_eq_true rfl, Nat.le_of_ble_eq_true rfl⟩) (zp_V hK hP hD hS hA hG (ci := 9) (q0 := 0) rfl rfl rfl) rfl rfl hl.1 rfl (lv_room (Nat.le_of_ble_eq_true rfl)) dL_isHeaped_57 ⟨Nat.le_of_ble_eq_true rfl, Nat.le_of_ble_eq_true rfl⟩) (fun r w1 H locs hq9 hP hD hS => ?_)
    obtain ⟨v57_8, hv57_0, hv57_1, rfl, rfl⟩ := hq9
    have hP : va_P D vwCl (wH α γ (h49_3, o49_4, ch) rg ln sl pd ct sg od (s49_5, sl9, tk, c49_6)) H := hP
    have hD : va_D A (wH α γ (h49_3, o49_4, ch) rg ln sl pd ct sg od (s49_5, sl9, tk, c49_6)) := hD
    have e57 : v57_8 = due := by rw [hv57_1, hv49_2, q_heap_at (by omega) (by omega), hdue]
    refine lv_iload hx hb dL_isHeaped_60 (lv_at hl 1 rfl) ?_
    refine z_icne (tgt := 112) hx hb ⟨by omega, by omega⟩ ⟨by omega, by omega⟩ dL_isHeaped_62 (by decide) (fun c_62 => ?_) (fun c_62 => ?_)
    · exfalso; omega
    · refine lv_iload_n hx hb dL_isHeaped_65 rfl (lv_at hl 7 rfl) ?_
      refine z_ifle (tgt := 84) hx hb ⟨by omega, by omega⟩ dL_isHeaped_66 (by decide) (fun c_66 => ?_) (fun c_66 => ?_)
      · refine lv_aload_n hx hb dL_isHeaped_84 rfl (lv_at hl 4 rfl) ?_
        refine z_calli hP hD hS hA (va_runV (As := []) (rest := []) hC (c_X9_bulk l D τ α γ h49_3 o49_4 ch rg ln sl pd ct sg od (s49_5, sl9, tk, c49_6) (by exact hh2) _) (cwV 0 hts (gV hB wl_L_46 wn_X9_bulk ws_X9_bulk wi_X9 wc_X9_bulk) rfl rfl rfl hd_X9_bulk ⟨Nat.le_of_ble_eq_true rfl, Nat.le_of_ble_eq_true rfl⟩) (zp_V hK hP hD hS hA hG (ci := 9) (q0 := 0) rfl rfl rfl) rfl rfl hl.1 rfl (lv_room (Nat.le_of_ble_eq_true rfl)) dL_isHeaped_85 ⟨Nat.le_of_ble_eq_true rfl, Nat.le_of_ble_eq_true rfl⟩) (fun r w1 H locs hq9 hP hD hS => ?_)
        obtain ⟨v85_9, hv85_0, hv85_1, rfl, rfl⟩ := hq9
        have hP : va_P D vwCl (wH α γ (h49_3, o49_4, ch) rg ln sl pd ct sg od (s49_5, sl9, tk, c49_6)) H := hP
        have hD : va_D A (wH α γ (h49_3, o49_4, ch) rg ln sl pd ct sg od (s49_5, sl9, tk, c49_6)) := hD
        have e85 : v85_9 ≤ v1_1 - v49_7 := by rw [hv85_0, hv1_0, hv49_1, hv49_2]; exact (q_heap_s hh).2 (by omega)
        refine lv_iload hx hb dL_isHeaped_88 (lv_at hl 3 rfl) ?_
        refine lv_iload hx hb dL_isHeaped_90 (lv_at hl 0 rfl) ?_
        refine z_isub hx hb dL_isHeaped_92 ?_
        refine z_icgt (tgt := 112) hx hb ⟨by omega, by omega⟩ ⟨by omega, by omega⟩ dL_isHeaped_93 (by decide) (fun c_93 => ?_) (fun c_93 => ?_)
        · exfalso; omega
        · refine lv_iload hx hb dL_isHeaped_96 (lv_at hl 0 rfl) ?_
          refine z_ifgt (tgt := 108) hx hb ⟨by omega, by omega⟩ dL_isHeaped_98 (by decide) (fun c_98 => ?_) (fun c_98 => ?_)
          · refine lv_iconst (v := zI 1) hx hb dL_isHeaped_108 rfl ?_
            refine lv_goto (tgt := 113) hx hb dL_isHeaped_109 (by decide) ?_
            refine W.eq (g2 := F0 m 113 ls [.int (bI true)]) rfl ?_
            exact z_zret hC hr hlk hQ hP hD hS ⟨h49_3, o49_4, ch, s49_5, sl9, tk, c49_6, true, (by rfl), (by exact hh2), (by rw [hv49_4]; exact svC_b hct), rfl, rfl⟩ dL_isHeaped_113
          · have e49 : due = v9_2 := Classical.byContradiction (fun q9 => by have z9 := q_heap_d (h := h) (p := (7 * r9 + c9)) (a := a) (by omega) (by rw [q_heap_at (by omega) (by omega), ← hdue, ← hv9_1]; exact q9); rw [← hv49_1] at z9; omega)
            refine lv_iload hx hb dL_isHeaped_101 (lv_at hl 1 rfl) ?_
            refine lv_iload hx hb dL_isHeaped_103 (lv_at hl 2 rfl) ?_
            refine z_icne (tgt := 112) hx hb ⟨by omega, by omega⟩ ⟨by omega, by omega⟩ dL_isHeaped_105 (by decide) (fun c_105 => ?_) (fun c_105 => ?_)
            · exfalso; omega
            · refine lv_iconst (v := zI 1) hx hb dL_isHeaped_108 rfl ?_
              refine lv_goto (tgt := 113) hx hb dL_isHeaped_109 (by decide) ?_
              refine W.eq (g2 := F0 m 113 ls [.int (bI true)]) rfl ?_
              exact z_zret hC hr hlk hQ hP hD hS ⟨h49_3, o49_4, ch, s49_5, sl9, tk, c49_6, true, (by rfl), (by exact hh2), (by rw [hv49_4]; exact svC_b hct), rfl, rfl⟩ dL_isHeaped_113
      · refine lv_aload_n hx hb dL_isHeaped_69 rfl (lv_at hl 4 rfl) ?_
        refine z_calli hP hD hS hA (va_runV (As := []) (rest := []) hC (c_X9_bulk l D τ α γ h49_3 o49_4 ch rg ln sl pd ct sg od (s49_5, sl9, tk, c49_6) (by exact hh2) _) (cwV 0 hts (gV hB wl_L_46 wn_X9_bulk ws_X9_bulk wi_X9 wc_X9_bulk) rfl rfl rfl hd_X9_bulk ⟨Nat.le_of_ble_eq_true rfl, Nat.le_of_ble_eq_true rfl⟩) (zp_V hK hP hD hS hA hG (ci := 9) (q0 := 0) rfl rfl rfl) rfl rfl hl.1 rfl (lv_room (Nat.le_of_ble_eq_true rfl)) dL_isHeaped_70 ⟨Nat.le_of_ble_eq_true rfl, Nat.le_of_ble_eq_true rfl⟩) (fun r w1 H locs hq9 hP hD hS => ?_)
        obtain ⟨v70_10, hv70_0, hv70_1, rfl, rfl⟩ := hq9
        have hP : va_P D vwCl (wH α γ (h49_3, o49_4, ch) rg ln sl pd ct sg od (s49_5, sl9, tk, c49_6)) H := hP
        have hD : va_D A (wH α γ (h49_3, o49_4, ch) rg ln sl pd ct sg od (s49_5, sl9, tk, c49_6)) := hD
        have e70 : v1_1 + v49_7 ≤ v70_10 := by rw [hv70_0, hv1_0, hv49_1, hv49_2]; exact (q_heap_s hh).1 (by omega)
        refine lv_iload hx hb dL_isHeaped_73 (lv_at hl 3 rfl) ?_
        refine lv_iload hx hb dL_isHeaped_75 (lv_at hl 0 rfl) ?_
        refine z_iadd hx hb dL_isHeaped_77 ?_
        refine z_iclt (tgt := 112) hx hb ⟨by omega, by omega⟩ ⟨by omega, by omega⟩ dL_isHeaped_78 (by decide) (fun c_78 => ?_) (fun c_78 => ?_)
        · exfalso; omega
        · refine lv_goto (tgt := 96) hx hb dL_isHeaped_81 (by decide) ?_
          refine lv_iload hx hb dL_isHeaped_96 (lv_at hl 0 rfl) ?_
          refine z_ifgt (tgt := 108) hx hb ⟨by omega, by omega⟩ dL_isHeaped_98 (by decide) (fun c_98 => ?_) (fun c_98 => ?_)
          · refine lv_iconst (v := zI 1) hx hb dL_isHeaped_108 rfl ?_
            refine lv_goto (tgt := 113) hx hb dL_isHeaped_109 (by decide) ?_
            refine W.eq (g2 := F0 m 113 ls [.int (bI true)]) rfl ?_
            exact z_zret hC hr hlk hQ hP hD hS ⟨h49_3, o49_4, ch, s49_5, sl9, tk, c49_6, true, (by rfl), (by exact hh2), (by rw [hv49_4]; exact svC_b hct), rfl, rfl⟩ dL_isHeaped_113
          · have e49 : due = v9_2 := Classical.byContradiction (fun q9 => by have z9 := q_heap_d (h := h) (p := (7 * r9 + c9)) (a := a) (by omega) (by rw [q_heap_at (by omega) (by omega), ← hdue, ← hv9_1]; exact q9); rw [← hv49_1] at z9; omega)
            refine lv_iload hx hb dL_isHeaped_101 (lv_at hl 1 rfl) ?_
            refine lv_iload hx hb dL_isHeaped_103 (lv_at hl 2 rfl) ?_
            refine z_icne (tgt := 112) hx hb ⟨by omega, by omega⟩ ⟨by omega, by omega⟩ dL_isHeaped_105 (by decide) (fun c_105 => ?_) (fun c_105 => ?_)
            · exfalso; omega
            · refine lv_iconst (v := zI 1) hx hb dL_isHeaped_108 rfl ?_
              refine lv_goto (tgt := 113) hx hb dL_isHeaped_109 (by decide) ?_
              refine W.eq (g2 := F0 m 113 ls [.int (bI true)]) rfl ?_
              exact z_zret hC hr hlk hQ hP hD hS ⟨h49_3, o49_4, ch, s49_5, sl9, tk, c49_6, true, (by rfl), (by exact hh2), (by rw [hv49_4]; exact svC_b hct), rfl, rfl⟩ dL_isHeaped_113
  refine z_ifge (tgt := 25) hx hb ⟨by omega, by omega⟩ dL_isHeaped_18 (by decide) (fun c_18 => ?_) (fun c_18 => ?_)
  · refine lv_iload hx hb dL_isHeaped_25 (lv_at hl 0 rfl) ?_
    refine lv_iload_n hx hb dL_isHeaped_27 rfl (lv_at hl 5 rfl) ?_
    refine z_iadd hx hb dL_isHeaped_28 ?_
    refine lv_bipush (v := zI 99) hx hb dL_isHeaped_29 (zI_b8 (by decide)) ?_
    refine z_icle (tgt := 39) hx hb ⟨by omega, by omega⟩ ⟨by omega, by omega⟩ dL_isHeaped_31 (by decide) (fun c_31 => ?_) (fun c_31 => ?_)
    · refine lv_iload hx hb dL_isHeaped_39 (lv_at hl 0 rfl) ?_
      refine lv_iload_n hx hb dL_isHeaped_41 rfl (lv_at hl 5 rfl) ?_
      refine z_iadd hx hb dL_isHeaped_42 ?_
      refine lv_istore (lv' := [(6, .int (zI (v9_2 + a))), (5, .int (zI v9_2)), (4, .int (zI v1_1)), (0, .ref (α 0)), (1, .int (zI r9)), (2, .int (zI c9)), (3, .int (zI a))]) hx hb dL_isHeaped_43 hl (by decide) rfl (fun ls hl => ?_)
      exact HJ_45 (v9_2 + a) _ _ hP hD hS _ (lv_sub hl [0, 1, 2, 3, 4, 5, 6] rfl) (by rw [q_clip, ← hv9_1]; (repeat' split) <;> omega) (by first | assumption | rfl | omega)
    · refine lv_bipush (v := zI 99) hx hb dL_isHeaped_34 (zI_b8 (by decide)) ?_
      refine lv_goto (tgt := 43) hx hb dL_isHeaped_36 (by decide) ?_
      refine lv_istore (lv' := [(6, .int (zI 99)), (5, .int (zI v9_2)), (4, .int (zI v1_1)), (0, .ref (α 0)), (1, .int (zI r9)), (2, .int (zI c9)), (3, .int (zI a))]) hx hb dL_isHeaped_43 hl (by decide) rfl (fun ls hl => ?_)
      exact HJ_45 99 _ _ hP hD hS _ (lv_sub hl [0, 1, 2, 3, 4, 5, 6] rfl) (by rw [q_clip, ← hv9_1]; (repeat' split) <;> omega) (by first | assumption | rfl | omega)
  · refine lv_iconst (v := zI 0) hx hb dL_isHeaped_21 rfl ?_
    refine lv_goto (tgt := 43) hx hb dL_isHeaped_22 (by decide) ?_
    refine lv_istore (lv' := [(6, .int (zI 0)), (5, .int (zI v9_2)), (4, .int (zI v1_1)), (0, .ref (α 0)), (1, .int (zI r9)), (2, .int (zI c9)), (3, .int (zI a))]) hx hb dL_isHeaped_43 hl (by decide) rfl (fun ls hl => ?_)
    exact HJ_45 0 _ _ hP hD hS _ (lv_sub hl [0, 1, 2, 3, 4, 5, 6] rfl) (by rw [q_clip, ← hv9_1]; (repeat' split) <;> omega) (by first | assumption | rfl | omega)

abbrev wz_L_isWashed : List Cond := .code yL_isWashed cL_isWashed 5 (some .boolean) :: W0
abbrev rm_L_isWashed : Room := { frames := 4, cells := 0, slots := 0, locals := 99 }
theorem hd_L_isWashed : yL_isWashed.cls = RL ∧ yL_isWashed.cls ≠ "java/lang/invoke/MethodHandle" ∧ yL_isWashed.cls ≠ "java/lang/invoke/VarHandle" ∧ (parseMethodDescriptor yL_isWashed.desc).map (fun d => d.parameters.length) = some 2 := by decide +kernel
set_option maxHeartbeats 4000000 in
set_option maxRecDepth 100000 in
theorem c_L_isWashed (l : Launch) (D : va_G) (τ : Nat → Nat) (α : Nat → Nat) (γ : Nat → ClassId) (h : IA) (old : IA) (ch : IA) (rg : TRg) (ln : TLn) (nx : IA) (dr : IA) (qu : IA) (pd : TPd) (ct : TCt) (sg : TSg) (od : TOd) (sv : IA) (sl9 : IA) (tk : BA) (ct9 : Int) (n9 : Int) (hn9 : 1 ≤ n9 ∧ n9 ≤ 4) (hh : ∀ k, 0 ≤ k → k < 49 → 0 ≤ h k ∧ h k ≤ 99) (hct : 0 ≤ ct9 ∧ ct9 ≤ 6) : cM l yL_isWashed wz_L_isWashed rm_L_isWashed D τ (tyH γ) [.ref (α 0), .int (zI n9)] (wH α γ (h, old, ch) rg ln (nx, dr, qu) pd ct sg od (sv, sl9, tk, ct9)) (zQi (fun r w => ∃ (h_p : IA), ∃ (old_p : IA), ∃ (ch_p : IA), ∃ (sv_p : IA), ∃ (sl9_p : IA), ∃ (tk_p : BA), ∃ (ct9_p : Int), ∃ (nx_p : IA), ∃ (dr_p : IA), ∃ (qu_p : IA), ∃ (v : Bool), (v = true) ∧ (∀ k, 0 ≤ k → k < 49 → 0 ≤ h_p k ∧ h_p k ≤ 99) ∧ (0 ≤ ct9_p ∧ ct9_p ≤ 6) ∧ r = bI v ∧ wH α γ (h_p, old_p, ch_p) rg ln (nx_p, dr_p, qu_p) pd ct sg od (sv_p, sl9_p, tk_p, ct9_p) = w)) := by
  refine z_ofM (cc := cL_isWashed) (maxL := 5) (ret := (some .boolean)) (by decide +kernel) rfl (Nat.le_of_ble_eq_true rfl) ?_
  intro pg e s m args below meth c hC hr hlk hnm hK hP A hD hG hA hS ls hl Q hQ
  have hx := hC.1
  have hb := hC.2.1
  have hml := hC.2.2.1
  have hown := hC.2.2.2.1
  have hts := hC.2.2.2.2
  have hB : ∀ w ∈ W0, w ∈ wz_L_isWashed := fun _ h => List.mem_cons_of_mem _ h
  have hW0 : ∀ w ∈ W0, w.before args s = true := fun w h => hts w (hB w h)
  have hl : lv_has ls 5 [(0, .ref (α 0)), (1, .int (zI n9))] := hl
  refine lv_iconst (v := zI 0) hx hb dL_isWashed_0 rfl ?_
  refine lv_istore_n (lv' := [(2, .int (zI 0)), (0, .ref (α 0)), (1, .int (zI n9))]) hx hb dL_isWashed_1 rfl hl (by decide) rfl (fun ls hl => ?_)
  refine lv_iconst (v := zI 0) hx hb dL_isWashed_2 rfl ?_
  refine lv_istore_n (lv' := [(3, .int (zI 0)), (2, .int (zI 0)), (0, .ref (α 0)), (1, .int (zI n9))]) hx hb dL_isWashed_3 rfl hl (by decide) rfl (fun ls hl => ?_)
  suffices HL_4 : ∀ (n_4 : Nat), ∀ (nx_l : IA) (dr_l : IA) (qu_l : IA) (t : Bool) (i : Int) (H : Heap) (locs : List Loc) (hP : va_P D vwCl (wH α γ (h, old, ch) rg ln (nx_l, dr_l, qu_l) pd ct sg od (sv, sl9, tk, ct9)) H) (hD : va_D A (wH α γ (h, old, ch) rg ln (nx_l, dr_l, qu_l) pd ct sg od (sv, sl9, tk, ct9))) (hS : va_S A s.heap H locs) (ls : Array Slot) (hl : lv_has ls 5 [(2, .int (bI t)), (3, .int (zI i)), (0, .ref (α 0)), (1, .int (zI n9))]) (hi : 0 ≤ i ∧ i ≤ 49) (ht : t = true ↔ ∃ k, 0 ≤ k ∧ k < i ∧ 1 < S_drop h k) (hm : (49 - i).toNat < n_4), W pg l e rm_L_isWashed s m args below meth c H locs 0 0 Q (F0 m 4 ls []) from HL_4 _ nx dr qu false 0 _ _ hP hD hS _ (lv_sub hl [1, 0, 2, 3] rfl) (by first | assumption | rfl | omega) (by exact ⟨fun z => (by cases z), fun ⟨k, k0, k1, _⟩ => absurd k0 (by omega)⟩) (Nat.lt_succ_self _)
  intro n_4
  induction n_4 with
  | zero => intro nx_l dr_l qu_l t i H locs hP hD hS ls hl hi ht hm; exact absurd hm (Nat.not_lt_zero _)
  | succ n_4 ih_4 =>
    intro nx_l dr_l qu_l t i H locs hP hD hS ls hl hi ht hm
    refine lv_iload_n hx hb dL_isWashed_4 rfl (lv_at hl 1 rfl) ?_
    refine lv_bipush (v := zI 49) hx hb dL_isWashed_5 (zI_b8 (by decide)) ?_
    refine z_icge (tgt := 42) hx hb ⟨by omega, by omega⟩ ⟨by omega, by omega⟩ dL_isWashed_7 (by decide) (fun c_7 => ?_) (fun c_7 => ?_)
    · have i49 : i = 49 := by omega
      have ht49 : t = true ↔ ∃ k, 0 ≤ k ∧ k < 49 ∧ 1 < S_drop h k := by (rw [i49] at ht; exact ht)
      refine lv_aload_n hx hb dL_isWashed_42 rfl (lv_at hl 2 rfl) ?_
      refine z_calli hP hD hS hA (va_runV (As := []) (rest := []) hC (c_X9_bulk l D τ α γ h old ch rg ln (nx_l, dr_l, qu_l) pd ct sg od (sv, sl9, tk, ct9) (by first | assumption | rfl | omega) _) (cwV 0 hts (gV hB wl_L_46 wn_X9_bulk ws_X9_bulk wi_X9 wc_X9_bulk) rfl rfl rfl hd_X9_bulk ⟨Nat.le_of_ble_eq_true rfl, Nat.le_of_ble_eq_true rfl⟩) (zp_V hK hP hD hS hA hG (ci := 9) (q0 := 0) rfl rfl rfl) rfl rfl hl.1 rfl (lv_room (Nat.le_of_ble_eq_true rfl)) dL_isWashed_43 ⟨Nat.le_of_ble_eq_true rfl, Nat.le_of_ble_eq_true rfl⟩) (fun r w1 H locs hq9 hP hD hS => ?_)
      obtain ⟨v43_1, hv43_0, hv43_1, rfl, rfl⟩ := hq9
      try simp only [e7] at hv43_0
      try simp only [e7] at hv43_1
      have hP : va_P D vwCl (wH α γ (h, old, ch) rg ln (nx_l, dr_l, qu_l) pd ct sg od (sv, sl9, tk, ct9)) H := hP
      have hD : va_D A (wH α γ (h, old, ch) rg ln (nx_l, dr_l, qu_l) pd ct sg od (sv, sl9, tk, ct9)) := hD
      refine lv_istore_n (lv' := [(3, .int (zI v43_1)), (2, .int (bI t)), (0, .ref (α 0)), (1, .int (zI n9))]) hx hb dL_isWashed_46 rfl hl (by decide) rfl (fun ls hl => ?_)
      refine lv_aload_n hx hb dL_isWashed_47 rfl (lv_at hl 2 rfl) ?_
      refine lv_iload_n hx hb dL_isWashed_48 rfl (lv_at hl 3 rfl) ?_
      refine z_calli hP hD hS hA (va_runV (As := [.int (zI n9)]) (rest := []) hC (c_X9_wash l D τ α γ h old ch rg ln nx_l dr_l qu_l pd ct sg od sv sl9 tk ct9 n9 (by first | assumption | rfl | omega) (by first | assumption | rfl | omega) (by first | assumption | rfl | omega) _) (cwV 1 hts (gV hB wl_L_55 wn_X9_wash ws_X9_wash wi_X9 wc_X9_wash) rfl rfl rfl hd_X9_wash ⟨Nat.le_of_ble_eq_true rfl, Nat.le_of_ble_eq_true rfl⟩) (zp_V hK hP hD hS hA hG (ci := 9) (q0 := 0) rfl rfl rfl) rfl rfl hl.1 rfl (lv_room (Nat.le_of_ble_eq_true rfl)) dL_isWashed_49 ⟨Nat.le_of_ble_eq_true rfl, Nat.le_of_ble_eq_true rfl⟩) (fun r w1 H locs hq9 hP hD hS => ?_)
      obtain ⟨h49_2, ch49_3, s49_4, c49_5, n49_6, d49_7, v49_8, hv49_0, hv49_1, hv49_2, hv49_3, hv49_4, rfl, rfl⟩ := hq9
      try simp only [e7] at hv49_0
      try simp only [e7] at hv49_1
      try simp only [e7] at hv49_2
      try simp only [e7] at hv49_3
      try simp only [e7] at hv49_4
      have hP : va_P D vwCl (wH α γ (h49_2, old, ch49_3) rg ln (n49_6, d49_7, qu_l) pd ct sg od (s49_4, sl9, tk, c49_5)) H := hP
      have hD : va_D A (wH α γ (h49_2, old, ch49_3) rg ln (n49_6, d49_7, qu_l) pd ct sg od (s49_4, sl9, tk, c49_5)) := hD
      have hqw := q_wash hh (n := n9) (by omega)
      have hh2 : ∀ k, 0 ≤ k → k < 49 → 0 ≤ h49_2 k ∧ h49_2 k ≤ 99 := by (rw [hv49_2]; exact S_wash_b hh n9 (by omega))
      have b49 := S_given_b (h := h) n9 (by omega)
      rw [← hv49_1] at b49 hqw
      refine lv_istore (lv' := [(4, .int (zI v49_8)), (3, .int (zI v43_1)), (2, .int (bI t)), (0, .ref (α 0)), (1, .int (zI n9))]) hx hb dL_isWashed_52 hl (by decide) rfl (fun ls hl => ?_)
      refine lv_iload hx hb dL_isWashed_54 (lv_at hl 0 rfl) ?_
      refine z_ifle (tgt := 63) hx hb ⟨by omega, by omega⟩ dL_isWashed_56 (by decide) (fun c_56 => ?_) (fun c_56 => ?_)
      · refine lv_iconst (v := zI 0) hx hb dL_isWashed_63 rfl ?_
        refine lv_iload_n hx hb dL_isWashed_64 rfl (lv_at hl 2 rfl) ?_
        refine W.eq (g2 := F0 m 65 ls [.int (bI t), .int (bI false)]) rfl ?_
        refine z_icneB (tgt := 92) hx hb dL_isWashed_65 (by decide) (fun c_65 => ?_) (fun c_65 => ?_)
        · exfalso; have z9 := ht49.trans hqw.2.1.symm; rcases Bool.eq_false_or_eq_true t with e9 | e9 <;> simp [e9] at z9 c_65 <;> omega
        · refine lv_aload_n hx hb dL_isWashed_68 rfl (lv_at hl 3 rfl) ?_
          refine z_calli hP hD hS hA (va_runV (As := []) (rest := []) hC (c_X9_bulk l D τ α γ h49_2 old ch49_3 rg ln (n49_6, d49_7, qu_l) pd ct sg od (s49_4, sl9, tk, c49_5) (by exact hh2) _) (cwV 0 hts (gV hB wl_L_46 wn_X9_bulk ws_X9_bulk wi_X9 wc_X9_bulk) rfl rfl rfl hd_X9_bulk ⟨Nat.le_of_ble_eq_true rfl, Nat.le_of_ble_eq_true rfl⟩) (zp_V hK hP hD hS hA hG (ci := 9) (q0 := 0) rfl rfl rfl) rfl rfl hl.1 rfl (lv_room (Nat.le_of_ble_eq_true rfl)) dL_isWashed_69 ⟨Nat.le_of_ble_eq_true rfl, Nat.le_of_ble_eq_true rfl⟩) (fun r w1 H locs hq9 hP hD hS => ?_)
          obtain ⟨v69_9, hv69_0, hv69_1, rfl, rfl⟩ := hq9
          try simp only [e7] at hv69_0
          try simp only [e7] at hv69_1
          have hP : va_P D vwCl (wH α γ (h49_2, old, ch49_3) rg ln (n49_6, d49_7, qu_l) pd ct sg od (s49_4, sl9, tk, c49_5)) H := hP
          have hD : va_D A (wH α γ (h49_2, old, ch49_3) rg ln (n49_6, d49_7, qu_l) pd ct sg od (s49_4, sl9, tk, c49_5)) := hD
          have e69 : v69_9 ≤ v43_1 := by rw [hv69_0, hv49_2, hv43_0]; exact hqw.1
          refine lv_iload_n hx hb dL_isWashed_72 rfl (lv_at hl 1 rfl) ?_
          refine z_icgt (tgt := 92) hx hb ⟨by omega, by omega⟩ ⟨by omega, by omega⟩ dL_isWashed_73 (by decide) (fun c_73 => ?_) (fun c_73 => ?_)
          · exfalso; omega
          · refine lv_iload_n hx hb dL_isWashed_76 rfl (lv_at hl 2 rfl) ?_
            refine z_ifneB (tgt := 88) hx hb dL_isWashed_77 (by decide) (fun c_77 => ?_) (fun c_77 => ?_)
            · refine lv_iconst (v := zI 1) hx hb dL_isWashed_88 rfl ?_
              refine lv_goto (tgt := 93) hx hb dL_isWashed_89 (by decide) ?_
              refine W.eq (g2 := F0 m 93 ls [.int (bI true)]) rfl ?_
              exact z_zret hC hr hlk hQ hP hD hS ⟨h49_2, old, ch49_3, s49_4, sl9, tk, c49_5, n49_6, d49_7, qu_l, true, (by rfl), (by exact hh2), (by rw [hv49_4]; exact svC_b hct), rfl, rfl⟩ dL_isWashed_93
            · refine lv_aload_n hx hb dL_isWashed_80 rfl (lv_at hl 3 rfl) ?_
              refine z_calli hP hD hS hA (va_runV (As := []) (rest := []) hC (c_X9_bulk l D τ α γ h49_2 old ch49_3 rg ln (n49_6, d49_7, qu_l) pd ct sg od (s49_4, sl9, tk, c49_5) (by exact hh2) _) (cwV 0 hts (gV hB wl_L_46 wn_X9_bulk ws_X9_bulk wi_X9 wc_X9_bulk) rfl rfl rfl hd_X9_bulk ⟨Nat.le_of_ble_eq_true rfl, Nat.le_of_ble_eq_true rfl⟩) (zp_V hK hP hD hS hA hG (ci := 9) (q0 := 0) rfl rfl rfl) rfl rfl hl.1 rfl (lv_room (Nat.le_of_ble_eq_true rfl)) dL_isWashed_81 ⟨Nat.le_of_ble_eq_true rfl, Nat.le_of_ble_eq_true rfl⟩) (fun r w1 H locs hq9 hP hD hS => ?_)
              obtain ⟨v81_10, hv81_0, hv81_1, rfl, rfl⟩ := hq9
              try simp only [e7] at hv81_0
              try simp only [e7] at hv81_1
              have hP : va_P D vwCl (wH α γ (h49_2, old, ch49_3) rg ln (n49_6, d49_7, qu_l) pd ct sg od (s49_4, sl9, tk, c49_5)) H := hP
              have hD : va_D A (wH α γ (h49_2, old, ch49_3) rg ln (n49_6, d49_7, qu_l) pd ct sg od (s49_4, sl9, tk, c49_5)) := hD
              have e81 : v81_10 = v43_1 := by rw [hv81_0, hv49_2, hv43_0]; exact hqw.2.2 (fun k a b => Int.not_lt.mp (fun q9 => by have y9 := ht49.mpr ⟨k, a, b, q9⟩; rw [c_77] at y9; cases y9))
              refine lv_iload_n hx hb dL_isWashed_84 rfl (lv_at hl 1 rfl) ?_
              refine z_icne (tgt := 92) hx hb ⟨by omega, by omega⟩ ⟨by omega, by omega⟩ dL_isWashed_85 (by decide) (fun c_85 => ?_) (fun c_85 => ?_)
              · exfalso; omega
              · refine lv_iconst (v := zI 1) hx hb dL_isWashed_88 rfl ?_
                refine lv_goto (tgt := 93) hx hb dL_isWashed_89 (by decide) ?_
                refine W.eq (g2 := F0 m 93 ls [.int (bI true)]) rfl ?_
                exact z_zret hC hr hlk hQ hP hD hS ⟨h49_2, old, ch49_3, s49_4, sl9, tk, c49_5, n49_6, d49_7, qu_l, true, (by rfl), (by exact hh2), (by rw [hv49_4]; exact svC_b hct), rfl, rfl⟩ dL_isWashed_93
      · refine lv_iconst (v := zI 1) hx hb dL_isWashed_59 rfl ?_
        refine lv_goto (tgt := 64) hx hb dL_isWashed_60 (by decide) ?_
        refine lv_iload_n hx hb dL_isWashed_64 rfl (lv_at hl 2 rfl) ?_
        refine W.eq (g2 := F0 m 65 ls [.int (bI t), .int (bI true)]) rfl ?_
        refine z_icneB (tgt := 92) hx hb dL_isWashed_65 (by decide) (fun c_65 => ?_) (fun c_65 => ?_)
        · exfalso; have z9 := ht49.trans hqw.2.1.symm; rcases Bool.eq_false_or_eq_true t with e9 | e9 <;> simp [e9] at z9 c_65 <;> omega
        · refine lv_aload_n hx hb dL_isWashed_68 rfl (lv_at hl 3 rfl) ?_
          refine z_calli hP hD hS hA (va_runV (As := []) (rest := []) hC (c_X9_bulk l D τ α γ h49_2 old ch49_3 rg ln (n49_6, d49_7, qu_l) pd ct sg od (s49_4, sl9, tk, c49_5) (by exact hh2) _) (cwV 0 hts (gV hB wl_L_46 wn_X9_bulk ws_X9_bulk wi_X9 wc_X9_bulk) rfl rfl rfl hd_X9_bulk ⟨Nat.le_of_ble_eq_true rfl, Nat.le_of_ble_eq_true rfl⟩) (zp_V hK hP hD hS hA hG (ci := 9) (q0 := 0) rfl rfl rfl) rfl rfl hl.1 rfl (lv_room (Nat.le_of_ble_eq_true rfl)) dL_isWashed_69 ⟨Nat.le_of_ble_eq_true rfl, Nat.le_of_ble_eq_true rfl⟩) (fun r w1 H locs hq9 hP hD hS => ?_)
          obtain ⟨v69_11, hv69_0, hv69_1, rfl, rfl⟩ := hq9
          try simp only [e7] at hv69_0
          try simp only [e7] at hv69_1
          have hP : va_P D vwCl (wH α γ (h49_2, old, ch49_3) rg ln (n49_6, d49_7, qu_l) pd ct sg od (s49_4, sl9, tk, c49_5)) H := hP
          have hD : va_D A (wH α γ (h49_2, old, ch49_3) rg ln (n49_6, d49_7, qu_l) pd ct sg od (s49_4, sl9, tk, c49_5)) := hD
          have e69 : v69_11 ≤ v43_1 := by rw [hv69_0, hv49_2, hv43_0]; exact hqw.1
          refine lv_iload_n hx hb dL_isWashed_72 rfl (lv_at hl 1 rfl) ?_
          refine z_icgt (tgt := 92) hx hb ⟨by omega, by omega⟩ ⟨by omega, by omega⟩ dL_isWashed_73 (by decide) (fun c_73 => ?_) (fun c_73 => ?_)
          · exfalso; omega
          · refine lv_iload_n hx hb dL_isWashed_76 rfl (lv_at hl 2 rfl) ?_
            refine z_ifneB (tgt := 88) hx hb dL_isWashed_77 (by decide) (fun c_77 => ?_) (fun c_77 => ?_)
            · refine lv_iconst (v := zI 1) hx hb dL_isWashed_88 rfl ?_
              refine lv_goto (tgt := 93) hx hb dL_isWashed_89 (by decide) ?_
              refine W.eq (g2 := F0 m 93 ls [.int (bI true)]) rfl ?_
              exact z_zret hC hr hlk hQ hP hD hS ⟨h49_2, old, ch49_3, s49_4, sl9, tk, c49_5, n49_6, d49_7, qu_l, true, (by rfl), (by exact hh2), (by rw [hv49_4]; exact svC_b hct), rfl, rfl⟩ dL_isWashed_93
            · refine lv_aload_n hx hb dL_isWashed_80 rfl (lv_at hl 3 rfl) ?_
              refine z_calli hP hD hS hA (va_runV (As := []) (rest := []) hC (c_X9_bulk l D τ α γ h49_2 old ch49_3 rg ln (n49_6, d49_7, qu_l) pd ct sg od (s49_4, sl9, tk, c49_5) (by exact hh2) _) (cwV 0 hts (gV hB wl_L_46 wn_X9_bulk ws_X9_bulk wi_X9 wc_X9_bulk) rfl rfl rfl hd_X9_bulk ⟨Nat.le_of_ble_eq_true rfl, Nat.le_of_ble_eq_true rfl⟩) (zp_V hK hP hD hS hA hG (ci := 9) (q0 := 0) rfl rfl rfl) rfl rfl hl.1 rfl (lv_room (Nat.le_of_ble_eq_true rfl)) dL_isWashed_81 ⟨Nat.le_of_ble_eq_true rfl, Nat.le_of_ble_eq_true rfl⟩) (fun r w1 H locs hq9 hP hD hS => ?_)
              obtain ⟨v81_12, hv81_0, hv81_1, rfl, rfl⟩ := hq9
              try simp only [e7] at hv81_0
              try simp only [e7] at hv81_1
              have hP : va_P D vwCl (wH α γ (h49_2, old, ch49_3) rg ln (n49_6, d49_7, qu_l) pd ct sg od (s49_4, sl9, tk, c49_5)) H := hP
              have hD : va_D A (wH α γ (h49_2, old, ch49_3) rg ln (n49_6, d49_7, qu_l) pd ct sg od (s49_4, sl9, tk, c49_5)) := hD
              have e81 : v81_12 = v43_1 := by rw [hv81_0, hv49_2, hv43_0]; exact hqw.2.2 (fun k a b => Int.not_lt.mp (fun q9 => by have y9 := ht49.mpr ⟨k, a, b, q9⟩; rw [c_77] at y9; cases y9))
              refine lv_iload_n hx hb dL_isWashed_84 rfl (lv_at hl 1 rfl) ?_
              refine z_icne (tgt := 92) hx hb ⟨by omega, by omega⟩ ⟨by omega, by omega⟩ dL_isWashed_85 (by decide) (fun c_85 => ?_) (fun c_85 => ?_)
              · exfalso; omega
              · refine lv_iconst (v := zI 1) hx hb dL_isWashed_88 rfl ?_
                refine lv_goto (tgt := 93) hx hb dL_isWashed_89 (by decide) ?_
                refine W.eq (g2 := F0 m 93 ls [.int (bI true)]) rfl ?_
                exact z_zret hC hr hlk hQ hP hD hS ⟨h49_2, old, ch49_3, s49_4, sl9, tk, c49_5, n49_6, d49_7, qu_l, true, (by rfl), (by exact hh2), (by rw [hv49_4]; exact svC_b hct), rfl, rfl⟩ dL_isWashed_93
    · refine lv_iload_n hx hb dL_isWashed_10 rfl (lv_at hl 0 rfl) ?_
      refine z_ifneB (tgt := 30) hx hb dL_isWashed_11 (by decide) (fun c_11 => ?_) (fun c_11 => ?_)
      · refine lv_iconst (v := zI 1) hx hb dL_isWashed_30 rfl ?_
        refine lv_goto (tgt := 35) hx hb dL_isWashed_31 (by decide) ?_
        have hw9 : (true = true ↔ ∃ k, 0 ≤ k ∧ k < i + 1 ∧ 1 < S_drop h k) := ⟨fun _ => (ht.mp c_11).imp (fun k q => ⟨q.1, by omega, q.2.2⟩), fun _ => rfl⟩
        refine lv_istore_n (lv' := [(2, .int (zI 1)), (3, .int (zI i)), (0, .ref (α 0)), (1, .int (zI n9))]) hx hb dL_isWashed_35 rfl hl (by decide) rfl (fun ls hl => ?_)
        refine z_iinc (k := 1) (v := i + 1) (lv' := [(3, .int (zI (i + 1))), (2, .int (zI 1)), (0, .ref (α 0)), (1, .int (zI n9))]) hx hb dL_isWashed_36 hl rfl rfl (by decide) rfl (fun ls hl => ?_)
        refine lv_goto (tgt := 4) hx hb dL_isWashed_39 (by decide) ?_
        exact ih_4 nx_l dr_l qu_l true (i + 1) _ _ hP hD hS _ (lv_sub hl [1, 0, 2, 3] rfl) (by first | assumption | rfl | omega) (by exact hw9) (by (clear hw9 ht; omega))
      · refine lv_aload_n hx hb dL_isWashed_14 rfl (lv_at hl 2 rfl) ?_
        refine lv_iload_n hx hb dL_isWashed_15 rfl (lv_at hl 1 rfl) ?_
        refine lv_bipush (v := zI 7) hx hb dL_isWashed_16 (zI_b8 (by decide)) ?_
        refine z_idiv hx hb ⟨⟨by omega, by omega⟩, by omega, by omega⟩ dL_isWashed_18 ?_
        refine lv_iload_n hx hb dL_isWashed_19 rfl (lv_at hl 1 rfl) ?_
        refine lv_bipush (v := zI 7) hx hb dL_isWashed_20 (zI_b8 (by decide)) ?_
        refine z_irem hx hb ⟨⟨by omega, by omega⟩, by omega, by omega⟩ dL_isWashed_22 ?_
        refine z_calli hP hD hS hA (va_runV (As := [.int (zI (i / 7)), .int (zI (i % 7))]) (rest := []) hC (c_X9_dropOf l D τ α γ h old ch rg ln nx_l dr_l qu_l pd ct sg od (sv, sl9, tk, ct9) (i / 7) (i % 7) (by first | assumption | rfl | omega) (by first | assumption | rfl | omega) (by first | assumption | rfl | omega) _) (cwV 2 hts (gV hB wl_L_52 wn_X9_dropOf ws_X9_dropOf wi_X9 wc_X9_dropOf) rfl rfl rfl hd_X9_dropOf ⟨Nat.le_of_ble_eq_true rfl, Nat.le_of_ble_eq_true rfl⟩) (zp_V hK hP hD hS hA hG (ci := 9) (q0 := 0) rfl rfl rfl) rfl rfl hl.1 rfl (lv_room (Nat.le_of_ble_eq_true rfl)) dL_isWashed_23 ⟨Nat.le_of_ble_eq_true rfl, Nat.le_of_ble_eq_true rfl⟩) (fun r w1 H locs hq9 hP hD hS => ?_)
        obtain ⟨n23_13, d23_14, v23_15, hv23_0, hv23_1, rfl, rfl⟩ := hq9
        try simp only [e7] at hv23_0
        try simp only [e7] at hv23_1
        have hP : va_P D vwCl (wH α γ (h, old, ch) rg ln (n23_13, d23_14, qu_l) pd ct sg od (sv, sl9, tk, ct9)) H := hP
        have hD : va_D A (wH α γ (h, old, ch) rg ln (n23_13, d23_14, qu_l) pd ct sg od (sv, sl9, tk, ct9)) := hD
        have b23 := S_drop_b hh (p := i) ⟨by omega, by omega⟩
        rw [← hv23_1] at b23
        refine lv_iconst (v := zI 1) hx hb dL_isWashed_26 rfl ?_
        refine z_icle (tgt := 34) hx hb ⟨by omega, by omega⟩ ⟨by omega, by omega⟩ dL_isWashed_27 (by decide) (fun c_27 => ?_) (fun c_27 => ?_)
        · refine lv_iconst (v := zI 0) hx hb dL_isWashed_34 rfl ?_
          have hw9 : (false = true ↔ ∃ k, 0 ≤ k ∧ k < i + 1 ∧ 1 < S_drop h k) := ⟨fun z => (by cases z), fun ⟨k, k0, k1, k2⟩ => by
            by_cases e9 : k = i
            · rw [e9, ← hv23_1] at k2; omega
            · have y9 := ht.mpr ⟨k, k0, by omega, k2⟩; rw [c_11] at y9; exact y9⟩
          refine lv_istore_n (lv' := [(2, .int (zI 0)), (3, .int (zI i)), (0, .ref (α 0)), (1, .int (zI n9))]) hx hb dL_isWashed_35 rfl hl (by decide) rfl (fun ls hl => ?_)
          refine z_iinc (k := 1) (v := i + 1) (lv' := [(3, .int (zI (i + 1))), (2, .int (zI 0)), (0, .ref (α 0)), (1, .int (zI n9))]) hx hb dL_isWashed_36 hl rfl rfl (by decide) rfl (fun ls hl => ?_)
          refine lv_goto (tgt := 4) hx hb dL_isWashed_39 (by decide) ?_
          exact ih_4 n23_13 d23_14 qu_l false (i + 1) _ _ hP hD hS _ (lv_sub hl [1, 0, 2, 3] rfl) (by first | assumption | rfl | omega) (by exact hw9) (by (clear hw9 ht; omega))
        · refine lv_iconst (v := zI 1) hx hb dL_isWashed_30 rfl ?_
          refine lv_goto (tgt := 35) hx hb dL_isWashed_31 (by decide) ?_
          have hw9 : (true = true ↔ ∃ k, 0 ≤ k ∧ k < i + 1 ∧ 1 < S_drop h k) := ⟨fun _ => ⟨i, hi.1, by omega, by rw [← hv23_1]; exact c_27⟩, fun _ => rfl⟩
          refine lv_istore_n (lv' := [(2, .int (zI 1)), (3, .int (zI i)), (0, .ref (α 0)), (1, .int (zI n9))]) hx hb dL_isWashed_35 rfl hl (by decide) rfl (fun ls hl => ?_)
          refine z_iinc (k := 1) (v := i + 1) (lv' := [(3, .int (zI (i + 1))), (2, .int (zI 1)), (0, .ref (α 0)), (1, .int (zI n9))]) hx hb dL_isWashed_36 hl rfl rfl (by decide) rfl (fun ls hl => ?_)
          refine lv_goto (tgt := 4) hx hb dL_isWashed_39 (by decide) ?_
          exact ih_4 n23_13 d23_14 qu_l true (i + 1) _ _ hP hD hS _ (lv_sub hl [1, 0, 2, 3] rfl) (by first | assumption | rfl | omega) (by exact hw9) (by (clear hw9 ht; omega))

abbrev wz_L_isTurned : List Cond := .code yL_isTurned cL_isTurned 10 (some .boolean) :: W0
abbrev rm_L_isTurned : Room := { frames := 7, cells := 0, slots := 0, locals := 162 }
theorem hd_L_isTurned : yL_isTurned.cls = RL ∧ yL_isTurned.cls ≠ "java/lang/invoke/MethodHandle" ∧ yL_isTurned.cls ≠ "java/lang/invoke/VarHandle" ∧ (parseMethodDescriptor yL_isTurned.desc).map (fun d => d.parameters.length) = some 2 := by decide +kernel
set_option maxHeartbeats 4000000 in
set_option maxRecDepth 100000 in
theorem c_L_isTurned (l : Launch) (D : va_G) (τ : Nat → Nat) (α : Nat → Nat) (γ : Nat → ClassId) (h : IA) (old : IA) (ch : IA) (wt : BA) (qu5 : IA) (hi8 : BA) (fe : IA) (se : IA) (gn : BA) (fp : IA) (sp : IA) (np : Int) (tot : Int) (clo : Int) (lon : Int) (sl : TSl) (wy : IA) (lv : IA) (ct : TCt) (sg : TSg) (od : TOd) (sv : IA) (sl9 : IA) (tk : BA) (ct9 : Int) (lv9 : Int) (hlv : 0 ≤ lv9 ∧ lv9 ≤ 98) (hh : ∀ k, 0 ≤ k → k < 49 → 0 ≤ h k ∧ h k ≤ 99) (hct : 0 ≤ ct9 ∧ ct9 ≤ 6) : cM l yL_isTurned wz_L_isTurned rm_L_isTurned D τ (tyH γ) [.ref (α 0), .int (zI lv9)] (wH α γ (h, old, ch) (wt, qu5) (hi8, fe, se, gn, fp, sp, np, tot, clo, lon) sl (wy, lv) ct sg od (sv, sl9, tk, ct9)) (zQi (fun r w => ∃ (h_p : IA), ∃ (old_p : IA), ∃ (ch_p : IA), ∃ (sv_p : IA), ∃ (sl9_p : IA), ∃ (tk_p : BA), ∃ (ct9_p : Int), ∃ (wt_p : BA), ∃ (qu5_p : IA), ∃ (hi8_p : BA), ∃ (fe_p : IA), ∃ (se_p : IA), ∃ (gn_p : BA), ∃ (fp_p : IA), ∃ (sp_p : IA), ∃ (np_p : Int), ∃ (tot_p : Int), ∃ (clo_p : Int), ∃ (lon_p : Int), ∃ (wy_p : IA), ∃ (lv_p : IA), ∃ (v : Bool), (v = true) ∧ (∀ k, 0 ≤ k → k < 49 → 0 ≤ h_p k ∧ h_p k ≤ 99) ∧ (0 ≤ ct9_p ∧ ct9_p ≤ 6) ∧ r = bI v ∧ wH α γ (h_p, old_p, ch_p) (wt_p, qu5_p) (hi8_p, fe_p, se_p, gn_p, fp_p, sp_p, np_p, tot_p, clo_p, lon_p) sl (wy_p, lv_p) ct sg od (sv_p, sl9_p, tk_p, ct9_p) = w)) := by
  refine z_ofM (cc := cL_isTurned) (maxL := 10) (ret := (some .boolean)) (by decide +kernel) rfl (Nat.le_of_ble_eq_true rfl) ?_
  intro pg e s m args below meth c hC hr hlk hnm hK hP A hD hG hA hS ls hl Q hQ
  have hx := hC.1
  have hb := hC.2.1
  have hml := hC.2.2.1
  have hown := hC.2.2.2.1
  have hts := hC.2.2.2.2
  have hB : ∀ w ∈ W0, w ∈ wz_L_isTurned := fun _ h => List.mem_cons_of_mem _ h
  have hW0 : ∀ w ∈ W0, w.before args s = true := fun w h => hts w (hB w h)
  have hl : lv_has ls 10 [(0, .ref (α 0)), (1, .int (zI lv9))] := hl
  refine lv_aload_n hx hb dL_isTurned_0 rfl (lv_at hl 0 rfl) ?_
  refine z_calli hP hD hS hA (va_runV (As := []) (rest := []) hC (c_X9_bulk l D τ α γ h old ch (wt, qu5) (hi8, fe, se, gn, fp, sp, np, tot, clo, lon) sl (wy, lv) ct sg od (sv, sl9, tk, ct9) (by first | assumption | rfl | omega) _) (cwV 0 hts (gV hB wl_L_46 wn_X9_bulk ws_X9_bulk wi_X9 wc_X9_bulk) rfl rfl rfl hd_X9_bulk ⟨Nat.le_of_ble_eq_true rfl, Nat.le_of_ble_eq_true rfl⟩) (zp_V hK hP hD hS hA hG (ci := 9) (q0 := 0) rfl rfl rfl) rfl rfl hl.1 rfl (lv_room (Nat.le_of_ble_eq_true rfl)) dL_isTurned_1 ⟨Nat.le_of_ble_eq_true rfl, Nat.le_of_ble_eq_true rfl⟩) (fun r w1 H locs hq9 hP hD hS => ?_)
  obtain ⟨v1_1, hv1_0, hv1_1, rfl, rfl⟩ := hq9
  try simp only [e7] at hv1_0
  try simp only [e7] at hv1_1
  have hP : va_P D vwCl (wH α γ (h, old, ch) (wt, qu5) (hi8, fe, se, gn, fp, sp, np, tot, clo, lon) sl (wy, lv) ct sg od (sv, sl9, tk, ct9)) H := hP
  have hD : va_D A (wH α γ (h, old, ch) (wt, qu5) (hi8, fe, se, gn, fp, sp, np, tot, clo, lon) sl (wy, lv) ct sg od (sv, sl9, tk, ct9)) := hD
  refine lv_istore_n (lv' := [(2, .int (zI v1_1)), (0, .ref (α 0)), (1, .int (zI lv9))]) hx hb dL_isTurned_4 rfl hl (by decide) rfl (fun ls hl => ?_)
  refine lv_aload_n hx hb dL_isTurned_5 rfl (lv_at hl 1 rfl) ?_
  refine z_calli hP hD hS hA (va_runV (As := []) (rest := []) hC (c_X9_water l D τ α γ h old ch (wt, qu5) (hi8, fe, se, gn, fp, sp, np, tot, clo, lon) sl wy lv ct sg od (sv, sl9, tk, ct9) (by first | assumption | rfl | omega) _) (cwV 0 hts (gV hB wl_L_59 wn_X9_water ws_X9_water wi_X9 wc_X9_water) rfl rfl rfl hd_X9_water ⟨Nat.le_of_ble_eq_true rfl, Nat.le_of_ble_eq_true rfl⟩) (zp_V hK hP hD hS hA hG (ci := 9) (q0 := 0) rfl rfl rfl) rfl rfl hl.1 rfl (lv_room (Nat.le_of_ble_eq_true rfl)) dL_isTurned_6 ⟨Nat.le_of_ble_eq_true rfl, Nat.le_of_ble_eq_true rfl⟩) (fun r w1 H locs hq9 hP hD hS => ?_)
  obtain ⟨w6_2, v6_3, hv6_0, hv6_1, rfl, rfl⟩ := hq9
  try simp only [e7] at hv6_0
  try simp only [e7] at hv6_1
  have hP : va_P D vwCl (wH α γ (h, old, ch) (wt, qu5) (hi8, fe, se, gn, fp, sp, np, tot, clo, lon) sl (w6_2, lv) ct sg od (sv, sl9, tk, ct9)) H := hP
  have hD : va_D A (wH α γ (h, old, ch) (wt, qu5) (hi8, fe, se, gn, fp, sp, np, tot, clo, lon) sl (w6_2, lv) ct sg od (sv, sl9, tk, ct9)) := hD
  refine lv_istore_n (lv' := [(3, .int (zI v6_3)), (2, .int (zI v1_1)), (0, .ref (α 0)), (1, .int (zI lv9))]) hx hb dL_isTurned_9 rfl hl (by decide) rfl (fun ls hl => ?_)
  refine lv_aload_n hx hb dL_isTurned_10 rfl (lv_at hl 2 rfl) ?_
  refine z_calli hP hD hS hA (va_runV (As := []) (rest := []) hC (c_X9_ponds l D τ α γ h old ch wt qu5 (hi8, fe, se, gn, fp, sp, np, tot, clo, lon) sl w6_2 lv ct sg od (sv, sl9, tk, ct9) (by first | assumption | rfl | omega) _) (cwV 0 hts (gV hB wl_L_62 wn_X9_ponds ws_X9_ponds wi_X9 wc_X9_ponds) rfl rfl rfl hd_X9_ponds ⟨Nat.le_of_ble_eq_true rfl, Nat.le_of_ble_eq_true rfl⟩) (zp_V hK hP hD hS hA hG (ci := 9) (q0 := 0) rfl rfl rfl) rfl rfl hl.1 rfl (lv_room (Nat.le_of_ble_eq_true rfl)) dL_isTurned_11 ⟨Nat.le_of_ble_eq_true rfl, Nat.le_of_ble_eq_true rfl⟩) (fun r w1 H locs hq9 hP hD hS => ?_)
  obtain ⟨w11_4, b11_5, q11_6, v11_7, hv11_0, hv11_1, rfl, rfl⟩ := hq9
  try simp only [e7] at hv11_0
  try simp only [e7] at hv11_1
  have hP : va_P D vwCl (wH α γ (h, old, ch) (b11_5, q11_6) (hi8, fe, se, gn, fp, sp, np, tot, clo, lon) sl (w11_4, lv) ct sg od (sv, sl9, tk, ct9)) H := hP
  have hD : va_D A (wH α γ (h, old, ch) (b11_5, q11_6) (hi8, fe, se, gn, fp, sp, np, tot, clo, lon) sl (w11_4, lv) ct sg od (sv, sl9, tk, ct9)) := hD
  refine lv_istore (lv' := [(4, .int (zI v11_7)), (3, .int (zI v6_3)), (2, .int (zI v1_1)), (0, .ref (α 0)), (1, .int (zI lv9))]) hx hb dL_isTurned_14 hl (by decide) rfl (fun ls hl => ?_)
  refine lv_aload_n hx hb dL_isTurned_16 rfl (lv_at hl 3 rfl) ?_
  refine lv_iload_n hx hb dL_isTurned_17 rfl (lv_at hl 4 rfl) ?_
  refine z_calli hP hD hS hA (va_runV (As := [.int (zI lv9)]) (rest := []) hC (c_X9_crossingsByEdges l D τ α γ h old ch (b11_5, q11_6) (hi8, fe, se, gn, fp, sp, np, tot, clo, lon) sl (w11_4, lv) ct sg od (sv, sl9, tk, ct9) lv9 (by first | assumption | rfl | omega) (by first | assumption | rfl | omega) _) (cwV 1 hts (gV hB wl_L_65 wn_X9_crossingsByEdges ws_X9_crossingsByEdges wi_X9 wc_X9_crossingsByEdges) rfl rfl rfl hd_X9_crossingsByEdges ⟨Nat.le_of_ble_eq_true rfl, Nat.le_of_ble_eq_true rfl⟩) (zp_V hK hP hD hS hA hG (ci := 9) (q0 := 0) rfl rfl rfl) rfl rfl hl.1 rfl (lv_room (Nat.le_of_ble_eq_true rfl)) dL_isTurned_18 ⟨Nat.le_of_ble_eq_true rfl, Nat.le_of_ble_eq_true rfl⟩) (fun r w1 H locs hq9 hP hD hS => ?_)
  obtain ⟨v18_8, hv18_0, hv18_1, hv18_2, rfl, rfl⟩ := hq9
  try simp only [e7] at hv18_0
  try simp only [e7] at hv18_1
  try simp only [e7] at hv18_2
  have hP : va_P D vwCl (wH α γ (h, old, ch) (b11_5, q11_6) (hi8, fe, se, gn, fp, sp, np, tot, clo, lon) sl (w11_4, lv) ct sg od (sv, sl9, tk, ct9)) H := hP
  have hD : va_D A (wH α γ (h, old, ch) (b11_5, q11_6) (hi8, fe, se, gn, fp, sp, np, tot, clo, lon) sl (w11_4, lv) ct sg od (sv, sl9, tk, ct9)) := hD
  refine lv_istore (lv' := [(5, .int (zI v18_8)), (4, .int (zI v11_7)), (3, .int (zI v6_3)), (2, .int (zI v1_1)), (0, .ref (α 0)), (1, .int (zI lv9))]) hx hb dL_isTurned_21 hl (by decide) rfl (fun ls hl => ?_)
  refine lv_aload_n hx hb dL_isTurned_23 rfl (lv_at hl 4 rfl) ?_
  refine lv_iload_n hx hb dL_isTurned_24 rfl (lv_at hl 5 rfl) ?_
  refine z_calli hP hD hS hA (va_runV (As := [.int (zI lv9)]) (rest := []) hC (c_X9_linesByTracing l D τ α γ h old ch (b11_5, q11_6) hi8 fe se gn fp sp np tot clo lon sl (w11_4, lv) ct sg od (sv, sl9, tk, ct9) lv9 (by first | assumption | rfl | omega) (by first | assumption | rfl | omega) _) (cwV 1 hts (gV hB wl_L_68 wn_X9_linesByTracing ws_X9_linesByTracing wi_X9 wc_X9_linesByTracing) rfl rfl rfl hd_X9_linesByTracing ⟨Nat.le_of_ble_eq_true rfl, Nat.le_of_ble_eq_true rfl⟩) (zp_V hK hP hD hS hA hG (ci := 9) (q0 := 0) rfl rfl rfl) rfl rfl hl.1 rfl (lv_room (Nat.le_of_ble_eq_true rfl)) dL_isTurned_25 ⟨Nat.le_of_ble_eq_true rfl, Nat.le_of_ble_eq_true rfl⟩) (fun r w1 H locs hq9 hP hD hS => ?_)
  obtain ⟨m25_9, f25_10, s25_11, p25_12, q25_13, n25_14, gn25_15, t25_16, c25_17, l25_18, v25_19, hv25_0, hv25_1, rfl, rfl⟩ := hq9
  try simp only [e7] at hv25_0
  try simp only [e7] at hv25_1
  have hP : va_P D vwCl (wH α γ (h, old, ch) (b11_5, q11_6) (m25_9, f25_10, s25_11, gn25_15, p25_12, q25_13, n25_14, t25_16, c25_17, l25_18) sl (w11_4, lv) ct sg od (sv, sl9, tk, ct9)) H := hP
  have hD : va_D A (wH α γ (h, old, ch) (b11_5, q11_6) (m25_9, f25_10, s25_11, gn25_15, p25_12, q25_13, n25_14, t25_16, c25_17, l25_18) sl (w11_4, lv) ct sg od (sv, sl9, tk, ct9)) := hD
  have b25 := nl_b (S_hi h lv9)
  rw [← hv25_1] at b25
  refine lv_istore (lv' := [(6, .int (zI v25_19)), (5, .int (zI v18_8)), (4, .int (zI v11_7)), (3, .int (zI v6_3)), (2, .int (zI v1_1)), (0, .ref (α 0)), (1, .int (zI lv9))]) hx hb dL_isTurned_28 hl (by decide) rfl (fun ls hl => ?_)
  refine lv_aload_n hx hb dL_isTurned_30 rfl (lv_at hl 5 rfl) ?_
  refine lv_iconst (v := zI 0) hx hb dL_isTurned_31 rfl ?_
  refine z_calli hP hD hS hA (va_runS (As := [.ref (α 0), .int (zI 0)]) (rest := []) hC (c_L_at l D τ α γ h old ch (b11_5, q11_6) (m25_9, f25_10, s25_11, gn25_15, p25_12, q25_13, n25_14, t25_16, c25_17, l25_18) sl (w11_4, lv) ct sg od (sv, sl9, tk, ct9) 0 (by first | assumption | rfl | omega) (by first | assumption | rfl | omega) _) (va_cwS 2 hts (gS hB wl_L_42 wt_L_at wi_L wc_L_at) rfl rfl rfl hd_L_at.2 ⟨Nat.le_of_ble_eq_true rfl, Nat.le_of_ble_eq_true rfl⟩) (zp_S hK hP hD hS hA hG) rfl rfl hl.1 rfl (lv_room (Nat.le_of_ble_eq_true rfl)) dL_isTurned_32 ⟨Nat.le_of_ble_eq_true rfl, Nat.le_of_ble_eq_true rfl⟩) (fun r w1 H locs hq9 hP hD hS => ?_)
  obtain ⟨v32_20, hv32_0, hv32_1, rfl, rfl⟩ := hq9
  try simp only [e7] at hv32_0
  try simp only [e7] at hv32_1
  have hP : va_P D vwCl (wH α γ (h, old, ch) (b11_5, q11_6) (m25_9, f25_10, s25_11, gn25_15, p25_12, q25_13, n25_14, t25_16, c25_17, l25_18) sl (w11_4, lv) ct sg od (sv, sl9, tk, ct9)) H := hP
  have hD : va_D A (wH α γ (h, old, ch) (b11_5, q11_6) (m25_9, f25_10, s25_11, gn25_15, p25_12, q25_13, n25_14, t25_16, c25_17, l25_18) sl (w11_4, lv) ct sg od (sv, sl9, tk, ct9)) := hD
  refine lv_istore (lv' := [(7, .int (zI v32_20)), (6, .int (zI v25_19)), (5, .int (zI v18_8)), (4, .int (zI v11_7)), (3, .int (zI v6_3)), (2, .int (zI v1_1)), (0, .ref (α 0)), (1, .int (zI lv9))]) hx hb dL_isTurned_35 hl (by decide) rfl (fun ls hl => ?_)
  refine lv_aload_n hx hb dL_isTurned_37 rfl (lv_at hl 6 rfl) ?_
  refine lv_bipush (v := zI 42) hx hb dL_isTurned_38 (zI_b8 (by decide)) ?_
  refine z_calli hP hD hS hA (va_runS (As := [.ref (α 0), .int (zI 42)]) (rest := []) hC (c_L_at l D τ α γ h old ch (b11_5, q11_6) (m25_9, f25_10, s25_11, gn25_15, p25_12, q25_13, n25_14, t25_16, c25_17, l25_18) sl (w11_4, lv) ct sg od (sv, sl9, tk, ct9) 42 (by first | assumption | rfl | omega) (by first | assumption | rfl | omega) _) (va_cwS 2 hts (gS hB wl_L_42 wt_L_at wi_L wc_L_at) rfl rfl rfl hd_L_at.2 ⟨Nat.le_of_ble_eq_true rfl, Nat.le_of_ble_eq_true rfl⟩) (zp_S hK hP hD hS hA hG) rfl rfl hl.1 rfl (lv_room (Nat.le_of_ble_eq_true rfl)) dL_isTurned_40 ⟨Nat.le_of_ble_eq_true rfl, Nat.le_of_ble_eq_true rfl⟩) (fun r w1 H locs hq9 hP hD hS => ?_)
  obtain ⟨v40_21, hv40_0, hv40_1, rfl, rfl⟩ := hq9
  try simp only [e7] at hv40_0
  try simp only [e7] at hv40_1
  have hP : va_P D vwCl (wH α γ (h, old, ch) (b11_5, q11_6) (m25_9, f25_10, s25_11, gn25_15, p25_12, q25_13, n25_14, t25_16, c25_17, l25_18) sl (w11_4, lv) ct sg od (sv, sl9, tk, ct9)) H := hP
  have hD : va_D A (wH α γ (h, old, ch) (b11_5, q11_6) (m25_9, f25_10, s25_11, gn25_15, p25_12, q25_13, n25_14, t25_16, c25_17, l25_18) sl (w11_4, lv) ct sg od (sv, sl9, tk, ct9)) := hD
  refine lv_istore (lv' := [(8, .int (zI v40_21)), (7, .int (zI v32_20)), (6, .int (zI v25_19)), (5, .int (zI v18_8)), (4, .int (zI v11_7)), (3, .int (zI v6_3)), (2, .int (zI v1_1)), (0, .ref (α 0)), (1, .int (zI lv9))]) hx hb dL_isTurned_43 hl (by decide) rfl (fun ls hl => ?_)
  refine lv_aload_n hx hb dL_isTurned_45 rfl (lv_at hl 7 rfl) ?_
  refine z_calli hP hD hS hA (va_runV (As := []) (rest := []) hC (c_X9_turnMap l D τ α γ h old ch (b11_5, q11_6) (m25_9, f25_10, s25_11, gn25_15, p25_12, q25_13, n25_14, t25_16, c25_17, l25_18) sl (w11_4, lv) ct sg od sv sl9 tk ct9 (by first | assumption | rfl | omega) (by first | assumption | rfl | omega) _) (cwV 0 hts (gV hB wl_L_71 wn_X9_turnMap ws_X9_turnMap wi_X9 wc_X9_turnMap) rfl rfl rfl hd_X9_turnMap ⟨Nat.le_of_ble_eq_true rfl, Nat.le_of_ble_eq_true rfl⟩) (zp_V hK hP hD hS hA hG (ci := 9) (q0 := 0) rfl rfl rfl) rfl rfl hl.1 rfl (lv_room (Nat.le_of_ble_eq_true rfl)) dL_isTurned_46 ⟨Nat.le_of_ble_eq_true rfl, Nat.le_of_ble_eq_true rfl⟩) (fun r w1 H locs hq9 hP hD hS => ?_)
  obtain ⟨h46_22, o46_23, s46_24, c46_25, v46_26, hv46_0, hv46_1, hv46_2, hv46_3, rfl, rfl⟩ := hq9
  try simp only [e7] at hv46_0
  try simp only [e7] at hv46_1
  try simp only [e7] at hv46_2
  try simp only [e7] at hv46_3
  have hP : va_P D vwCl (wH α γ (h46_22, o46_23, ch) (b11_5, q11_6) (m25_9, f25_10, s25_11, gn25_15, p25_12, q25_13, n25_14, t25_16, c25_17, l25_18) sl (w11_4, lv) ct sg od (s46_24, sl9, tk, c46_25)) H := hP
  have hD : va_D A (wH α γ (h46_22, o46_23, ch) (b11_5, q11_6) (m25_9, f25_10, s25_11, gn25_15, p25_12, q25_13, n25_14, t25_16, c25_17, l25_18) sl (w11_4, lv) ct sg od (s46_24, sl9, tk, c46_25)) := hD
  have hh2 : ∀ k, 0 ≤ k → k < 49 → 0 ≤ h46_22 k ∧ h46_22 k ≤ 99 := by (rw [hv46_1]; exact turn_hh hh)
  have b46 := q_diff_b (S_turn h) h
  rw [← hv46_0] at b46
  refine lv_istore (lv' := [(9, .int (zI v46_26)), (8, .int (zI v40_21)), (7, .int (zI v32_20)), (6, .int (zI v25_19)), (5, .int (zI v18_8)), (4, .int (zI v11_7)), (3, .int (zI v6_3)), (2, .int (zI v1_1)), (0, .ref (α 0)), (1, .int (zI lv9))]) hx hb dL_isTurned_49 hl (by decide) rfl (fun ls hl => ?_)
  refine lv_iload hx hb dL_isTurned_51 (lv_at hl 0 rfl) ?_
  refine z_iflt (tgt := 126) hx hb ⟨by omega, by omega⟩ dL_isTurned_53 (by decide) (fun c_53 => ?_) (fun c_53 => ?_)
  · exfalso; omega
  · refine lv_aload_n hx hb dL_isTurned_56 rfl (lv_at hl 8 rfl) ?_
    refine lv_bipush (v := zI 6) hx hb dL_isTurned_57 (zI_b8 (by decide)) ?_
    refine z_calli hP hD hS hA (va_runS (As := [.ref (α 0), .int (zI 6)]) (rest := []) hC (c_L_at l D τ α γ h46_22 o46_23 ch (b11_5, q11_6) (m25_9, f25_10, s25_11, gn25_15, p25_12, q25_13, n25_14, t25_16, c25_17, l25_18) sl (w11_4, lv) ct sg od (s46_24, sl9, tk, c46_25) 6 (by first | assumption | rfl | omega) (by exact hh2) _) (va_cwS 2 hts (gS hB wl_L_42 wt_L_at wi_L wc_L_at) rfl rfl rfl hd_L_at.2 ⟨Nat.le_of_ble_eq_true rfl, Nat.le_of_ble_eq_true rfl⟩) (zp_S hK hP hD hS hA hG) rfl rfl hl.1 rfl (lv_room (Nat.le_of_ble_eq_true rfl)) dL_isTurned_59 ⟨Nat.le_of_ble_eq_true rfl, Nat.le_of_ble_eq_true rfl⟩) (fun r w1 H locs hq9 hP hD hS => ?_)
    obtain ⟨v59_27, hv59_0, hv59_1, rfl, rfl⟩ := hq9
    try simp only [e7] at hv59_0
    try simp only [e7] at hv59_1
    have hP : va_P D vwCl (wH α γ (h46_22, o46_23, ch) (b11_5, q11_6) (m25_9, f25_10, s25_11, gn25_15, p25_12, q25_13, n25_14, t25_16, c25_17, l25_18) sl (w11_4, lv) ct sg od (s46_24, sl9, tk, c46_25)) H := hP
    have hD : va_D A (wH α γ (h46_22, o46_23, ch) (b11_5, q11_6) (m25_9, f25_10, s25_11, gn25_15, p25_12, q25_13, n25_14, t25_16, c25_17, l25_18) sl (w11_4, lv) ct sg od (s46_24, sl9, tk, c46_25)) := hD
    have e57 : v59_27 = v32_20 := (hv59_0.trans ((congrFun hv46_1 6).trans ((turn_at hh (k := 6) (by omega)).trans (show h (rho 6) = h 0 from rfl)))).trans hv32_0.symm
    refine lv_iload hx hb dL_isTurned_62 (lv_at hl 2 rfl) ?_
    refine z_icne (tgt := 126) hx hb ⟨by omega, by omega⟩ ⟨by omega, by omega⟩ dL_isTurned_64 (by decide) (fun c_64 => ?_) (fun c_64 => ?_)
    · exfalso; omega
    · refine lv_aload_n hx hb dL_isTurned_67 rfl (lv_at hl 8 rfl) ?_
      refine lv_iconst (v := zI 0) hx hb dL_isTurned_68 rfl ?_
      refine z_calli hP hD hS hA (va_runS (As := [.ref (α 0), .int (zI 0)]) (rest := []) hC (c_L_at l D τ α γ h46_22 o46_23 ch (b11_5, q11_6) (m25_9, f25_10, s25_11, gn25_15, p25_12, q25_13, n25_14, t25_16, c25_17, l25_18) sl (w11_4, lv) ct sg od (s46_24, sl9, tk, c46_25) 0 (by first | assumption | rfl | omega) (by exact hh2) _) (va_cwS 2 hts (gS hB wl_L_42 wt_L_at wi_L wc_L_at) rfl rfl rfl hd_L_at.2 ⟨Nat.le_of_ble_eq_true rfl, Nat.le_of_ble_eq_true rfl⟩) (zp_S hK hP hD hS hA hG) rfl rfl hl.1 rfl (lv_room (Nat.le_of_ble_eq_true rfl)) dL_isTurned_69 ⟨Nat.le_of_ble_eq_true rfl, Nat.le_of_ble_eq_true rfl⟩) (fun r w1 H locs hq9 hP hD hS => ?_)
      obtain ⟨v69_28, hv69_0, hv69_1, rfl, rfl⟩ := hq9
      try simp only [e7] at hv69_0
      try simp only [e7] at hv69_1
      have hP : va_P D vwCl (wH α γ (h46_22, o46_23, ch) (b11_5, q11_6) (m25_9, f25_10, s25_11, gn25_15, p25_12, q25_13, n25_14, t25_16, c25_17, l25_18) sl (w11_4, lv) ct sg od (s46_24, sl9, tk, c46_25)) H := hP
      have hD : va_D A (wH α γ (h46_22, o46_23, ch) (b11_5, q11_6) (m25_9, f25_10, s25_11, gn25_15, p25_12, q25_13, n25_14, t25_16, c25_17, l25_18) sl (w11_4, lv) ct sg od (s46_24, sl9, tk, c46_25)) := hD
      have e69 : v69_28 = v40_21 := (hv69_0.trans ((congrFun hv46_1 0).trans ((turn_at hh (k := 0) (by omega)).trans (show h (rho 0) = h 42 from rfl)))).trans hv40_0.symm
      refine lv_iload hx hb dL_isTurned_72 (lv_at hl 1 rfl) ?_
      refine z_icne (tgt := 126) hx hb ⟨by omega, by omega⟩ ⟨by omega, by omega⟩ dL_isTurned_74 (by decide) (fun c_74 => ?_) (fun c_74 => ?_)
      · exfalso; omega
      · refine lv_aload_n hx hb dL_isTurned_77 rfl (lv_at hl 8 rfl) ?_
        refine z_calli hP hD hS hA (va_runV (As := []) (rest := []) hC (c_X9_bulk l D τ α γ h46_22 o46_23 ch (b11_5, q11_6) (m25_9, f25_10, s25_11, gn25_15, p25_12, q25_13, n25_14, t25_16, c25_17, l25_18) sl (w11_4, lv) ct sg od (s46_24, sl9, tk, c46_25) (by exact hh2) _) (cwV 0 hts (gV hB wl_L_46 wn_X9_bulk ws_X9_bulk wi_X9 wc_X9_bulk) rfl rfl rfl hd_X9_bulk ⟨Nat.le_of_ble_eq_true rfl, Nat.le_of_ble_eq_true rfl⟩) (zp_V hK hP hD hS hA hG (ci := 9) (q0 := 0) rfl rfl rfl) rfl rfl hl.1 rfl (lv_room (Nat.le_of_ble_eq_true rfl)) dL_isTurned_78 ⟨Nat.le_of_ble_eq_true rfl, Nat.le_of_ble_eq_true rfl⟩) (fun r w1 H locs hq9 hP hD hS => ?_)
        obtain ⟨v78_29, hv78_0, hv78_1, rfl, rfl⟩ := hq9
        try simp only [e7] at hv78_0
        try simp only [e7] at hv78_1
        have hP : va_P D vwCl (wH α γ (h46_22, o46_23, ch) (b11_5, q11_6) (m25_9, f25_10, s25_11, gn25_15, p25_12, q25_13, n25_14, t25_16, c25_17, l25_18) sl (w11_4, lv) ct sg od (s46_24, sl9, tk, c46_25)) H := hP
        have hD : va_D A (wH α γ (h46_22, o46_23, ch) (b11_5, q11_6) (m25_9, f25_10, s25_11, gn25_15, p25_12, q25_13, n25_14, t25_16, c25_17, l25_18) sl (w11_4, lv) ct sg od (s46_24, sl9, tk, c46_25)) := hD
        have e78 : v78_29 = v1_1 := by rw [hv78_0, hv46_1, hv1_0]; exact q_turn_bulk hh
        refine lv_iload_n hx hb dL_isTurned_81 rfl (lv_at hl 7 rfl) ?_
        refine z_icne (tgt := 126) hx hb ⟨by omega, by omega⟩ ⟨by omega, by omega⟩ dL_isTurned_82 (by decide) (fun c_82 => ?_) (fun c_82 => ?_)
        · exfalso; omega
        · refine lv_aload_n hx hb dL_isTurned_85 rfl (lv_at hl 8 rfl) ?_
          refine z_calli hP hD hS hA (va_runV (As := []) (rest := []) hC (c_X9_water l D τ α γ h46_22 o46_23 ch (b11_5, q11_6) (m25_9, f25_10, s25_11, gn25_15, p25_12, q25_13, n25_14, t25_16, c25_17, l25_18) sl w11_4 lv ct sg od (s46_24, sl9, tk, c46_25) (by exact hh2) _) (cwV 0 hts (gV hB wl_L_59 wn_X9_water ws_X9_water wi_X9 wc_X9_water) rfl rfl rfl hd_X9_water ⟨Nat.le_of_ble_eq_true rfl, Nat.le_of_ble_eq_true rfl⟩) (zp_V hK hP hD hS hA hG (ci := 9) (q0 := 0) rfl rfl rfl) rfl rfl hl.1 rfl (lv_room (Nat.le_of_ble_eq_true rfl)) dL_isTurned_86 ⟨Nat.le_of_ble_eq_true rfl, Nat.le_of_ble_eq_true rfl⟩) (fun r w1 H locs hq9 hP hD hS => ?_)
          obtain ⟨w86_30, v86_31, hv86_0, hv86_1, rfl, rfl⟩ := hq9
          try simp only [e7] at hv86_0
          try simp only [e7] at hv86_1
          have hP : va_P D vwCl (wH α γ (h46_22, o46_23, ch) (b11_5, q11_6) (m25_9, f25_10, s25_11, gn25_15, p25_12, q25_13, n25_14, t25_16, c25_17, l25_18) sl (w86_30, lv) ct sg od (s46_24, sl9, tk, c46_25)) H := hP
          have hD : va_D A (wH α γ (h46_22, o46_23, ch) (b11_5, q11_6) (m25_9, f25_10, s25_11, gn25_15, p25_12, q25_13, n25_14, t25_16, c25_17, l25_18) sl (w86_30, lv) ct sg od (s46_24, sl9, tk, c46_25)) := hD
          have e86 : v86_31 = v6_3 := by rw [hv86_0, hv46_1, hv6_0]; exact q_turn_water hh
          refine lv_iload_n hx hb dL_isTurned_89 rfl (lv_at hl 6 rfl) ?_
          refine z_icne (tgt := 126) hx hb ⟨by omega, by omega⟩ ⟨by omega, by omega⟩ dL_isTurned_90 (by decide) (fun c_90 => ?_) (fun c_90 => ?_)
          · exfalso; omega
          · refine lv_aload_n hx hb dL_isTurned_93 rfl (lv_at hl 8 rfl) ?_
            refine z_calli hP hD hS hA (va_runV (As := []) (rest := []) hC (c_X9_ponds l D τ α γ h46_22 o46_23 ch b11_5 q11_6 (m25_9, f25_10, s25_11, gn25_15, p25_12, q25_13, n25_14, t25_16, c25_17, l25_18) sl w86_30 lv ct sg od (s46_24, sl9, tk, c46_25) (by exact hh2) _) (cwV 0 hts (gV hB wl_L_62 wn_X9_ponds ws_X9_ponds wi_X9 wc_X9_ponds) rfl rfl rfl hd_X9_ponds ⟨Nat.le_of_ble_eq_true rfl, Nat.le_of_ble_eq_true rfl⟩) (zp_V hK hP hD hS hA hG (ci := 9) (q0 := 0) rfl rfl rfl) rfl rfl hl.1 rfl (lv_room (Nat.le_of_ble_eq_true rfl)) dL_isTurned_94 ⟨Nat.le_of_ble_eq_true rfl, Nat.le_of_ble_eq_true rfl⟩) (fun r w1 H locs hq9 hP hD hS => ?_)
            obtain ⟨w94_32, b94_33, q94_34, v94_35, hv94_0, hv94_1, rfl, rfl⟩ := hq9
            try simp only [e7] at hv94_0
            try simp only [e7] at hv94_1
            have hP : va_P D vwCl (wH α γ (h46_22, o46_23, ch) (b94_33, q94_34) (m25_9, f25_10, s25_11, gn25_15, p25_12, q25_13, n25_14, t25_16, c25_17, l25_18) sl (w94_32, lv) ct sg od (s46_24, sl9, tk, c46_25)) H := hP
            have hD : va_D A (wH α γ (h46_22, o46_23, ch) (b94_33, q94_34) (m25_9, f25_10, s25_11, gn25_15, p25_12, q25_13, n25_14, t25_16, c25_17, l25_18) sl (w94_32, lv) ct sg od (s46_24, sl9, tk, c46_25)) := hD
            have e94 : v94_35 = v11_7 := by rw [hv94_0, hv46_1, hv11_0]; exact q_turn_ponds hh
            refine lv_iload hx hb dL_isTurned_97 (lv_at hl 5 rfl) ?_
            refine z_icne (tgt := 126) hx hb ⟨by omega, by omega⟩ ⟨by omega, by omega⟩ dL_isTurned_99 (by decide) (fun c_99 => ?_) (fun c_99 => ?_)
            · exfalso; omega
            · refine lv_aload_n hx hb dL_isTurned_102 rfl (lv_at hl 8 rfl) ?_
              refine lv_iload_n hx hb dL_isTurned_103 rfl (lv_at hl 9 rfl) ?_
              refine z_calli hP hD hS hA (va_runV (As := [.int (zI lv9)]) (rest := []) hC (c_X9_crossingsByEdges l D τ α γ h46_22 o46_23 ch (b94_33, q94_34) (m25_9, f25_10, s25_11, gn25_15, p25_12, q25_13, n25_14, t25_16, c25_17, l25_18) sl (w94_32, lv) ct sg od (s46_24, sl9, tk, c46_25) lv9 (by first | assumption | rfl | omega) (by exact hh2) _) (cwV 1 hts (gV hB wl_L_65 wn_X9_crossingsByEdges ws_X9_crossingsByEdges wi_X9 wc_X9_crossingsByEdges) rfl rfl rfl hd_X9_crossingsByEdges ⟨Nat.le_of_ble_eq_true rfl, Nat.le_of_ble_eq_true rfl⟩) (zp_V hK hP hD hS hA hG (ci := 9) (q0 := 0) rfl rfl rfl) rfl rfl hl.1 rfl (lv_room (Nat.le_of_ble_eq_true rfl)) dL_isTurned_104 ⟨Nat.le_of_ble_eq_true rfl, Nat.le_of_ble_eq_true rfl⟩) (fun r w1 H locs hq9 hP hD hS => ?_)
              obtain ⟨v104_36, hv104_0, hv104_1, hv104_2, rfl, rfl⟩ := hq9
              try simp only [e7] at hv104_0
              try simp only [e7] at hv104_1
              try simp only [e7] at hv104_2
              have hP : va_P D vwCl (wH α γ (h46_22, o46_23, ch) (b94_33, q94_34) (m25_9, f25_10, s25_11, gn25_15, p25_12, q25_13, n25_14, t25_16, c25_17, l25_18) sl (w94_32, lv) ct sg od (s46_24, sl9, tk, c46_25)) H := hP
              have hD : va_D A (wH α γ (h46_22, o46_23, ch) (b94_33, q94_34) (m25_9, f25_10, s25_11, gn25_15, p25_12, q25_13, n25_14, t25_16, c25_17, l25_18) sl (w94_32, lv) ct sg od (s46_24, sl9, tk, c46_25)) := hD
              have e104 : v104_36 = v18_8 := by rw [hv104_1, hv46_1, hv18_1]; exact q_turn_cross hh
              refine lv_iload hx hb dL_isTurned_107 (lv_at hl 4 rfl) ?_
              refine z_icne (tgt := 126) hx hb ⟨by omega, by omega⟩ ⟨by omega, by omega⟩ dL_isTurned_109 (by decide) (fun c_109 => ?_) (fun c_109 => ?_)
              · exfalso; omega
              · refine lv_aload_n hx hb dL_isTurned_112 rfl (lv_at hl 8 rfl) ?_
                refine lv_iload_n hx hb dL_isTurned_113 rfl (lv_at hl 9 rfl) ?_
                refine z_calli hP hD hS hA (va_runV (As := [.int (zI lv9)]) (rest := []) hC (c_X9_linesByTracing l D τ α γ h46_22 o46_23 ch (b94_33, q94_34) m25_9 f25_10 s25_11 gn25_15 p25_12 q25_13 n25_14 t25_16 c25_17 l25_18 sl (w94_32, lv) ct sg od (s46_24, sl9, tk, c46_25) lv9 (by first | assumption | rfl | omega) (by exact hh2) _) (cwV 1 hts (gV hB wl_L_68 wn_X9_linesByTracing ws_X9_linesByTracing wi_X9 wc_X9_linesByTracing) rfl rfl rfl hd_X9_linesByTracing ⟨Nat.le_of_ble_eq_true rfl, Nat.le_of_ble_eq_true rfl⟩) (zp_V hK hP hD hS hA hG (ci := 9) (q0 := 0) rfl rfl rfl) rfl rfl hl.1 rfl (lv_room (Nat.le_of_ble_eq_true rfl)) dL_isTurned_114 ⟨Nat.le_of_ble_eq_true rfl, Nat.le_of_ble_eq_true rfl⟩) (fun r w1 H locs hq9 hP hD hS => ?_)
                obtain ⟨m114_37, f114_38, s114_39, p114_40, q114_41, n114_42, gn114_43, t114_44, c114_45, l114_46, v114_47, hv114_0, hv114_1, rfl, rfl⟩ := hq9
                try simp only [e7] at hv114_0
                try simp only [e7] at hv114_1
                have hP : va_P D vwCl (wH α γ (h46_22, o46_23, ch) (b94_33, q94_34) (m114_37, f114_38, s114_39, gn114_43, p114_40, q114_41, n114_42, t114_44, c114_45, l114_46) sl (w94_32, lv) ct sg od (s46_24, sl9, tk, c46_25)) H := hP
                have hD : va_D A (wH α γ (h46_22, o46_23, ch) (b94_33, q94_34) (m114_37, f114_38, s114_39, gn114_43, p114_40, q114_41, n114_42, t114_44, c114_45, l114_46) sl (w94_32, lv) ct sg od (s46_24, sl9, tk, c46_25)) := hD
                have e114 : v114_47 = v25_19 := by rw [hv114_1, hv46_1, hv25_1]; exact q_turn_lines hh
                refine lv_iload hx hb dL_isTurned_117 (lv_at hl 3 rfl) ?_
                refine z_icne (tgt := 126) hx hb ⟨by omega, by omega⟩ ⟨by omega, by omega⟩ dL_isTurned_119 (by decide) (fun c_119 => ?_) (fun c_119 => ?_)
                · exfalso; omega
                · refine lv_iconst (v := zI 1) hx hb dL_isTurned_122 rfl ?_
                  refine lv_goto (tgt := 127) hx hb dL_isTurned_123 (by decide) ?_
                  refine W.eq (g2 := F0 m 127 ls [.int (bI true)]) rfl ?_
                  exact z_zret hC hr hlk hQ hP hD hS ⟨h46_22, o46_23, ch, s46_24, sl9, tk, c46_25, b94_33, q94_34, m114_37, f114_38, s114_39, gn114_43, p114_40, q114_41, n114_42, t114_44, c114_45, l114_46, w94_32, lv, true, (by rfl), (by exact hh2), (by rw [hv46_3]; exact svC_b hct), rfl, rfl⟩ dL_isTurned_127

abbrev wz_L_areLinesSo : List Cond := .code yL_areLinesSo cL_areLinesSo 11 (some .boolean) :: W0
abbrev rm_L_areLinesSo : Room := { frames := 7, cells := 0, slots := 0, locals := 164 }
theorem hd_L_areLinesSo : yL_areLinesSo.cls = RL ∧ yL_areLinesSo.cls ≠ "java/lang/invoke/MethodHandle" ∧ yL_areLinesSo.cls ≠ "java/lang/invoke/VarHandle" ∧ (parseMethodDescriptor yL_areLinesSo.desc).map (fun d => d.parameters.length) = some 2 := by decide +kernel
set_option maxHeartbeats 4000000 in
set_option maxRecDepth 100000 in
theorem c_L_areLinesSo (l : Launch) (D : va_G) (τ : Nat → Nat) (α : Nat → Nat) (γ : Nat → ClassId) (h : IA) (old : IA) (ch : IA) (wt : BA) (qu5 : IA) (hi8 : BA) (fe : IA) (se : IA) (gn : BA) (fp : IA) (sp : IA) (np : Int) (tot : Int) (clo : Int) (lon : Int) (sl : TSl) (pd : TPd) (ct : TCt) (sg : TSg) (od : TOd) (hs : THs) (lv9 : Int) (hlv : 0 ≤ lv9 ∧ lv9 ≤ 98) (hh : ∀ k, 0 ≤ k → k < 49 → 0 ≤ h k ∧ h k ≤ 99) : cM l yL_areLinesSo wz_L_areLinesSo rm_L_areLinesSo D τ (tyH γ) [.ref (α 0), .int (zI lv9)] (wH α γ (h, old, ch) (wt, qu5) (hi8, fe, se, gn, fp, sp, np, tot, clo, lon) sl pd ct sg od hs) (zQi (fun r w => ∃ (wt_p : BA), ∃ (qu5_p : IA), ∃ (hi8_p : BA), ∃ (fe_p : IA), ∃ (se_p : IA), ∃ (gn_p : BA), ∃ (fp_p : IA), ∃ (sp_p : IA), ∃ (np_p : Int), ∃ (tot_p : Int), ∃ (clo_p : Int), ∃ (lon_p : Int), ∃ (v : Bool), (v = true) ∧ r = bI v ∧ wH α γ (h, old, ch) (wt_p, qu5_p) (hi8_p, fe_p, se_p, gn_p, fp_p, sp_p, np_p, tot_p, clo_p, lon_p) sl pd ct sg od hs = w)) := by
  refine z_ofM (cc := cL_areLinesSo) (maxL := 11) (ret := (some .boolean)) (by decide +kernel) rfl (Nat.le_of_ble_eq_true rfl) ?_
  intro pg e s m args below meth c hC hr hlk hnm hK hP A hD hG hA hS ls hl Q hQ
  have hx := hC.1
  have hb := hC.2.1
  have hml := hC.2.2.1
  have hown := hC.2.2.2.1
  have hts := hC.2.2.2.2
  have hB : ∀ w ∈ W0, w ∈ wz_L_areLinesSo := fun _ h => List.mem_cons_of_mem _ h
  have hW0 : ∀ w ∈ W0, w.before args s = true := fun w h => hts w (hB w h)
  have hl : lv_has ls 11 [(0, .ref (α 0)), (1, .int (zI lv9))] := hl
  refine lv_iconst (v := zI 0) hx hb dL_areLinesSo_0 rfl ?_
  refine lv_istore_n (lv' := [(2, .int (zI 0)), (0, .ref (α 0)), (1, .int (zI lv9))]) hx hb dL_areLinesSo_1 rfl hl (by decide) rfl (fun ls hl => ?_)
  refine lv_iconst (v := zI 0) hx hb dL_areLinesSo_2 rfl ?_
  refine lv_istore_n (lv' := [(3, .int (zI 0)), (2, .int (zI 0)), (0, .ref (α 0)), (1, .int (zI lv9))]) hx hb dL_areLinesSo_3 rfl hl (by decide) rfl (fun ls hl => ?_)
  refine lv_iconst (v := zI 0) hx hb dL_areLinesSo_4 rfl ?_
  refine lv_istore (lv' := [(4, .int (zI 0)), (3, .int (zI 0)), (2, .int (zI 0)), (0, .ref (α 0)), (1, .int (zI lv9))]) hx hb dL_areLinesSo_5 hl (by decide) rfl (fun ls hl => ?_)
  refine lv_iconst (v := zI 0) hx hb dL_areLinesSo_7 rfl ?_
  refine lv_istore (lv' := [(5, .int (zI 0)), (4, .int (zI 0)), (3, .int (zI 0)), (2, .int (zI 0)), (0, .ref (α 0)), (1, .int (zI lv9))]) hx hb dL_areLinesSo_8 hl (by decide) rfl (fun ls hl => ?_)
  refine lv_iconst (v := zI 0) hx hb dL_areLinesSo_10 rfl ?_
  refine lv_istore (lv' := [(6, .int (zI 0)), (5, .int (zI 0)), (4, .int (zI 0)), (3, .int (zI 0)), (2, .int (zI 0)), (0, .ref (α 0)), (1, .int (zI lv9))]) hx hb dL_areLinesSo_11 hl (by decide) rfl (fun ls hl => ?_)
  refine lv_iconst (v := zI 1) hx hb dL_areLinesSo_13 rfl ?_
  refine lv_istore (lv' := [(7, .int (zI 1)), (6, .int (zI 0)), (5, .int (zI 0)), (4, .int (zI 0)), (3, .int (zI 0)), (2, .int (zI 0)), (0, .ref (α 0)), (1, .int (zI lv9))]) hx hb dL_areLinesSo_14 hl (by decide) rfl (fun ls hl => ?_)
  refine lv_iconst (v := zI 0) hx hb dL_areLinesSo_16 rfl ?_
  refine lv_istore (lv' := [(8, .int (zI 0)), (7, .int (zI 1)), (6, .int (zI 0)), (5, .int (zI 0)), (4, .int (zI 0)), (3, .int (zI 0)), (2, .int (zI 0)), (0, .ref (α 0)), (1, .int (zI lv9))]) hx hb dL_areLinesSo_17 hl (by decide) rfl (fun ls hl => ?_)
  suffices HL_19 : ∀ (n_19 : Nat), ∀ (hi8_l : BA) (fe_l : IA) (se_l : IA) (gn_l : BA) (fp_l : IA) (sp_l : IA) (np_l : Int) (tot_l : Int) (clo_l : Int) (lon_l : Int) (ed : Int) (br : Int) (pcs : Int) (ab : Int) (bk : Int) (i : Int) (H : Heap) (locs : List Loc) (hP : va_P D vwCl (wH α γ (h, old, ch) (wt, qu5) (hi8_l, fe_l, se_l, gn_l, fp_l, sp_l, np_l, tot_l, clo_l, lon_l) sl pd ct sg od hs) H) (hD : va_D A (wH α γ (h, old, ch) (wt, qu5) (hi8_l, fe_l, se_l, gn_l, fp_l, sp_l, np_l, tot_l, clo_l, lon_l) sl pd ct sg od hs)) (hS : va_S A s.heap H locs) (ls : Array Slot) (hl : lv_has ls 11 [(2, .int (zI ed)), (3, .int (zI br)), (4, .int (zI pcs)), (5, .int (zI ab)), (6, .int (zI bk)), (8, .int (zI i)), (7, .int (zI 1)), (0, .ref (α 0)), (1, .int (zI lv9))]) (hi : 0 ≤ i ∧ i ≤ 49) (hed : ed = zS (crP (S_hi h lv9)) i) (hbr : br = zS (bdP (S_hi h lv9)) i) (hpc : pcs = zS (pcP h lv9) i) (hab : ab = zC (S_hi h lv9) i) (hbk : bk = zS (fun k => if lv9 < h k then h k - lv9 else 0) i) (hb1 : 0 ≤ ed ∧ ed ≤ 2 * i) (hb2 : 0 ≤ br ∧ br ≤ 2 * i) (hb3 : 0 ≤ pcs ∧ pcs ≤ 2 * i) (hb4 : 0 ≤ ab ∧ ab ≤ i) (hb5 : 0 ≤ bk ∧ bk ≤ 99 * i) (hm : (49 - i).toNat < n_19), W pg l e rm_L_areLinesSo s m args below meth c H locs 0 0 Q (F0 m 19 ls []) from HL_19 _ hi8 fe se gn fp sp np tot clo lon 0 0 0 0 0 0 _ _ hP hD hS _ (lv_sub hl [6, 5, 4, 3, 2, 0, 1, 7, 8] rfl) (by first | assumption | rfl | omega) (by exact (zS_0 _).symm) (by exact (zS_0 _).symm) (by exact (zS_0 _).symm) (by exact (zC_0 _).symm) (by exact (zS_0 _).symm) (by first | assumption | rfl | omega) (by first | assumption | rfl | omega) (by first | assumption | rfl | omega) (by first | assumption | rfl | omega) (by first | assumption | rfl | omega) (Nat.lt_succ_self _)
  intro n_19
  induction n_19 with
  | zero => intro hi8_l fe_l se_l gn_l fp_l sp_l np_l tot_l clo_l lon_l ed br pcs ab bk i H locs hP hD hS ls hl hi hed hbr hpc hab hbk hb1 hb2 hb3 hb4 hb5 hm; exact absurd hm (Nat.not_lt_zero _)
  | succ n_19 ih_19 =>
    intro hi8_l fe_l se_l gn_l fp_l sp_l np_l tot_l clo_l lon_l ed br pcs ab bk i H locs hP hD hS ls hl hi hed hbr hpc hab hbk hb1 hb2 hb3 hb4 hb5 hm
    refine lv_iload hx hb dL_areLinesSo_19 (lv_at hl 5 rfl) ?_
    refine lv_bipush (v := zI 49) hx hb dL_areLinesSo_21 (zI_b8 (by decide)) ?_
    refine z_icge (tgt := 266) hx hb ⟨by omega, by omega⟩ ⟨by omega, by omega⟩ dL_areLinesSo_23 (by decide) (fun c_23 => ?_) (fun c_23 => ?_)
    · have i49 : i = 49 := by omega
      have hed9 : ed = S_ncross (S_hi h lv9) := by (rw [hed, i49]; exact cr_all _)
      have hbr9 : br = S_brd (S_hi h lv9) := by (rw [hbr, i49]; exact bd_all _)
      have hpc9 : pcs = zC (S_pe (S_hi h lv9)) 72 := by (rw [hpc, i49]; exact pc_all h lv9)
      have hab8 : ab = zC (S_hi h lv9) 49 := by (rw [hab, i49])
      have hbk8 : bk = S_sab h lv9 := by (rw [hbk, i49]; rfl)
      have hA1 := q_pieces (S_hi h lv9)
      have hA2 := q_closed (S_hi h lv9)
      have hA3 := q_long (S_hi h lv9)
      have hA4 := q_flat (S_hi h lv9)
      have hA5 := Euler (S_hi h lv9)
      have hA6 := brd_nn (S_hi h lv9)
      have hA7 := nl_b (S_hi h lv9)
      have hA8 := hA3.2.1
      have hA9 := hA3.2.2.1
      have hA10 := hA3.1
      have hA11 := hA3.2.2.2
      refine lv_aload_n hx hb dL_areLinesSo_266 rfl (lv_at hl 7 rfl) ?_
      refine lv_iload_n hx hb dL_areLinesSo_267 rfl (lv_at hl 8 rfl) ?_
      refine z_calli hP hD hS hA (va_runV (As := [.int (zI lv9)]) (rest := []) hC (c_X9_linesByTracing l D τ α γ h old ch (wt, qu5) hi8_l fe_l se_l gn_l fp_l sp_l np_l tot_l clo_l lon_l sl pd ct sg od hs lv9 (by first | assumption | rfl | omega) (by first | assumption | rfl | omega) _) (cwV 1 hts (gV hB wl_L_68 wn_X9_linesByTracing ws_X9_linesByTracing wi_X9 wc_X9_linesByTracing) rfl rfl rfl hd_X9_linesByTracing ⟨Nat.le_of_ble_eq_true rfl, Nat.le_of_ble_eq_true rfl⟩) (zp_V hK hP hD hS hA hG (ci := 9) (q0 := 0) rfl rfl rfl) rfl rfl hl.1 rfl (lv_room (Nat.le_of_ble_eq_true rfl)) dL_areLinesSo_268 ⟨Nat.le_of_ble_eq_true rfl, Nat.le_of_ble_eq_true rfl⟩) (fun r w1 H locs hq9 hP hD hS => ?_)
      obtain ⟨m268_1, f268_2, s268_3, p268_4, q268_5, n268_6, gn268_7, t268_8, c268_9, l268_10, v268_11, hv268_0, hv268_1, rfl, rfl⟩ := hq9
      try simp only [e7] at hv268_0
      try simp only [e7] at hv268_1
      have hP : va_P D vwCl (wH α γ (h, old, ch) (wt, qu5) (m268_1, f268_2, s268_3, gn268_7, p268_4, q268_5, n268_6, t268_8, c268_9, l268_10) sl pd ct sg od hs) H := hP
      have hD : va_D A (wH α γ (h, old, ch) (wt, qu5) (m268_1, f268_2, s268_3, gn268_7, p268_4, q268_5, n268_6, t268_8, c268_9, l268_10) sl pd ct sg od hs) := hD
      rw [← hv268_1] at hA2 hA4 hA5 hA7 hA8 hA9
      refine lv_istore (lv' := [(8, .int (zI v268_11)), (2, .int (zI ed)), (3, .int (zI br)), (4, .int (zI pcs)), (5, .int (zI ab)), (6, .int (zI bk)), (7, .int (zI 1)), (0, .ref (α 0)), (1, .int (zI lv9))]) hx hb dL_areLinesSo_271 hl (by decide) rfl (fun ls hl => ?_)
      refine lv_iload hx hb dL_areLinesSo_273 (lv_at hl 6 rfl) ?_
      refine z_ifeq (tgt := 332) hx hb ⟨by omega, by omega⟩ dL_areLinesSo_275 (by decide) (fun c_275 => ?_) (fun c_275 => ?_)
      · exact absurd c_275 (by decide)
      · refine lv_aload_n hx hb dL_areLinesSo_278 rfl (lv_at hl 7 rfl) ?_
        refine lv_iload_n hx hb dL_areLinesSo_279 rfl (lv_at hl 8 rfl) ?_
        refine z_calli hP hD hS hA (va_runV (As := [.int (zI lv9)]) (rest := []) hC (c_X9_crossingsByEdges l D τ α γ h old ch (wt, qu5) (m268_1, f268_2, s268_3, gn268_7, p268_4, q268_5, n268_6, t268_8, c268_9, l268_10) sl pd ct sg od hs lv9 (by first | assumption | rfl | omega) (by first | assumption | rfl | omega) _) (cwV 1 hts (gV hB wl_L_65 wn_X9_crossingsByEdges ws_X9_crossingsByEdges wi_X9 wc_X9_crossingsByEdges) rfl rfl rfl hd_X9_crossingsByEdges ⟨Nat.le_of_ble_eq_true rfl, Nat.le_of_ble_eq_true rfl⟩) (zp_V hK hP hD hS hA hG (ci := 9) (q0 := 0) rfl rfl rfl) rfl rfl hl.1 rfl (lv_room (Nat.le_of_ble_eq_true rfl)) dL_areLinesSo_280 ⟨Nat.le_of_ble_eq_true rfl, Nat.le_of_ble_eq_true rfl⟩) (fun r w1 H locs hq9 hP hD hS => ?_)
        obtain ⟨v280_12, hv280_0, hv280_1, hv280_2, rfl, rfl⟩ := hq9
        try simp only [e7] at hv280_0
        try simp only [e7] at hv280_1
        try simp only [e7] at hv280_2
        have hP : va_P D vwCl (wH α γ (h, old, ch) (wt, qu5) (m268_1, f268_2, s268_3, gn268_7, p268_4, q268_5, n268_6, t268_8, c268_9, l268_10) sl pd ct sg od hs) H := hP
        have hD : va_D A (wH α γ (h, old, ch) (wt, qu5) (m268_1, f268_2, s268_3, gn268_7, p268_4, q268_5, n268_6, t268_8, c268_9, l268_10) sl pd ct sg od hs) := hD
        refine lv_iload_n hx hb dL_areLinesSo_283 rfl (lv_at hl 1 rfl) ?_
        refine z_icne (tgt := 332) hx hb ⟨by omega, by omega⟩ ⟨by omega, by omega⟩ dL_areLinesSo_284 (by decide) (fun c_284 => ?_) (fun c_284 => ?_)
        · exfalso; omega
        · refine lv_aload_n hx hb dL_areLinesSo_287 rfl (lv_at hl 7 rfl) ?_
          refine lv_iload_n hx hb dL_areLinesSo_288 rfl (lv_at hl 8 rfl) ?_
          refine z_calli hP hD hS hA (va_runV (As := [.int (zI lv9)]) (rest := []) hC (c_X9_crossingsByPieces l D τ α γ h old ch (wt, qu5) m268_1 f268_2 s268_3 gn268_7 p268_4 q268_5 n268_6 t268_8 c268_9 l268_10 sl pd ct sg od hs lv9 (by first | assumption | rfl | omega) (by first | assumption | rfl | omega) _) (cwV 1 hts (gV hB wl_L_77 wn_X9_crossingsByPieces ws_X9_crossingsByPieces wi_X9 wc_X9_crossingsByPieces) rfl rfl rfl hd_X9_crossingsByPieces ⟨Nat.le_of_ble_eq_true rfl, Nat.le_of_ble_eq_true rfl⟩) (zp_V hK hP hD hS hA hG (ci := 9) (q0 := 0) rfl rfl rfl) rfl rfl hl.1 rfl (lv_room (Nat.le_of_ble_eq_true rfl)) dL_areLinesSo_289 ⟨Nat.le_of_ble_eq_true rfl, Nat.le_of_ble_eq_true rfl⟩) (fun r w1 H locs hq9 hP hD hS => ?_)
          obtain ⟨m289_13, f289_14, s289_15, p289_16, q289_17, n289_18, v289_19, hv289_0, hv289_1, rfl, rfl⟩ := hq9
          try simp only [e7] at hv289_0
          try simp only [e7] at hv289_1
          have hP : va_P D vwCl (wH α γ (h, old, ch) (wt, qu5) (m289_13, f289_14, s289_15, gn268_7, p289_16, q289_17, n289_18, t268_8, c268_9, l268_10) sl pd ct sg od hs) H := hP
          have hD : va_D A (wH α γ (h, old, ch) (wt, qu5) (m289_13, f289_14, s289_15, gn268_7, p289_16, q289_17, n289_18, t268_8, c268_9, l268_10) sl pd ct sg od hs) := hD
          refine lv_iload_n hx hb dL_areLinesSo_292 rfl (lv_at hl 1 rfl) ?_
          refine z_icne (tgt := 332) hx hb ⟨by omega, by omega⟩ ⟨by omega, by omega⟩ dL_areLinesSo_293 (by decide) (fun c_293 => ?_) (fun c_293 => ?_)
          · exfalso; omega
          · refine lv_iconst (v := zI 2) hx hb dL_areLinesSo_296 rfl ?_
            refine lv_iload hx hb dL_areLinesSo_297 (lv_at hl 3 rfl) ?_
            refine z_imul hx hb dL_areLinesSo_299 ?_
            refine lv_iload_n hx hb dL_areLinesSo_300 rfl (lv_at hl 2 rfl) ?_
            refine z_iadd hx hb dL_areLinesSo_301 ?_
            refine lv_iconst (v := zI 2) hx hb dL_areLinesSo_302 rfl ?_
            refine lv_iload_n hx hb dL_areLinesSo_303 rfl (lv_at hl 1 rfl) ?_
            refine z_imul hx hb dL_areLinesSo_304 ?_
            refine z_icne (tgt := 332) hx hb ⟨by omega, by omega⟩ ⟨by omega, by omega⟩ dL_areLinesSo_305 (by decide) (fun c_305 => ?_) (fun c_305 => ?_)
            · exfalso; omega
            · refine lv_aload_n hx hb dL_areLinesSo_308 rfl (lv_at hl 7 rfl) ?_
              refine lv_iload_n hx hb dL_areLinesSo_309 rfl (lv_at hl 8 rfl) ?_
              refine z_calli hP hD hS hA (va_runV (As := [.int (zI lv9)]) (rest := []) hC (c_X9_pointsAbove l D τ α γ h old ch (wt, qu5) (m289_13, f289_14, s289_15, gn268_7, p289_16, q289_17, n289_18, t268_8, c268_9, l268_10) sl pd ct sg od hs lv9 (by first | assumption | rfl | omega) (by first | assumption | rfl | omega) _) (cwV 1 hts (gV hB wl_L_80 wn_X9_pointsAbove ws_X9_pointsAbove wi_X9 wc_X9_pointsAbove) rfl rfl rfl hd_X9_pointsAbove ⟨Nat.le_of_ble_eq_true rfl, Nat.le_of_ble_eq_true rfl⟩) (zp_V hK hP hD hS hA hG (ci := 9) (q0 := 0) rfl rfl rfl) rfl rfl hl.1 rfl (lv_room (Nat.le_of_ble_eq_true rfl)) dL_areLinesSo_310 ⟨Nat.le_of_ble_eq_true rfl, Nat.le_of_ble_eq_true rfl⟩) (fun r w1 H locs hq9 hP hD hS => ?_)
              obtain ⟨v310_20, hv310_0, hv310_1, hv310_2, rfl, rfl⟩ := hq9
              try simp only [e7] at hv310_0
              try simp only [e7] at hv310_1
              try simp only [e7] at hv310_2
              have hP : va_P D vwCl (wH α γ (h, old, ch) (wt, qu5) (m289_13, f289_14, s289_15, gn268_7, p289_16, q289_17, n289_18, t268_8, c268_9, l268_10) sl pd ct sg od hs) H := hP
              have hD : va_D A (wH α γ (h, old, ch) (wt, qu5) (m289_13, f289_14, s289_15, gn268_7, p289_16, q289_17, n289_18, t268_8, c268_9, l268_10) sl pd ct sg od hs) := hD
              refine lv_iload hx hb dL_areLinesSo_313 (lv_at hl 4 rfl) ?_
              refine z_icne (tgt := 332) hx hb ⟨by omega, by omega⟩ ⟨by omega, by omega⟩ dL_areLinesSo_315 (by decide) (fun c_315 => ?_) (fun c_315 => ?_)
              · exfalso; omega
              · refine lv_aload_n hx hb dL_areLinesSo_318 rfl (lv_at hl 7 rfl) ?_
                refine lv_iload_n hx hb dL_areLinesSo_319 rfl (lv_at hl 8 rfl) ?_
                refine z_calli hP hD hS hA (va_runV (As := [.int (zI lv9)]) (rest := []) hC (c_X9_bulkAbove l D τ α γ h old ch (wt, qu5) (m289_13, f289_14, s289_15, gn268_7, p289_16, q289_17, n289_18, t268_8, c268_9, l268_10) sl pd ct sg od hs lv9 (by first | assumption | rfl | omega) (by first | assumption | rfl | omega) _) (cwV 1 hts (gV hB wl_L_83 wn_X9_bulkAbove ws_X9_bulkAbove wi_X9 wc_X9_bulkAbove) rfl rfl rfl hd_X9_bulkAbove ⟨Nat.le_of_ble_eq_true rfl, Nat.le_of_ble_eq_true rfl⟩) (zp_V hK hP hD hS hA hG (ci := 9) (q0 := 0) rfl rfl rfl) rfl rfl hl.1 rfl (lv_room (Nat.le_of_ble_eq_true rfl)) dL_areLinesSo_320 ⟨Nat.le_of_ble_eq_true rfl, Nat.le_of_ble_eq_true rfl⟩) (fun r w1 H locs hq9 hP hD hS => ?_)
                obtain ⟨v320_21, hv320_0, hv320_1, hv320_2, rfl, rfl⟩ := hq9
                try simp only [e7] at hv320_0
                try simp only [e7] at hv320_1
                try simp only [e7] at hv320_2
                have hP : va_P D vwCl (wH α γ (h, old, ch) (wt, qu5) (m289_13, f289_14, s289_15, gn268_7, p289_16, q289_17, n289_18, t268_8, c268_9, l268_10) sl pd ct sg od hs) H := hP
                have hD : va_D A (wH α γ (h, old, ch) (wt, qu5) (m289_13, f289_14, s289_15, gn268_7, p289_16, q289_17, n289_18, t268_8, c268_9, l268_10) sl pd ct sg od hs) := hD
                refine lv_iload hx hb dL_areLinesSo_323 (lv_at hl 5 rfl) ?_
                refine z_icne (tgt := 332) hx hb ⟨by omega, by omega⟩ ⟨by omega, by omega⟩ dL_areLinesSo_325 (by decide) (fun c_325 => ?_) (fun c_325 => ?_)
                · exfalso; omega
                · refine lv_iconst (v := zI 1) hx hb dL_areLinesSo_328 rfl ?_
                  refine lv_goto (tgt := 333) hx hb dL_areLinesSo_329 (by decide) ?_
                  refine lv_istore (lv' := [(7, .int (zI 1)), (8, .int (zI v268_11)), (2, .int (zI ed)), (3, .int (zI br)), (4, .int (zI pcs)), (5, .int (zI ab)), (6, .int (zI bk)), (0, .ref (α 0)), (1, .int (zI lv9))]) hx hb dL_areLinesSo_333 hl (by decide) rfl (fun ls hl => ?_)
                  refine lv_iload hx hb dL_areLinesSo_335 (lv_at hl 0 rfl) ?_
                  refine z_ifeq (tgt := 386) hx hb ⟨by omega, by omega⟩ dL_areLinesSo_337 (by decide) (fun c_337 => ?_) (fun c_337 => ?_)
                  · exact absurd c_337 (by decide)
                  · refine lv_aload_n hx hb dL_areLinesSo_340 rfl (lv_at hl 7 rfl) ?_
                    refine lv_iload_n hx hb dL_areLinesSo_341 rfl (lv_at hl 8 rfl) ?_
                    refine z_calli hP hD hS hA (va_runV (As := [.int (zI lv9)]) (rest := []) hC (c_X9_linesByRegions l D τ α γ h old ch wt qu5 (m289_13, f289_14, s289_15, gn268_7, p289_16, q289_17, n289_18, t268_8, c268_9, l268_10) sl pd ct sg od hs lv9 (by first | assumption | rfl | omega) (by first | assumption | rfl | omega) _) (cwV 1 hts (gV hB wl_L_86 wn_X9_linesByRegions ws_X9_linesByRegions wi_X9 wc_X9_linesByRegions) rfl rfl rfl hd_X9_linesByRegions ⟨Nat.le_of_ble_eq_true rfl, Nat.le_of_ble_eq_true rfl⟩) (zp_V hK hP hD hS hA hG (ci := 9) (q0 := 0) rfl rfl rfl) rfl rfl hl.1 rfl (lv_room (Nat.le_of_ble_eq_true rfl)) dL_areLinesSo_342 ⟨Nat.le_of_ble_eq_true rfl, Nat.le_of_ble_eq_true rfl⟩) (fun r w1 H locs hq9 hP hD hS => ?_)
                    obtain ⟨w342_22, q342_23, v342_24, hv342_0, hv342_1, rfl, rfl⟩ := hq9
                    try simp only [e7] at hv342_0
                    try simp only [e7] at hv342_1
                    have hP : va_P D vwCl (wH α γ (h, old, ch) (w342_22, q342_23) (m289_13, f289_14, s289_15, gn268_7, p289_16, q289_17, n289_18, t268_8, c268_9, l268_10) sl pd ct sg od hs) H := hP
                    have hD : va_D A (wH α γ (h, old, ch) (w342_22, q342_23) (m289_13, f289_14, s289_15, gn268_7, p289_16, q289_17, n289_18, t268_8, c268_9, l268_10) sl pd ct sg od hs) := hD
                    refine lv_iload hx hb dL_areLinesSo_345 (lv_at hl 1 rfl) ?_
                    refine z_icne (tgt := 386) hx hb ⟨by omega, by omega⟩ ⟨by omega, by omega⟩ dL_areLinesSo_347 (by decide) (fun c_347 => ?_) (fun c_347 => ?_)
                    · exfalso; omega
                    · refine lv_aload_n hx hb dL_areLinesSo_350 rfl (lv_at hl 7 rfl) ?_
                      refine lv_iload_n hx hb dL_areLinesSo_351 rfl (lv_at hl 8 rfl) ?_
                      refine z_calli hP hD hS hA (va_runV (As := [.int (zI lv9)]) (rest := []) hC (c_X9_hills l D τ α γ h old ch w342_22 q342_23 (m289_13, f289_14, s289_15, gn268_7, p289_16, q289_17, n289_18, t268_8, c268_9, l268_10) sl pd ct sg od hs lv9 (by first | assumption | rfl | omega) (by first | assumption | rfl | omega) _) (cwV 1 hts (gV hB wl_L_89 wn_X9_hills ws_X9_hills wi_X9 wc_X9_hills) rfl rfl rfl hd_X9_hills ⟨Nat.le_of_ble_eq_true rfl, Nat.le_of_ble_eq_true rfl⟩) (zp_V hK hP hD hS hA hG (ci := 9) (q0 := 0) rfl rfl rfl) rfl rfl hl.1 rfl (lv_room (Nat.le_of_ble_eq_true rfl)) dL_areLinesSo_352 ⟨Nat.le_of_ble_eq_true rfl, Nat.le_of_ble_eq_true rfl⟩) (fun r w1 H locs hq9 hP hD hS => ?_)
                      obtain ⟨w352_25, q352_26, v352_27, hv352_0, hv352_1, rfl, rfl⟩ := hq9
                      try simp only [e7] at hv352_0
                      try simp only [e7] at hv352_1
                      have hP : va_P D vwCl (wH α γ (h, old, ch) (w352_25, q352_26) (m289_13, f289_14, s289_15, gn268_7, p289_16, q289_17, n289_18, t268_8, c268_9, l268_10) sl pd ct sg od hs) H := hP
                      have hD : va_D A (wH α γ (h, old, ch) (w352_25, q352_26) (m289_13, f289_14, s289_15, gn268_7, p289_16, q289_17, n289_18, t268_8, c268_9, l268_10) sl pd ct sg od hs) := hD
                      have b352 := S_comps_b 4 (S_hi h lv9)
                      refine lv_aload_n hx hb dL_areLinesSo_355 rfl (lv_at hl 7 rfl) ?_
                      refine lv_iload_n hx hb dL_areLinesSo_356 rfl (lv_at hl 8 rfl) ?_
                      refine z_calli hP hD hS hA (va_runV (As := [.int (zI lv9)]) (rest := [.int (zI v352_27)]) hC (c_X9_hollows l D τ α γ h old ch w352_25 q352_26 (m289_13, f289_14, s289_15, gn268_7, p289_16, q289_17, n289_18, t268_8, c268_9, l268_10) sl pd ct sg od hs lv9 (by first | assumption | rfl | omega) (by first | assumption | rfl | omega) _) (cwV 1 hts (gV hB wl_L_92 wn_X9_hollows ws_X9_hollows wi_X9 wc_X9_hollows) rfl rfl rfl hd_X9_hollows ⟨Nat.le_of_ble_eq_true rfl, Nat.le_of_ble_eq_true rfl⟩) (zp_V hK hP hD hS hA hG (ci := 9) (q0 := 0) rfl rfl rfl) rfl rfl hl.1 rfl (lv_room (Nat.le_of_ble_eq_true rfl)) dL_areLinesSo_357 ⟨Nat.le_of_ble_eq_true rfl, Nat.le_of_ble_eq_true rfl⟩) (fun r w1 H locs hq9 hP hD hS => ?_)
                      obtain ⟨w357_28, q357_29, v357_30, hv357_0, hv357_1, rfl, rfl⟩ := hq9
                      try simp only [e7] at hv357_0
                      try simp only [e7] at hv357_1
                      have hP : va_P D vwCl (wH α γ (h, old, ch) (w357_28, q357_29) (m289_13, f289_14, s289_15, gn268_7, p289_16, q289_17, n289_18, t268_8, c268_9, l268_10) sl pd ct sg od hs) H := hP
                      have hD : va_D A (wH α γ (h, old, ch) (w357_28, q357_29) (m289_13, f289_14, s289_15, gn268_7, p289_16, q289_17, n289_18, t268_8, c268_9, l268_10) sl pd ct sg od hs) := hD
                      have b357 := S_comps_b 8 (fun k => !S_hi h lv9 k)
                      refine z_iadd hx hb dL_areLinesSo_360 ?_
                      refine lv_iload hx hb dL_areLinesSo_361 (lv_at hl 1 rfl) ?_
                      refine lv_iconst (v := zI 1) hx hb dL_areLinesSo_363 rfl ?_
                      refine z_iadd hx hb dL_areLinesSo_364 ?_
                      refine z_icne (tgt := 386) hx hb ⟨by omega, by omega⟩ ⟨by omega, by omega⟩ dL_areLinesSo_365 (by decide) (fun c_365 => ?_) (fun c_365 => ?_)
                      · exfalso; omega
                      · refine lv_aload_n hx hb dL_areLinesSo_368 rfl (lv_at hl 7 rfl) ?_
                        refine lv_iload_n hx hb dL_areLinesSo_369 rfl (lv_at hl 8 rfl) ?_
                        refine z_calli hP hD hS hA (va_runV (As := [.int (zI lv9)]) (rest := []) hC (c_X9_closedLines l D τ α γ h old ch (w357_28, q357_29) m289_13 f289_14 s289_15 gn268_7 p289_16 q289_17 n289_18 t268_8 c268_9 l268_10 sl pd ct sg od hs lv9 (by first | assumption | rfl | omega) (by first | assumption | rfl | omega) _) (cwV 1 hts (gV hB wl_L_95 wn_X9_closedLines ws_X9_closedLines wi_X9 wc_X9_closedLines) rfl rfl rfl hd_X9_closedLines ⟨Nat.le_of_ble_eq_true rfl, Nat.le_of_ble_eq_true rfl⟩) (zp_V hK hP hD hS hA hG (ci := 9) (q0 := 0) rfl rfl rfl) rfl rfl hl.1 rfl (lv_room (Nat.le_of_ble_eq_true rfl)) dL_areLinesSo_370 ⟨Nat.le_of_ble_eq_true rfl, Nat.le_of_ble_eq_true rfl⟩) (fun r w1 H locs hq9 hP hD hS => ?_)
                        obtain ⟨m370_31, f370_32, s370_33, p370_34, q370_35, n370_36, gn370_37, t370_38, c370_39, l370_40, v370_41, hv370_0, hv370_1, rfl, rfl⟩ := hq9
                        try simp only [e7] at hv370_0
                        try simp only [e7] at hv370_1
                        have hP : va_P D vwCl (wH α γ (h, old, ch) (w357_28, q357_29) (m370_31, f370_32, s370_33, gn370_37, p370_34, q370_35, n370_36, t370_38, c370_39, l370_40) sl pd ct sg od hs) H := hP
                        have hD : va_D A (wH α γ (h, old, ch) (w357_28, q357_29) (m370_31, f370_32, s370_33, gn370_37, p370_34, q370_35, n370_36, t370_38, c370_39, l370_40) sl pd ct sg od hs) := hD
                        refine lv_iload hx hb dL_areLinesSo_373 (lv_at hl 1 rfl) ?_
                        refine lv_iload_n hx hb dL_areLinesSo_375 rfl (lv_at hl 3 rfl) ?_
                        refine lv_iconst (v := zI 2) hx hb dL_areLinesSo_376 rfl ?_
                        refine z_idiv hx hb ⟨⟨by omega, by omega⟩, by omega, by omega⟩ dL_areLinesSo_377 ?_
                        refine z_isub hx hb dL_areLinesSo_378 ?_
                        refine z_icne (tgt := 386) hx hb ⟨by omega, by omega⟩ ⟨by omega, by omega⟩ dL_areLinesSo_379 (by decide) (fun c_379 => ?_) (fun c_379 => ?_)
                        · exfalso; omega
                        · refine lv_iconst (v := zI 1) hx hb dL_areLinesSo_382 rfl ?_
                          refine lv_goto (tgt := 387) hx hb dL_areLinesSo_383 (by decide) ?_
                          refine lv_istore (lv' := [(7, .int (zI 1)), (8, .int (zI v268_11)), (2, .int (zI ed)), (3, .int (zI br)), (4, .int (zI pcs)), (5, .int (zI ab)), (6, .int (zI bk)), (0, .ref (α 0)), (1, .int (zI lv9))]) hx hb dL_areLinesSo_387 hl (by decide) rfl (fun ls hl => ?_)
                          refine lv_iload hx hb dL_areLinesSo_389 (lv_at hl 0 rfl) ?_
                          refine z_ifeq (tgt := 477) hx hb ⟨by omega, by omega⟩ dL_areLinesSo_391 (by decide) (fun c_391 => ?_) (fun c_391 => ?_)
                          · exact absurd c_391 (by decide)
                          · refine lv_aload_n hx hb dL_areLinesSo_394 rfl (lv_at hl 7 rfl) ?_
                            refine lv_iload_n hx hb dL_areLinesSo_395 rfl (lv_at hl 8 rfl) ?_
                            refine z_calli hP hD hS hA (va_runV (As := [.int (zI lv9)]) (rest := []) hC (c_X9_longestLine l D τ α γ h old ch (w357_28, q357_29) m370_31 f370_32 s370_33 gn370_37 p370_34 q370_35 n370_36 t370_38 c370_39 l370_40 sl pd ct sg od hs lv9 (by first | assumption | rfl | omega) (by first | assumption | rfl | omega) _) (cwV 1 hts (gV hB wl_L_98 wn_X9_longestLine ws_X9_longestLine wi_X9 wc_X9_longestLine) rfl rfl rfl hd_X9_longestLine ⟨Nat.le_of_ble_eq_true rfl, Nat.le_of_ble_eq_true rfl⟩) (zp_V hK hP hD hS hA hG (ci := 9) (q0 := 0) rfl rfl rfl) rfl rfl hl.1 rfl (lv_room (Nat.le_of_ble_eq_true rfl)) dL_areLinesSo_396 ⟨Nat.le_of_ble_eq_true rfl, Nat.le_of_ble_eq_true rfl⟩) (fun r w1 H locs hq9 hP hD hS => ?_)
                            obtain ⟨m396_42, f396_43, s396_44, p396_45, q396_46, n396_47, gn396_48, t396_49, c396_50, l396_51, v396_52, hv396_0, hv396_1, rfl, rfl⟩ := hq9
                            try simp only [e7] at hv396_0
                            try simp only [e7] at hv396_1
                            have hP : va_P D vwCl (wH α γ (h, old, ch) (w357_28, q357_29) (m396_42, f396_43, s396_44, gn396_48, p396_45, q396_46, n396_47, t396_49, c396_50, l396_51) sl pd ct sg od hs) H := hP
                            have hD : va_D A (wH α γ (h, old, ch) (w357_28, q357_29) (m396_42, f396_43, s396_44, gn396_48, p396_45, q396_46, n396_47, t396_49, c396_50, l396_51) sl pd ct sg od hs) := hD
                            refine lv_iload hx hb dL_areLinesSo_399 (lv_at hl 4 rfl) ?_
                            refine z_icgt (tgt := 477) hx hb ⟨by omega, by omega⟩ ⟨by omega, by omega⟩ dL_areLinesSo_401 (by decide) (fun c_401 => ?_) (fun c_401 => ?_)
                            · exfalso; omega
                            · refine lv_aload_n hx hb dL_areLinesSo_404 rfl (lv_at hl 7 rfl) ?_
                              refine lv_iload_n hx hb dL_areLinesSo_405 rfl (lv_at hl 8 rfl) ?_
                              refine z_calli hP hD hS hA (va_runV (As := [.int (zI lv9)]) (rest := []) hC (c_X9_longestLine l D τ α γ h old ch (w357_28, q357_29) m396_42 f396_43 s396_44 gn396_48 p396_45 q396_46 n396_47 t396_49 c396_50 l396_51 sl pd ct sg od hs lv9 (by first | assumption | rfl | omega) (by first | assumption | rfl | omega) _) (cwV 1 hts (gV hB wl_L_98 wn_X9_longestLine ws_X9_longestLine wi_X9 wc_X9_longestLine) rfl rfl rfl hd_X9_longestLine ⟨Nat.le_of_ble_eq_true rfl, Nat.le_of_ble_eq_true rfl⟩) (zp_V hK hP hD hS hA hG (ci := 9) (q0 := 0) rfl rfl rfl) rfl rfl hl.1 rfl (lv_room (Nat.le_of_ble_eq_true rfl)) dL_areLinesSo_406 ⟨Nat.le_of_ble_eq_true rfl, Nat.le_of_ble_eq_true rfl⟩) (fun r w1 H locs hq9 hP hD hS => ?_)
                              obtain ⟨m406_53, f406_54, s406_55, p406_56, q406_57, n406_58, gn406_59, t406_60, c406_61, l406_62, v406_63, hv406_0, hv406_1, rfl, rfl⟩ := hq9
                              try simp only [e7] at hv406_0
                              try simp only [e7] at hv406_1
                              have hP : va_P D vwCl (wH α γ (h, old, ch) (w357_28, q357_29) (m406_53, f406_54, s406_55, gn406_59, p406_56, q406_57, n406_58, t406_60, c406_61, l406_62) sl pd ct sg od hs) H := hP
                              have hD : va_D A (wH α γ (h, old, ch) (w357_28, q357_29) (m406_53, f406_54, s406_55, gn406_59, p406_56, q406_57, n406_58, t406_60, c406_61, l406_62) sl pd ct sg od hs) := hD
                              refine z_ifne (tgt := 416) hx hb ⟨by omega, by omega⟩ dL_areLinesSo_409 (by decide) (fun c_409 => ?_) (fun c_409 => ?_)
                              · refine lv_iconst (v := zI 0) hx hb dL_areLinesSo_416 rfl ?_
                                refine lv_iload hx hb dL_areLinesSo_417 (lv_at hl 1 rfl) ?_
                                refine z_ifne (tgt := 426) hx hb ⟨by omega, by omega⟩ dL_areLinesSo_419 (by decide) (fun c_419 => ?_) (fun c_419 => ?_)
                                · refine lv_iconst (v := zI 0) hx hb dL_areLinesSo_426 rfl ?_
                                  refine z_icne (tgt := 477) hx hb ⟨by omega, by omega⟩ ⟨by omega, by omega⟩ dL_areLinesSo_427 (by decide) (fun c_427 => ?_) (fun c_427 => ?_)
                                  · exact absurd c_427 (by decide)
                                  · refine lv_aload_n hx hb dL_areLinesSo_430 rfl (lv_at hl 7 rfl) ?_
                                    refine lv_iload_n hx hb dL_areLinesSo_431 rfl (lv_at hl 8 rfl) ?_
                                    refine z_calli hP hD hS hA (va_runV (As := [.int (zI lv9)]) (rest := []) hC (c_X9_longestLine l D τ α γ h old ch (w357_28, q357_29) m406_53 f406_54 s406_55 gn406_59 p406_56 q406_57 n406_58 t406_60 c406_61 l406_62 sl pd ct sg od hs lv9 (by first | assumption | rfl | omega) (by first | assumption | rfl | omega) _) (cwV 1 hts (gV hB wl_L_98 wn_X9_longestLine ws_X9_longestLine wi_X9 wc_X9_longestLine) rfl rfl rfl hd_X9_longestLine ⟨Nat.le_of_ble_eq_true rfl, Nat.le_of_ble_eq_true rfl⟩) (zp_V hK hP hD hS hA hG (ci := 9) (q0 := 0) rfl rfl rfl) rfl rfl hl.1 rfl (lv_room (Nat.le_of_ble_eq_true rfl)) dL_areLinesSo_432 ⟨Nat.le_of_ble_eq_true rfl, Nat.le_of_ble_eq_true rfl⟩) (fun r w1 H locs hq9 hP hD hS => ?_)
                                    obtain ⟨m432_64, f432_65, s432_66, p432_67, q432_68, n432_69, gn432_70, t432_71, c432_72, l432_73, v432_74, hv432_0, hv432_1, rfl, rfl⟩ := hq9
                                    try simp only [e7] at hv432_0
                                    try simp only [e7] at hv432_1
                                    have hP : va_P D vwCl (wH α γ (h, old, ch) (w357_28, q357_29) (m432_64, f432_65, s432_66, gn432_70, p432_67, q432_68, n432_69, t432_71, c432_72, l432_73) sl pd ct sg od hs) H := hP
                                    have hD : va_D A (wH α γ (h, old, ch) (w357_28, q357_29) (m432_64, f432_65, s432_66, gn432_70, p432_67, q432_68, n432_69, t432_71, c432_72, l432_73) sl pd ct sg od hs) := hD
                                    rw [← hv432_1, ← hpc9] at hA9
                                    have b432 : 0 ≤ v432_74 * v268_11 ∧ v432_74 * v268_11 ≤ 98 * 84 := zmul_b (by omega) (by omega)
                                    refine lv_iload hx hb dL_areLinesSo_435 (lv_at hl 1 rfl) ?_
                                    refine z_imul hx hb dL_areLinesSo_437 ?_
                                    refine lv_iload hx hb dL_areLinesSo_438 (lv_at hl 4 rfl) ?_
                                    refine z_iclt (tgt := 477) hx hb ⟨by omega, by omega⟩ ⟨by omega, by omega⟩ dL_areLinesSo_440 (by decide) (fun c_440 => ?_) (fun c_440 => ?_)
                                    · exfalso; omega
                                    · refine lv_iload hx hb dL_areLinesSo_443 (lv_at hl 1 rfl) ?_
                                      refine z_ifne (tgt := 452) hx hb ⟨by omega, by omega⟩ dL_areLinesSo_445 (by decide) (fun c_445 => ?_) (fun c_445 => ?_)
                                      · refine lv_iconst (v := zI 0) hx hb dL_areLinesSo_452 rfl ?_
                                        refine lv_iload hx hb dL_areLinesSo_453 (lv_at hl 5 rfl) ?_
                                        refine z_ifeq (tgt := 465) hx hb ⟨by omega, by omega⟩ dL_areLinesSo_455 (by decide) (fun c_455 => ?_) (fun c_455 => ?_)
                                        · refine lv_iconst (v := zI 1) hx hb dL_areLinesSo_465 rfl ?_
                                          refine lv_goto (tgt := 470) hx hb dL_areLinesSo_466 (by decide) ?_
                                          refine z_icne (tgt := 477) hx hb ⟨by omega, by omega⟩ ⟨by omega, by omega⟩ dL_areLinesSo_470 (by decide) (fun c_470 => ?_) (fun c_470 => ?_)
                                          · exfalso; omega
                                          · exact absurd c_470 (by decide)
                                        · refine lv_iload hx hb dL_areLinesSo_458 (lv_at hl 5 rfl) ?_
                                          refine lv_bipush (v := zI 49) hx hb dL_areLinesSo_460 (zI_b8 (by decide)) ?_
                                          refine z_icne (tgt := 469) hx hb ⟨by omega, by omega⟩ ⟨by omega, by omega⟩ dL_areLinesSo_462 (by decide) (fun c_462 => ?_) (fun c_462 => ?_)
                                          · refine lv_iconst (v := zI 0) hx hb dL_areLinesSo_469 rfl ?_
                                            refine z_icne (tgt := 477) hx hb ⟨by omega, by omega⟩ ⟨by omega, by omega⟩ dL_areLinesSo_470 (by decide) (fun c_470 => ?_) (fun c_470 => ?_)
                                            · exact absurd c_470 (by decide)
                                            · refine lv_iconst (v := zI 1) hx hb dL_areLinesSo_473 rfl ?_
                                              refine lv_goto (tgt := 478) hx hb dL_areLinesSo_474 (by decide) ?_
                                              refine W.eq (g2 := F0 m 478 ls [.int (bI true)]) rfl ?_
                                              exact z_zret hC hr hlk hQ hP hD hS ⟨w357_28, q357_29, m432_64, f432_65, s432_66, gn432_70, p432_67, q432_68, n432_69, t432_71, c432_72, l432_73, true, (by rfl), rfl, rfl⟩ dL_areLinesSo_478
                                          · refine lv_iconst (v := zI 1) hx hb dL_areLinesSo_465 rfl ?_
                                            refine lv_goto (tgt := 470) hx hb dL_areLinesSo_466 (by decide) ?_
                                            refine z_icne (tgt := 477) hx hb ⟨by omega, by omega⟩ ⟨by omega, by omega⟩ dL_areLinesSo_470 (by decide) (fun c_470 => ?_) (fun c_470 => ?_)
                                            · exfalso; omega
                                            · exact absurd c_470 (by decide)
                                      · refine lv_iconst (v := zI 1) hx hb dL_areLinesSo_448 rfl ?_
                                        refine lv_goto (tgt := 453) hx hb dL_areLinesSo_449 (by decide) ?_
                                        refine lv_iload hx hb dL_areLinesSo_453 (lv_at hl 5 rfl) ?_
                                        refine z_ifeq (tgt := 465) hx hb ⟨by omega, by omega⟩ dL_areLinesSo_455 (by decide) (fun c_455 => ?_) (fun c_455 => ?_)
                                        · refine lv_iconst (v := zI 1) hx hb dL_areLinesSo_465 rfl ?_
                                          refine lv_goto (tgt := 470) hx hb dL_areLinesSo_466 (by decide) ?_
                                          refine z_icne (tgt := 477) hx hb ⟨by omega, by omega⟩ ⟨by omega, by omega⟩ dL_areLinesSo_470 (by decide) (fun c_470 => ?_) (fun c_470 => ?_)
                                          · exact absurd c_470 (by decide)
                                          · refine lv_iconst (v := zI 1) hx hb dL_areLinesSo_473 rfl ?_
                                            refine lv_goto (tgt := 478) hx hb dL_areLinesSo_474 (by decide) ?_
                                            refine W.eq (g2 := F0 m 478 ls [.int (bI true)]) rfl ?_
                                            exact z_zret hC hr hlk hQ hP hD hS ⟨w357_28, q357_29, m432_64, f432_65, s432_66, gn432_70, p432_67, q432_68, n432_69, t432_71, c432_72, l432_73, true, (by rfl), rfl, rfl⟩ dL_areLinesSo_478
                                        · refine lv_iload hx hb dL_areLinesSo_458 (lv_at hl 5 rfl) ?_
                                          refine lv_bipush (v := zI 49) hx hb dL_areLinesSo_460 (zI_b8 (by decide)) ?_
                                          refine z_icne (tgt := 469) hx hb ⟨by omega, by omega⟩ ⟨by omega, by omega⟩ dL_areLinesSo_462 (by decide) (fun c_462 => ?_) (fun c_462 => ?_)
                                          · refine lv_iconst (v := zI 0) hx hb dL_areLinesSo_469 rfl ?_
                                            refine z_icne (tgt := 477) hx hb ⟨by omega, by omega⟩ ⟨by omega, by omega⟩ dL_areLinesSo_470 (by decide) (fun c_470 => ?_) (fun c_470 => ?_)
                                            · exfalso; omega
                                            · exact absurd c_470 (by decide)
                                          · refine lv_iconst (v := zI 1) hx hb dL_areLinesSo_465 rfl ?_
                                            refine lv_goto (tgt := 470) hx hb dL_areLinesSo_466 (by decide) ?_
                                            refine z_icne (tgt := 477) hx hb ⟨by omega, by omega⟩ ⟨by omega, by omega⟩ dL_areLinesSo_470 (by decide) (fun c_470 => ?_) (fun c_470 => ?_)
                                            · exact absurd c_470 (by decide)
                                            · refine lv_iconst (v := zI 1) hx hb dL_areLinesSo_473 rfl ?_
                                              refine lv_goto (tgt := 478) hx hb dL_areLinesSo_474 (by decide) ?_
                                              refine W.eq (g2 := F0 m 478 ls [.int (bI true)]) rfl ?_
                                              exact z_zret hC hr hlk hQ hP hD hS ⟨w357_28, q357_29, m432_64, f432_65, s432_66, gn432_70, p432_67, q432_68, n432_69, t432_71, c432_72, l432_73, true, (by rfl), rfl, rfl⟩ dL_areLinesSo_478
                                · refine lv_iconst (v := zI 1) hx hb dL_areLinesSo_422 rfl ?_
                                  refine lv_goto (tgt := 427) hx hb dL_areLinesSo_423 (by decide) ?_
                                  refine z_icne (tgt := 477) hx hb ⟨by omega, by omega⟩ ⟨by omega, by omega⟩ dL_areLinesSo_427 (by decide) (fun c_427 => ?_) (fun c_427 => ?_)
                                  · exfalso; omega
                                  · exact absurd c_427 (by decide)
                              · refine lv_iconst (v := zI 1) hx hb dL_areLinesSo_412 rfl ?_
                                refine lv_goto (tgt := 417) hx hb dL_areLinesSo_413 (by decide) ?_
                                refine lv_iload hx hb dL_areLinesSo_417 (lv_at hl 1 rfl) ?_
                                refine z_ifne (tgt := 426) hx hb ⟨by omega, by omega⟩ dL_areLinesSo_419 (by decide) (fun c_419 => ?_) (fun c_419 => ?_)
                                · refine lv_iconst (v := zI 0) hx hb dL_areLinesSo_426 rfl ?_
                                  refine z_icne (tgt := 477) hx hb ⟨by omega, by omega⟩ ⟨by omega, by omega⟩ dL_areLinesSo_427 (by decide) (fun c_427 => ?_) (fun c_427 => ?_)
                                  · exfalso; omega
                                  · exact absurd c_427 (by decide)
                                · refine lv_iconst (v := zI 1) hx hb dL_areLinesSo_422 rfl ?_
                                  refine lv_goto (tgt := 427) hx hb dL_areLinesSo_423 (by decide) ?_
                                  refine z_icne (tgt := 477) hx hb ⟨by omega, by omega⟩ ⟨by omega, by omega⟩ dL_areLinesSo_427 (by decide) (fun c_427 => ?_) (fun c_427 => ?_)
                                  · exact absurd c_427 (by decide)
                                  · refine lv_aload_n hx hb dL_areLinesSo_430 rfl (lv_at hl 7 rfl) ?_
                                    refine lv_iload_n hx hb dL_areLinesSo_431 rfl (lv_at hl 8 rfl) ?_
                                    refine z_calli hP hD hS hA (va_runV (As := [.int (zI lv9)]) (rest := []) hC (c_X9_longestLine l D τ α γ h old ch (w357_28, q357_29) m406_53 f406_54 s406_55 gn406_59 p406_56 q406_57 n406_58 t406_60 c406_61 l406_62 sl pd ct sg od hs lv9 (by first | assumption | rfl | omega) (by first | assumption | rfl | omega) _) (cwV 1 hts (gV hB wl_L_98 wn_X9_longestLine ws_X9_longestLine wi_X9 wc_X9_longestLine) rfl rfl rfl hd_X9_longestLine ⟨Nat.le_of_ble_eq_true rfl, Nat.le_of_ble_eq_true rfl⟩) (zp_V hK hP hD hS hA hG (ci := 9) (q0 := 0) rfl rfl rfl) rfl rfl hl.1 rfl (lv_room (Nat.le_of_ble_eq_true rfl)) dL_areLinesSo_432 ⟨Nat.le_of_ble_eq_true rfl, Nat.le_of_ble_eq_true rfl⟩) (fun r w1 H locs hq9 hP hD hS => ?_)
                                    obtain ⟨m432_75, f432_76, s432_77, p432_78, q432_79, n432_80, gn432_81, t432_82, c432_83, l432_84, v432_85, hv432_0, hv432_1, rfl, rfl⟩ := hq9
                                    try simp only [e7] at hv432_0
                                    try simp only [e7] at hv432_1
                                    have hP : va_P D vwCl (wH α γ (h, old, ch) (w357_28, q357_29) (m432_75, f432_76, s432_77, gn432_81, p432_78, q432_79, n432_80, t432_82, c432_83, l432_84) sl pd ct sg od hs) H := hP
                                    have hD : va_D A (wH α γ (h, old, ch) (w357_28, q357_29) (m432_75, f432_76, s432_77, gn432_81, p432_78, q432_79, n432_80, t432_82, c432_83, l432_84) sl pd ct sg od hs) := hD
                                    rw [← hv432_1, ← hpc9] at hA9
                                    have b432 : 0 ≤ v432_85 * v268_11 ∧ v432_85 * v268_11 ≤ 98 * 84 := zmul_b (by omega) (by omega)
                                    refine lv_iload hx hb dL_areLinesSo_435 (lv_at hl 1 rfl) ?_
                                    refine z_imul hx hb dL_areLinesSo_437 ?_
                                    refine lv_iload hx hb dL_areLinesSo_438 (lv_at hl 4 rfl) ?_
                                    refine z_iclt (tgt := 477) hx hb ⟨by omega, by omega⟩ ⟨by omega, by omega⟩ dL_areLinesSo_440 (by decide) (fun c_440 => ?_) (fun c_440 => ?_)
                                    · exfalso; omega
                                    · refine lv_iload hx hb dL_areLinesSo_443 (lv_at hl 1 rfl) ?_
                                      refine z_ifne (tgt := 452) hx hb ⟨by omega, by omega⟩ dL_areLinesSo_445 (by decide) (fun c_445 => ?_) (fun c_445 => ?_)
                                      · refine lv_iconst (v := zI 0) hx hb dL_areLinesSo_452 rfl ?_
                                        refine lv_iload hx hb dL_areLinesSo_453 (lv_at hl 5 rfl) ?_
                                        refine z_ifeq (tgt := 465) hx hb ⟨by omega, by omega⟩ dL_areLinesSo_455 (by decide) (fun c_455 => ?_) (fun c_455 => ?_)
                                        · refine lv_iconst (v := zI 1) hx hb dL_areLinesSo_465 rfl ?_
                                          refine lv_goto (tgt := 470) hx hb dL_areLinesSo_466 (by decide) ?_
                                          refine z_icne (tgt := 477) hx hb ⟨by omega, by omega⟩ ⟨by omega, by omega⟩ dL_areLinesSo_470 (by decide) (fun c_470 => ?_) (fun c_470 => ?_)
                                          · exfalso; omega
                                          · exact absurd c_470 (by decide)
                                        · refine lv_iload hx hb dL_areLinesSo_458 (lv_at hl 5 rfl) ?_
                                          refine lv_bipush (v := zI 49) hx hb dL_areLinesSo_460 (zI_b8 (by decide)) ?_
                                          refine z_icne (tgt := 469) hx hb ⟨by omega, by omega⟩ ⟨by omega, by omega⟩ dL_areLinesSo_462 (by decide) (fun c_462 => ?_) (fun c_462 => ?_)
                                          · refine lv_iconst (v := zI 0) hx hb dL_areLinesSo_469 rfl ?_
                                            refine z_icne (tgt := 477) hx hb ⟨by omega, by omega⟩ ⟨by omega, by omega⟩ dL_areLinesSo_470 (by decide) (fun c_470 => ?_) (fun c_470 => ?_)
                                            · exact absurd c_470 (by decide)
                                            · refine lv_iconst (v := zI 1) hx hb dL_areLinesSo_473 rfl ?_
                                              refine lv_goto (tgt := 478) hx hb dL_areLinesSo_474 (by decide) ?_
                                              refine W.eq (g2 := F0 m 478 ls [.int (bI true)]) rfl ?_
                                              exact z_zret hC hr hlk hQ hP hD hS ⟨w357_28, q357_29, m432_75, f432_76, s432_77, gn432_81, p432_78, q432_79, n432_80, t432_82, c432_83, l432_84, true, (by rfl), rfl, rfl⟩ dL_areLinesSo_478
                                          · refine lv_iconst (v := zI 1) hx hb dL_areLinesSo_465 rfl ?_
                                            refine lv_goto (tgt := 470) hx hb dL_areLinesSo_466 (by decide) ?_
                                            refine z_icne (tgt := 477) hx hb ⟨by omega, by omega⟩ ⟨by omega, by omega⟩ dL_areLinesSo_470 (by decide) (fun c_470 => ?_) (fun c_470 => ?_)
                                            · exfalso; omega
                                            · exact absurd c_470 (by decide)
                                      · refine lv_iconst (v := zI 1) hx hb dL_areLinesSo_448 rfl ?_
                                        refine lv_goto (tgt := 453) hx hb dL_areLinesSo_449 (by decide) ?_
                                        refine lv_iload hx hb dL_areLinesSo_453 (lv_at hl 5 rfl) ?_
                                        refine z_ifeq (tgt := 465) hx hb ⟨by omega, by omega⟩ dL_areLinesSo_455 (by decide) (fun c_455 => ?_) (fun c_455 => ?_)
                                        · refine lv_iconst (v := zI 1) hx hb dL_areLinesSo_465 rfl ?_
                                          refine lv_goto (tgt := 470) hx hb dL_areLinesSo_466 (by decide) ?_
                                          refine z_icne (tgt := 477) hx hb ⟨by omega, by omega⟩ ⟨by omega, by omega⟩ dL_areLinesSo_470 (by decide) (fun c_470 => ?_) (fun c_470 => ?_)
                                          · exact absurd c_470 (by decide)
                                          · refine lv_iconst (v := zI 1) hx hb dL_areLinesSo_473 rfl ?_
                                            refine lv_goto (tgt := 478) hx hb dL_areLinesSo_474 (by decide) ?_
                                            refine W.eq (g2 := F0 m 478 ls [.int (bI true)]) rfl ?_
                                            exact z_zret hC hr hlk hQ hP hD hS ⟨w357_28, q357_29, m432_75, f432_76, s432_77, gn432_81, p432_78, q432_79, n432_80, t432_82, c432_83, l432_84, true, (by rfl), rfl, rfl⟩ dL_areLinesSo_478
                                        · refine lv_iload hx hb dL_areLinesSo_458 (lv_at hl 5 rfl) ?_
                                          refine lv_bipush (v := zI 49) hx hb dL_areLinesSo_460 (zI_b8 (by decide)) ?_
                                          refine z_icne (tgt := 469) hx hb ⟨by omega, by omega⟩ ⟨by omega, by omega⟩ dL_areLinesSo_462 (by decide) (fun c_462 => ?_) (fun c_462 => ?_)
                                          · refine lv_iconst (v := zI 0) hx hb dL_areLinesSo_469 rfl ?_
                                            refine z_icne (tgt := 477) hx hb ⟨by omega, by omega⟩ ⟨by omega, by omega⟩ dL_areLinesSo_470 (by decide) (fun c_470 => ?_) (fun c_470 => ?_)
                                            · exfalso; omega
                                            · exact absurd c_470 (by decide)
                                          · refine lv_iconst (v := zI 1) hx hb dL_areLinesSo_465 rfl ?_
                                            refine lv_goto (tgt := 470) hx hb dL_areLinesSo_466 (by decide) ?_
                                            refine z_icne (tgt := 477) hx hb ⟨by omega, by omega⟩ ⟨by omega, by omega⟩ dL_areLinesSo_470 (by decide) (fun c_470 => ?_) (fun c_470 => ?_)
                                            · exact absurd c_470 (by decide)
                                            · refine lv_iconst (v := zI 1) hx hb dL_areLinesSo_473 rfl ?_
                                              refine lv_goto (tgt := 478) hx hb dL_areLinesSo_474 (by decide) ?_
                                              refine W.eq (g2 := F0 m 478 ls [.int (bI true)]) rfl ?_
                                              exact z_zret hC hr hlk hQ hP hD hS ⟨w357_28, q357_29, m432_75, f432_76, s432_77, gn432_81, p432_78, q432_79, n432_80, t432_82, c432_83, l432_84, true, (by rfl), rfl, rfl⟩ dL_areLinesSo_478
    · refine lv_aload_n hx hb dL_areLinesSo_26 rfl (lv_at hl 7 rfl) ?_
      refine lv_iload hx hb dL_areLinesSo_27 (lv_at hl 5 rfl) ?_
      refine z_calli hP hD hS hA (va_runS (As := [.ref (α 0), .int (zI i)]) (rest := []) hC (c_L_at l D τ α γ h old ch (wt, qu5) (hi8_l, fe_l, se_l, gn_l, fp_l, sp_l, np_l, tot_l, clo_l, lon_l) sl pd ct sg od hs i (by first | assumption | rfl | omega) (by first | assumption | rfl | omega) _) (va_cwS 2 hts (gS hB wl_L_42 wt_L_at wi_L wc_L_at) rfl rfl rfl hd_L_at.2 ⟨Nat.le_of_ble_eq_true rfl, Nat.le_of_ble_eq_true rfl⟩) (zp_S hK hP hD hS hA hG) rfl rfl hl.1 rfl (lv_room (Nat.le_of_ble_eq_true rfl)) dL_areLinesSo_29 ⟨Nat.le_of_ble_eq_true rfl, Nat.le_of_ble_eq_true rfl⟩) (fun r w1 H locs hq9 hP hD hS => ?_)
      obtain ⟨v29_86, hv29_0, hv29_1, rfl, rfl⟩ := hq9
      try simp only [e7] at hv29_0
      try simp only [e7] at hv29_1
      have hP : va_P D vwCl (wH α γ (h, old, ch) (wt, qu5) (hi8_l, fe_l, se_l, gn_l, fp_l, sp_l, np_l, tot_l, clo_l, lon_l) sl pd ct sg od hs) H := hP
      have hD : va_D A (wH α γ (h, old, ch) (wt, qu5) (hi8_l, fe_l, se_l, gn_l, fp_l, sp_l, np_l, tot_l, clo_l, lon_l) sl pd ct sg od hs) := hD
      refine lv_iload_n hx hb dL_areLinesSo_32 rfl (lv_at hl 8 rfl) ?_
      have HJ_41 : ∀ (ab9 : Bool) (H : Heap) (locs : List Loc) (hP : va_P D vwCl (wH α γ (h, old, ch) (wt, qu5) (hi8_l, fe_l, se_l, gn_l, fp_l, sp_l, np_l, tot_l, clo_l, lon_l) sl pd ct sg od hs) H) (hD : va_D A (wH α γ (h, old, ch) (wt, qu5) (hi8_l, fe_l, se_l, gn_l, fp_l, sp_l, np_l, tot_l, clo_l, lon_l) sl pd ct sg od hs)) (hS : va_S A s.heap H locs) (ls : Array Slot) (hl : lv_has ls 11 [(2, .int (zI ed)), (3, .int (zI br)), (4, .int (zI pcs)), (5, .int (zI ab)), (6, .int (zI bk)), (8, .int (zI i)), (7, .int (zI 1)), (0, .ref (α 0)), (1, .int (zI lv9))]) (hab9 : ab9 = S_hi h lv9 i), W pg l e rm_L_areLinesSo s m args below meth c H locs 0 0 Q (F0 m 41 ls [.int (bI ab9)]) := by
        intro ab9 H locs hP hD hS ls hl hab9
        refine lv_istore (lv' := [(9, .int (bI ab9)), (2, .int (zI ed)), (3, .int (zI br)), (4, .int (zI pcs)), (5, .int (zI ab)), (6, .int (zI bk)), (8, .int (zI i)), (7, .int (zI 1)), (0, .ref (α 0)), (1, .int (zI lv9))]) hx hb dL_areLinesSo_41 hl (by decide) rfl (fun ls hl => ?_)
        have HJ_58 : ∀ (ab2 : Int) (H : Heap) (locs : List Loc) (hP : va_P D vwCl (wH α γ (h, old, ch) (wt, qu5) (hi8_l, fe_l, se_l, gn_l, fp_l, sp_l, np_l, tot_l, clo_l, lon_l) sl pd ct sg od hs) H) (hD : va_D A (wH α γ (h, old, ch) (wt, qu5) (hi8_l, fe_l, se_l, gn_l, fp_l, sp_l, np_l, tot_l, clo_l, lon_l) sl pd ct sg od hs)) (hS : va_S A s.heap H locs) (ls : Array Slot) (hl : lv_has ls 11 [(5, .int (zI ab2)), (9, .int (bI ab9)), (2, .int (zI ed)), (3, .int (zI br)), (4, .int (zI pcs)), (6, .int (zI bk)), (8, .int (zI i)), (7, .int (zI 1)), (0, .ref (α 0)), (1, .int (zI lv9))]) (hab2 : ab2 = zC (S_hi h lv9) (i + 1)) (hc4 : 0 ≤ ab2 ∧ ab2 ≤ i + 1), W pg l e rm_L_areLinesSo s m args below meth c H locs 0 0 Q (F0 m 58 ls []) := by
          intro ab2 H locs hP hD hS ls hl hab2 hc4
          have HJ_80 : ∀ (bk2 : Int) (H : Heap) (locs : List Loc) (hP : va_P D vwCl (wH α γ (h, old, ch) (wt, qu5) (hi8_l, fe_l, se_l, gn_l, fp_l, sp_l, np_l, tot_l, clo_l, lon_l) sl pd ct sg od hs) H) (hD : va_D A (wH α γ (h, old, ch) (wt, qu5) (hi8_l, fe_l, se_l, gn_l, fp_l, sp_l, np_l, tot_l, clo_l, lon_l) sl pd ct sg od hs)) (hS : va_S A s.heap H locs) (ls : Array Slot) (hl : lv_has ls 11 [(6, .int (zI bk2)), (5, .int (zI ab2)), (9, .int (bI ab9)), (2, .int (zI ed)), (3, .int (zI br)), (4, .int (zI pcs)), (8, .int (zI i)), (7, .int (zI 1)), (0, .ref (α 0)), (1, .int (zI lv9))]) (hbk2 : bk2 = zS (fun k => if lv9 < h k then h k - lv9 else 0) (i + 1)) (hc5 : 0 ≤ bk2 ∧ bk2 ≤ 99 * (i + 1)), W pg l e rm_L_areLinesSo s m args below meth c H locs 0 0 Q (F0 m 80 ls []) := by
            intro bk2 H locs hP hD hS ls hl hbk2 hc5
            have HJ_137 : ∀ (ed2 : Int) (br2 : Int) (H : Heap) (locs : List Loc) (hP : va_P D vwCl (wH α γ (h, old, ch) (wt, qu5) (hi8_l, fe_l, se_l, gn_l, fp_l, sp_l, np_l, tot_l, clo_l, lon_l) sl pd ct sg od hs) H) (hD : va_D A (wH α γ (h, old, ch) (wt, qu5) (hi8_l, fe_l, se_l, gn_l, fp_l, sp_l, np_l, tot_l, clo_l, lon_l) sl pd ct sg od hs)) (hS : va_S A s.heap H locs) (ls : Array Slot) (hl : lv_has ls 11 [(2, .int (zI ed2)), (3, .int (zI br2)), (6, .int (zI bk2)), (5, .int (zI ab2)), (9, .int (bI ab9)), (4, .int (zI pcs)), (8, .int (zI i)), (7, .int (zI 1)), (0, .ref (α 0)), (1, .int (zI lv9))]) (hed2 : ed2 = ed + (if i % 7 = 6 then 0 else z1 (S_hi h lv9 i != S_hi h lv9 (i + 1)))) (hbr2 : br2 = br + (if i % 7 < 6 then (if i < 7 ∨ 41 < i then z1 (S_hi h lv9 i != S_hi h lv9 (i + 1)) else 0) else 0)) (hd1 : ed ≤ ed2 ∧ ed2 ≤ ed + 1) (hd2 : br ≤ br2 ∧ br2 ≤ br + 1), W pg l e rm_L_areLinesSo s m args below meth c H locs 0 0 Q (F0 m 137 ls []) := by
              intro ed2 br2 H locs hP hD hS ls hl hed2 hbr2 hd1 hd2
              have HJ_196 : ∀ (ed3 : Int) (br3 : Int) (H : Heap) (locs : List Loc) (hP : va_P D vwCl (wH α γ (h, old, ch) (wt, qu5) (hi8_l, fe_l, se_l, gn_l, fp_l, sp_l, np_l, tot_l, clo_l, lon_l) sl pd ct sg od hs) H) (hD : va_D A (wH α γ (h, old, ch) (wt, qu5) (hi8_l, fe_l, se_l, gn_l, fp_l, sp_l, np_l, tot_l, clo_l, lon_l) sl pd ct sg od hs)) (hS : va_S A s.heap H locs) (ls : Array Slot) (hl : lv_has ls 11 [(2, .int (zI ed3)), (3, .int (zI br3)), (6, .int (zI bk2)), (5, .int (zI ab2)), (9, .int (bI ab9)), (4, .int (zI pcs)), (8, .int (zI i)), (7, .int (zI 1)), (0, .ref (α 0)), (1, .int (zI lv9))]) (hed3 : ed3 = ed2 + (if 42 ≤ i then 0 else z1 (S_hi h lv9 i != S_hi h lv9 (i + 7)))) (hbr3 : br3 = br2 + (if i < 42 then (if i % 7 = 0 ∨ i % 7 = 6 then z1 (S_hi h lv9 i != S_hi h lv9 (i + 7)) else 0) else 0)) (he1 : ed2 ≤ ed3 ∧ ed3 ≤ ed2 + 1) (he2 : br2 ≤ br3 ∧ br3 ≤ br2 + 1), W pg l e rm_L_areLinesSo s m args below meth c H locs 0 0 Q (F0 m 196 ls []) := by
                intro ed3 br3 H locs hP hD hS ls hl hed3 hbr3 he1 he2
                refine lv_iload hx hb dL_areLinesSo_196 (lv_at hl 6 rfl) ?_
                refine lv_bipush (v := zI 7) hx hb dL_areLinesSo_198 (zI_b8 (by decide)) ?_
                refine z_irem hx hb ⟨⟨by omega, by omega⟩, by omega, by omega⟩ dL_areLinesSo_200 ?_
                refine lv_bipush (v := zI 6) hx hb dL_areLinesSo_201 (zI_b8 (by decide)) ?_
                refine z_icge (tgt := 260) hx hb ⟨by omega, by omega⟩ ⟨by omega, by omega⟩ dL_areLinesSo_203 (by decide) (fun c_203 => ?_) (fun c_203 => ?_)
                · have hz4 : pcs = zS (pcP h lv9) (i + 1) := pc_f hi.1 hpc (by omega)
                  refine z_iinc (k := 6) (v := i + 1) (lv' := [(8, .int (zI (i + 1))), (2, .int (zI ed3)), (3, .int (zI br3)), (6, .int (zI bk2)), (5, .int (zI ab2)), (9, .int (bI ab9)), (4, .int (zI pcs)), (7, .int (zI 1)), (0, .ref (α 0)), (1, .int (zI lv9))]) hx hb dL_areLinesSo_260 hl rfl rfl (by decide) rfl (fun ls hl => ?_)
                  refine lv_goto (tgt := 19) hx hb dL_areLinesSo_263 (by decide) ?_
                  exact ih_19 hi8_l fe_l se_l gn_l fp_l sp_l np_l tot_l clo_l lon_l ed3 br3 pcs ab2 bk2 (i + 1) _ _ hP hD hS _ (lv_sub hl [1, 2, 6, 4, 3, 0, 7, 8, 9] rfl) (by first | assumption | rfl | omega) (by exact cr_st hi.1 hed hed2 hed3) (by exact bd_st hi.1 hbr hbr2 hbr3) (by exact hz4) (by exact hab2) (by exact hbk2) (by first | assumption | rfl | omega) (by first | assumption | rfl | omega) (by first | assumption | rfl | omega) (by first | assumption | rfl | omega) (by first | assumption | rfl | omega) (by omega)
                · refine lv_iload hx hb dL_areLinesSo_206 (lv_at hl 6 rfl) ?_
                  refine lv_bipush (v := zI 42) hx hb dL_areLinesSo_208 (zI_b8 (by decide)) ?_
                  refine z_icge (tgt := 260) hx hb ⟨by omega, by omega⟩ ⟨by omega, by omega⟩ dL_areLinesSo_210 (by decide) (fun c_210 => ?_) (fun c_210 => ?_)
                  · have hz4 : pcs = zS (pcP h lv9) (i + 1) := pc_f hi.1 hpc (by omega)
                    refine z_iinc (k := 6) (v := i + 1) (lv' := [(8, .int (zI (i + 1))), (2, .int (zI ed3)), (3, .int (zI br3)), (6, .int (zI bk2)), (5, .int (zI ab2)), (9, .int (bI ab9)), (4, .int (zI pcs)), (7, .int (zI 1)), (0, .ref (α 0)), (1, .int (zI lv9))]) hx hb dL_areLinesSo_260 hl rfl rfl (by decide) rfl (fun ls hl => ?_)
                    refine lv_goto (tgt := 19) hx hb dL_areLinesSo_263 (by decide) ?_
                    exact ih_19 hi8_l fe_l se_l gn_l fp_l sp_l np_l tot_l clo_l lon_l ed3 br3 pcs ab2 bk2 (i + 1) _ _ hP hD hS _ (lv_sub hl [1, 2, 6, 4, 3, 0, 7, 8, 9] rfl) (by first | assumption | rfl | omega) (by exact cr_st hi.1 hed hed2 hed3) (by exact bd_st hi.1 hbr hbr2 hbr3) (by exact hz4) (by exact hab2) (by exact hbk2) (by first | assumption | rfl | omega) (by first | assumption | rfl | omega) (by first | assumption | rfl | omega) (by first | assumption | rfl | omega) (by first | assumption | rfl | omega) (by omega)
                  · refine lv_aload_n hx hb dL_areLinesSo_213 rfl (lv_at hl 8 rfl) ?_
                    refine lv_iload hx hb dL_areLinesSo_214 (lv_at hl 6 rfl) ?_
                    refine lv_bipush (v := zI 7) hx hb dL_areLinesSo_216 (zI_b8 (by decide)) ?_
                    refine z_idiv hx hb ⟨⟨by omega, by omega⟩, by omega, by omega⟩ dL_areLinesSo_218 ?_
                    refine lv_iload hx hb dL_areLinesSo_219 (lv_at hl 6 rfl) ?_
                    refine lv_bipush (v := zI 7) hx hb dL_areLinesSo_221 (zI_b8 (by decide)) ?_
                    refine z_irem hx hb ⟨⟨by omega, by omega⟩, by omega, by omega⟩ dL_areLinesSo_223 ?_
                    refine lv_iload_n hx hb dL_areLinesSo_224 rfl (lv_at hl 9 rfl) ?_
                    refine z_calli hP hD hS hA (va_runV (As := [.int (zI (i / 7)), .int (zI (i % 7)), .int (zI lv9)]) (rest := []) hC (c_X9_piecesIn l D τ α γ h old ch (wt, qu5) hi8_l fe_l se_l gn_l fp_l sp_l np_l tot_l clo_l lon_l sl pd ct sg od hs (i / 7) (i % 7) lv9 (by first | assumption | rfl | omega) (by first | assumption | rfl | omega) (by first | assumption | rfl | omega) (by first | assumption | rfl | omega) _) (cwV 3 hts (gV hB wl_L_74 wn_X9_piecesIn ws_X9_piecesIn wi_X9 wc_X9_piecesIn) rfl rfl rfl hd_X9_piecesIn ⟨Nat.le_of_ble_eq_true rfl, Nat.le_of_ble_eq_true rfl⟩) (zp_V hK hP hD hS hA hG (ci := 9) (q0 := 0) rfl rfl rfl) rfl rfl hl.1 rfl (lv_room (Nat.le_of_ble_eq_true rfl)) dL_areLinesSo_225 ⟨Nat.le_of_ble_eq_true rfl, Nat.le_of_ble_eq_true rfl⟩) (fun r w1 H locs hq9 hP hD hS => ?_)
                    obtain ⟨m225_87, f225_88, s225_89, p225_90, q225_91, n225_92, v225_93, hv225_0, hv225_1, rfl, rfl⟩ := hq9
                    try simp only [e7] at hv225_0
                    try simp only [e7] at hv225_1
                    have hP : va_P D vwCl (wH α γ (h, old, ch) (wt, qu5) (m225_87, f225_88, s225_89, gn_l, p225_90, q225_91, n225_92, tot_l, clo_l, lon_l) sl pd ct sg od hs) H := hP
                    have hD : va_D A (wH α γ (h, old, ch) (wt, qu5) (m225_87, f225_88, s225_89, gn_l, p225_90, q225_91, n225_92, tot_l, clo_l, lon_l) sl pd ct sg od hs) := hD
                    have hpb := pie_b h (i / 7) (i % 7) lv9
                    rw [← hv225_1] at hpb
                    have hz4 : pcs + v225_93 = zS (pcP h lv9) (i + 1) := pc_t hi.1 hpc ⟨by omega, by omega⟩ hv225_1
                    refine lv_istore (lv' := [(10, .int (zI v225_93)), (2, .int (zI ed3)), (3, .int (zI br3)), (6, .int (zI bk2)), (5, .int (zI ab2)), (9, .int (bI ab9)), (4, .int (zI pcs)), (8, .int (zI i)), (7, .int (zI 1)), (0, .ref (α 0)), (1, .int (zI lv9))]) hx hb dL_areLinesSo_228 hl (by decide) rfl (fun ls hl => ?_)
                    refine lv_iload hx hb dL_areLinesSo_230 (lv_at hl 6 rfl) ?_
                    refine lv_iload hx hb dL_areLinesSo_232 (lv_at hl 0 rfl) ?_
                    refine z_iadd hx hb dL_areLinesSo_234 ?_
                    refine lv_istore (lv' := [(4, .int (zI (pcs + v225_93))), (10, .int (zI v225_93)), (2, .int (zI ed3)), (3, .int (zI br3)), (6, .int (zI bk2)), (5, .int (zI ab2)), (9, .int (bI ab9)), (8, .int (zI i)), (7, .int (zI 1)), (0, .ref (α 0)), (1, .int (zI lv9))]) hx hb dL_areLinesSo_235 hl (by decide) rfl (fun ls hl => ?_)
                    refine lv_iload hx hb dL_areLinesSo_237 (lv_at hl 8 rfl) ?_
                    refine z_ifeq (tgt := 257) hx hb ⟨by omega, by omega⟩ dL_areLinesSo_239 (by decide) (fun c_239 => ?_) (fun c_239 => ?_)
                    · exact absurd c_239 (by decide)
                    · refine lv_iload hx hb dL_areLinesSo_242 (lv_at hl 1 rfl) ?_
                      refine z_iflt (tgt := 257) hx hb ⟨by omega, by omega⟩ dL_areLinesSo_244 (by decide) (fun c_244 => ?_) (fun c_244 => ?_)
                      · exfalso; omega
                      · refine lv_iload hx hb dL_areLinesSo_247 (lv_at hl 1 rfl) ?_
                        refine lv_iconst (v := zI 3) hx hb dL_areLinesSo_249 rfl ?_
                        refine z_icge (tgt := 257) hx hb ⟨by omega, by omega⟩ ⟨by omega, by omega⟩ dL_areLinesSo_250 (by decide) (fun c_250 => ?_) (fun c_250 => ?_)
                        · exfalso; omega
                        · refine lv_iconst (v := zI 1) hx hb dL_areLinesSo_253 rfl ?_
                          refine lv_goto (tgt := 258) hx hb dL_areLinesSo_254 (by decide) ?_
                          refine lv_istore (lv' := [(7, .int (zI 1)), (4, .int (zI (pcs + v225_93))), (10, .int (zI v225_93)), (2, .int (zI ed3)), (3, .int (zI br3)), (6, .int (zI bk2)), (5, .int (zI ab2)), (9, .int (bI ab9)), (8, .int (zI i)), (0, .ref (α 0)), (1, .int (zI lv9))]) hx hb dL_areLinesSo_258 hl (by decide) rfl (fun ls hl => ?_)
                          refine z_iinc (k := 8) (v := i + 1) (lv' := [(8, .int (zI (i + 1))), (7, .int (zI 1)), (4, .int (zI (pcs + v225_93))), (10, .int (zI v225_93)), (2, .int (zI ed3)), (3, .int (zI br3)), (6, .int (zI bk2)), (5, .int (zI ab2)), (9, .int (bI ab9)), (0, .ref (α 0)), (1, .int (zI lv9))]) hx hb dL_areLinesSo_260 hl rfl rfl (by decide) rfl (fun ls hl => ?_)
                          refine lv_goto (tgt := 19) hx hb dL_areLinesSo_263 (by decide) ?_
                          exact ih_19 m225_87 f225_88 s225_89 gn_l p225_90 q225_91 n225_92 tot_l clo_l lon_l ed3 br3 (pcs + v225_93) ab2 bk2 (i + 1) _ _ hP hD hS _ (lv_sub hl [4, 5, 2, 7, 6, 0, 1, 9, 10] rfl) (by first | assumption | rfl | omega) (by exact cr_st hi.1 hed hed2 hed3) (by exact bd_st hi.1 hbr hbr2 hbr3) (by exact hz4) (by exact hab2) (by exact hbk2) (by first | assumption | rfl | omega) (by first | assumption | rfl | omega) (by first | assumption | rfl | omega) (by first | assumption | rfl | omega) (by first | assumption | rfl | omega) (by omega)
              refine lv_iload hx hb dL_areLinesSo_137 (lv_at hl 6 rfl) ?_
              refine lv_bipush (v := zI 42) hx hb dL_areLinesSo_139 (zI_b8 (by decide)) ?_
              refine z_icge (tgt := 196) hx hb ⟨by omega, by omega⟩ ⟨by omega, by omega⟩ dL_areLinesSo_141 (by decide) (fun c_141 => ?_) (fun c_141 => ?_)
              · have hz6 : ed2 = ed2 + (if 42 ≤ i then 0 else z1 (S_hi h lv9 i != S_hi h lv9 (i + 7))) := by rw [if_pos (by omega)]; omega
                have hz5 : br2 = br2 + (if i < 42 then (if i % 7 = 0 ∨ i % 7 = 6 then z1 (S_hi h lv9 i != S_hi h lv9 (i + 7)) else 0) else 0) := by rw [if_neg (by omega)]; omega
                exact HJ_196 ed2 br2 _ _ hP hD hS _ (lv_sub hl [0, 1, 2, 3, 4, 5, 6, 7, 8, 9] rfl) (by exact hz6) (by exact hz5) (by first | assumption | rfl | omega) (by first | assumption | rfl | omega)
              · refine lv_iload hx hb dL_areLinesSo_144 (lv_at hl 4 rfl) ?_
                refine lv_aload_n hx hb dL_areLinesSo_146 rfl (lv_at hl 8 rfl) ?_
                refine lv_iload hx hb dL_areLinesSo_147 (lv_at hl 6 rfl) ?_
                refine lv_bipush (v := zI 7) hx hb dL_areLinesSo_149 (zI_b8 (by decide)) ?_
                refine z_iadd hx hb dL_areLinesSo_151 ?_
                refine z_calli hP hD hS hA (va_runS (As := [.ref (α 0), .int (zI (i + 7))]) (rest := [.int (bI ab9)]) hC (c_L_at l D τ α γ h old ch (wt, qu5) (hi8_l, fe_l, se_l, gn_l, fp_l, sp_l, np_l, tot_l, clo_l, lon_l) sl pd ct sg od hs (i + 7) (by first | assumption | rfl | omega) (by first | assumption | rfl | omega) _) (va_cwS 2 hts (gS hB wl_L_42 wt_L_at wi_L wc_L_at) rfl rfl rfl hd_L_at.2 ⟨Nat.le_of_ble_eq_true rfl, Nat.le_of_ble_eq_true rfl⟩) (zp_S hK hP hD hS hA hG) rfl rfl hl.1 rfl (lv_room (Nat.le_of_ble_eq_true rfl)) dL_areLinesSo_152 ⟨Nat.le_of_ble_eq_true rfl, Nat.le_of_ble_eq_true rfl⟩) (fun r w1 H locs hq9 hP hD hS => ?_)
                obtain ⟨v152_94, hv152_0, hv152_1, rfl, rfl⟩ := hq9
                try simp only [e7] at hv152_0
                try simp only [e7] at hv152_1
                have hP : va_P D vwCl (wH α γ (h, old, ch) (wt, qu5) (hi8_l, fe_l, se_l, gn_l, fp_l, sp_l, np_l, tot_l, clo_l, lon_l) sl pd ct sg od hs) H := hP
                have hD : va_D A (wH α γ (h, old, ch) (wt, qu5) (hi8_l, fe_l, se_l, gn_l, fp_l, sp_l, np_l, tot_l, clo_l, lon_l) sl pd ct sg od hs) := hD
                refine lv_iload_n hx hb dL_areLinesSo_155 rfl (lv_at hl 9 rfl) ?_
                refine z_icle (tgt := 163) hx hb ⟨by omega, by omega⟩ ⟨by omega, by omega⟩ dL_areLinesSo_156 (by decide) (fun c_156 => ?_) (fun c_156 => ?_)
                · have hn9 : S_hi h lv9 (i + 7) = false := S_hi_f (by omega)
                  refine lv_iconst (v := zI 0) hx hb dL_areLinesSo_163 rfl ?_
                  refine W.eq (g2 := F0 m 164 ls [.int (bI false), .int (bI ab9)]) rfl ?_
                  refine z_iceqB (tgt := 196) hx hb dL_areLinesSo_164 (by decide) (fun c_164 => ?_) (fun c_164 => ?_)
                  · have hq9 : (S_hi h lv9 i != S_hi h lv9 (i + 7)) = false := by rw [← hab9, c_164, hn9]; rfl
                    have hz6 : ed2 = ed2 + (if 42 ≤ i then 0 else z1 (S_hi h lv9 i != S_hi h lv9 (i + 7))) := by rw [hq9, z1_f rfl]; split <;> omega
                    have hz5 : br2 = br2 + (if i < 42 then (if i % 7 = 0 ∨ i % 7 = 6 then z1 (S_hi h lv9 i != S_hi h lv9 (i + 7)) else 0) else 0) := by rw [hq9, z1_f rfl]; (repeat' split) <;> omega
                    exact HJ_196 ed2 br2 _ _ hP hD hS _ (lv_sub hl [0, 1, 2, 3, 4, 5, 6, 7, 8, 9] rfl) (by exact hz6) (by exact hz5) (by first | assumption | rfl | omega) (by first | assumption | rfl | omega)
                  · have hq9 : (S_hi h lv9 i != S_hi h lv9 (i + 7)) = true := by rw [← hab9, hn9]; revert c_164; cases ab9 <;> decide
                    refine z_iinc (k := 0) (v := ed2 + 1) (lv' := [(2, .int (zI (ed2 + 1))), (3, .int (zI br2)), (6, .int (zI bk2)), (5, .int (zI ab2)), (9, .int (bI ab9)), (4, .int (zI pcs)), (8, .int (zI i)), (7, .int (zI 1)), (0, .ref (α 0)), (1, .int (zI lv9))]) hx hb dL_areLinesSo_167 hl rfl rfl (by decide) rfl (fun ls hl => ?_)
                    refine lv_iload_n hx hb dL_areLinesSo_170 rfl (lv_at hl 1 rfl) ?_
                    refine lv_iload hx hb dL_areLinesSo_171 (lv_at hl 6 rfl) ?_
                    refine lv_bipush (v := zI 7) hx hb dL_areLinesSo_173 (zI_b8 (by decide)) ?_
                    refine z_irem hx hb ⟨⟨by omega, by omega⟩, by omega, by omega⟩ dL_areLinesSo_175 ?_
                    refine z_ifeq (tgt := 189) hx hb ⟨by omega, by omega⟩ dL_areLinesSo_176 (by decide) (fun c_176 => ?_) (fun c_176 => ?_)
                    · refine lv_iconst (v := zI 1) hx hb dL_areLinesSo_189 rfl ?_
                      refine lv_goto (tgt := 194) hx hb dL_areLinesSo_190 (by decide) ?_
                      have hz6 : (ed2 + 1) = ed2 + (if 42 ≤ i then 0 else z1 (S_hi h lv9 i != S_hi h lv9 (i + 7))) := by rw [if_neg (by omega), hq9]; rfl
                      have hz5 : br2 + 1 = br2 + (if i < 42 then (if i % 7 = 0 ∨ i % 7 = 6 then z1 (S_hi h lv9 i != S_hi h lv9 (i + 7)) else 0) else 0) := by rw [if_pos (by omega), if_pos (by omega), hq9]; rfl
                      refine z_iadd hx hb dL_areLinesSo_194 ?_
                      refine lv_istore_n (lv' := [(3, .int (zI (br2 + 1))), (2, .int (zI (ed2 + 1))), (6, .int (zI bk2)), (5, .int (zI ab2)), (9, .int (bI ab9)), (4, .int (zI pcs)), (8, .int (zI i)), (7, .int (zI 1)), (0, .ref (α 0)), (1, .int (zI lv9))]) hx hb dL_areLinesSo_195 rfl hl (by decide) rfl (fun ls hl => ?_)
                      exact HJ_196 (ed2 + 1) (br2 + 1) _ _ hP hD hS _ (lv_sub hl [1, 0, 2, 3, 4, 5, 6, 7, 8, 9] rfl) (by exact hz6) (by exact hz5) (by first | assumption | rfl | omega) (by first | assumption | rfl | omega)
                    · refine lv_iload hx hb dL_areLinesSo_179 (lv_at hl 6 rfl) ?_
                      refine lv_bipush (v := zI 7) hx hb dL_areLinesSo_181 (zI_b8 (by decide)) ?_
                      refine z_irem hx hb ⟨⟨by omega, by omega⟩, by omega, by omega⟩ dL_areLinesSo_183 ?_
                      refine lv_bipush (v := zI 6) hx hb dL_areLinesSo_184 (zI_b8 (by decide)) ?_
                      refine z_icne (tgt := 193) hx hb ⟨by omega, by omega⟩ ⟨by omega, by omega⟩ dL_areLinesSo_186 (by decide) (fun c_186 => ?_) (fun c_186 => ?_)
                      · refine lv_iconst (v := zI 0) hx hb dL_areLinesSo_193 rfl ?_
                        have hz6 : (ed2 + 1) = ed2 + (if 42 ≤ i then 0 else z1 (S_hi h lv9 i != S_hi h lv9 (i + 7))) := by rw [if_neg (by omega), hq9]; rfl
                        have hz5 : br2 + 0 = br2 + (if i < 42 then (if i % 7 = 0 ∨ i % 7 = 6 then z1 (S_hi h lv9 i != S_hi h lv9 (i + 7)) else 0) else 0) := by rw [if_pos (by omega), if_neg (by omega)]
                        refine z_iadd hx hb dL_areLinesSo_194 ?_
                        refine lv_istore_n (lv' := [(3, .int (zI (br2 + 0))), (2, .int (zI (ed2 + 1))), (6, .int (zI bk2)), (5, .int (zI ab2)), (9, .int (bI ab9)), (4, .int (zI pcs)), (8, .int (zI i)), (7, .int (zI 1)), (0, .ref (α 0)), (1, .int (zI lv9))]) hx hb dL_areLinesSo_195 rfl hl (by decide) rfl (fun ls hl => ?_)
                        exact HJ_196 (ed2 + 1) (br2 + 0) _ _ hP hD hS _ (lv_sub hl [1, 0, 2, 3, 4, 5, 6, 7, 8, 9] rfl) (by exact hz6) (by exact hz5) (by first | assumption | rfl | omega) (by first | assumption | rfl | omega)
                      · refine lv_iconst (v := zI 1) hx hb dL_areLinesSo_189 rfl ?_
                        refine lv_goto (tgt := 194) hx hb dL_areLinesSo_190 (by decide) ?_
                        have hz6 : (ed2 + 1) = ed2 + (if 42 ≤ i then 0 else z1 (S_hi h lv9 i != S_hi h lv9 (i + 7))) := by rw [if_neg (by omega), hq9]; rfl
                        have hz5 : br2 + 1 = br2 + (if i < 42 then (if i % 7 = 0 ∨ i % 7 = 6 then z1 (S_hi h lv9 i != S_hi h lv9 (i + 7)) else 0) else 0) := by rw [if_pos (by omega), if_pos (by omega), hq9]; rfl
                        refine z_iadd hx hb dL_areLinesSo_194 ?_
                        refine lv_istore_n (lv' := [(3, .int (zI (br2 + 1))), (2, .int (zI (ed2 + 1))), (6, .int (zI bk2)), (5, .int (zI ab2)), (9, .int (bI ab9)), (4, .int (zI pcs)), (8, .int (zI i)), (7, .int (zI 1)), (0, .ref (α 0)), (1, .int (zI lv9))]) hx hb dL_areLinesSo_195 rfl hl (by decide) rfl (fun ls hl => ?_)
                        exact HJ_196 (ed2 + 1) (br2 + 1) _ _ hP hD hS _ (lv_sub hl [1, 0, 2, 3, 4, 5, 6, 7, 8, 9] rfl) (by exact hz6) (by exact hz5) (by first | assumption | rfl | omega) (by first | assumption | rfl | omega)
                · have hn9 : S_hi h lv9 (i + 7) = true := S_hi_t (by omega)
                  refine lv_iconst (v := zI 1) hx hb dL_areLinesSo_159 rfl ?_
                  refine lv_goto (tgt := 164) hx hb dL_areLinesSo_160 (by decide) ?_
                  refine W.eq (g2 := F0 m 164 ls [.int (bI true), .int (bI ab9)]) rfl ?_
                  refine z_iceqB (tgt := 196) hx hb dL_areLinesSo_164 (by decide) (fun c_164 => ?_) (fun c_164 => ?_)
                  · have hq9 : (S_hi h lv9 i != S_hi h lv9 (i + 7)) = false := by rw [← hab9, c_164, hn9]; rfl
                    have hz6 : ed2 = ed2 + (if 42 ≤ i then 0 else z1 (S_hi h lv9 i != S_hi h lv9 (i + 7))) := by rw [hq9, z1_f rfl]; split <;> omega
                    have hz5 : br2 = br2 + (if i < 42 then (if i % 7 = 0 ∨ i % 7 = 6 then z1 (S_hi h lv9 i != S_hi h lv9 (i + 7)) else 0) else 0) := by rw [hq9, z1_f rfl]; (repeat' split) <;> omega
                    exact HJ_196 ed2 br2 _ _ hP hD hS _ (lv_sub hl [0, 1, 2, 3, 4, 5, 6, 7, 8, 9] rfl) (by exact hz6) (by exact hz5) (by first | assumption | rfl | omega) (by first | assumption | rfl | omega)
                  · have hq9 : (S_hi h lv9 i != S_hi h lv9 (i + 7)) = true := by rw [← hab9, hn9]; revert c_164; cases ab9 <;> decide
                    refine z_iinc (k := 0) (v := ed2 + 1) (lv' := [(2, .int (zI (ed2 + 1))), (3, .int (zI br2)), (6, .int (zI bk2)), (5, .int (zI ab2)), (9, .int (bI ab9)), (4, .int (zI pcs)), (8, .int (zI i)), (7, .int (zI 1)), (0, .ref (α 0)), (1, .int (zI lv9))]) hx hb dL_areLinesSo_167 hl rfl rfl (by decide) rfl (fun ls hl => ?_)
                    refine lv_iload_n hx hb dL_areLinesSo_170 rfl (lv_at hl 1 rfl) ?_
                    refine lv_iload hx hb dL_areLinesSo_171 (lv_at hl 6 rfl) ?_
                    refine lv_bipush (v := zI 7) hx hb dL_areLinesSo_173 (zI_b8 (by decide)) ?_
                    refine z_irem hx hb ⟨⟨by omega, by omega⟩, by omega, by omega⟩ dL_areLinesSo_175 ?_
                    refine z_ifeq (tgt := 189) hx hb ⟨by omega, by omega⟩ dL_areLinesSo_176 (by decide) (fun c_176 => ?_) (fun c_176 => ?_)
                    · refine lv_iconst (v := zI 1) hx hb dL_areLinesSo_189 rfl ?_
                      refine lv_goto (tgt := 194) hx hb dL_areLinesSo_190 (by decide) ?_
                      have hz6 : (ed2 + 1) = ed2 + (if 42 ≤ i then 0 else z1 (S_hi h lv9 i != S_hi h lv9 (i + 7))) := by rw [if_neg (by omega), hq9]; rfl
                      have hz5 : br2 + 1 = br2 + (if i < 42 then (if i % 7 = 0 ∨ i % 7 = 6 then z1 (S_hi h lv9 i != S_hi h lv9 (i + 7)) else 0) else 0) := by rw [if_pos (by omega), if_pos (by omega), hq9]; rfl
                      refine z_iadd hx hb dL_areLinesSo_194 ?_
                      refine lv_istore_n (lv' := [(3, .int (zI (br2 + 1))), (2, .int (zI (ed2 + 1))), (6, .int (zI bk2)), (5, .int (zI ab2)), (9, .int (bI ab9)), (4, .int (zI pcs)), (8, .int (zI i)), (7, .int (zI 1)), (0, .ref (α 0)), (1, .int (zI lv9))]) hx hb dL_areLinesSo_195 rfl hl (by decide) rfl (fun ls hl => ?_)
                      exact HJ_196 (ed2 + 1) (br2 + 1) _ _ hP hD hS _ (lv_sub hl [1, 0, 2, 3, 4, 5, 6, 7, 8, 9] rfl) (by exact hz6) (by exact hz5) (by first | assumption | rfl | omega) (by first | assumption | rfl | omega)
                    · refine lv_iload hx hb dL_areLinesSo_179 (lv_at hl 6 rfl) ?_
                      refine lv_bipush (v := zI 7) hx hb dL_areLinesSo_181 (zI_b8 (by decide)) ?_
                      refine z_irem hx hb ⟨⟨by omega, by omega⟩, by omega, by omega⟩ dL_areLinesSo_183 ?_
                      refine lv_bipush (v := zI 6) hx hb dL_areLinesSo_184 (zI_b8 (by decide)) ?_
                      refine z_icne (tgt := 193) hx hb ⟨by omega, by omega⟩ ⟨by omega, by omega⟩ dL_areLinesSo_186 (by decide) (fun c_186 => ?_) (fun c_186 => ?_)
                      · refine lv_iconst (v := zI 0) hx hb dL_areLinesSo_193 rfl ?_
                        have hz6 : (ed2 + 1) = ed2 + (if 42 ≤ i then 0 else z1 (S_hi h lv9 i != S_hi h lv9 (i + 7))) := by rw [if_neg (by omega), hq9]; rfl
                        have hz5 : br2 + 0 = br2 + (if i < 42 then (if i % 7 = 0 ∨ i % 7 = 6 then z1 (S_hi h lv9 i != S_hi h lv9 (i + 7)) else 0) else 0) := by rw [if_pos (by omega), if_neg (by omega)]
                        refine z_iadd hx hb dL_areLinesSo_194 ?_
                        refine lv_istore_n (lv' := [(3, .int (zI (br2 + 0))), (2, .int (zI (ed2 + 1))), (6, .int (zI bk2)), (5, .int (zI ab2)), (9, .int (bI ab9)), (4, .int (zI pcs)), (8, .int (zI i)), (7, .int (zI 1)), (0, .ref (α 0)), (1, .int (zI lv9))]) hx hb dL_areLinesSo_195 rfl hl (by decide) rfl (fun ls hl => ?_)
                        exact HJ_196 (ed2 + 1) (br2 + 0) _ _ hP hD hS _ (lv_sub hl [1, 0, 2, 3, 4, 5, 6, 7, 8, 9] rfl) (by exact hz6) (by exact hz5) (by first | assumption | rfl | omega) (by first | assumption | rfl | omega)
                      · refine lv_iconst (v := zI 1) hx hb dL_areLinesSo_189 rfl ?_
                        refine lv_goto (tgt := 194) hx hb dL_areLinesSo_190 (by decide) ?_
                        have hz6 : (ed2 + 1) = ed2 + (if 42 ≤ i then 0 else z1 (S_hi h lv9 i != S_hi h lv9 (i + 7))) := by rw [if_neg (by omega), hq9]; rfl
                        have hz5 : br2 + 1 = br2 + (if i < 42 then (if i % 7 = 0 ∨ i % 7 = 6 then z1 (S_hi h lv9 i != S_hi h lv9 (i + 7)) else 0) else 0) := by rw [if_pos (by omega), if_pos (by omega), hq9]; rfl
                        refine z_iadd hx hb dL_areLinesSo_194 ?_
                        refine lv_istore_n (lv' := [(3, .int (zI (br2 + 1))), (2, .int (zI (ed2 + 1))), (6, .int (zI bk2)), (5, .int (zI ab2)), (9, .int (bI ab9)), (4, .int (zI pcs)), (8, .int (zI i)), (7, .int (zI 1)), (0, .ref (α 0)), (1, .int (zI lv9))]) hx hb dL_areLinesSo_195 rfl hl (by decide) rfl (fun ls hl => ?_)
                        exact HJ_196 (ed2 + 1) (br2 + 1) _ _ hP hD hS _ (lv_sub hl [1, 0, 2, 3, 4, 5, 6, 7, 8, 9] rfl) (by exact hz6) (by exact hz5) (by first | assumption | rfl | omega) (by first | assumption | rfl | omega)
            refine lv_iload hx hb dL_areLinesSo_80 (lv_at hl 6 rfl) ?_
            refine lv_bipush (v := zI 7) hx hb dL_areLinesSo_82 (zI_b8 (by decide)) ?_
            refine z_irem hx hb ⟨⟨by omega, by omega⟩, by omega, by omega⟩ dL_areLinesSo_84 ?_
            refine lv_bipush (v := zI 6) hx hb dL_areLinesSo_85 (zI_b8 (by decide)) ?_
            refine z_icge (tgt := 137) hx hb ⟨by omega, by omega⟩ ⟨by omega, by omega⟩ dL_areLinesSo_87 (by decide) (fun c_87 => ?_) (fun c_87 => ?_)
            · have hz6 : ed = ed + (if i % 7 = 6 then 0 else z1 (S_hi h lv9 i != S_hi h lv9 (i + 1))) := by rw [if_pos (by omega)]; omega
              have hz5 : br = br + (if i % 7 < 6 then (if i < 7 ∨ 41 < i then z1 (S_hi h lv9 i != S_hi h lv9 (i + 1)) else 0) else 0) := by rw [if_neg (by omega)]; omega
              exact HJ_137 ed br _ _ hP hD hS _ (lv_sub hl [3, 4, 0, 1, 2, 5, 6, 7, 8, 9] rfl) (by exact hz6) (by exact hz5) (by first | assumption | rfl | omega) (by first | assumption | rfl | omega)
            · refine lv_iload hx hb dL_areLinesSo_90 (lv_at hl 2 rfl) ?_
              refine lv_aload_n hx hb dL_areLinesSo_92 rfl (lv_at hl 8 rfl) ?_
              refine lv_iload hx hb dL_areLinesSo_93 (lv_at hl 6 rfl) ?_
              refine lv_iconst (v := zI 1) hx hb dL_areLinesSo_95 rfl ?_
              refine z_iadd hx hb dL_areLinesSo_96 ?_
              refine z_calli hP hD hS hA (va_runS (As := [.ref (α 0), .int (zI (i + 1))]) (rest := [.int (bI ab9)]) hC (c_L_at l D τ α γ h old ch (wt, qu5) (hi8_l, fe_l, se_l, gn_l, fp_l, sp_l, np_l, tot_l, clo_l, lon_l) sl pd ct sg od hs (i + 1) (by first | assumption | rfl | omega) (by first | assumption | rfl | omega) _) (va_cwS 2 hts (gS hB wl_L_42 wt_L_at wi_L wc_L_at) rfl rfl rfl hd_L_at.2 ⟨Nat.le_of_ble_eq_true rfl, Nat.le_of_ble_eq_true rfl⟩) (zp_S hK hP hD hS hA hG) rfl rfl hl.1 rfl (lv_room (Nat.le_of_ble_eq_true rfl)) dL_areLinesSo_97 ⟨Nat.le_of_ble_eq_true rfl, Nat.le_of_ble_eq_true rfl⟩) (fun r w1 H locs hq9 hP hD hS => ?_)
              obtain ⟨v97_95, hv97_0, hv97_1, rfl, rfl⟩ := hq9
              try simp only [e7] at hv97_0
              try simp only [e7] at hv97_1
              have hP : va_P D vwCl (wH α γ (h, old, ch) (wt, qu5) (hi8_l, fe_l, se_l, gn_l, fp_l, sp_l, np_l, tot_l, clo_l, lon_l) sl pd ct sg od hs) H := hP
              have hD : va_D A (wH α γ (h, old, ch) (wt, qu5) (hi8_l, fe_l, se_l, gn_l, fp_l, sp_l, np_l, tot_l, clo_l, lon_l) sl pd ct sg od hs) := hD
              refine lv_iload_n hx hb dL_areLinesSo_100 rfl (lv_at hl 9 rfl) ?_
              refine z_icle (tgt := 108) hx hb ⟨by omega, by omega⟩ ⟨by omega, by omega⟩ dL_areLinesSo_101 (by decide) (fun c_101 => ?_) (fun c_101 => ?_)
              · have hn9 : S_hi h lv9 (i + 1) = false := S_hi_f (by omega)
                refine lv_iconst (v := zI 0) hx hb dL_areLinesSo_108 rfl ?_
                refine W.eq (g2 := F0 m 109 ls [.int (bI false), .int (bI ab9)]) rfl ?_
                refine z_iceqB (tgt := 137) hx hb dL_areLinesSo_109 (by decide) (fun c_109 => ?_) (fun c_109 => ?_)
                · have hq9 : (S_hi h lv9 i != S_hi h lv9 (i + 1)) = false := by rw [← hab9, c_109, hn9]; rfl
                  have hz6 : ed = ed + (if i % 7 = 6 then 0 else z1 (S_hi h lv9 i != S_hi h lv9 (i + 1))) := by rw [hq9, z1_f rfl]; split <;> omega
                  have hz5 : br = br + (if i % 7 < 6 then (if i < 7 ∨ 41 < i then z1 (S_hi h lv9 i != S_hi h lv9 (i + 1)) else 0) else 0) := by rw [hq9, z1_f rfl]; (repeat' split) <;> omega
                  exact HJ_137 ed br _ _ hP hD hS _ (lv_sub hl [3, 4, 0, 1, 2, 5, 6, 7, 8, 9] rfl) (by exact hz6) (by exact hz5) (by first | assumption | rfl | omega) (by first | assumption | rfl | omega)
                · have hq9 : (S_hi h lv9 i != S_hi h lv9 (i + 1)) = true := by rw [← hab9, hn9]; revert c_109; cases ab9 <;> decide
                  refine z_iinc (k := 3) (v := ed + 1) (lv' := [(2, .int (zI (ed + 1))), (6, .int (zI bk2)), (5, .int (zI ab2)), (9, .int (bI ab9)), (3, .int (zI br)), (4, .int (zI pcs)), (8, .int (zI i)), (7, .int (zI 1)), (0, .ref (α 0)), (1, .int (zI lv9))]) hx hb dL_areLinesSo_112 hl rfl rfl (by decide) rfl (fun ls hl => ?_)
                  refine lv_iload_n hx hb dL_areLinesSo_115 rfl (lv_at hl 4 rfl) ?_
                  refine lv_iload hx hb dL_areLinesSo_116 (lv_at hl 6 rfl) ?_
                  refine lv_bipush (v := zI 7) hx hb dL_areLinesSo_118 (zI_b8 (by decide)) ?_
                  refine z_iclt (tgt := 130) hx hb ⟨by omega, by omega⟩ ⟨by omega, by omega⟩ dL_areLinesSo_120 (by decide) (fun c_120 => ?_) (fun c_120 => ?_)
                  · refine lv_iconst (v := zI 1) hx hb dL_areLinesSo_130 rfl ?_
                    refine lv_goto (tgt := 135) hx hb dL_areLinesSo_131 (by decide) ?_
                    have hz6 : (ed + 1) = ed + (if i % 7 = 6 then 0 else z1 (S_hi h lv9 i != S_hi h lv9 (i + 1))) := by rw [if_neg (by omega), hq9]; rfl
                    have hz5 : br + 1 = br + (if i % 7 < 6 then (if i < 7 ∨ 41 < i then z1 (S_hi h lv9 i != S_hi h lv9 (i + 1)) else 0) else 0) := by rw [if_pos (by omega), if_pos (by omega), hq9]; rfl
                    refine z_iadd hx hb dL_areLinesSo_135 ?_
                    refine lv_istore_n (lv' := [(3, .int (zI (br + 1))), (2, .int (zI (ed + 1))), (6, .int (zI bk2)), (5, .int (zI ab2)), (9, .int (bI ab9)), (4, .int (zI pcs)), (8, .int (zI i)), (7, .int (zI 1)), (0, .ref (α 0)), (1, .int (zI lv9))]) hx hb dL_areLinesSo_136 rfl hl (by decide) rfl (fun ls hl => ?_)
                    exact HJ_137 (ed + 1) (br + 1) _ _ hP hD hS _ (lv_sub hl [1, 0, 2, 3, 4, 5, 6, 7, 8, 9] rfl) (by exact hz6) (by exact hz5) (by first | assumption | rfl | omega) (by first | assumption | rfl | omega)
                  · refine lv_iload hx hb dL_areLinesSo_123 (lv_at hl 6 rfl) ?_
                    refine lv_bipush (v := zI 41) hx hb dL_areLinesSo_125 (zI_b8 (by decide)) ?_
                    refine z_icle (tgt := 134) hx hb ⟨by omega, by omega⟩ ⟨by omega, by omega⟩ dL_areLinesSo_127 (by decide) (fun c_127 => ?_) (fun c_127 => ?_)
                    · refine lv_iconst (v := zI 0) hx hb dL_areLinesSo_134 rfl ?_
                      have hz6 : (ed + 1) = ed + (if i % 7 = 6 then 0 else z1 (S_hi h lv9 i != S_hi h lv9 (i + 1))) := by rw [if_neg (by omega), hq9]; rfl
                      have hz5 : br + 0 = br + (if i % 7 < 6 then (if i < 7 ∨ 41 < i then z1 (S_hi h lv9 i != S_hi h lv9 (i + 1)) else 0) else 0) := by rw [if_pos (by omega), if_neg (by omega)]
                      refine z_iadd hx hb dL_areLinesSo_135 ?_
                      refine lv_istore_n (lv' := [(3, .int (zI (br + 0))), (2, .int (zI (ed + 1))), (6, .int (zI bk2)), (5, .int (zI ab2)), (9, .int (bI ab9)), (4, .int (zI pcs)), (8, .int (zI i)), (7, .int (zI 1)), (0, .ref (α 0)), (1, .int (zI lv9))]) hx hb dL_areLinesSo_136 rfl hl (by decide) rfl (fun ls hl => ?_)
                      exact HJ_137 (ed + 1) (br + 0) _ _ hP hD hS _ (lv_sub hl [1, 0, 2, 3, 4, 5, 6, 7, 8, 9] rfl) (by exact hz6) (by exact hz5) (by first | assumption | rfl | omega) (by first | assumption | rfl | omega)
                    · refine lv_iconst (v := zI 1) hx hb dL_areLinesSo_130 rfl ?_
                      refine lv_goto (tgt := 135) hx hb dL_areLinesSo_131 (by decide) ?_
                      have hz6 : (ed + 1) = ed + (if i % 7 = 6 then 0 else z1 (S_hi h lv9 i != S_hi h lv9 (i + 1))) := by rw [if_neg (by omega), hq9]; rfl
                      have hz5 : br + 1 = br + (if i % 7 < 6 then (if i < 7 ∨ 41 < i then z1 (S_hi h lv9 i != S_hi h lv9 (i + 1)) else 0) else 0) := by rw [if_pos (by omega), if_pos (by omega), hq9]; rfl
                      refine z_iadd hx hb dL_areLinesSo_135 ?_
                      refine lv_istore_n (lv' := [(3, .int (zI (br + 1))), (2, .int (zI (ed + 1))), (6, .int (zI bk2)), (5, .int (zI ab2)), (9, .int (bI ab9)), (4, .int (zI pcs)), (8, .int (zI i)), (7, .int (zI 1)), (0, .ref (α 0)), (1, .int (zI lv9))]) hx hb dL_areLinesSo_136 rfl hl (by decide) rfl (fun ls hl => ?_)
                      exact HJ_137 (ed + 1) (br + 1) _ _ hP hD hS _ (lv_sub hl [1, 0, 2, 3, 4, 5, 6, 7, 8, 9] rfl) (by exact hz6) (by exact hz5) (by first | assumption | rfl | omega) (by first | assumption | rfl | omega)
              · have hn9 : S_hi h lv9 (i + 1) = true := S_hi_t (by omega)
                refine lv_iconst (v := zI 1) hx hb dL_areLinesSo_104 rfl ?_
                refine lv_goto (tgt := 109) hx hb dL_areLinesSo_105 (by decide) ?_
                refine W.eq (g2 := F0 m 109 ls [.int (bI true), .int (bI ab9)]) rfl ?_
                refine z_iceqB (tgt := 137) hx hb dL_areLinesSo_109 (by decide) (fun c_109 => ?_) (fun c_109 => ?_)
                · have hq9 : (S_hi h lv9 i != S_hi h lv9 (i + 1)) = false := by rw [← hab9, c_109, hn9]; rfl
                  have hz6 : ed = ed + (if i % 7 = 6 then 0 else z1 (S_hi h lv9 i != S_hi h lv9 (i + 1))) := by rw [hq9, z1_f rfl]; split <;> omega
                  have hz5 : br = br + (if i % 7 < 6 then (if i < 7 ∨ 41 < i then z1 (S_hi h lv9 i != S_hi h lv9 (i + 1)) else 0) else 0) := by rw [hq9, z1_f rfl]; (repeat' split) <;> omega
                  exact HJ_137 ed br _ _ hP hD hS _ (lv_sub hl [3, 4, 0, 1, 2, 5, 6, 7, 8, 9] rfl) (by exact hz6) (by exact hz5) (by first | assumption | rfl | omega) (by first | assumption | rfl | omega)
                · have hq9 : (S_hi h lv9 i != S_hi h lv9 (i + 1)) = true := by rw [← hab9, hn9]; revert c_109; cases ab9 <;> decide
                  refine z_iinc (k := 3) (v := ed + 1) (lv' := [(2, .int (zI (ed + 1))), (6, .int (zI bk2)), (5, .int (zI ab2)), (9, .int (bI ab9)), (3, .int (zI br)), (4, .int (zI pcs)), (8, .int (zI i)), (7, .int (zI 1)), (0, .ref (α 0)), (1, .int (zI lv9))]) hx hb dL_areLinesSo_112 hl rfl rfl (by decide) rfl (fun ls hl => ?_)
                  refine lv_iload_n hx hb dL_areLinesSo_115 rfl (lv_at hl 4 rfl) ?_
                  refine lv_iload hx hb dL_areLinesSo_116 (lv_at hl 6 rfl) ?_
                  refine lv_bipush (v := zI 7) hx hb dL_areLinesSo_118 (zI_b8 (by decide)) ?_
                  refine z_iclt (tgt := 130) hx hb ⟨by omega, by omega⟩ ⟨by omega, by omega⟩ dL_areLinesSo_120 (by decide) (fun c_120 => ?_) (fun c_120 => ?_)
                  · refine lv_iconst (v := zI 1) hx hb dL_areLinesSo_130 rfl ?_
                    refine lv_goto (tgt := 135) hx hb dL_areLinesSo_131 (by decide) ?_
                    have hz6 : (ed + 1) = ed + (if i % 7 = 6 then 0 else z1 (S_hi h lv9 i != S_hi h lv9 (i + 1))) := by rw [if_neg (by omega), hq9]; rfl
                    have hz5 : br + 1 = br + (if i % 7 < 6 then (if i < 7 ∨ 41 < i then z1 (S_hi h lv9 i != S_hi h lv9 (i + 1)) else 0) else 0) := by rw [if_pos (by omega), if_pos (by omega), hq9]; rfl
                    refine z_iadd hx hb dL_areLinesSo_135 ?_
                    refine lv_istore_n (lv' := [(3, .int (zI (br + 1))), (2, .int (zI (ed + 1))), (6, .int (zI bk2)), (5, .int (zI ab2)), (9, .int (bI ab9)), (4, .int (zI pcs)), (8, .int (zI i)), (7, .int (zI 1)), (0, .ref (α 0)), (1, .int (zI lv9))]) hx hb dL_areLinesSo_136 rfl hl (by decide) rfl (fun ls hl => ?_)
                    exact HJ_137 (ed + 1) (br + 1) _ _ hP hD hS _ (lv_sub hl [1, 0, 2, 3, 4, 5, 6, 7, 8, 9] rfl) (by exact hz6) (by exact hz5) (by first | assumption | rfl | omega) (by first | assumption | rfl | omega)
                  · refine lv_iload hx hb dL_areLinesSo_123 (lv_at hl 6 rfl) ?_
                    refine lv_bipush (v := zI 41) hx hb dL_areLinesSo_125 (zI_b8 (by decide)) ?_
                    refine z_icle (tgt := 134) hx hb ⟨by omega, by omega⟩ ⟨by omega, by omega⟩ dL_areLinesSo_127 (by decide) (fun c_127 => ?_) (fun c_127 => ?_)
                    · refine lv_iconst (v := zI 0) hx hb dL_areLinesSo_134 rfl ?_
                      have hz6 : (ed + 1) = ed + (if i % 7 = 6 then 0 else z1 (S_hi h lv9 i != S_hi h lv9 (i + 1))) := by rw [if_neg (by omega), hq9]; rfl
                      have hz5 : br + 0 = br + (if i % 7 < 6 then (if i < 7 ∨ 41 < i then z1 (S_hi h lv9 i != S_hi h lv9 (i + 1)) else 0) else 0) := by rw [if_pos (by omega), if_neg (by omega)]
                      refine z_iadd hx hb dL_areLinesSo_135 ?_
                      refine lv_istore_n (lv' := [(3, .int (zI (br + 0))), (2, .int (zI (ed + 1))), (6, .int (zI bk2)), (5, .int (zI ab2)), (9, .int (bI ab9)), (4, .int (zI pcs)), (8, .int (zI i)), (7, .int (zI 1)), (0, .ref (α 0)), (1, .int (zI lv9))]) hx hb dL_areLinesSo_136 rfl hl (by decide) rfl (fun ls hl => ?_)
                      exact HJ_137 (ed + 1) (br + 0) _ _ hP hD hS _ (lv_sub hl [1, 0, 2, 3, 4, 5, 6, 7, 8, 9] rfl) (by exact hz6) (by exact hz5) (by first | assumption | rfl | omega) (by first | assumption | rfl | omega)
                    · refine lv_iconst (v := zI 1) hx hb dL_areLinesSo_130 rfl ?_
                      refine lv_goto (tgt := 135) hx hb dL_areLinesSo_131 (by decide) ?_
                      have hz6 : (ed + 1) = ed + (if i % 7 = 6 then 0 else z1 (S_hi h lv9 i != S_hi h lv9 (i + 1))) := by rw [if_neg (by omega), hq9]; rfl
                      have hz5 : br + 1 = br + (if i % 7 < 6 then (if i < 7 ∨ 41 < i then z1 (S_hi h lv9 i != S_hi h lv9 (i + 1)) else 0) else 0) := by rw [if_pos (by omega), if_pos (by omega), hq9]; rfl
                      refine z_iadd hx hb dL_areLinesSo_135 ?_
                      refine lv_istore_n (lv' := [(3, .int (zI (br + 1))), (2, .int (zI (ed + 1))), (6, .int (zI bk2)), (5, .int (zI ab2)), (9, .int (bI ab9)), (4, .int (zI pcs)), (8, .int (zI i)), (7, .int (zI 1)), (0, .ref (α 0)), (1, .int (zI lv9))]) hx hb dL_areLinesSo_136 rfl hl (by decide) rfl (fun ls hl => ?_)
                      exact HJ_137 (ed + 1) (br + 1) _ _ hP hD hS _ (lv_sub hl [1, 0, 2, 3, 4, 5, 6, 7, 8, 9] rfl) (by exact hz6) (by exact hz5) (by first | assumption | rfl | omega) (by first | assumption | rfl | omega)
          refine lv_iload hx hb dL_areLinesSo_58 (lv_at hl 5 rfl) ?_
          refine lv_iload hx hb dL_areLinesSo_60 (lv_at hl 1 rfl) ?_
          refine z_ifeqB (tgt := 76) hx hb dL_areLinesSo_62 (by decide) (fun c_62 => ?_) (fun c_62 => ?_)
          · have hz7 : bk + 0 = zS (fun k => if lv9 < h k then h k - lv9 else 0) (i + 1) := bk_f hi.1 hbk (of_decide_eq_false (hab9.symm.trans c_62))
            refine lv_iconst (v := zI 0) hx hb dL_areLinesSo_76 rfl ?_
            refine z_iadd hx hb dL_areLinesSo_77 ?_
            refine lv_istore (lv' := [(6, .int (zI (bk + 0))), (5, .int (zI ab2)), (9, .int (bI ab9)), (2, .int (zI ed)), (3, .int (zI br)), (4, .int (zI pcs)), (8, .int (zI i)), (7, .int (zI 1)), (0, .ref (α 0)), (1, .int (zI lv9))]) hx hb dL_areLinesSo_78 hl (by decide) rfl (fun ls hl => ?_)
            exact HJ_80 (bk + 0) _ _ hP hD hS _ (lv_sub hl [0, 1, 2, 3, 4, 5, 6, 7, 8, 9] rfl) (by exact hz7) (by first | assumption | rfl | omega)
          · refine lv_aload_n hx hb dL_areLinesSo_65 rfl (lv_at hl 8 rfl) ?_
            refine lv_iload hx hb dL_areLinesSo_66 (lv_at hl 6 rfl) ?_
            refine z_calli hP hD hS hA (va_runS (As := [.ref (α 0), .int (zI i)]) (rest := [.int (zI bk)]) hC (c_L_at l D τ α γ h old ch (wt, qu5) (hi8_l, fe_l, se_l, gn_l, fp_l, sp_l, np_l, tot_l, clo_l, lon_l) sl pd ct sg od hs i (by first | assumption | rfl | omega) (by first | assumption | rfl | omega) _) (va_cwS 2 hts (gS hB wl_L_42 wt_L_at wi_L wc_L_at) rfl rfl rfl hd_L_at.2 ⟨Nat.le_of_ble_eq_true rfl, Nat.le_of_ble_eq_true rfl⟩) (zp_S hK hP hD hS hA hG) rfl rfl hl.1 rfl (lv_room (Nat.le_of_ble_eq_true rfl)) dL_areLinesSo_68 ⟨Nat.le_of_ble_eq_true rfl, Nat.le_of_ble_eq_true rfl⟩) (fun r w1 H locs hq9 hP hD hS => ?_)
            obtain ⟨v68_96, hv68_0, hv68_1, rfl, rfl⟩ := hq9
            try simp only [e7] at hv68_0
            try simp only [e7] at hv68_1
            have hP : va_P D vwCl (wH α γ (h, old, ch) (wt, qu5) (hi8_l, fe_l, se_l, gn_l, fp_l, sp_l, np_l, tot_l, clo_l, lon_l) sl pd ct sg od hs) H := hP
            have hD : va_D A (wH α γ (h, old, ch) (wt, qu5) (hi8_l, fe_l, se_l, gn_l, fp_l, sp_l, np_l, tot_l, clo_l, lon_l) sl pd ct sg od hs) := hD
            have hq8 : lv9 < h i := of_decide_eq_true (hab9.symm.trans c_62)
            have hz7 : bk + (v68_96 - lv9) = zS (fun k => if lv9 < h k then h k - lv9 else 0) (i + 1) := bk_t hi.1 hbk hq8 hv68_0
            refine lv_iload_n hx hb dL_areLinesSo_71 rfl (lv_at hl 9 rfl) ?_
            refine z_isub hx hb dL_areLinesSo_72 ?_
            refine lv_goto (tgt := 77) hx hb dL_areLinesSo_73 (by decide) ?_
            refine z_iadd hx hb dL_areLinesSo_77 ?_
            refine lv_istore (lv' := [(6, .int (zI (bk + (v68_96 - lv9)))), (5, .int (zI ab2)), (9, .int (bI ab9)), (2, .int (zI ed)), (3, .int (zI br)), (4, .int (zI pcs)), (8, .int (zI i)), (7, .int (zI 1)), (0, .ref (α 0)), (1, .int (zI lv9))]) hx hb dL_areLinesSo_78 hl (by decide) rfl (fun ls hl => ?_)
            exact HJ_80 (bk + (v68_96 - lv9)) _ _ hP hD hS _ (lv_sub hl [0, 1, 2, 3, 4, 5, 6, 7, 8, 9] rfl) (by exact hz7) (by first | assumption | rfl | omega)
        refine lv_iload hx hb dL_areLinesSo_43 (lv_at hl 4 rfl) ?_
        refine lv_iload hx hb dL_areLinesSo_45 (lv_at hl 0 rfl) ?_
        refine z_ifeqB (tgt := 54) hx hb dL_areLinesSo_47 (by decide) (fun c_47 => ?_) (fun c_47 => ?_)
        · have hz8 : ab + 0 = zC (S_hi h lv9) (i + 1) := by rw [zC_up hi.1, ← hab, z1_f (hab9.symm.trans c_47)]
          refine lv_iconst (v := zI 0) hx hb dL_areLinesSo_54 rfl ?_
          refine z_iadd hx hb dL_areLinesSo_55 ?_
          refine lv_istore (lv' := [(5, .int (zI (ab + 0))), (9, .int (bI ab9)), (2, .int (zI ed)), (3, .int (zI br)), (4, .int (zI pcs)), (6, .int (zI bk)), (8, .int (zI i)), (7, .int (zI 1)), (0, .ref (α 0)), (1, .int (zI lv9))]) hx hb dL_areLinesSo_56 hl (by decide) rfl (fun ls hl => ?_)
          exact HJ_58 (ab + 0) _ _ hP hD hS _ (lv_sub hl [0, 1, 2, 3, 4, 5, 6, 7, 8, 9] rfl) (by exact hz8) (by first | assumption | rfl | omega)
        · have hz8 : ab + 1 = zC (S_hi h lv9) (i + 1) := by rw [zC_up hi.1, ← hab, z1_t (hab9.symm.trans c_47)]
          refine lv_iconst (v := zI 1) hx hb dL_areLinesSo_50 rfl ?_
          refine lv_goto (tgt := 55) hx hb dL_areLinesSo_51 (by decide) ?_
          refine z_iadd hx hb dL_areLinesSo_55 ?_
          refine lv_istore (lv' := [(5, .int (zI (ab + 1))), (9, .int (bI ab9)), (2, .int (zI ed)), (3, .int (zI br)), (4, .int (zI pcs)), (6, .int (zI bk)), (8, .int (zI i)), (7, .int (zI 1)), (0, .ref (α 0)), (1, .int (zI lv9))]) hx hb dL_areLinesSo_56 hl (by decide) rfl (fun ls hl => ?_)
          exact HJ_58 (ab + 1) _ _ hP hD hS _ (lv_sub hl [0, 1, 2, 3, 4, 5, 6, 7, 8, 9] rfl) (by exact hz8) (by first | assumption | rfl | omega)
      refine z_icle (tgt := 40) hx hb ⟨by omega, by omega⟩ ⟨by omega, by omega⟩ dL_areLinesSo_33 (by decide) (fun c_33 => ?_) (fun c_33 => ?_)
      · have hz9 : false = S_hi h lv9 i := (S_hi_f (by omega)).symm
        refine lv_iconst (v := zI 0) hx hb dL_areLinesSo_40 rfl ?_
        exact HJ_41 false _ _ hP hD hS _ (lv_sub hl [0, 1, 2, 3, 4, 5, 6, 7, 8] rfl) (by exact hz9)
      · have hz9 : true = S_hi h lv9 i := (S_hi_t (by omega)).symm
        refine lv_iconst (v := zI 1) hx hb dL_areLinesSo_36 rfl ?_
        refine lv_goto (tgt := 41) hx hb dL_areLinesSo_37 (by decide) ?_
        exact HJ_41 true _ _ hP hD hS _ (lv_sub hl [0, 1, 2, 3, 4, 5, 6, 7, 8] rfl) (by exact hz9)

abbrev wz_L_isPointSo : List Cond := .code yL_isPointSo cL_isPointSo 10 (some .boolean) :: W0
abbrev rm_L_isPointSo : Room := { frames := 6, cells := 0, slots := 0, locals := 138 }
theorem hd_L_isPointSo : yL_isPointSo.cls = RL ∧ yL_isPointSo.cls ≠ "java/lang/invoke/MethodHandle" ∧ yL_isPointSo.cls ≠ "java/lang/invoke/VarHandle" ∧ (parseMethodDescriptor yL_isPointSo.desc).map (fun d => d.parameters.length) = some 2 := by decide +kernel
set_option maxHeartbeats 4000000 in
set_option maxRecDepth 100000 in
theorem c_L_isPointSo (l : Launch) (D : va_G) (τ : Nat → Nat) (α : Nat → Nat) (γ : Nat → ClassId) (h : IA) (old : IA) (ch : IA) (wt : BA) (qu5 : IA) (ln : TLn) (nx : IA) (dr : IA) (qu : IA) (wy : IA) (lv : IA) (ct : TCt) (sg : TSg) (od : TOd) (hs : THs) (p : Int) (hp : 0 ≤ p ∧ p < 49) (hh : ∀ k, 0 ≤ k → k < 49 → 0 ≤ h k ∧ h k ≤ 99) : cM l yL_isPointSo wz_L_isPointSo rm_L_isPointSo D τ (tyH γ) [.ref (α 0), .int (zI p)] (wH α γ (h, old, ch) (wt, qu5) ln (nx, dr, qu) (wy, lv) ct sg od hs) (zQi (fun r w => ∃ (nx_p : IA), ∃ (dr_p : IA), ∃ (qu_p : IA), ∃ (wy_p : IA), ∃ (lv_p : IA), ∃ (wt_p : BA), ∃ (qu5_p : IA), ∃ (v : Bool), (v = true) ∧ r = bI v ∧ wH α γ (h, old, ch) (wt_p, qu5_p) ln (nx_p, dr_p, qu_p) (wy_p, lv_p) ct sg od hs = w)) := by
  refine z_ofM (cc := cL_isPointSo) (maxL := 10) (ret := (some .boolean)) (by decide +kernel) rfl (Nat.le_of_ble_eq_true rfl) ?_
  intro pg e s m args below meth c hC hr hlk hnm hK hP A hD hG hA hS ls hl Q hQ
  have hx := hC.1
  have hb := hC.2.1
  have hml := hC.2.2.1
  have hown := hC.2.2.2.1
  have hts := hC.2.2.2.2
  have hB : ∀ w ∈ W0, w ∈ wz_L_isPointSo := fun _ h => List.mem_cons_of_mem _ h
  have hW0 : ∀ w ∈ W0, w.before args s = true := fun w h => hts w (hB w h)
  have hl : lv_has ls 10 [(0, .ref (α 0)), (1, .int (zI p))] := hl
  have hdn := q_drop_nn (h := h) hp
  have hdb := S_drop_b hh hp
  have hd0 := q_drop0 (h := h) hp
  have hsk := q_sink_b (h := h) hp
  have hsl := q_sink_le (h := h) hp
  have hso := (S_sink_ok (h := h) hp).1
  have hst0 := q_steps0 (h := h) hp
  have hfl := q_flow1 (h := h) hp
  have hfb := S_flow_b h p
  have hb0 := q_basin0 (h := h) hp
  have hbb := S_basin_b h p
  have hsb := st_b h p
  have hsp := (q_spill hh hp).1
  have hge := q_spill_ge hh hp
  have hhp := hh p hp.1 hp.2
  refine lv_iload_n hx hb dL_isPointSo_0 rfl (lv_at hl 1 rfl) ?_
  refine lv_bipush (v := zI 7) hx hb dL_isPointSo_1 (zI_b8 (by decide)) ?_
  refine z_idiv hx hb ⟨⟨by omega, by omega⟩, by omega, by omega⟩ dL_isPointSo_3 ?_
  refine lv_istore_n (lv' := [(2, .int (zI (p / 7))), (0, .ref (α 0)), (1, .int (zI p))]) hx hb dL_isPointSo_4 rfl hl (by decide) rfl (fun ls hl => ?_)
  refine lv_iload_n hx hb dL_isPointSo_5 rfl (lv_at hl 2 rfl) ?_
  refine lv_bipush (v := zI 7) hx hb dL_isPointSo_6 (zI_b8 (by decide)) ?_
  refine z_irem hx hb ⟨⟨by omega, by omega⟩, by omega, by omega⟩ dL_isPointSo_8 ?_
  refine lv_istore_n (lv' := [(3, .int (zI (p % 7))), (2, .int (zI (p / 7))), (0, .ref (α 0)), (1, .int (zI p))]) hx hb dL_isPointSo_9 rfl hl (by decide) rfl (fun ls hl => ?_)
  refine lv_aload_n hx hb dL_isPointSo_10 rfl (lv_at hl 2 rfl) ?_
  refine lv_iload_n hx hb dL_isPointSo_11 rfl (lv_at hl 1 rfl) ?_
  refine lv_iload_n hx hb dL_isPointSo_12 rfl (lv_at hl 0 rfl) ?_
  refine z_calli hP hD hS hA (va_runV (As := [.int (zI (p / 7)), .int (zI (p % 7))]) (rest := []) hC (c_X9_dropOf l D τ α γ h old ch (wt, qu5) ln nx dr qu (wy, lv) ct sg od hs (p / 7) (p % 7) (by first | assumption | rfl | omega) (by first | assumption | rfl | omega) (by first | assumption | rfl | omega) _) (cwV 2 hts (gV hB wl_L_52 wn_X9_dropOf ws_X9_dropOf wi_X9 wc_X9_dropOf) rfl rfl rfl hd_X9_dropOf ⟨Nat.le_of_ble_eq_true rfl, Nat.le_of_ble_eq_true rfl⟩) (zp_V hK hP hD hS hA hG (ci := 9) (q0 := 0) rfl rfl rfl) rfl rfl hl.1 rfl (lv_room (Nat.le_of_ble_eq_true rfl)) dL_isPointSo_13 ⟨Nat.le_of_ble_eq_true rfl, Nat.le_of_ble_eq_true rfl⟩) (fun r w1 H locs hq9 hP hD hS => ?_)
  obtain ⟨n13_1, d13_2, v13_3, hv13_0, hv13_1, rfl, rfl⟩ := hq9
  try simp only [e7] at hv13_0
  try simp only [e7] at hv13_1
  have hP : va_P D vwCl (wH α γ (h, old, ch) (wt, qu5) ln (n13_1, d13_2, qu) (wy, lv) ct sg od hs) H := hP
  have hD : va_D A (wH α γ (h, old, ch) (wt, qu5) ln (n13_1, d13_2, qu) (wy, lv) ct sg od hs) := hD
  refine lv_istore (lv' := [(4, .int (zI v13_3)), (3, .int (zI (p % 7))), (2, .int (zI (p / 7))), (0, .ref (α 0)), (1, .int (zI p))]) hx hb dL_isPointSo_16 hl (by decide) rfl (fun ls hl => ?_)
  refine lv_aload_n hx hb dL_isPointSo_18 rfl (lv_at hl 3 rfl) ?_
  refine lv_iload_n hx hb dL_isPointSo_19 rfl (lv_at hl 2 rfl) ?_
  refine lv_iload_n hx hb dL_isPointSo_20 rfl (lv_at hl 1 rfl) ?_
  refine z_calli hP hD hS hA (va_runV (As := [.int (zI (p / 7)), .int (zI (p % 7))]) (rest := []) hC (c_X9_sinkOf l D τ α γ h old ch (wt, qu5) ln n13_1 d13_2 qu (wy, lv) ct sg od hs (p / 7) (p % 7) (by first | assumption | rfl | omega) (by first | assumption | rfl | omega) (by first | assumption | rfl | omega) _) (cwV 2 hts (gV hB wl_L_101 wn_X9_sinkOf ws_X9_sinkOf wi_X9 wc_X9_sinkOf) rfl rfl rfl hd_X9_sinkOf ⟨Nat.le_of_ble_eq_true rfl, Nat.le_of_ble_eq_true rfl⟩) (zp_V hK hP hD hS hA hG (ci := 9) (q0 := 0) rfl rfl rfl) rfl rfl hl.1 rfl (lv_room (Nat.le_of_ble_eq_true rfl)) dL_isPointSo_21 ⟨Nat.le_of_ble_eq_true rfl, Nat.le_of_ble_eq_true rfl⟩) (fun r w1 H locs hq9 hP hD hS => ?_)
  obtain ⟨n21_4, d21_5, v21_6, hv21_0, hv21_1, rfl, rfl⟩ := hq9
  try simp only [e7] at hv21_0
  try simp only [e7] at hv21_1
  have hP : va_P D vwCl (wH α γ (h, old, ch) (wt, qu5) ln (n21_4, d21_5, qu) (wy, lv) ct sg od hs) H := hP
  have hD : va_D A (wH α γ (h, old, ch) (wt, qu5) ln (n21_4, d21_5, qu) (wy, lv) ct sg od hs) := hD
  rw [← hv21_1] at hsk hsl hso
  refine lv_istore (lv' := [(5, .int (zI v21_6)), (4, .int (zI v13_3)), (3, .int (zI (p % 7))), (2, .int (zI (p / 7))), (0, .ref (α 0)), (1, .int (zI p))]) hx hb dL_isPointSo_24 hl (by decide) rfl (fun ls hl => ?_)
  refine lv_aload_n hx hb dL_isPointSo_26 rfl (lv_at hl 4 rfl) ?_
  refine lv_iload_n hx hb dL_isPointSo_27 rfl (lv_at hl 3 rfl) ?_
  refine lv_iload_n hx hb dL_isPointSo_28 rfl (lv_at hl 2 rfl) ?_
  refine z_calli hP hD hS hA (va_runV (As := [.int (zI (p / 7)), .int (zI (p % 7))]) (rest := []) hC (c_X9_spillByWays l D τ α γ h old ch (wt, qu5) ln (n21_4, d21_5, qu) wy lv ct sg od hs (p / 7) (p % 7) (by first | assumption | rfl | omega) (by first | assumption | rfl | omega) (by first | assumption | rfl | omega) _) (cwV 2 hts (gV hB wl_L_104 wn_X9_spillByWays ws_X9_spillByWays wi_X9 wc_X9_spillByWays) rfl rfl rfl hd_X9_spillByWays ⟨Nat.le_of_ble_eq_true rfl, Nat.le_of_ble_eq_true rfl⟩) (zp_V hK hP hD hS hA hG (ci := 9) (q0 := 0) rfl rfl rfl) rfl rfl hl.1 rfl (lv_room (Nat.le_of_ble_eq_true rfl)) dL_isPointSo_29 ⟨Nat.le_of_ble_eq_true rfl, Nat.le_of_ble_eq_true rfl⟩) (fun r w1 H locs hq9 hP hD hS => ?_)
  obtain ⟨w29_7, v29_8, hv29_0, hv29_1, rfl, rfl⟩ := hq9
  try simp only [e7] at hv29_0
  try simp only [e7] at hv29_1
  have hP : va_P D vwCl (wH α γ (h, old, ch) (wt, qu5) ln (n21_4, d21_5, qu) (w29_7, lv) ct sg od hs) H := hP
  have hD : va_D A (wH α γ (h, old, ch) (wt, qu5) ln (n21_4, d21_5, qu) (w29_7, lv) ct sg od hs) := hD
  refine lv_istore (lv' := [(6, .int (zI v29_8)), (5, .int (zI v21_6)), (4, .int (zI v13_3)), (3, .int (zI (p % 7))), (2, .int (zI (p / 7))), (0, .ref (α 0)), (1, .int (zI p))]) hx hb dL_isPointSo_32 hl (by decide) rfl (fun ls hl => ?_)
  have HJ_53 : ∀ (nx_a : IA) (dr_a : IA) (qu_a : IA) (H : Heap) (locs : List Loc) (hP : va_P D vwCl (wH α γ (h, old, ch) (wt, qu5) ln (nx_a, dr_a, qu_a) (w29_7, lv) ct sg od hs) H) (hD : va_D A (wH α γ (h, old, ch) (wt, qu5) ln (nx_a, dr_a, qu_a) (w29_7, lv) ct sg od hs)) (hS : va_S A s.heap H locs) (ls : Array Slot) (hl : lv_has ls 10 [(6, .int (zI v29_8)), (5, .int (zI v21_6)), (4, .int (zI v13_3)), (3, .int (zI (p % 7))), (2, .int (zI (p / 7))), (0, .ref (α 0)), (1, .int (zI p))]), W pg l e rm_L_isPointSo s m args below meth c H locs 0 0 Q (F0 m 53 ls []) := by
    intro nx_a dr_a qu_a H locs hP hD hS ls hl
    refine lv_aload_n hx hb dL_isPointSo_53 rfl (lv_at hl 5 rfl) ?_
    refine lv_iload hx hb dL_isPointSo_54 (lv_at hl 1 rfl) ?_
    refine lv_bipush (v := zI 7) hx hb dL_isPointSo_56 (zI_b8 (by decide)) ?_
    refine z_idiv hx hb ⟨⟨by omega, by omega⟩, by omega, by omega⟩ dL_isPointSo_58 ?_
    refine lv_iload hx hb dL_isPointSo_59 (lv_at hl 1 rfl) ?_
    refine lv_bipush (v := zI 7) hx hb dL_isPointSo_61 (zI_b8 (by decide)) ?_
    refine z_irem hx hb ⟨⟨by omega, by omega⟩, by omega, by omega⟩ dL_isPointSo_63 ?_
    refine z_calli hP hD hS hA (va_runV (As := [.int (zI (v21_6 / 7)), .int (zI (v21_6 % 7))]) (rest := []) hC (c_X9_isSink l D τ α γ h old ch (wt, qu5) ln nx_a dr_a qu_a (w29_7, lv) ct sg od hs (v21_6 / 7) (v21_6 % 7) (by first | assumption | rfl | omega) (by first | assumption | rfl | omega) (by first | assumption | rfl | omega) _) (cwV 2 hts (gV hB wl_L_107 wn_X9_isSink ws_X9_isSink wi_X9 wc_X9_isSink) rfl rfl rfl hd_X9_isSink ⟨Nat.le_of_ble_eq_true rfl, Nat.le_of_ble_eq_true rfl⟩) (zp_V hK hP hD hS hA hG (ci := 9) (q0 := 0) rfl rfl rfl) rfl rfl hl.1 rfl (lv_room (Nat.le_of_ble_eq_true rfl)) dL_isPointSo_64 ⟨Nat.le_of_ble_eq_true rfl, Nat.le_of_ble_eq_true rfl⟩) (fun r w1 H locs hq9 hP hD hS => ?_)
    obtain ⟨n64_9, d64_10, v64_11, hv64_0, hv64_1, rfl, rfl⟩ := hq9
    try simp only [e7] at hv64_0
    try simp only [e7] at hv64_1
    have hP : va_P D vwCl (wH α γ (h, old, ch) (wt, qu5) ln (n64_9, d64_10, qu_a) (w29_7, lv) ct sg od hs) H := hP
    have hD : va_D A (wH α γ (h, old, ch) (wt, qu5) ln (n64_9, d64_10, qu_a) (w29_7, lv) ct sg od hs) := hD
    refine z_ifeqB (tgt := 166) hx hb dL_isPointSo_67 (by decide) (fun c_67 => ?_) (fun c_67 => ?_)
    · have hb_67 := zb_neg hv64_1 c_67
      exact absurd hso hb_67
    · have hb_67 := hv64_1.mp c_67
      refine lv_aload_n hx hb dL_isPointSo_70 rfl (lv_at hl 5 rfl) ?_
      refine lv_iload hx hb dL_isPointSo_71 (lv_at hl 1 rfl) ?_
      refine z_calli hP hD hS hA (va_runS (As := [.ref (α 0), .int (zI v21_6)]) (rest := []) hC (c_L_at l D τ α γ h old ch (wt, qu5) ln (n64_9, d64_10, qu_a) (w29_7, lv) ct sg od hs v21_6 (by first | assumption | rfl | omega) (by first | assumption | rfl | omega) _) (va_cwS 2 hts (gS hB wl_L_42 wt_L_at wi_L wc_L_at) rfl rfl rfl hd_L_at.2 ⟨Nat.le_of_ble_eq_true rfl, Nat.le_of_ble_eq_true rfl⟩) (zp_S hK hP hD hS hA hG) rfl rfl hl.1 rfl (lv_room (Nat.le_of_ble_eq_true rfl)) dL_isPointSo_73 ⟨Nat.le_of_ble_eq_true rfl, Nat.le_of_ble_eq_true rfl⟩) (fun r w1 H locs hq9 hP hD hS => ?_)
      obtain ⟨v73_12, hv73_0, hv73_1, rfl, rfl⟩ := hq9
      try simp only [e7] at hv73_0
      try simp only [e7] at hv73_1
      have hP : va_P D vwCl (wH α γ (h, old, ch) (wt, qu5) ln (n64_9, d64_10, qu_a) (w29_7, lv) ct sg od hs) H := hP
      have hD : va_D A (wH α γ (h, old, ch) (wt, qu5) ln (n64_9, d64_10, qu_a) (w29_7, lv) ct sg od hs) := hD
      refine lv_aload_n hx hb dL_isPointSo_76 rfl (lv_at hl 5 rfl) ?_
      refine lv_iload_n hx hb dL_isPointSo_77 rfl (lv_at hl 6 rfl) ?_
      refine z_calli hP hD hS hA (va_runS (As := [.ref (α 0), .int (zI p)]) (rest := [.int (zI v73_12)]) hC (c_L_at l D τ α γ h old ch (wt, qu5) ln (n64_9, d64_10, qu_a) (w29_7, lv) ct sg od hs p (by first | assumption | rfl | omega) (by first | assumption | rfl | omega) _) (va_cwS 2 hts (gS hB wl_L_42 wt_L_at wi_L wc_L_at) rfl rfl rfl hd_L_at.2 ⟨Nat.le_of_ble_eq_true rfl, Nat.le_of_ble_eq_true rfl⟩) (zp_S hK hP hD hS hA hG) rfl rfl hl.1 rfl (lv_room (Nat.le_of_ble_eq_true rfl)) dL_isPointSo_78 ⟨Nat.le_of_ble_eq_true rfl, Nat.le_of_ble_eq_true rfl⟩) (fun r w1 H locs hq9 hP hD hS => ?_)
      obtain ⟨v78_13, hv78_0, hv78_1, rfl, rfl⟩ := hq9
      try simp only [e7] at hv78_0
      try simp only [e7] at hv78_1
      have hP : va_P D vwCl (wH α γ (h, old, ch) (wt, qu5) ln (n64_9, d64_10, qu_a) (w29_7, lv) ct sg od hs) H := hP
      have hD : va_D A (wH α γ (h, old, ch) (wt, qu5) ln (n64_9, d64_10, qu_a) (w29_7, lv) ct sg od hs) := hD
      refine z_icgt (tgt := 166) hx hb ⟨by omega, by omega⟩ ⟨by omega, by omega⟩ dL_isPointSo_81 (by decide) (fun c_81 => ?_) (fun c_81 => ?_)
      · exfalso; omega
      · have HJ_111 : ∀ (nx_b : IA) (dr_b : IA) (qu_b : IA) (H : Heap) (locs : List Loc) (hP : va_P D vwCl (wH α γ (h, old, ch) (wt, qu5) ln (nx_b, dr_b, qu_b) (w29_7, lv) ct sg od hs) H) (hD : va_D A (wH α γ (h, old, ch) (wt, qu5) ln (nx_b, dr_b, qu_b) (w29_7, lv) ct sg od hs)) (hS : va_S A s.heap H locs) (ls : Array Slot) (hl : lv_has ls 10 [(6, .int (zI v29_8)), (5, .int (zI v21_6)), (4, .int (zI v13_3)), (3, .int (zI (p % 7))), (2, .int (zI (p / 7))), (0, .ref (α 0)), (1, .int (zI p))]), W pg l e rm_L_isPointSo s m args below meth c H locs 0 0 Q (F0 m 111 ls []) := by
          intro nx_b dr_b qu_b H locs hP hD hS ls hl
          refine lv_aload_n hx hb dL_isPointSo_111 rfl (lv_at hl 5 rfl) ?_
          refine lv_iload_n hx hb dL_isPointSo_112 rfl (lv_at hl 4 rfl) ?_
          refine lv_iload_n hx hb dL_isPointSo_113 rfl (lv_at hl 3 rfl) ?_
          refine z_calli hP hD hS hA (va_runV (As := [.int (zI (p / 7)), .int (zI (p % 7))]) (rest := []) hC (c_X9_basinByFollowing l D τ α γ h old ch (wt, qu5) ln nx_b dr_b qu_b (w29_7, lv) ct sg od hs (p / 7) (p % 7) (by first | assumption | rfl | omega) (by first | assumption | rfl | omega) (by first | assumption | rfl | omega) _) (cwV 2 hts (gV hB wl_L_114 wn_X9_basinByFollowing ws_X9_basinByFollowing wi_X9 wc_X9_basinByFollowing) rfl rfl rfl hd_X9_basinByFollowing ⟨Nat.le_of_ble_eq_true rfl, Nat.le_of_ble_eq_true rfl⟩) (zp_V hK hP hD hS hA hG (ci := 9) (q0 := 0) rfl rfl rfl) rfl rfl hl.1 rfl (lv_room (Nat.le_of_ble_eq_true rfl)) dL_isPointSo_114 ⟨Nat.le_of_ble_eq_true rfl, Nat.le_of_ble_eq_true rfl⟩) (fun r w1 H locs hq9 hP hD hS => ?_)
          obtain ⟨n114_14, d114_15, v114_16, hv114_0, hv114_1, rfl, rfl⟩ := hq9
          try simp only [e7] at hv114_0
          try simp only [e7] at hv114_1
          have hP : va_P D vwCl (wH α γ (h, old, ch) (wt, qu5) ln (n114_14, d114_15, qu_b) (w29_7, lv) ct sg od hs) H := hP
          have hD : va_D A (wH α γ (h, old, ch) (wt, qu5) ln (n114_14, d114_15, qu_b) (w29_7, lv) ct sg od hs) := hD
          refine lv_aload_n hx hb dL_isPointSo_117 rfl (lv_at hl 5 rfl) ?_
          refine lv_iload_n hx hb dL_isPointSo_118 rfl (lv_at hl 4 rfl) ?_
          refine lv_iload_n hx hb dL_isPointSo_119 rfl (lv_at hl 3 rfl) ?_
          refine z_calli hP hD hS hA (va_runV (As := [.int (zI (p / 7)), .int (zI (p % 7))]) (rest := [.int (zI v114_16)]) hC (c_X9_basinByGoingUp l D τ α γ h old ch (wt, qu5) ln n114_14 d114_15 qu_b (w29_7, lv) ct sg od hs (p / 7) (p % 7) (by first | assumption | rfl | omega) (by first | assumption | rfl | omega) (by first | assumption | rfl | omega) _) (cwV 2 hts (gV hB wl_L_117 wn_X9_basinByGoingUp ws_X9_basinByGoingUp wi_X9 wc_X9_basinByGoingUp) rfl rfl rfl hd_X9_basinByGoingUp ⟨Nat.le_of_ble_eq_true rfl, Nat.le_of_ble_eq_true rfl⟩) (zp_V hK hP hD hS hA hG (ci := 9) (q0 := 0) rfl rfl rfl) rfl rfl hl.1 rfl (lv_room (Nat.le_of_ble_eq_true rfl)) dL_isPointSo_120 ⟨Nat.le_of_ble_eq_true rfl, Nat.le_of_ble_eq_true rfl⟩) (fun r w1 H locs hq9 hP hD hS => ?_)
          obtain ⟨n120_17, d120_18, q120_19, v120_20, hv120_0, hv120_1, rfl, rfl⟩ := hq9
          try simp only [e7] at hv120_0
          try simp only [e7] at hv120_1
          have hP : va_P D vwCl (wH α γ (h, old, ch) (wt, qu5) ln (n120_17, d120_18, q120_19) (w29_7, lv) ct sg od hs) H := hP
          have hD : va_D A (wH α γ (h, old, ch) (wt, qu5) ln (n120_17, d120_18, q120_19) (w29_7, lv) ct sg od hs) := hD
          refine z_icne (tgt := 166) hx hb ⟨by omega, by omega⟩ ⟨by omega, by omega⟩ dL_isPointSo_123 (by decide) (fun c_123 => ?_) (fun c_123 => ?_)
          · exfalso; omega
          · have HJ_153 : ∀ (nx_c : IA) (dr_c : IA) (qu_c : IA) (H : Heap) (locs : List Loc) (hP : va_P D vwCl (wH α γ (h, old, ch) (wt, qu5) ln (nx_c, dr_c, qu_c) (w29_7, lv) ct sg od hs) H) (hD : va_D A (wH α γ (h, old, ch) (wt, qu5) ln (nx_c, dr_c, qu_c) (w29_7, lv) ct sg od hs)) (hS : va_S A s.heap H locs) (ls : Array Slot) (hl : lv_has ls 10 [(6, .int (zI v29_8)), (5, .int (zI v21_6)), (4, .int (zI v13_3)), (3, .int (zI (p % 7))), (2, .int (zI (p / 7))), (0, .ref (α 0)), (1, .int (zI p))]), W pg l e rm_L_isPointSo s m args below meth c H locs 0 0 Q (F0 m 153 ls []) := by
              intro nx_c dr_c qu_c H locs hP hD hS ls hl
              refine lv_aload_n hx hb dL_isPointSo_153 rfl (lv_at hl 5 rfl) ?_
              refine lv_iload_n hx hb dL_isPointSo_154 rfl (lv_at hl 4 rfl) ?_
              refine lv_iload_n hx hb dL_isPointSo_155 rfl (lv_at hl 3 rfl) ?_
              refine z_calli hP hD hS hA (va_runV (As := [.int (zI (p / 7)), .int (zI (p % 7))]) (rest := []) hC (c_X9_flowAt l D τ α γ h old ch (wt, qu5) ln nx_c dr_c qu_c (w29_7, lv) ct sg od hs (p / 7) (p % 7) (by first | assumption | rfl | omega) (by first | assumption | rfl | omega) (by first | assumption | rfl | omega) _) (cwV 2 hts (gV hB wl_L_120 wn_X9_flowAt ws_X9_flowAt wi_X9 wc_X9_flowAt) rfl rfl rfl hd_X9_flowAt ⟨Nat.le_of_ble_eq_true rfl, Nat.le_of_ble_eq_true rfl⟩) (zp_V hK hP hD hS hA hG (ci := 9) (q0 := 0) rfl rfl rfl) rfl rfl hl.1 rfl (lv_room (Nat.le_of_ble_eq_true rfl)) dL_isPointSo_156 ⟨Nat.le_of_ble_eq_true rfl, Nat.le_of_ble_eq_true rfl⟩) (fun r w1 H locs hq9 hP hD hS => ?_)
              obtain ⟨n156_21, d156_22, q156_23, v156_24, hv156_0, hv156_1, rfl, rfl⟩ := hq9
              try simp only [e7] at hv156_0
              try simp only [e7] at hv156_1
              have hP : va_P D vwCl (wH α γ (h, old, ch) (wt, qu5) ln (n156_21, d156_22, q156_23) (w29_7, lv) ct sg od hs) H := hP
              have hD : va_D A (wH α γ (h, old, ch) (wt, qu5) ln (n156_21, d156_22, q156_23) (w29_7, lv) ct sg od hs) := hD
              refine z_ifle (tgt := 166) hx hb ⟨by omega, by omega⟩ dL_isPointSo_159 (by decide) (fun c_159 => ?_) (fun c_159 => ?_)
              · exfalso; omega
              · refine lv_iconst (v := zI 1) hx hb dL_isPointSo_162 rfl ?_
                refine lv_goto (tgt := 167) hx hb dL_isPointSo_163 (by decide) ?_
                refine lv_istore (lv' := [(7, .int (zI 1)), (6, .int (zI v29_8)), (5, .int (zI v21_6)), (4, .int (zI v13_3)), (3, .int (zI (p % 7))), (2, .int (zI (p / 7))), (0, .ref (α 0)), (1, .int (zI p))]) hx hb dL_isPointSo_167 hl (by decide) rfl (fun ls hl => ?_)
                have HJ_383 : ∀ (nx_q : IA) (dr_q : IA) (qu_q : IA) (H : Heap) (locs : List Loc) (hP : va_P D vwCl (wH α γ (h, old, ch) (wt, qu5) ln (nx_q, dr_q, qu_q) (w29_7, lv) ct sg od hs) H) (hD : va_D A (wH α γ (h, old, ch) (wt, qu5) ln (nx_q, dr_q, qu_q) (w29_7, lv) ct sg od hs)) (hS : va_S A s.heap H locs) (ls : Array Slot) (hl : lv_has ls 10 [(7, .int (zI 1)), (6, .int (zI v29_8)), (5, .int (zI v21_6)), (4, .int (zI v13_3)), (3, .int (zI (p % 7))), (2, .int (zI (p / 7))), (0, .ref (α 0)), (1, .int (zI p))]), W pg l e rm_L_isPointSo s m args below meth c H locs 0 0 Q (F0 m 383 ls []) := by
                  intro nx_q dr_q qu_q H locs hP hD hS ls hl
                  have HJ_408 : ∀ (bd : Bool) (H : Heap) (locs : List Loc) (hP : va_P D vwCl (wH α γ (h, old, ch) (wt, qu5) ln (nx_q, dr_q, qu_q) (w29_7, lv) ct sg od hs) H) (hD : va_D A (wH α γ (h, old, ch) (wt, qu5) ln (nx_q, dr_q, qu_q) (w29_7, lv) ct sg od hs)) (hS : va_S A s.heap H locs) (ls : Array Slot) (hl : lv_has ls 10 [(7, .int (zI 1)), (6, .int (zI v29_8)), (5, .int (zI v21_6)), (4, .int (zI v13_3)), (3, .int (zI (p % 7))), (2, .int (zI (p / 7))), (0, .ref (α 0)), (1, .int (zI p))]) (hbd : bd = true ↔ (p / 7 = 0 ∨ p / 7 = 6 ∨ p % 7 = 0 ∨ p % 7 = 6)), W pg l e rm_L_isPointSo s m args below meth c H locs 0 0 Q (F0 m 408 ls [.int (bI bd)]) := by
                    intro bd H locs hP hD hS ls hl hbd
                    refine lv_istore (lv' := [(8, .int (bI bd)), (7, .int (zI 1)), (6, .int (zI v29_8)), (5, .int (zI v21_6)), (4, .int (zI v13_3)), (3, .int (zI (p % 7))), (2, .int (zI (p / 7))), (0, .ref (α 0)), (1, .int (zI p))]) hx hb dL_isPointSo_408 hl (by decide) rfl (fun ls hl => ?_)
                    refine lv_iload hx hb dL_isPointSo_410 (lv_at hl 1 rfl) ?_
                    refine z_ifeq (tgt := 472) hx hb ⟨by omega, by omega⟩ dL_isPointSo_412 (by decide) (fun c_412 => ?_) (fun c_412 => ?_)
                    · exact absurd c_412 (by decide)
                    · refine lv_aload_n hx hb dL_isPointSo_415 rfl (lv_at hl 7 rfl) ?_
                      refine lv_iload_n hx hb dL_isPointSo_416 rfl (lv_at hl 6 rfl) ?_
                      refine lv_iload_n hx hb dL_isPointSo_417 rfl (lv_at hl 5 rfl) ?_
                      refine z_calli hP hD hS hA (va_runV (As := [.int (zI (p / 7)), .int (zI (p % 7))]) (rest := []) hC (c_X9_spillByLevels l D τ α γ h old ch wt qu5 ln (nx_q, dr_q, qu_q) w29_7 lv ct sg od hs (p / 7) (p % 7) (by first | assumption | rfl | omega) (by first | assumption | rfl | omega) (by first | assumption | rfl | omega) _) (cwV 2 hts (gV hB wl_L_129 wn_X9_spillByLevels ws_X9_spillByLevels wi_X9 wc_X9_spillByLevels) rfl rfl rfl hd_X9_spillByLevels ⟨Nat.le_of_ble_eq_true rfl, Nat.le_of_ble_eq_true rfl⟩) (zp_V hK hP hD hS hA hG (ci := 9) (q0 := 0) rfl rfl rfl) rfl rfl hl.1 rfl (lv_room (Nat.le_of_ble_eq_true rfl)) dL_isPointSo_418 ⟨Nat.le_of_ble_eq_true rfl, Nat.le_of_ble_eq_true rfl⟩) (fun r w1 H locs hq9 hP hD hS => ?_)
                      obtain ⟨l418_25, w418_26, q418_27, v418_28, hv418_0, hv418_1, rfl, rfl⟩ := hq9
                      try simp only [e7] at hv418_0
                      try simp only [e7] at hv418_1
                      have hP : va_P D vwCl (wH α γ (h, old, ch) (w418_26, q418_27) ln (nx_q, dr_q, qu_q) (w29_7, l418_25) ct sg od hs) H := hP
                      have hD : va_D A (wH α γ (h, old, ch) (w418_26, q418_27) ln (nx_q, dr_q, qu_q) (w29_7, l418_25) ct sg od hs) := hD
                      refine lv_iload hx hb dL_isPointSo_421 (lv_at hl 2 rfl) ?_
                      refine z_icne (tgt := 472) hx hb ⟨by omega, by omega⟩ ⟨by omega, by omega⟩ dL_isPointSo_423 (by decide) (fun c_423 => ?_) (fun c_423 => ?_)
                      · exfalso; omega
                      · refine lv_iload hx hb dL_isPointSo_426 (lv_at hl 2 rfl) ?_
                        refine lv_aload_n hx hb dL_isPointSo_428 rfl (lv_at hl 7 rfl) ?_
                        refine lv_iload_n hx hb dL_isPointSo_429 rfl (lv_at hl 8 rfl) ?_
                        refine z_calli hP hD hS hA (va_runS (As := [.ref (α 0), .int (zI p)]) (rest := [.int (zI v29_8)]) hC (c_L_at l D τ α γ h old ch (w418_26, q418_27) ln (nx_q, dr_q, qu_q) (w29_7, l418_25) ct sg od hs p (by first | assumption | rfl | omega) (by first | assumption | rfl | omega) _) (va_cwS 2 hts (gS hB wl_L_42 wt_L_at wi_L wc_L_at) rfl rfl rfl hd_L_at.2 ⟨Nat.le_of_ble_eq_true rfl, Nat.le_of_ble_eq_true rfl⟩) (zp_S hK hP hD hS hA hG) rfl rfl hl.1 rfl (lv_room (Nat.le_of_ble_eq_true rfl)) dL_isPointSo_430 ⟨Nat.le_of_ble_eq_true rfl, Nat.le_of_ble_eq_true rfl⟩) (fun r w1 H locs hq9 hP hD hS => ?_)
                        obtain ⟨v430_29, hv430_0, hv430_1, rfl, rfl⟩ := hq9
                        try simp only [e7] at hv430_0
                        try simp only [e7] at hv430_1
                        have hP : va_P D vwCl (wH α γ (h, old, ch) (w418_26, q418_27) ln (nx_q, dr_q, qu_q) (w29_7, l418_25) ct sg od hs) H := hP
                        have hD : va_D A (wH α γ (h, old, ch) (w418_26, q418_27) ln (nx_q, dr_q, qu_q) (w29_7, l418_25) ct sg od hs) := hD
                        refine z_iclt (tgt := 472) hx hb ⟨by omega, by omega⟩ ⟨by omega, by omega⟩ dL_isPointSo_433 (by decide) (fun c_433 => ?_) (fun c_433 => ?_)
                        · exfalso; omega
                        · have HJ_451 : ∀ (wt_r : BA) (qu5_r : IA) (wy_r : IA) (lv_r : IA) (H : Heap) (locs : List Loc) (hP : va_P D vwCl (wH α γ (h, old, ch) (wt_r, qu5_r) ln (nx_q, dr_q, qu_q) (wy_r, lv_r) ct sg od hs) H) (hD : va_D A (wH α γ (h, old, ch) (wt_r, qu5_r) ln (nx_q, dr_q, qu_q) (wy_r, lv_r) ct sg od hs)) (hS : va_S A s.heap H locs) (ls : Array Slot) (hl : lv_has ls 10 [(8, .int (bI bd)), (7, .int (zI 1)), (6, .int (zI v29_8)), (5, .int (zI v21_6)), (4, .int (zI v13_3)), (3, .int (zI (p % 7))), (2, .int (zI (p / 7))), (0, .ref (α 0)), (1, .int (zI p))]), W pg l e rm_L_isPointSo s m args below meth c H locs 0 0 Q (F0 m 451 ls []) := by
                            intro wt_r qu5_r wy_r lv_r H locs hP hD hS ls hl
                            refine lv_aload_n hx hb dL_isPointSo_451 rfl (lv_at hl 7 rfl) ?_
                            refine lv_iload_n hx hb dL_isPointSo_452 rfl (lv_at hl 6 rfl) ?_
                            refine lv_iload_n hx hb dL_isPointSo_453 rfl (lv_at hl 5 rfl) ?_
                            refine z_calli hP hD hS hA (va_runV (As := [.int (zI (p / 7)), .int (zI (p % 7))]) (rest := []) hC (c_X9_depthOf l D τ α γ h old ch (wt_r, qu5_r) ln (nx_q, dr_q, qu_q) wy_r lv_r ct sg od hs (p / 7) (p % 7) (by first | assumption | rfl | omega) (by first | assumption | rfl | omega) (by first | assumption | rfl | omega) _) (cwV 2 hts (gV hB wl_L_132 wn_X9_depthOf ws_X9_depthOf wi_X9 wc_X9_depthOf) rfl rfl rfl hd_X9_depthOf ⟨Nat.le_of_ble_eq_true rfl, Nat.le_of_ble_eq_true rfl⟩) (zp_V hK hP hD hS hA hG (ci := 9) (q0 := 0) rfl rfl rfl) rfl rfl hl.1 rfl (lv_room (Nat.le_of_ble_eq_true rfl)) dL_isPointSo_454 ⟨Nat.le_of_ble_eq_true rfl, Nat.le_of_ble_eq_true rfl⟩) (fun r w1 H locs hq9 hP hD hS => ?_)
                            obtain ⟨w454_30, v454_31, hv454_0, hv454_1, rfl, rfl⟩ := hq9
                            try simp only [e7] at hv454_0
                            try simp only [e7] at hv454_1
                            have hP : va_P D vwCl (wH α γ (h, old, ch) (wt_r, qu5_r) ln (nx_q, dr_q, qu_q) (w454_30, lv_r) ct sg od hs) H := hP
                            have hD : va_D A (wH α γ (h, old, ch) (wt_r, qu5_r) ln (nx_q, dr_q, qu_q) (w454_30, lv_r) ct sg od hs) := hD
                            refine lv_iload hx hb dL_isPointSo_457 (lv_at hl 2 rfl) ?_
                            refine lv_aload_n hx hb dL_isPointSo_459 rfl (lv_at hl 7 rfl) ?_
                            refine lv_iload_n hx hb dL_isPointSo_460 rfl (lv_at hl 8 rfl) ?_
                            refine z_calli hP hD hS hA (va_runS (As := [.ref (α 0), .int (zI p)]) (rest := [.int (zI v29_8), .int (zI v454_31)]) hC (c_L_at l D τ α γ h old ch (wt_r, qu5_r) ln (nx_q, dr_q, qu_q) (w454_30, lv_r) ct sg od hs p (by first | assumption | rfl | omega) (by first | assumption | rfl | omega) _) (va_cwS 2 hts (gS hB wl_L_42 wt_L_at wi_L wc_L_at) rfl rfl rfl hd_L_at.2 ⟨Nat.le_of_ble_eq_true rfl, Nat.le_of_ble_eq_true rfl⟩) (zp_S hK hP hD hS hA hG) rfl rfl hl.1 rfl (lv_room (Nat.le_of_ble_eq_true rfl)) dL_isPointSo_461 ⟨Nat.le_of_ble_eq_true rfl, Nat.le_of_ble_eq_true rfl⟩) (fun r w1 H locs hq9 hP hD hS => ?_)
                            obtain ⟨v461_32, hv461_0, hv461_1, rfl, rfl⟩ := hq9
                            try simp only [e7] at hv461_0
                            try simp only [e7] at hv461_1
                            have hP : va_P D vwCl (wH α γ (h, old, ch) (wt_r, qu5_r) ln (nx_q, dr_q, qu_q) (w454_30, lv_r) ct sg od hs) H := hP
                            have hD : va_D A (wH α γ (h, old, ch) (wt_r, qu5_r) ln (nx_q, dr_q, qu_q) (w454_30, lv_r) ct sg od hs) := hD
                            refine z_isub hx hb dL_isPointSo_464 ?_
                            refine z_icne (tgt := 472) hx hb ⟨by omega, by omega⟩ ⟨by omega, by omega⟩ dL_isPointSo_465 (by decide) (fun c_465 => ?_) (fun c_465 => ?_)
                            · exfalso; omega
                            · refine lv_iconst (v := zI 1) hx hb dL_isPointSo_468 rfl ?_
                              refine lv_goto (tgt := 473) hx hb dL_isPointSo_469 (by decide) ?_
                              refine lv_istore (lv' := [(7, .int (zI 1)), (8, .int (bI bd)), (6, .int (zI v29_8)), (5, .int (zI v21_6)), (4, .int (zI v13_3)), (3, .int (zI (p % 7))), (2, .int (zI (p / 7))), (0, .ref (α 0)), (1, .int (zI p))]) hx hb dL_isPointSo_473 hl (by decide) rfl (fun ls hl => ?_)
                              have HJ_496 : ∀ (wy_s : IA) (lv_s : IA) (be : Int) (H : Heap) (locs : List Loc) (hP : va_P D vwCl (wH α γ (h, old, ch) (wt_r, qu5_r) ln (nx_q, dr_q, qu_q) (wy_s, lv_s) ct sg od hs) H) (hD : va_D A (wH α γ (h, old, ch) (wt_r, qu5_r) ln (nx_q, dr_q, qu_q) (wy_s, lv_s) ct sg od hs)) (hS : va_S A s.heap H locs) (ls : Array Slot) (hl : lv_has ls 10 [(9, .int (zI be)), (7, .int (zI 1)), (8, .int (bI bd)), (6, .int (zI v29_8)), (5, .int (zI v21_6)), (4, .int (zI v13_3)), (3, .int (zI (p % 7))), (2, .int (zI (p / 7))), (0, .ref (α 0)), (1, .int (zI p))]) (hbe : p / 7 < 6 → be = S_spill h (p + 7)) (hbeb : 0 ≤ be ∧ be ≤ 100), W pg l e rm_L_isPointSo s m args below meth c H locs 0 0 Q (F0 m 496 ls []) := by
                                intro wy_s lv_s be H locs hP hD hS ls hl hbe hbeb
                                refine lv_iload hx hb dL_isPointSo_496 (lv_at hl 1 rfl) ?_
                                refine z_ifeq (tgt := 541) hx hb ⟨by omega, by omega⟩ dL_isPointSo_498 (by decide) (fun c_498 => ?_) (fun c_498 => ?_)
                                · exact absurd c_498 (by decide)
                                · refine lv_iload_n hx hb dL_isPointSo_501 rfl (lv_at hl 7 rfl) ?_
                                  refine lv_bipush (v := zI 6) hx hb dL_isPointSo_502 (zI_b8 (by decide)) ?_
                                  refine z_iceq (tgt := 537) hx hb ⟨by omega, by omega⟩ ⟨by omega, by omega⟩ dL_isPointSo_504 (by decide) (fun c_504 => ?_) (fun c_504 => ?_)
                                  · refine lv_iconst (v := zI 1) hx hb dL_isPointSo_537 rfl ?_
                                    refine lv_goto (tgt := 542) hx hb dL_isPointSo_538 (by decide) ?_
                                    refine W.eq (g2 := F0 m 542 ls [.int (bI true)]) rfl ?_
                                    exact z_zret hC hr hlk hQ hP hD hS ⟨nx_q, dr_q, qu_q, wy_s, lv_s, wt_r, qu5_r, true, (by rfl), rfl, rfl⟩ dL_isPointSo_542
                                  · refine lv_iload hx hb dL_isPointSo_507 (lv_at hl 2 rfl) ?_
                                    refine z_ifneB (tgt := 537) hx hb dL_isPointSo_509 (by decide) (fun c_509 => ?_) (fun c_509 => ?_)
                                    · refine lv_iconst (v := zI 1) hx hb dL_isPointSo_537 rfl ?_
                                      refine lv_goto (tgt := 542) hx hb dL_isPointSo_538 (by decide) ?_
                                      refine W.eq (g2 := F0 m 542 ls [.int (bI true)]) rfl ?_
                                      exact z_zret hC hr hlk hQ hP hD hS ⟨nx_q, dr_q, qu_q, wy_s, lv_s, wt_r, qu5_r, true, (by rfl), rfl, rfl⟩ dL_isPointSo_542
                                    · have hdd := q_spill_dn hh (k := p) ⟨hp.1, by omega⟩
                                      have hbe9 := hbe (by omega)
                                      refine lv_iload hx hb dL_isPointSo_512 (lv_at hl 3 rfl) ?_
                                      refine lv_iload hx hb dL_isPointSo_514 (lv_at hl 0 rfl) ?_
                                      refine lv_aload_n hx hb dL_isPointSo_516 rfl (lv_at hl 8 rfl) ?_
                                      refine lv_iload_n hx hb dL_isPointSo_517 rfl (lv_at hl 9 rfl) ?_
                                      refine z_calli hP hD hS hA (va_runS (As := [.ref (α 0), .int (zI p)]) (rest := [.int (zI be), .int (zI v29_8)]) hC (c_L_at l D τ α γ h old ch (wt_r, qu5_r) ln (nx_q, dr_q, qu_q) (wy_s, lv_s) ct sg od hs p (by first | assumption | rfl | omega) (by first | assumption | rfl | omega) _) (va_cwS 2 hts (gS hB wl_L_42 wt_L_at wi_L wc_L_at) rfl rfl rfl hd_L_at.2 ⟨Nat.le_of_ble_eq_true rfl, Nat.le_of_ble_eq_true rfl⟩) (zp_S hK hP hD hS hA hG) rfl rfl hl.1 rfl (lv_room (Nat.le_of_ble_eq_true rfl)) dL_isPointSo_518 ⟨Nat.le_of_ble_eq_true rfl, Nat.le_of_ble_eq_true rfl⟩) (fun r w1 H locs hq9 hP hD hS => ?_)
                                      obtain ⟨v518_33, hv518_0, hv518_1, rfl, rfl⟩ := hq9
                                      try simp only [e7] at hv518_0
                                      try simp only [e7] at hv518_1
                                      have hP : va_P D vwCl (wH α γ (h, old, ch) (wt_r, qu5_r) ln (nx_q, dr_q, qu_q) (wy_s, lv_s) ct sg od hs) H := hP
                                      have hD : va_D A (wH α γ (h, old, ch) (wt_r, qu5_r) ln (nx_q, dr_q, qu_q) (wy_s, lv_s) ct sg od hs) := hD
                                      refine z_icle (tgt := 529) hx hb ⟨by omega, by omega⟩ ⟨by omega, by omega⟩ dL_isPointSo_521 (by decide) (fun c_521 => ?_) (fun c_521 => ?_)
                                      · refine lv_aload_n hx hb dL_isPointSo_529 rfl (lv_at hl 8 rfl) ?_
                                        refine lv_iload_n hx hb dL_isPointSo_530 rfl (lv_at hl 9 rfl) ?_
                                        refine z_calli hP hD hS hA (va_runS (As := [.ref (α 0), .int (zI p)]) (rest := [.int (zI v29_8)]) hC (c_L_at l D τ α γ h old ch (wt_r, qu5_r) ln (nx_q, dr_q, qu_q) (wy_s, lv_s) ct sg od hs p (by first | assumption | rfl | omega) (by first | assumption | rfl | omega) _) (va_cwS 2 hts (gS hB wl_L_42 wt_L_at wi_L wc_L_at) rfl rfl rfl hd_L_at.2 ⟨Nat.le_of_ble_eq_true rfl, Nat.le_of_ble_eq_true rfl⟩) (zp_S hK hP hD hS hA hG) rfl rfl hl.1 rfl (lv_room (Nat.le_of_ble_eq_true rfl)) dL_isPointSo_531 ⟨Nat.le_of_ble_eq_true rfl, Nat.le_of_ble_eq_true rfl⟩) (fun r w1 H locs hq9 hP hD hS => ?_)
                                        obtain ⟨v531_34, hv531_0, hv531_1, rfl, rfl⟩ := hq9
                                        try simp only [e7] at hv531_0
                                        try simp only [e7] at hv531_1
                                        have hP : va_P D vwCl (wH α γ (h, old, ch) (wt_r, qu5_r) ln (nx_q, dr_q, qu_q) (wy_s, lv_s) ct sg od hs) H := hP
                                        have hD : va_D A (wH α γ (h, old, ch) (wt_r, qu5_r) ln (nx_q, dr_q, qu_q) (wy_s, lv_s) ct sg od hs) := hD
                                        refine z_icgt (tgt := 541) hx hb ⟨by omega, by omega⟩ ⟨by omega, by omega⟩ dL_isPointSo_534 (by decide) (fun c_534 => ?_) (fun c_534 => ?_)
                                        · exfalso; omega
                                        · refine lv_iconst (v := zI 1) hx hb dL_isPointSo_537 rfl ?_
                                          refine lv_goto (tgt := 542) hx hb dL_isPointSo_538 (by decide) ?_
                                          refine W.eq (g2 := F0 m 542 ls [.int (bI true)]) rfl ?_
                                          exact z_zret hC hr hlk hQ hP hD hS ⟨nx_q, dr_q, qu_q, wy_s, lv_s, wt_r, qu5_r, true, (by rfl), rfl, rfl⟩ dL_isPointSo_542
                                      · refine lv_iload hx hb dL_isPointSo_524 (lv_at hl 0 rfl) ?_
                                        refine lv_goto (tgt := 534) hx hb dL_isPointSo_526 (by decide) ?_
                                        refine z_icgt (tgt := 541) hx hb ⟨by omega, by omega⟩ ⟨by omega, by omega⟩ dL_isPointSo_534 (by decide) (fun c_534 => ?_) (fun c_534 => ?_)
                                        · exfalso; omega
                                        · refine lv_iconst (v := zI 1) hx hb dL_isPointSo_537 rfl ?_
                                          refine lv_goto (tgt := 542) hx hb dL_isPointSo_538 (by decide) ?_
                                          refine W.eq (g2 := F0 m 542 ls [.int (bI true)]) rfl ?_
                                          exact z_zret hC hr hlk hQ hP hD hS ⟨nx_q, dr_q, qu_q, wy_s, lv_s, wt_r, qu5_r, true, (by rfl), rfl, rfl⟩ dL_isPointSo_542
                              refine lv_iload_n hx hb dL_isPointSo_475 rfl (lv_at hl 6 rfl) ?_
                              refine lv_bipush (v := zI 6) hx hb dL_isPointSo_476 (zI_b8 (by decide)) ?_
                              refine z_icge (tgt := 492) hx hb ⟨by omega, by omega⟩ ⟨by omega, by omega⟩ dL_isPointSo_478 (by decide) (fun c_478 => ?_) (fun c_478 => ?_)
                              · have hz8 : p / 7 < 6 → v29_8 = S_spill h (p + 7) := fun z9 => absurd z9 (by omega)
                                refine lv_iload hx hb dL_isPointSo_492 (lv_at hl 2 rfl) ?_
                                refine lv_istore (lv' := [(9, .int (zI v29_8)), (7, .int (zI 1)), (8, .int (bI bd)), (6, .int (zI v29_8)), (5, .int (zI v21_6)), (4, .int (zI v13_3)), (3, .int (zI (p % 7))), (2, .int (zI (p / 7))), (0, .ref (α 0)), (1, .int (zI p))]) hx hb dL_isPointSo_494 hl (by decide) rfl (fun ls hl => ?_)
                                exact HJ_496 w454_30 lv_r v29_8 _ _ hP hD hS _ (lv_sub hl [0, 1, 2, 3, 4, 5, 6, 7, 8, 9] rfl) (by exact hz8) (by first | assumption | rfl | omega)
                              · have e77 : 7 * (p / 7 + 1) + p % 7 = p + 7 := by omega
                                refine lv_aload_n hx hb dL_isPointSo_481 rfl (lv_at hl 7 rfl) ?_
                                refine lv_iload_n hx hb dL_isPointSo_482 rfl (lv_at hl 6 rfl) ?_
                                refine lv_iconst (v := zI 1) hx hb dL_isPointSo_483 rfl ?_
                                refine z_iadd hx hb dL_isPointSo_484 ?_
                                refine lv_iload_n hx hb dL_isPointSo_485 rfl (lv_at hl 5 rfl) ?_
                                refine z_calli hP hD hS hA (va_runV (As := [.int (zI ((p / 7) + 1)), .int (zI (p % 7))]) (rest := []) hC (c_X9_spillByWays l D τ α γ h old ch (wt_r, qu5_r) ln (nx_q, dr_q, qu_q) w454_30 lv_r ct sg od hs ((p / 7) + 1) (p % 7) (by first | assumption | rfl | omega) (by first | assumption | rfl | omega) (by first | assumption | rfl | omega) _) (cwV 2 hts (gV hB wl_L_104 wn_X9_spillByWays ws_X9_spillByWays wi_X9 wc_X9_spillByWays) rfl rfl rfl hd_X9_spillByWays ⟨Nat.le_of_ble_eq_true rfl, Nat.le_of_ble_eq_true rfl⟩) (zp_V hK hP hD hS hA hG (ci := 9) (q0 := 0) rfl rfl rfl) rfl rfl hl.1 rfl (lv_room (Nat.le_of_ble_eq_true rfl)) dL_isPointSo_486 ⟨Nat.le_of_ble_eq_true rfl, Nat.le_of_ble_eq_true rfl⟩) (fun r w1 H locs hq9 hP hD hS => ?_)
                                obtain ⟨w486_35, v486_36, hv486_0, hv486_1, rfl, rfl⟩ := hq9
                                try simp only [e7] at hv486_0
                                try simp only [e7] at hv486_1
                                have hP : va_P D vwCl (wH α γ (h, old, ch) (wt_r, qu5_r) ln (nx_q, dr_q, qu_q) (w486_35, lv_r) ct sg od hs) H := hP
                                have hD : va_D A (wH α γ (h, old, ch) (wt_r, qu5_r) ln (nx_q, dr_q, qu_q) (w486_35, lv_r) ct sg od hs) := hD
                                rw [e77] at hv486_1
                                have b486 := (q_spill hh (k := p + 7) ⟨by omega, by omega⟩).1
                                have hz8 : p / 7 < 6 → v486_36 = S_spill h (p + 7) := fun _ => hv486_1
                                refine lv_goto (tgt := 494) hx hb dL_isPointSo_489 (by decide) ?_
                                refine lv_istore (lv' := [(9, .int (zI v486_36)), (7, .int (zI 1)), (8, .int (bI bd)), (6, .int (zI v29_8)), (5, .int (zI v21_6)), (4, .int (zI v13_3)), (3, .int (zI (p % 7))), (2, .int (zI (p / 7))), (0, .ref (α 0)), (1, .int (zI p))]) hx hb dL_isPointSo_494 hl (by decide) rfl (fun ls hl => ?_)
                                exact HJ_496 w486_35 lv_r v486_36 _ _ hP hD hS _ (lv_sub hl [0, 1, 2, 3, 4, 5, 6, 7, 8, 9] rfl) (by exact hz8) (by first | assumption | rfl | omega)
                          refine lv_iload hx hb dL_isPointSo_436 (lv_at hl 0 rfl) ?_
                          refine z_ifeqB (tgt := 451) hx hb dL_isPointSo_438 (by decide) (fun c_438 => ?_) (fun c_438 => ?_)
                          · exact HJ_451 w418_26 q418_27 w29_7 l418_25 _ _ hP hD hS _ (lv_sub hl [0, 1, 2, 3, 4, 5, 6, 7, 8] rfl) 
                          · refine lv_iload hx hb dL_isPointSo_441 (lv_at hl 2 rfl) ?_
                            refine lv_aload_n hx hb dL_isPointSo_443 rfl (lv_at hl 7 rfl) ?_
                            refine lv_iload_n hx hb dL_isPointSo_444 rfl (lv_at hl 8 rfl) ?_
                            have hbe1 := q_spill_bd hh hp (hbd.mp c_438)
                            refine z_calli hP hD hS hA (va_runS (As := [.ref (α 0), .int (zI p)]) (rest := [.int (zI v29_8)]) hC (c_L_at l D τ α γ h old ch (w418_26, q418_27) ln (nx_q, dr_q, qu_q) (w29_7, l418_25) ct sg od hs p (by first | assumption | rfl | omega) (by first | assumption | rfl | omega) _) (va_cwS 2 hts (gS hB wl_L_42 wt_L_at wi_L wc_L_at) rfl rfl rfl hd_L_at.2 ⟨Nat.le_of_ble_eq_true rfl, Nat.le_of_ble_eq_true rfl⟩) (zp_S hK hP hD hS hA hG) rfl rfl hl.1 rfl (lv_room (Nat.le_of_ble_eq_true rfl)) dL_isPointSo_445 ⟨Nat.le_of_ble_eq_true rfl, Nat.le_of_ble_eq_true rfl⟩) (fun r w1 H locs hq9 hP hD hS => ?_)
                            obtain ⟨v445_37, hv445_0, hv445_1, rfl, rfl⟩ := hq9
                            try simp only [e7] at hv445_0
                            try simp only [e7] at hv445_1
                            have hP : va_P D vwCl (wH α γ (h, old, ch) (w418_26, q418_27) ln (nx_q, dr_q, qu_q) (w29_7, l418_25) ct sg od hs) H := hP
                            have hD : va_D A (wH α γ (h, old, ch) (w418_26, q418_27) ln (nx_q, dr_q, qu_q) (w29_7, l418_25) ct sg od hs) := hD
                            refine z_icne (tgt := 472) hx hb ⟨by omega, by omega⟩ ⟨by omega, by omega⟩ dL_isPointSo_448 (by decide) (fun c_448 => ?_) (fun c_448 => ?_)
                            · exfalso; omega
                            · exact HJ_451 w418_26 q418_27 w29_7 l418_25 _ _ hP hD hS _ (lv_sub hl [0, 1, 2, 3, 4, 5, 6, 7, 8] rfl) 
                  refine lv_iload_n hx hb dL_isPointSo_383 rfl (lv_at hl 5 rfl) ?_
                  refine z_ifeq (tgt := 403) hx hb ⟨by omega, by omega⟩ dL_isPointSo_384 (by decide) (fun c_384 => ?_) (fun c_384 => ?_)
                  · have hz9 : (true = true ↔ (p / 7 = 0 ∨ p / 7 = 6 ∨ p % 7 = 0 ∨ p % 7 = 6)) := ⟨fun _ => by omega, fun _ => rfl⟩
                    refine lv_iconst (v := zI 1) hx hb dL_isPointSo_403 rfl ?_
                    refine lv_goto (tgt := 408) hx hb dL_isPointSo_404 (by decide) ?_
                    exact HJ_408 true _ _ hP hD hS _ (lv_sub hl [0, 1, 2, 3, 4, 5, 6, 7] rfl) (by exact hz9)
                  · refine lv_iload_n hx hb dL_isPointSo_387 rfl (lv_at hl 5 rfl) ?_
                    refine lv_bipush (v := zI 6) hx hb dL_isPointSo_388 (zI_b8 (by decide)) ?_
                    refine z_iceq (tgt := 403) hx hb ⟨by omega, by omega⟩ ⟨by omega, by omega⟩ dL_isPointSo_390 (by decide) (fun c_390 => ?_) (fun c_390 => ?_)
                    · have hz9 : (true = true ↔ (p / 7 = 0 ∨ p / 7 = 6 ∨ p % 7 = 0 ∨ p % 7 = 6)) := ⟨fun _ => by omega, fun _ => rfl⟩
                      refine lv_iconst (v := zI 1) hx hb dL_isPointSo_403 rfl ?_
                      refine lv_goto (tgt := 408) hx hb dL_isPointSo_404 (by decide) ?_
                      exact HJ_408 true _ _ hP hD hS _ (lv_sub hl [0, 1, 2, 3, 4, 5, 6, 7] rfl) (by exact hz9)
                    · refine lv_iload_n hx hb dL_isPointSo_393 rfl (lv_at hl 4 rfl) ?_
                      refine z_ifeq (tgt := 403) hx hb ⟨by omega, by omega⟩ dL_isPointSo_394 (by decide) (fun c_394 => ?_) (fun c_394 => ?_)
                      · have hz9 : (true = true ↔ (p / 7 = 0 ∨ p / 7 = 6 ∨ p % 7 = 0 ∨ p % 7 = 6)) := ⟨fun _ => by omega, fun _ => rfl⟩
                        refine lv_iconst (v := zI 1) hx hb dL_isPointSo_403 rfl ?_
                        refine lv_goto (tgt := 408) hx hb dL_isPointSo_404 (by decide) ?_
                        exact HJ_408 true _ _ hP hD hS _ (lv_sub hl [0, 1, 2, 3, 4, 5, 6, 7] rfl) (by exact hz9)
                      · refine lv_iload_n hx hb dL_isPointSo_397 rfl (lv_at hl 4 rfl) ?_
                        refine lv_bipush (v := zI 6) hx hb dL_isPointSo_398 (zI_b8 (by decide)) ?_
                        refine z_icne (tgt := 407) hx hb ⟨by omega, by omega⟩ ⟨by omega, by omega⟩ dL_isPointSo_400 (by decide) (fun c_400 => ?_) (fun c_400 => ?_)
                        · have hz9 : (false = true ↔ (p / 7 = 0 ∨ p / 7 = 6 ∨ p % 7 = 0 ∨ p % 7 = 6)) := ⟨fun z => (by cases z), fun z => by omega⟩
                          refine lv_iconst (v := zI 0) hx hb dL_isPointSo_407 rfl ?_
                          exact HJ_408 false _ _ hP hD hS _ (lv_sub hl [0, 1, 2, 3, 4, 5, 6, 7] rfl) (by exact hz9)
                        · have hz9 : (true = true ↔ (p / 7 = 0 ∨ p / 7 = 6 ∨ p % 7 = 0 ∨ p % 7 = 6)) := ⟨fun _ => by omega, fun _ => rfl⟩
                          refine lv_iconst (v := zI 1) hx hb dL_isPointSo_403 rfl ?_
                          refine lv_goto (tgt := 408) hx hb dL_isPointSo_404 (by decide) ?_
                          exact HJ_408 true _ _ hP hD hS _ (lv_sub hl [0, 1, 2, 3, 4, 5, 6, 7] rfl) (by exact hz9)
                refine lv_iload hx hb dL_isPointSo_169 (lv_at hl 3 rfl) ?_
                refine z_ifle (tgt := 323) hx hb ⟨by omega, by omega⟩ dL_isPointSo_171 (by decide) (fun c_171 => ?_) (fun c_171 => ?_)
                · have hnx := hd0.mpr (by omega)
                  have hss := (S_sink_s hnx).1
                  rw [← hv21_1] at hss
                  have hbf := q_basin_f hnx
                  refine lv_iload hx hb dL_isPointSo_323 (lv_at hl 0 rfl) ?_
                  refine z_ifeq (tgt := 380) hx hb ⟨by omega, by omega⟩ dL_isPointSo_325 (by decide) (fun c_325 => ?_) (fun c_325 => ?_)
                  · exact absurd c_325 (by decide)
                  · refine lv_iload hx hb dL_isPointSo_328 (lv_at hl 2 rfl) ?_
                    refine lv_iload_n hx hb dL_isPointSo_330 rfl (lv_at hl 7 rfl) ?_
                    refine z_icne (tgt := 380) hx hb ⟨by omega, by omega⟩ ⟨by omega, by omega⟩ dL_isPointSo_331 (by decide) (fun c_331 => ?_) (fun c_331 => ?_)
                    · exfalso; omega
                    · refine lv_aload_n hx hb dL_isPointSo_334 rfl (lv_at hl 6 rfl) ?_
                      refine lv_iload_n hx hb dL_isPointSo_335 rfl (lv_at hl 5 rfl) ?_
                      refine lv_iload_n hx hb dL_isPointSo_336 rfl (lv_at hl 4 rfl) ?_
                      refine z_calli hP hD hS hA (va_runV (As := [.int (zI (p / 7)), .int (zI (p % 7))]) (rest := []) hC (c_X9_basinByFollowing l D τ α γ h old ch (wt, qu5) ln n156_21 d156_22 q156_23 (w29_7, lv) ct sg od hs (p / 7) (p % 7) (by first | assumption | rfl | omega) (by first | assumption | rfl | omega) (by first | assumption | rfl | omega) _) (cwV 2 hts (gV hB wl_L_114 wn_X9_basinByFollowing ws_X9_basinByFollowing wi_X9 wc_X9_basinByFollowing) rfl rfl rfl hd_X9_basinByFollowing ⟨Nat.le_of_ble_eq_true rfl, Nat.le_of_ble_eq_true rfl⟩) (zp_V hK hP hD hS hA hG (ci := 9) (q0 := 0) rfl rfl rfl) rfl rfl hl.1 rfl (lv_room (Nat.le_of_ble_eq_true rfl)) dL_isPointSo_337 ⟨Nat.le_of_ble_eq_true rfl, Nat.le_of_ble_eq_true rfl⟩) (fun r w1 H locs hq9 hP hD hS => ?_)
                      obtain ⟨n337_38, d337_39, v337_40, hv337_0, hv337_1, rfl, rfl⟩ := hq9
                      try simp only [e7] at hv337_0
                      try simp only [e7] at hv337_1
                      have hP : va_P D vwCl (wH α γ (h, old, ch) (wt, qu5) ln (n337_38, d337_39, q156_23) (w29_7, lv) ct sg od hs) H := hP
                      have hD : va_D A (wH α γ (h, old, ch) (wt, qu5) ln (n337_38, d337_39, q156_23) (w29_7, lv) ct sg od hs) := hD
                      refine lv_aload_n hx hb dL_isPointSo_340 rfl (lv_at hl 6 rfl) ?_
                      refine lv_iload_n hx hb dL_isPointSo_341 rfl (lv_at hl 5 rfl) ?_
                      refine lv_iload_n hx hb dL_isPointSo_342 rfl (lv_at hl 4 rfl) ?_
                      refine z_calli hP hD hS hA (va_runV (As := [.int (zI (p / 7)), .int (zI (p % 7))]) (rest := [.int (zI v337_40)]) hC (c_X9_flowAt l D τ α γ h old ch (wt, qu5) ln n337_38 d337_39 q156_23 (w29_7, lv) ct sg od hs (p / 7) (p % 7) (by first | assumption | rfl | omega) (by first | assumption | rfl | omega) (by first | assumption | rfl | omega) _) (cwV 2 hts (gV hB wl_L_120 wn_X9_flowAt ws_X9_flowAt wi_X9 wc_X9_flowAt) rfl rfl rfl hd_X9_flowAt ⟨Nat.le_of_ble_eq_true rfl, Nat.le_of_ble_eq_true rfl⟩) (zp_V hK hP hD hS hA hG (ci := 9) (q0 := 0) rfl rfl rfl) rfl rfl hl.1 rfl (lv_room (Nat.le_of_ble_eq_true rfl)) dL_isPointSo_343 ⟨Nat.le_of_ble_eq_true rfl, Nat.le_of_ble_eq_true rfl⟩) (fun r w1 H locs hq9 hP hD hS => ?_)
                      obtain ⟨n343_41, d343_42, q343_43, v343_44, hv343_0, hv343_1, rfl, rfl⟩ := hq9
                      try simp only [e7] at hv343_0
                      try simp only [e7] at hv343_1
                      have hP : va_P D vwCl (wH α γ (h, old, ch) (wt, qu5) ln (n343_41, d343_42, q343_43) (w29_7, lv) ct sg od hs) H := hP
                      have hD : va_D A (wH α γ (h, old, ch) (wt, qu5) ln (n343_41, d343_42, q343_43) (w29_7, lv) ct sg od hs) := hD
                      refine z_icne (tgt := 380) hx hb ⟨by omega, by omega⟩ ⟨by omega, by omega⟩ dL_isPointSo_346 (by decide) (fun c_346 => ?_) (fun c_346 => ?_)
                      · exfalso; omega
                      · refine lv_aload_n hx hb dL_isPointSo_349 rfl (lv_at hl 6 rfl) ?_
                        refine lv_iload_n hx hb dL_isPointSo_350 rfl (lv_at hl 5 rfl) ?_
                        refine lv_iload_n hx hb dL_isPointSo_351 rfl (lv_at hl 4 rfl) ?_
                        refine z_calli hP hD hS hA (va_runV (As := [.int (zI (p / 7)), .int (zI (p % 7))]) (rest := []) hC (c_X9_basinByFollowing l D τ α γ h old ch (wt, qu5) ln n343_41 d343_42 q343_43 (w29_7, lv) ct sg od hs (p / 7) (p % 7) (by first | assumption | rfl | omega) (by first | assumption | rfl | omega) (by first | assumption | rfl | omega) _) (cwV 2 hts (gV hB wl_L_114 wn_X9_basinByFollowing ws_X9_basinByFollowing wi_X9 wc_X9_basinByFollowing) rfl rfl rfl hd_X9_basinByFollowing ⟨Nat.le_of_ble_eq_true rfl, Nat.le_of_ble_eq_true rfl⟩) (zp_V hK hP hD hS hA hG (ci := 9) (q0 := 0) rfl rfl rfl) rfl rfl hl.1 rfl (lv_room (Nat.le_of_ble_eq_true rfl)) dL_isPointSo_352 ⟨Nat.le_of_ble_eq_true rfl, Nat.le_of_ble_eq_true rfl⟩) (fun r w1 H locs hq9 hP hD hS => ?_)
                        obtain ⟨n352_45, d352_46, v352_47, hv352_0, hv352_1, rfl, rfl⟩ := hq9
                        try simp only [e7] at hv352_0
                        try simp only [e7] at hv352_1
                        have hP : va_P D vwCl (wH α γ (h, old, ch) (wt, qu5) ln (n352_45, d352_46, q343_43) (w29_7, lv) ct sg od hs) H := hP
                        have hD : va_D A (wH α γ (h, old, ch) (wt, qu5) ln (n352_45, d352_46, q343_43) (w29_7, lv) ct sg od hs) := hD
                        refine lv_aload_n hx hb dL_isPointSo_355 rfl (lv_at hl 6 rfl) ?_
                        refine lv_aload_n hx hb dL_isPointSo_356 rfl (lv_at hl 6 rfl) ?_
                        refine z_calli hP hD hS hA (va_runV (As := []) (rest := [.ref (α 0), .int (zI v352_47)]) hC (c_X9_greatestBasin l D τ α γ h old ch (wt, qu5) ln n352_45 d352_46 q343_43 (w29_7, lv) ct sg od hs (by first | assumption | rfl | omega) _) (cwV 0 hts (gV hB wl_L_126 wn_X9_greatestBasin ws_X9_greatestBasin wi_X9 wc_X9_greatestBasin) rfl rfl rfl hd_X9_greatestBasin ⟨Nat.le_of_ble_eq_true rfl, Nat.le_of_ble_eq_true rfl⟩) (zp_V hK hP hD hS hA hG (ci := 9) (q0 := 0) rfl rfl rfl) rfl rfl hl.1 rfl (lv_room (Nat.le_of_ble_eq_true rfl)) dL_isPointSo_357 ⟨Nat.le_of_ble_eq_true rfl, Nat.le_of_ble_eq_true rfl⟩) (fun r w1 H locs hq9 hP hD hS => ?_)
                        obtain ⟨n357_48, d357_49, q357_50, v357_51, hv357_0, hv357_1, rfl, rfl⟩ := hq9
                        try simp only [e7] at hv357_0
                        try simp only [e7] at hv357_1
                        have hP : va_P D vwCl (wH α γ (h, old, ch) (wt, qu5) ln (n357_48, d357_49, q357_50) (w29_7, lv) ct sg od hs) H := hP
                        have hD : va_D A (wH α γ (h, old, ch) (wt, qu5) ln (n357_48, d357_49, q357_50) (w29_7, lv) ct sg od hs) := hD
                        refine lv_bipush (v := zI 7) hx hb dL_isPointSo_360 (zI_b8 (by decide)) ?_
                        refine z_idiv hx hb ⟨⟨by omega, by omega⟩, by omega, by omega⟩ dL_isPointSo_362 ?_
                        refine lv_aload_n hx hb dL_isPointSo_363 rfl (lv_at hl 6 rfl) ?_
                        refine z_calli hP hD hS hA (va_runV (As := []) (rest := [.int (zI (v357_51 / 7)), .ref (α 0), .int (zI v352_47)]) hC (c_X9_greatestBasin l D τ α γ h old ch (wt, qu5) ln n357_48 d357_49 q357_50 (w29_7, lv) ct sg od hs (by first | assumption | rfl | omega) _) (cwV 0 hts (gV hB wl_L_126 wn_X9_greatestBasin ws_X9_greatestBasin wi_X9 wc_X9_greatestBasin) rfl rfl rfl hd_X9_greatestBasin ⟨Nat.le_of_ble_eq_true rfl, Nat.le_of_ble_eq_true rfl⟩) (zp_V hK hP hD hS hA hG (ci := 9) (q0 := 0) rfl rfl rfl) rfl rfl hl.1 rfl (lv_room (Nat.le_of_ble_eq_true rfl)) dL_isPointSo_364 ⟨Nat.le_of_ble_eq_true rfl, Nat.le_of_ble_eq_true rfl⟩) (fun r w1 H locs hq9 hP hD hS => ?_)
                        obtain ⟨n364_52, d364_53, q364_54, v364_55, hv364_0, hv364_1, rfl, rfl⟩ := hq9
                        try simp only [e7] at hv364_0
                        try simp only [e7] at hv364_1
                        have hP : va_P D vwCl (wH α γ (h, old, ch) (wt, qu5) ln (n364_52, d364_53, q364_54) (w29_7, lv) ct sg od hs) H := hP
                        have hD : va_D A (wH α γ (h, old, ch) (wt, qu5) ln (n364_52, d364_53, q364_54) (w29_7, lv) ct sg od hs) := hD
                        have e64 : v364_55 = v357_51 := hv364_0.trans hv357_0.symm
                        refine lv_bipush (v := zI 7) hx hb dL_isPointSo_367 (zI_b8 (by decide)) ?_
                        refine z_irem hx hb ⟨⟨by omega, by omega⟩, by omega, by omega⟩ dL_isPointSo_369 ?_
                        refine z_calli hP hD hS hA (va_runV (As := [.int (zI (v357_51 / 7)), .int (zI (v364_55 % 7))]) (rest := [.int (zI v352_47)]) hC (c_X9_basinByFollowing l D τ α γ h old ch (wt, qu5) ln n364_52 d364_53 q364_54 (w29_7, lv) ct sg od hs (v357_51 / 7) (v364_55 % 7) (by first | assumption | rfl | omega) (by first | assumption | rfl | omega) (by first | assumption | rfl | omega) _) (cwV 2 hts (gV hB wl_L_114 wn_X9_basinByFollowing ws_X9_basinByFollowing wi_X9 wc_X9_basinByFollowing) rfl rfl rfl hd_X9_basinByFollowing ⟨Nat.le_of_ble_eq_true rfl, Nat.le_of_ble_eq_true rfl⟩) (zp_V hK hP hD hS hA hG (ci := 9) (q0 := 0) rfl rfl rfl) rfl rfl hl.1 rfl (lv_room (Nat.le_of_ble_eq_true rfl)) dL_isPointSo_370 ⟨Nat.le_of_ble_eq_true rfl, Nat.le_of_ble_eq_true rfl⟩) (fun r w1 H locs hq9 hP hD hS => ?_)
                        obtain ⟨n370_56, d370_57, v370_58, hv370_0, hv370_1, rfl, rfl⟩ := hq9
                        try simp only [e7] at hv370_0
                        try simp only [e7] at hv370_1
                        have hP : va_P D vwCl (wH α γ (h, old, ch) (wt, qu5) ln (n370_56, d370_57, q364_54) (w29_7, lv) ct sg od hs) H := hP
                        have hD : va_D A (wH α γ (h, old, ch) (wt, qu5) ln (n370_56, d370_57, q364_54) (w29_7, lv) ct sg od hs) := hD
                        rw [e64, e7] at hv370_1
                        have hga := (q_arg (f := S_basin h) (k := p) 49 (by omega) hp.1 hp.2).1
                        rw [← hv357_0] at hga
                        have b370 := S_basin_b h v357_51
                        refine z_icgt (tgt := 380) hx hb ⟨by omega, by omega⟩ ⟨by omega, by omega⟩ dL_isPointSo_373 (by decide) (fun c_373 => ?_) (fun c_373 => ?_)
                        · exfalso; omega
                        · refine lv_iconst (v := zI 1) hx hb dL_isPointSo_376 rfl ?_
                          refine lv_goto (tgt := 381) hx hb dL_isPointSo_377 (by decide) ?_
                          refine lv_istore (lv' := [(7, .int (zI 1)), (6, .int (zI v29_8)), (5, .int (zI v21_6)), (4, .int (zI v13_3)), (3, .int (zI (p % 7))), (2, .int (zI (p / 7))), (0, .ref (α 0)), (1, .int (zI p))]) hx hb dL_isPointSo_381 hl (by decide) rfl (fun ls hl => ?_)
                          exact HJ_383 n370_56 d370_57 q364_54 _ _ hP hD hS _ (lv_sub hl [0, 1, 2, 3, 4, 5, 6, 7] rfl) 
                · have hne : S_next h p ≠ -1 := fun z9 => by have y9 := hd0.mp z9; omega
                  have hnb := (S_next_ok hp hne).1
                  have haw := q_away hp hne
                  have hto := S_drop_to hne
                  have hun := S_sink_un hp hne
                  have hfu := q_flow_up hp hne
                  refine lv_aload_n hx hb dL_isPointSo_174 rfl (lv_at hl 6 rfl) ?_
                  refine lv_iload_n hx hb dL_isPointSo_175 rfl (lv_at hl 5 rfl) ?_
                  refine lv_iload_n hx hb dL_isPointSo_176 rfl (lv_at hl 4 rfl) ?_
                  refine z_calli hP hD hS hA (va_runV (As := [.int (zI (p / 7)), .int (zI (p % 7))]) (rest := []) hC (c_X9_drainOf l D τ α γ h old ch (wt, qu5) ln n156_21 d156_22 q156_23 (w29_7, lv) ct sg od hs (p / 7) (p % 7) (by first | assumption | rfl | omega) (by first | assumption | rfl | omega) (by first | assumption | rfl | omega) (by rw [e7]; exact hne) _) (cwV 2 hts (gV hB wl_L_123 wn_X9_drainOf ws_X9_drainOf wi_X9 wc_X9_drainOf) rfl rfl rfl hd_X9_drainOf ⟨Nat.le_of_ble_eq_true rfl, Nat.le_of_ble_eq_true rfl⟩) (zp_V hK hP hD hS hA hG (ci := 9) (q0 := 0) rfl rfl rfl) rfl rfl hl.1 rfl (lv_room (Nat.le_of_ble_eq_true rfl)) dL_isPointSo_177 ⟨Nat.le_of_ble_eq_true rfl, Nat.le_of_ble_eq_true rfl⟩) (fun r w1 H locs hq9 hP hD hS => ?_)
                  obtain ⟨n177_59, d177_60, v177_61, hv177_0, hv177_1, rfl, rfl⟩ := hq9
                  try simp only [e7] at hv177_0
                  try simp only [e7] at hv177_1
                  have hP : va_P D vwCl (wH α γ (h, old, ch) (wt, qu5) ln (n177_59, d177_60, q156_23) (w29_7, lv) ct sg od hs) H := hP
                  have hD : va_D A (wH α γ (h, old, ch) (wt, qu5) ln (n177_59, d177_60, q156_23) (w29_7, lv) ct sg od hs) := hD
                  rw [← hv177_1] at hnb haw hto hun hfu
                  refine lv_istore (lv' := [(8, .int (zI v177_61)), (7, .int (zI 1)), (6, .int (zI v29_8)), (5, .int (zI v21_6)), (4, .int (zI v13_3)), (3, .int (zI (p % 7))), (2, .int (zI (p / 7))), (0, .ref (α 0)), (1, .int (zI p))]) hx hb dL_isPointSo_180 hl (by decide) rfl (fun ls hl => ?_)
                  refine lv_iload hx hb dL_isPointSo_182 (lv_at hl 0 rfl) ?_
                  refine lv_iload_n hx hb dL_isPointSo_184 rfl (lv_at hl 8 rfl) ?_
                  refine z_isub hx hb dL_isPointSo_185 ?_
                  refine lv_istore (lv' := [(9, .int (zI (v177_61 - p))), (8, .int (zI v177_61)), (7, .int (zI 1)), (6, .int (zI v29_8)), (5, .int (zI v21_6)), (4, .int (zI v13_3)), (3, .int (zI (p % 7))), (2, .int (zI (p / 7))), (0, .ref (α 0)), (1, .int (zI p))]) hx hb dL_isPointSo_186 hl (by decide) rfl (fun ls hl => ?_)
                  refine lv_iload hx hb dL_isPointSo_188 (lv_at hl 2 rfl) ?_
                  refine z_ifeq (tgt := 317) hx hb ⟨by omega, by omega⟩ dL_isPointSo_190 (by decide) (fun c_190 => ?_) (fun c_190 => ?_)
                  · exact absurd c_190 (by decide)
                  · refine lv_aload_n hx hb dL_isPointSo_193 rfl (lv_at hl 8 rfl) ?_
                    refine lv_iload hx hb dL_isPointSo_194 (lv_at hl 1 rfl) ?_
                    refine z_calli hP hD hS hA (va_runS (As := [.ref (α 0), .int (zI v177_61)]) (rest := []) hC (c_L_at l D τ α γ h old ch (wt, qu5) ln (n177_59, d177_60, q156_23) (w29_7, lv) ct sg od hs v177_61 (by first | assumption | rfl | omega) (by first | assumption | rfl | omega) _) (va_cwS 2 hts (gS hB wl_L_42 wt_L_at wi_L wc_L_at) rfl rfl rfl hd_L_at.2 ⟨Nat.le_of_ble_eq_true rfl, Nat.le_of_ble_eq_true rfl⟩) (zp_S hK hP hD hS hA hG) rfl rfl hl.1 rfl (lv_room (Nat.le_of_ble_eq_true rfl)) dL_isPointSo_196 ⟨Nat.le_of_ble_eq_true rfl, Nat.le_of_ble_eq_true rfl⟩) (fun r w1 H locs hq9 hP hD hS => ?_)
                    obtain ⟨v196_62, hv196_0, hv196_1, rfl, rfl⟩ := hq9
                    try simp only [e7] at hv196_0
                    try simp only [e7] at hv196_1
                    have hP : va_P D vwCl (wH α γ (h, old, ch) (wt, qu5) ln (n177_59, d177_60, q156_23) (w29_7, lv) ct sg od hs) H := hP
                    have hD : va_D A (wH α γ (h, old, ch) (wt, qu5) ln (n177_59, d177_60, q156_23) (w29_7, lv) ct sg od hs) := hD
                    refine lv_aload_n hx hb dL_isPointSo_199 rfl (lv_at hl 8 rfl) ?_
                    refine lv_iload_n hx hb dL_isPointSo_200 rfl (lv_at hl 9 rfl) ?_
                    refine z_calli hP hD hS hA (va_runS (As := [.ref (α 0), .int (zI p)]) (rest := [.int (zI v196_62)]) hC (c_L_at l D τ α γ h old ch (wt, qu5) ln (n177_59, d177_60, q156_23) (w29_7, lv) ct sg od hs p (by first | assumption | rfl | omega) (by first | assumption | rfl | omega) _) (va_cwS 2 hts (gS hB wl_L_42 wt_L_at wi_L wc_L_at) rfl rfl rfl hd_L_at.2 ⟨Nat.le_of_ble_eq_true rfl, Nat.le_of_ble_eq_true rfl⟩) (zp_S hK hP hD hS hA hG) rfl rfl hl.1 rfl (lv_room (Nat.le_of_ble_eq_true rfl)) dL_isPointSo_201 ⟨Nat.le_of_ble_eq_true rfl, Nat.le_of_ble_eq_true rfl⟩) (fun r w1 H locs hq9 hP hD hS => ?_)
                    obtain ⟨v201_63, hv201_0, hv201_1, rfl, rfl⟩ := hq9
                    try simp only [e7] at hv201_0
                    try simp only [e7] at hv201_1
                    have hP : va_P D vwCl (wH α γ (h, old, ch) (wt, qu5) ln (n177_59, d177_60, q156_23) (w29_7, lv) ct sg od hs) H := hP
                    have hD : va_D A (wH α γ (h, old, ch) (wt, qu5) ln (n177_59, d177_60, q156_23) (w29_7, lv) ct sg od hs) := hD
                    refine lv_iload hx hb dL_isPointSo_204 (lv_at hl 5 rfl) ?_
                    refine z_isub hx hb dL_isPointSo_206 ?_
                    refine z_icne (tgt := 317) hx hb ⟨by omega, by omega⟩ ⟨by omega, by omega⟩ dL_isPointSo_207 (by decide) (fun c_207 => ?_) (fun c_207 => ?_)
                    · exfalso; omega
                    · have HJ_246 : ∀ (H : Heap) (locs : List Loc) (hP : va_P D vwCl (wH α γ (h, old, ch) (wt, qu5) ln (n177_59, d177_60, q156_23) (w29_7, lv) ct sg od hs) H) (hD : va_D A (wH α γ (h, old, ch) (wt, qu5) ln (n177_59, d177_60, q156_23) (w29_7, lv) ct sg od hs)) (hS : va_S A s.heap H locs) (ls : Array Slot) (hl : lv_has ls 10 [(9, .int (zI (v177_61 - p))), (8, .int (zI v177_61)), (7, .int (zI 1)), (6, .int (zI v29_8)), (5, .int (zI v21_6)), (4, .int (zI v13_3)), (3, .int (zI (p % 7))), (2, .int (zI (p / 7))), (0, .ref (α 0)), (1, .int (zI p))]), W pg l e rm_L_isPointSo s m args below meth c H locs 0 0 Q (F0 m 246 ls []) := by
                        intro H locs hP hD hS ls hl
                        refine lv_aload_n hx hb dL_isPointSo_246 rfl (lv_at hl 8 rfl) ?_
                        refine lv_iload_n hx hb dL_isPointSo_247 rfl (lv_at hl 7 rfl) ?_
                        refine lv_iload_n hx hb dL_isPointSo_248 rfl (lv_at hl 6 rfl) ?_
                        refine z_calli hP hD hS hA (va_runV (As := [.int (zI (p / 7)), .int (zI (p % 7))]) (rest := []) hC (c_X9_stepsToSink l D τ α γ h old ch (wt, qu5) ln n177_59 d177_60 q156_23 (w29_7, lv) ct sg od hs (p / 7) (p % 7) (by first | assumption | rfl | omega) (by first | assumption | rfl | omega) (by first | assumption | rfl | omega) _) (cwV 2 hts (gV hB wl_L_111 wn_X9_stepsToSink ws_X9_stepsToSink wi_X9 wc_X9_stepsToSink) rfl rfl rfl hd_X9_stepsToSink ⟨Nat.le_of_ble_eq_true rfl, Nat.le_of_ble_eq_true rfl⟩) (zp_V hK hP hD hS hA hG (ci := 9) (q0 := 0) rfl rfl rfl) rfl rfl hl.1 rfl (lv_room (Nat.le_of_ble_eq_true rfl)) dL_isPointSo_249 ⟨Nat.le_of_ble_eq_true rfl, Nat.le_of_ble_eq_true rfl⟩) (fun r w1 H locs hq9 hP hD hS => ?_)
                        obtain ⟨n249_64, d249_65, v249_66, hv249_0, hv249_1, rfl, rfl⟩ := hq9
                        try simp only [e7] at hv249_0
                        try simp only [e7] at hv249_1
                        have hP : va_P D vwCl (wH α γ (h, old, ch) (wt, qu5) ln (n249_64, d249_65, q156_23) (w29_7, lv) ct sg od hs) H := hP
                        have hD : va_D A (wH α γ (h, old, ch) (wt, qu5) ln (n249_64, d249_65, q156_23) (w29_7, lv) ct sg od hs) := hD
                        refine lv_iconst (v := zI 1) hx hb dL_isPointSo_252 rfl ?_
                        refine lv_aload_n hx hb dL_isPointSo_253 rfl (lv_at hl 8 rfl) ?_
                        refine lv_iload hx hb dL_isPointSo_254 (lv_at hl 1 rfl) ?_
                        refine lv_bipush (v := zI 7) hx hb dL_isPointSo_256 (zI_b8 (by decide)) ?_
                        refine z_idiv hx hb ⟨⟨by omega, by omega⟩, by omega, by omega⟩ dL_isPointSo_258 ?_
                        refine lv_iload hx hb dL_isPointSo_259 (lv_at hl 1 rfl) ?_
                        refine lv_bipush (v := zI 7) hx hb dL_isPointSo_261 (zI_b8 (by decide)) ?_
                        refine z_irem hx hb ⟨⟨by omega, by omega⟩, by omega, by omega⟩ dL_isPointSo_263 ?_
                        refine z_calli hP hD hS hA (va_runV (As := [.int (zI (v177_61 / 7)), .int (zI (v177_61 % 7))]) (rest := [.int (zI 1), .int (zI v249_66)]) hC (c_X9_stepsToSink l D τ α γ h old ch (wt, qu5) ln n249_64 d249_65 q156_23 (w29_7, lv) ct sg od hs (v177_61 / 7) (v177_61 % 7) (by first | assumption | rfl | omega) (by first | assumption | rfl | omega) (by first | assumption | rfl | omega) _) (cwV 2 hts (gV hB wl_L_111 wn_X9_stepsToSink ws_X9_stepsToSink wi_X9 wc_X9_stepsToSink) rfl rfl rfl hd_X9_stepsToSink ⟨Nat.le_of_ble_eq_true rfl, Nat.le_of_ble_eq_true rfl⟩) (zp_V hK hP hD hS hA hG (ci := 9) (q0 := 0) rfl rfl rfl) rfl rfl hl.1 rfl (lv_room (Nat.le_of_ble_eq_true rfl)) dL_isPointSo_264 ⟨Nat.le_of_ble_eq_true rfl, Nat.le_of_ble_eq_true rfl⟩) (fun r w1 H locs hq9 hP hD hS => ?_)
                        obtain ⟨n264_67, d264_68, v264_69, hv264_0, hv264_1, rfl, rfl⟩ := hq9
                        try simp only [e7] at hv264_0
                        try simp only [e7] at hv264_1
                        have hP : va_P D vwCl (wH α γ (h, old, ch) (wt, qu5) ln (n264_67, d264_68, q156_23) (w29_7, lv) ct sg od hs) H := hP
                        have hD : va_D A (wH α γ (h, old, ch) (wt, qu5) ln (n264_67, d264_68, q156_23) (w29_7, lv) ct sg od hs) := hD
                        have b264 := st_b h v177_61
                        refine z_iadd hx hb dL_isPointSo_267 ?_
                        refine z_icne (tgt := 317) hx hb ⟨by omega, by omega⟩ ⟨by omega, by omega⟩ dL_isPointSo_268 (by decide) (fun c_268 => ?_) (fun c_268 => ?_)
                        · exfalso; omega
                        · refine lv_aload_n hx hb dL_isPointSo_271 rfl (lv_at hl 8 rfl) ?_
                          refine lv_iload hx hb dL_isPointSo_272 (lv_at hl 1 rfl) ?_
                          refine lv_bipush (v := zI 7) hx hb dL_isPointSo_274 (zI_b8 (by decide)) ?_
                          refine z_idiv hx hb ⟨⟨by omega, by omega⟩, by omega, by omega⟩ dL_isPointSo_276 ?_
                          refine lv_iload hx hb dL_isPointSo_277 (lv_at hl 1 rfl) ?_
                          refine lv_bipush (v := zI 7) hx hb dL_isPointSo_279 (zI_b8 (by decide)) ?_
                          refine z_irem hx hb ⟨⟨by omega, by omega⟩, by omega, by omega⟩ dL_isPointSo_281 ?_
                          refine z_calli hP hD hS hA (va_runV (As := [.int (zI (v177_61 / 7)), .int (zI (v177_61 % 7))]) (rest := []) hC (c_X9_sinkOf l D τ α γ h old ch (wt, qu5) ln n264_67 d264_68 q156_23 (w29_7, lv) ct sg od hs (v177_61 / 7) (v177_61 % 7) (by first | assumption | rfl | omega) (by first | assumption | rfl | omega) (by first | assumption | rfl | omega) _) (cwV 2 hts (gV hB wl_L_101 wn_X9_sinkOf ws_X9_sinkOf wi_X9 wc_X9_sinkOf) rfl rfl rfl hd_X9_sinkOf ⟨Nat.le_of_ble_eq_true rfl, Nat.le_of_ble_eq_true rfl⟩) (zp_V hK hP hD hS hA hG (ci := 9) (q0 := 0) rfl rfl rfl) rfl rfl hl.1 rfl (lv_room (Nat.le_of_ble_eq_true rfl)) dL_isPointSo_282 ⟨Nat.le_of_ble_eq_true rfl, Nat.le_of_ble_eq_true rfl⟩) (fun r w1 H locs hq9 hP hD hS => ?_)
                          obtain ⟨n282_70, d282_71, v282_72, hv282_0, hv282_1, rfl, rfl⟩ := hq9
                          try simp only [e7] at hv282_0
                          try simp only [e7] at hv282_1
                          have hP : va_P D vwCl (wH α γ (h, old, ch) (wt, qu5) ln (n282_70, d282_71, q156_23) (w29_7, lv) ct sg od hs) H := hP
                          have hD : va_D A (wH α γ (h, old, ch) (wt, qu5) ln (n282_70, d282_71, q156_23) (w29_7, lv) ct sg od hs) := hD
                          have b282 := q_sink_b (h := h) hnb
                          refine lv_iload hx hb dL_isPointSo_285 (lv_at hl 4 rfl) ?_
                          refine z_icne (tgt := 317) hx hb ⟨by omega, by omega⟩ ⟨by omega, by omega⟩ dL_isPointSo_287 (by decide) (fun c_287 => ?_) (fun c_287 => ?_)
                          · exfalso; omega
                          · refine lv_aload_n hx hb dL_isPointSo_290 rfl (lv_at hl 8 rfl) ?_
                            refine lv_iload hx hb dL_isPointSo_291 (lv_at hl 1 rfl) ?_
                            refine lv_bipush (v := zI 7) hx hb dL_isPointSo_293 (zI_b8 (by decide)) ?_
                            refine z_idiv hx hb ⟨⟨by omega, by omega⟩, by omega, by omega⟩ dL_isPointSo_295 ?_
                            refine lv_iload hx hb dL_isPointSo_296 (lv_at hl 1 rfl) ?_
                            refine lv_bipush (v := zI 7) hx hb dL_isPointSo_298 (zI_b8 (by decide)) ?_
                            refine z_irem hx hb ⟨⟨by omega, by omega⟩, by omega, by omega⟩ dL_isPointSo_300 ?_
                            refine z_calli hP hD hS hA (va_runV (As := [.int (zI (v177_61 / 7)), .int (zI (v177_61 % 7))]) (rest := []) hC (c_X9_flowAt l D τ α γ h old ch (wt, qu5) ln n282_70 d282_71 q156_23 (w29_7, lv) ct sg od hs (v177_61 / 7) (v177_61 % 7) (by first | assumption | rfl | omega) (by first | assumption | rfl | omega) (by first | assumption | rfl | omega) _) (cwV 2 hts (gV hB wl_L_120 wn_X9_flowAt ws_X9_flowAt wi_X9 wc_X9_flowAt) rfl rfl rfl hd_X9_flowAt ⟨Nat.le_of_ble_eq_true rfl, Nat.le_of_ble_eq_true rfl⟩) (zp_V hK hP hD hS hA hG (ci := 9) (q0 := 0) rfl rfl rfl) rfl rfl hl.1 rfl (lv_room (Nat.le_of_ble_eq_true rfl)) dL_isPointSo_301 ⟨Nat.le_of_ble_eq_true rfl, Nat.le_of_ble_eq_true rfl⟩) (fun r w1 H locs hq9 hP hD hS => ?_)
                            obtain ⟨n301_73, d301_74, q301_75, v301_76, hv301_0, hv301_1, rfl, rfl⟩ := hq9
                            try simp only [e7] at hv301_0
                            try simp only [e7] at hv301_1
                            have hP : va_P D vwCl (wH α γ (h, old, ch) (wt, qu5) ln (n301_73, d301_74, q301_75) (w29_7, lv) ct sg od hs) H := hP
                            have hD : va_D A (wH α γ (h, old, ch) (wt, qu5) ln (n301_73, d301_74, q301_75) (w29_7, lv) ct sg od hs) := hD
                            have b301 := S_flow_b h v177_61
                            refine lv_aload_n hx hb dL_isPointSo_304 rfl (lv_at hl 8 rfl) ?_
                            refine lv_iload_n hx hb dL_isPointSo_305 rfl (lv_at hl 7 rfl) ?_
                            refine lv_iload_n hx hb dL_isPointSo_306 rfl (lv_at hl 6 rfl) ?_
                            refine z_calli hP hD hS hA (va_runV (As := [.int (zI (p / 7)), .int (zI (p % 7))]) (rest := [.int (zI v301_76)]) hC (c_X9_flowAt l D τ α γ h old ch (wt, qu5) ln n301_73 d301_74 q301_75 (w29_7, lv) ct sg od hs (p / 7) (p % 7) (by first | assumption | rfl | omega) (by first | assumption | rfl | omega) (by first | assumption | rfl | omega) _) (cwV 2 hts (gV hB wl_L_120 wn_X9_flowAt ws_X9_flowAt wi_X9 wc_X9_flowAt) rfl rfl rfl hd_X9_flowAt ⟨Nat.le_of_ble_eq_true rfl, Nat.le_of_ble_eq_true rfl⟩) (zp_V hK hP hD hS hA hG (ci := 9) (q0 := 0) rfl rfl rfl) rfl rfl hl.1 rfl (lv_room (Nat.le_of_ble_eq_true rfl)) dL_isPointSo_307 ⟨Nat.le_of_ble_eq_true rfl, Nat.le_of_ble_eq_true rfl⟩) (fun r w1 H locs hq9 hP hD hS => ?_)
                            obtain ⟨n307_77, d307_78, q307_79, v307_80, hv307_0, hv307_1, rfl, rfl⟩ := hq9
                            try simp only [e7] at hv307_0
                            try simp only [e7] at hv307_1
                            have hP : va_P D vwCl (wH α γ (h, old, ch) (wt, qu5) ln (n307_77, d307_78, q307_79) (w29_7, lv) ct sg od hs) H := hP
                            have hD : va_D A (wH α γ (h, old, ch) (wt, qu5) ln (n307_77, d307_78, q307_79) (w29_7, lv) ct sg od hs) := hD
                            refine z_icle (tgt := 317) hx hb ⟨by omega, by omega⟩ ⟨by omega, by omega⟩ dL_isPointSo_310 (by decide) (fun c_310 => ?_) (fun c_310 => ?_)
                            · exfalso; omega
                            · refine lv_iconst (v := zI 1) hx hb dL_isPointSo_313 rfl ?_
                              refine lv_goto (tgt := 318) hx hb dL_isPointSo_314 (by decide) ?_
                              refine lv_istore (lv' := [(7, .int (zI 1)), (9, .int (zI (v177_61 - p))), (8, .int (zI v177_61)), (6, .int (zI v29_8)), (5, .int (zI v21_6)), (4, .int (zI v13_3)), (3, .int (zI (p % 7))), (2, .int (zI (p / 7))), (0, .ref (α 0)), (1, .int (zI p))]) hx hb dL_isPointSo_318 hl (by decide) rfl (fun ls hl => ?_)
                              refine lv_goto (tgt := 383) hx hb dL_isPointSo_320 (by decide) ?_
                              exact HJ_383 n307_77 d307_78 q307_79 _ _ hP hD hS _ (lv_sub hl [0, 3, 4, 5, 6, 7, 8, 9] rfl) 
                      refine lv_iload hx hb dL_isPointSo_210 (lv_at hl 0 rfl) ?_
                      refine lv_bipush (v := zI 7) hx hb dL_isPointSo_212 (zI_b8 (by decide)) ?_
                      refine z_iceq (tgt := 246) hx hb ⟨by omega, by omega⟩ ⟨by omega, by omega⟩ dL_isPointSo_214 (by decide) (fun c_214 => ?_) (fun c_214 => ?_)
                      · exact HJ_246  _ _ hP hD hS _ (lv_sub hl [0, 1, 2, 3, 4, 5, 6, 7, 8, 9] rfl) 
                      · refine lv_iload hx hb dL_isPointSo_217 (lv_at hl 0 rfl) ?_
                        refine lv_bipush (v := zI (-7)) hx hb dL_isPointSo_219 (zI_b8 (by decide)) ?_
                        refine z_iceq (tgt := 246) hx hb ⟨by omega, by omega⟩ ⟨by omega, by omega⟩ dL_isPointSo_221 (by decide) (fun c_221 => ?_) (fun c_221 => ?_)
                        · exact HJ_246  _ _ hP hD hS _ (lv_sub hl [0, 1, 2, 3, 4, 5, 6, 7, 8, 9] rfl) 
                        · refine lv_iload hx hb dL_isPointSo_224 (lv_at hl 0 rfl) ?_
                          refine lv_iconst (v := zI 1) hx hb dL_isPointSo_226 rfl ?_
                          refine z_icne (tgt := 236) hx hb ⟨by omega, by omega⟩ ⟨by omega, by omega⟩ dL_isPointSo_227 (by decide) (fun c_227 => ?_) (fun c_227 => ?_)
                          · refine lv_iload hx hb dL_isPointSo_236 (lv_at hl 0 rfl) ?_
                            refine lv_iconst (v := zI (-1)) hx hb dL_isPointSo_238 rfl ?_
                            refine z_icne (tgt := 317) hx hb ⟨by omega, by omega⟩ ⟨by omega, by omega⟩ dL_isPointSo_239 (by decide) (fun c_239 => ?_) (fun c_239 => ?_)
                            · exfalso; omega
                            · refine lv_iload_n hx hb dL_isPointSo_242 rfl (lv_at hl 6 rfl) ?_
                              refine z_ifle (tgt := 317) hx hb ⟨by omega, by omega⟩ dL_isPointSo_243 (by decide) (fun c_243 => ?_) (fun c_243 => ?_)
                              · exfalso; omega
                              · exact HJ_246  _ _ hP hD hS _ (lv_sub hl [0, 1, 2, 3, 4, 5, 6, 7, 8, 9] rfl) 
                          · refine lv_iload_n hx hb dL_isPointSo_230 rfl (lv_at hl 6 rfl) ?_
                            refine lv_bipush (v := zI 6) hx hb dL_isPointSo_231 (zI_b8 (by decide)) ?_
                            refine z_iclt (tgt := 246) hx hb ⟨by omega, by omega⟩ ⟨by omega, by omega⟩ dL_isPointSo_233 (by decide) (fun c_233 => ?_) (fun c_233 => ?_)
                            · exact HJ_246  _ _ hP hD hS _ (lv_sub hl [0, 1, 2, 3, 4, 5, 6, 7, 8, 9] rfl) 
                            · refine lv_iload hx hb dL_isPointSo_236 (lv_at hl 0 rfl) ?_
                              refine lv_iconst (v := zI (-1)) hx hb dL_isPointSo_238 rfl ?_
                              refine z_icne (tgt := 317) hx hb ⟨by omega, by omega⟩ ⟨by omega, by omega⟩ dL_isPointSo_239 (by decide) (fun c_239 => ?_) (fun c_239 => ?_)
                              · exfalso; omega
                              · refine lv_iload_n hx hb dL_isPointSo_242 rfl (lv_at hl 6 rfl) ?_
                                refine z_ifle (tgt := 317) hx hb ⟨by omega, by omega⟩ dL_isPointSo_243 (by decide) (fun c_243 => ?_) (fun c_243 => ?_)
                                · exfalso; omega
                                · exact HJ_246  _ _ hP hD hS _ (lv_sub hl [0, 1, 2, 3, 4, 5, 6, 7, 8, 9] rfl) 
            refine lv_aload_n hx hb dL_isPointSo_126 rfl (lv_at hl 5 rfl) ?_
            refine lv_iload_n hx hb dL_isPointSo_127 rfl (lv_at hl 4 rfl) ?_
            refine lv_iload_n hx hb dL_isPointSo_128 rfl (lv_at hl 3 rfl) ?_
            refine z_calli hP hD hS hA (va_runV (As := [.int (zI (p / 7)), .int (zI (p % 7))]) (rest := []) hC (c_X9_basinByFollowing l D τ α γ h old ch (wt, qu5) ln n120_17 d120_18 q120_19 (w29_7, lv) ct sg od hs (p / 7) (p % 7) (by first | assumption | rfl | omega) (by first | assumption | rfl | omega) (by first | assumption | rfl | omega) _) (cwV 2 hts (gV hB wl_L_114 wn_X9_basinByFollowing ws_X9_basinByFollowing wi_X9 wc_X9_basinByFollowing) rfl rfl rfl hd_X9_basinByFollowing ⟨Nat.le_of_ble_eq_true rfl, Nat.le_of_ble_eq_true rfl⟩) (zp_V hK hP hD hS hA hG (ci := 9) (q0 := 0) rfl rfl rfl) rfl rfl hl.1 rfl (lv_room (Nat.le_of_ble_eq_true rfl)) dL_isPointSo_129 ⟨Nat.le_of_ble_eq_true rfl, Nat.le_of_ble_eq_true rfl⟩) (fun r w1 H locs hq9 hP hD hS => ?_)
            obtain ⟨n129_81, d129_82, v129_83, hv129_0, hv129_1, rfl, rfl⟩ := hq9
            try simp only [e7] at hv129_0
            try simp only [e7] at hv129_1
            have hP : va_P D vwCl (wH α γ (h, old, ch) (wt, qu5) ln (n129_81, d129_82, q120_19) (w29_7, lv) ct sg od hs) H := hP
            have hD : va_D A (wH α γ (h, old, ch) (wt, qu5) ln (n129_81, d129_82, q120_19) (w29_7, lv) ct sg od hs) := hD
            refine z_ifne (tgt := 139) hx hb ⟨by omega, by omega⟩ dL_isPointSo_132 (by decide) (fun c_132 => ?_) (fun c_132 => ?_)
            · refine lv_iconst (v := zI 0) hx hb dL_isPointSo_139 rfl ?_
              refine lv_iload hx hb dL_isPointSo_140 (lv_at hl 2 rfl) ?_
              refine z_ifle (tgt := 149) hx hb ⟨by omega, by omega⟩ dL_isPointSo_142 (by decide) (fun c_142 => ?_) (fun c_142 => ?_)
              · refine lv_iconst (v := zI 0) hx hb dL_isPointSo_149 rfl ?_
                refine z_icne (tgt := 166) hx hb ⟨by omega, by omega⟩ ⟨by omega, by omega⟩ dL_isPointSo_150 (by decide) (fun c_150 => ?_) (fun c_150 => ?_)
                · exact absurd c_150 (by decide)
                · exact HJ_153 n129_81 d129_82 q120_19 _ _ hP hD hS _ (lv_sub hl [0, 1, 2, 3, 4, 5, 6] rfl) 
              · refine lv_iconst (v := zI 1) hx hb dL_isPointSo_145 rfl ?_
                refine lv_goto (tgt := 150) hx hb dL_isPointSo_146 (by decide) ?_
                refine z_icne (tgt := 166) hx hb ⟨by omega, by omega⟩ ⟨by omega, by omega⟩ dL_isPointSo_150 (by decide) (fun c_150 => ?_) (fun c_150 => ?_)
                · exfalso; omega
                · exact absurd c_150 (by decide)
            · refine lv_iconst (v := zI 1) hx hb dL_isPointSo_135 rfl ?_
              refine lv_goto (tgt := 140) hx hb dL_isPointSo_136 (by decide) ?_
              refine lv_iload hx hb dL_isPointSo_140 (lv_at hl 2 rfl) ?_
              refine z_ifle (tgt := 149) hx hb ⟨by omega, by omega⟩ dL_isPointSo_142 (by decide) (fun c_142 => ?_) (fun c_142 => ?_)
              · refine lv_iconst (v := zI 0) hx hb dL_isPointSo_149 rfl ?_
                refine z_icne (tgt := 166) hx hb ⟨by omega, by omega⟩ ⟨by omega, by omega⟩ dL_isPointSo_150 (by decide) (fun c_150 => ?_) (fun c_150 => ?_)
                · exfalso; omega
                · exact absurd c_150 (by decide)
              · refine lv_iconst (v := zI 1) hx hb dL_isPointSo_145 rfl ?_
                refine lv_goto (tgt := 150) hx hb dL_isPointSo_146 (by decide) ?_
                refine z_icne (tgt := 166) hx hb ⟨by omega, by omega⟩ ⟨by omega, by omega⟩ dL_isPointSo_150 (by decide) (fun c_150 => ?_) (fun c_150 => ?_)
                · exact absurd c_150 (by decide)
                · exact HJ_153 n129_81 d129_82 q120_19 _ _ hP hD hS _ (lv_sub hl [0, 1, 2, 3, 4, 5, 6] rfl) 
        refine lv_aload_n hx hb dL_isPointSo_84 rfl (lv_at hl 5 rfl) ?_
        refine lv_iload_n hx hb dL_isPointSo_85 rfl (lv_at hl 4 rfl) ?_
        refine lv_iload_n hx hb dL_isPointSo_86 rfl (lv_at hl 3 rfl) ?_
        refine z_calli hP hD hS hA (va_runV (As := [.int (zI (p / 7)), .int (zI (p % 7))]) (rest := []) hC (c_X9_stepsToSink l D τ α γ h old ch (wt, qu5) ln n64_9 d64_10 qu_a (w29_7, lv) ct sg od hs (p / 7) (p % 7) (by first | assumption | rfl | omega) (by first | assumption | rfl | omega) (by first | assumption | rfl | omega) _) (cwV 2 hts (gV hB wl_L_111 wn_X9_stepsToSink ws_X9_stepsToSink wi_X9 wc_X9_stepsToSink) rfl rfl rfl hd_X9_stepsToSink ⟨Nat.le_of_ble_eq_true rfl, Nat.le_of_ble_eq_true rfl⟩) (zp_V hK hP hD hS hA hG (ci := 9) (q0 := 0) rfl rfl rfl) rfl rfl hl.1 rfl (lv_room (Nat.le_of_ble_eq_true rfl)) dL_isPointSo_87 ⟨Nat.le_of_ble_eq_true rfl, Nat.le_of_ble_eq_true rfl⟩) (fun r w1 H locs hq9 hP hD hS => ?_)
        obtain ⟨n87_84, d87_85, v87_86, hv87_0, hv87_1, rfl, rfl⟩ := hq9
        try simp only [e7] at hv87_0
        try simp only [e7] at hv87_1
        have hP : va_P D vwCl (wH α γ (h, old, ch) (wt, qu5) ln (n87_84, d87_85, qu_a) (w29_7, lv) ct sg od hs) H := hP
        have hD : va_D A (wH α γ (h, old, ch) (wt, qu5) ln (n87_84, d87_85, qu_a) (w29_7, lv) ct sg od hs) := hD
        refine z_ifne (tgt := 97) hx hb ⟨by omega, by omega⟩ dL_isPointSo_90 (by decide) (fun c_90 => ?_) (fun c_90 => ?_)
        · refine lv_iconst (v := zI 0) hx hb dL_isPointSo_97 rfl ?_
          refine lv_iload hx hb dL_isPointSo_98 (lv_at hl 2 rfl) ?_
          refine z_ifne (tgt := 107) hx hb ⟨by omega, by omega⟩ dL_isPointSo_100 (by decide) (fun c_100 => ?_) (fun c_100 => ?_)
          · refine lv_iconst (v := zI 0) hx hb dL_isPointSo_107 rfl ?_
            refine z_icne (tgt := 166) hx hb ⟨by omega, by omega⟩ ⟨by omega, by omega⟩ dL_isPointSo_108 (by decide) (fun c_108 => ?_) (fun c_108 => ?_)
            · exact absurd c_108 (by decide)
            · exact HJ_111 n87_84 d87_85 qu_a _ _ hP hD hS _ (lv_sub hl [0, 1, 2, 3, 4, 5, 6] rfl) 
          · refine lv_iconst (v := zI 1) hx hb dL_isPointSo_103 rfl ?_
            refine lv_goto (tgt := 108) hx hb dL_isPointSo_104 (by decide) ?_
            refine z_icne (tgt := 166) hx hb ⟨by omega, by omega⟩ ⟨by omega, by omega⟩ dL_isPointSo_108 (by decide) (fun c_108 => ?_) (fun c_108 => ?_)
            · exfalso; omega
            · exact absurd c_108 (by decide)
        · refine lv_iconst (v := zI 1) hx hb dL_isPointSo_93 rfl ?_
          refine lv_goto (tgt := 98) hx hb dL_isPointSo_94 (by decide) ?_
          refine lv_iload hx hb dL_isPointSo_98 (lv_at hl 2 rfl) ?_
          refine z_ifne (tgt := 107) hx hb ⟨by omega, by omega⟩ dL_isPointSo_100 (by decide) (fun c_100 => ?_) (fun c_100 => ?_)
          · refine lv_iconst (v := zI 0) hx hb dL_isPointSo_107 rfl ?_
            refine z_icne (tgt := 166) hx hb ⟨by omega, by omega⟩ ⟨by omega, by omega⟩ dL_isPointSo_108 (by decide) (fun c_108 => ?_) (fun c_108 => ?_)
            · exfalso; omega
            · exact absurd c_108 (by decide)
          · refine lv_iconst (v := zI 1) hx hb dL_isPointSo_103 rfl ?_
            refine lv_goto (tgt := 108) hx hb dL_isPointSo_104 (by decide) ?_
            refine z_icne (tgt := 166) hx hb ⟨by omega, by omega⟩ ⟨by omega, by omega⟩ dL_isPointSo_108 (by decide) (fun c_108 => ?_) (fun c_108 => ?_)
            · exact absurd c_108 (by decide)
            · exact HJ_111 n87_84 d87_85 qu_a _ _ hP hD hS _ (lv_sub hl [0, 1, 2, 3, 4, 5, 6] rfl) 
  refine lv_aload_n hx hb dL_isPointSo_34 rfl (lv_at hl 5 rfl) ?_
  refine lv_iload_n hx hb dL_isPointSo_35 rfl (lv_at hl 4 rfl) ?_
  refine lv_iload_n hx hb dL_isPointSo_36 rfl (lv_at hl 3 rfl) ?_
  refine z_calli hP hD hS hA (va_runV (As := [.int (zI (p / 7)), .int (zI (p % 7))]) (rest := []) hC (c_X9_isSink l D τ α γ h old ch (wt, qu5) ln n21_4 d21_5 qu (w29_7, lv) ct sg od hs (p / 7) (p % 7) (by first | assumption | rfl | omega) (by first | assumption | rfl | omega) (by first | assumption | rfl | omega) _) (cwV 2 hts (gV hB wl_L_107 wn_X9_isSink ws_X9_isSink wi_X9 wc_X9_isSink) rfl rfl rfl hd_X9_isSink ⟨Nat.le_of_ble_eq_true rfl, Nat.le_of_ble_eq_true rfl⟩) (zp_V hK hP hD hS hA hG (ci := 9) (q0 := 0) rfl rfl rfl) rfl rfl hl.1 rfl (lv_room (Nat.le_of_ble_eq_true rfl)) dL_isPointSo_37 ⟨Nat.le_of_ble_eq_true rfl, Nat.le_of_ble_eq_true rfl⟩) (fun r w1 H locs hq9 hP hD hS => ?_)
  obtain ⟨n37_87, d37_88, v37_89, hv37_0, hv37_1, rfl, rfl⟩ := hq9
  try simp only [e7] at hv37_0
  try simp only [e7] at hv37_1
  have hP : va_P D vwCl (wH α γ (h, old, ch) (wt, qu5) ln (n37_87, d37_88, qu) (w29_7, lv) ct sg od hs) H := hP
  have hD : va_D A (wH α γ (h, old, ch) (wt, qu5) ln (n37_87, d37_88, qu) (w29_7, lv) ct sg od hs) := hD
  refine lv_iload hx hb dL_isPointSo_40 (lv_at hl 2 rfl) ?_
  refine z_ifne (tgt := 49) hx hb ⟨by omega, by omega⟩ dL_isPointSo_42 (by decide) (fun c_42 => ?_) (fun c_42 => ?_)
  · refine lv_iconst (v := zI 0) hx hb dL_isPointSo_49 rfl ?_
    refine W.eq (g2 := F0 m 50 ls [.int (bI false), .int (bI v37_89)]) rfl ?_
    refine z_icneB (tgt := 166) hx hb dL_isPointSo_50 (by decide) (fun c_50 => ?_) (fun c_50 => ?_)
    · exfalso; have z9 := hv37_1; rw [hd0, ← hv13_1] at z9; rcases Bool.eq_false_or_eq_true v37_89 with e9 | e9 <;> simp [e9] at z9 c_50 <;> omega
    · exact HJ_53 n37_87 d37_88 qu _ _ hP hD hS _ (lv_sub hl [0, 1, 2, 3, 4, 5, 6] rfl) 
  · refine lv_iconst (v := zI 1) hx hb dL_isPointSo_45 rfl ?_
    refine lv_goto (tgt := 50) hx hb dL_isPointSo_46 (by decide) ?_
    refine W.eq (g2 := F0 m 50 ls [.int (bI true), .int (bI v37_89)]) rfl ?_
    refine z_icneB (tgt := 166) hx hb dL_isPointSo_50 (by decide) (fun c_50 => ?_) (fun c_50 => ?_)
    · exfalso; have z9 := hv37_1; rw [hd0, ← hv13_1] at z9; rcases Bool.eq_false_or_eq_true v37_89 with e9 | e9 <;> simp [e9] at z9 c_50 <;> omega
    · exact HJ_53 n37_87 d37_88 qu _ _ hP hD hS _ (lv_sub hl [0, 1, 2, 3, 4, 5, 6] rfl) 

abbrev wz_L_isCutSo : List Cond := .code yL_isCutSo cL_isCutSo 9 (some .boolean) :: W0
abbrev rm_L_isCutSo : Room := { frames := 5, cells := 0, slots := 0, locals := 121 }
theorem hd_L_isCutSo : yL_isCutSo.cls = RL ∧ yL_isCutSo.cls ≠ "java/lang/invoke/MethodHandle" ∧ yL_isCutSo.cls ≠ "java/lang/invoke/VarHandle" ∧ (parseMethodDescriptor yL_isCutSo.desc).map (fun d => d.parameters.length) = some 3 := by decide +kernel
set_option maxHeartbeats 4000000 in
set_option maxRecDepth 100000 in
theorem c_L_isCutSo (l : Launch) (D : va_G) (τ : Nat → Nat) (α : Nat → Nat) (γ : Nat → ClassId) (h : IA) (old : IA) (ch : IA) (rg : TRg) (ln : TLn) (sl : TSl) (pd : TPd) (hg9 : IA) (la9 : Int) (sg : TSg) (od : TOd) (hs : THs) (a : Int) (b : Int) (ha : 0 ≤ a ∧ a < 49) (hb2 : 0 ≤ b ∧ b < 49) (hh : ∀ k, 0 ≤ k → k < 49 → 0 ≤ h k ∧ h k ≤ 99) : cM l yL_isCutSo wz_L_isCutSo rm_L_isCutSo D τ (tyH γ) [.ref (α 0), .int (zI a), .int (zI b)] (wH α γ (h, old, ch) rg ln sl pd (hg9, la9) sg od hs) (zQi (fun r w => ∃ (hg9_p : IA), ∃ (la9_p : Int), ∃ (v : Bool), (v = true) ∧ r = bI v ∧ wH α γ (h, old, ch) rg ln sl pd (hg9_p, la9_p) sg od hs = w)) := by
  refine z_ofM (cc := cL_isCutSo) (maxL := 9) (ret := (some .boolean)) (by decide +kernel) rfl (Nat.le_of_ble_eq_true rfl) ?_
  intro pg e s m args below meth c hC hr hlk hnm hK hP A hD hG hA hS ls hl Q hQ
  have hx := hC.1
  have hb := hC.2.1
  have hml := hC.2.2.1
  have hown := hC.2.2.2.1
  have hts := hC.2.2.2.2
  have hB : ∀ w ∈ W0, w ∈ wz_L_isCutSo := fun _ h => List.mem_cons_of_mem _ h
  have hW0 : ∀ w ∈ W0, w.before args s = true := fun w h => hts w (hB w h)
  have hl : lv_has ls 9 [(0, .ref (α 0)), (1, .int (zI a)), (2, .int (zI b))] := hl
  have hcn := S_cutn_b ha hb2
  have hon : ∀ i, 0 ≤ i → i ≤ S_cutn a b → 0 ≤ h (S_on a b i) ∧ h (S_on a b i) ≤ 99 := fun i i0 i1 => (hh _ (S_on_b ha hb2 ⟨i0, i1⟩).1 (S_on_b ha hb2 ⟨i0, i1⟩).2)
  refine lv_aload_n hx hb dL_isCutSo_0 rfl (lv_at hl 0 rfl) ?_
  refine lv_iload_n hx hb dL_isCutSo_1 rfl (lv_at hl 1 rfl) ?_
  refine lv_bipush (v := zI 7) hx hb dL_isCutSo_2 (zI_b8 (by decide)) ?_
  refine z_idiv hx hb ⟨⟨by omega, by omega⟩, by omega, by omega⟩ dL_isCutSo_4 ?_
  refine lv_iload_n hx hb dL_isCutSo_5 rfl (lv_at hl 1 rfl) ?_
  refine lv_bipush (v := zI 7) hx hb dL_isCutSo_6 (zI_b8 (by decide)) ?_
  refine z_irem hx hb ⟨⟨by omega, by omega⟩, by omega, by omega⟩ dL_isCutSo_8 ?_
  refine lv_iload_n hx hb dL_isCutSo_9 rfl (lv_at hl 2 rfl) ?_
  refine lv_bipush (v := zI 7) hx hb dL_isCutSo_10 (zI_b8 (by decide)) ?_
  refine z_idiv hx hb ⟨⟨by omega, by omega⟩, by omega, by omega⟩ dL_isCutSo_12 ?_
  refine lv_iload_n hx hb dL_isCutSo_13 rfl (lv_at hl 2 rfl) ?_
  refine lv_bipush (v := zI 7) hx hb dL_isCutSo_14 (zI_b8 (by decide)) ?_
  refine z_irem hx hb ⟨⟨by omega, by omega⟩, by omega, by omega⟩ dL_isCutSo_16 ?_
  refine z_calli hP hD hS hA (va_runV (As := [.int (zI (a / 7)), .int (zI (a % 7)), .int (zI (b / 7)), .int (zI (b % 7))]) (rest := []) hC (c_X9_cutLength l D τ α γ h old ch rg ln sl pd hg9 la9 sg od hs (a / 7) (a % 7) (b / 7) (b % 7) (by first | assumption | rfl | omega) (by first | assumption | rfl | omega) (by first | assumption | rfl | omega) (by first | assumption | rfl | omega) (by first | assumption | rfl | omega) _) (cwV 4 hts (gV hB wl_L_135 wn_X9_cutLength ws_X9_cutLength wi_X9 wc_X9_cutLength) rfl rfl rfl hd_X9_cutLength ⟨Nat.le_of_ble_eq_true rfl, Nat.le_of_ble_eq_true rfl⟩) (zp_V hK hP hD hS hA hG (ci := 9) (q0 := 0) rfl rfl rfl) rfl rfl hl.1 rfl (lv_room (Nat.le_of_ble_eq_true rfl)) dL_isCutSo_17 ⟨Nat.le_of_ble_eq_true rfl, Nat.le_of_ble_eq_true rfl⟩) (fun r w1 H locs hq9 hP hD hS => ?_)
  obtain ⟨f17_1, n17_2, v17_3, hv17_0, hv17_1, rfl, rfl⟩ := hq9
  try simp only [e7] at hv17_0
  try simp only [e7] at hv17_1
  have hP : va_P D vwCl (wH α γ (h, old, ch) rg ln sl pd (f17_1, n17_2) sg od hs) H := hP
  have hD : va_D A (wH α γ (h, old, ch) rg ln sl pd (f17_1, n17_2) sg od hs) := hD
  refine lv_istore_n (lv' := [(3, .int (zI v17_3)), (0, .ref (α 0)), (1, .int (zI a)), (2, .int (zI b))]) hx hb dL_isCutSo_20 rfl hl (by decide) rfl (fun ls hl => ?_)
  refine lv_iconst (v := zI 0) hx hb dL_isCutSo_21 rfl ?_
  refine lv_istore (lv' := [(4, .int (zI 0)), (3, .int (zI v17_3)), (0, .ref (α 0)), (1, .int (zI a)), (2, .int (zI b))]) hx hb dL_isCutSo_22 hl (by decide) rfl (fun ls hl => ?_)
  refine lv_iconst (v := zI 0) hx hb dL_isCutSo_24 rfl ?_
  refine lv_istore (lv' := [(5, .int (zI 0)), (4, .int (zI 0)), (3, .int (zI v17_3)), (0, .ref (α 0)), (1, .int (zI a)), (2, .int (zI b))]) hx hb dL_isCutSo_25 hl (by decide) rfl (fun ls hl => ?_)
  refine lv_iconst (v := zI 0) hx hb dL_isCutSo_27 rfl ?_
  refine lv_istore (lv' := [(6, .int (zI 0)), (5, .int (zI 0)), (4, .int (zI 0)), (3, .int (zI v17_3)), (0, .ref (α 0)), (1, .int (zI a)), (2, .int (zI b))]) hx hb dL_isCutSo_28 hl (by decide) rfl (fun ls hl => ?_)
  suffices HL_30 : ∀ (n_30 : Nat), ∀ (hg9_l : IA) (la9_l : Int) (cl : Int) (ps : Int) (i : Int) (H : Heap) (locs : List Loc) (hP : va_P D vwCl (wH α γ (h, old, ch) rg ln sl pd (hg9_l, la9_l) sg od hs) H) (hD : va_D A (wH α γ (h, old, ch) rg ln sl pd (hg9_l, la9_l) sg od hs)) (hS : va_S A s.heap H locs) (ls : Array Slot) (hl : lv_has ls 9 [(4, .int (zI cl)), (5, .int (zI ps)), (6, .int (zI i)), (3, .int (zI v17_3)), (0, .ref (α 0)), (1, .int (zI a)), (2, .int (zI b))]) (hi : 0 ≤ i ∧ i ≤ S_cutn a b + 1) (hcl : cl = zS (riF h a b) (if i ≤ S_cutn a b then i else S_cutn a b)) (hps : ps = S_top (fun i => h (S_on a b i)) i) (hb8 : 0 ≤ cl ∧ cl ≤ 99 * i) (hb9 : 0 ≤ ps ∧ ps ≤ 99) (hm : (S_cutn a b + 1 - i).toNat < n_30), W pg l e rm_L_isCutSo s m args below meth c H locs 0 0 Q (F0 m 30 ls []) from HL_30 _ f17_1 n17_2 0 0 0 _ _ hP hD hS _ (lv_sub hl [2, 1, 0, 3, 4, 5, 6] rfl) (by first | assumption | rfl | omega) (by rw [if_pos (by omega)]; exact (zS_0 _).symm) (by exact (S_top_0 _).symm) (by first | assumption | rfl | omega) (by first | assumption | rfl | omega) (Nat.lt_succ_self _)
  intro n_30
  induction n_30 with
  | zero => intro hg9_l la9_l cl ps i H locs hP hD hS ls hl hi hcl hps hb8 hb9 hm; exact absurd hm (Nat.not_lt_zero _)
  | succ n_30 ih_30 =>
    intro hg9_l la9_l cl ps i H locs hP hD hS ls hl hi hcl hps hb8 hb9 hm
    refine lv_iload hx hb dL_isCutSo_30 (lv_at hl 2 rfl) ?_
    refine lv_iload_n hx hb dL_isCutSo_32 rfl (lv_at hl 3 rfl) ?_
    refine z_icge (tgt := 142) hx hb ⟨by omega, by omega⟩ ⟨by omega, by omega⟩ dL_isCutSo_33 (by decide) (fun c_33 => ?_) (fun c_33 => ?_)
    · have hie : i = S_cutn a b + 1 := by omega
      have hcl9 : cl = S_rise h a b := by (rw [hcl, if_neg (by omega)]; rfl)
      have hps9 : ps = S_pass h a b := by (rw [hps, hie]; rfl)
      refine lv_iload_n hx hb dL_isCutSo_142 rfl (lv_at hl 3 rfl) ?_
      refine z_ifle (tgt := 240) hx hb ⟨by omega, by omega⟩ dL_isCutSo_143 (by decide) (fun c_143 => ?_) (fun c_143 => ?_)
      · exfalso; omega
      · refine lv_iload_n hx hb dL_isCutSo_146 rfl (lv_at hl 3 rfl) ?_
        refine lv_bipush (v := zI 8) hx hb dL_isCutSo_147 (zI_b8 (by decide)) ?_
        refine z_icge (tgt := 240) hx hb ⟨by omega, by omega⟩ ⟨by omega, by omega⟩ dL_isCutSo_149 (by decide) (fun c_149 => ?_) (fun c_149 => ?_)
        · exfalso; omega
        · refine lv_aload_n hx hb dL_isCutSo_152 rfl (lv_at hl 4 rfl) ?_
          refine lv_iload_n hx hb dL_isCutSo_153 rfl (lv_at hl 6 rfl) ?_
          refine lv_bipush (v := zI 7) hx hb dL_isCutSo_154 (zI_b8 (by decide)) ?_
          refine z_idiv hx hb ⟨⟨by omega, by omega⟩, by omega, by omega⟩ dL_isCutSo_156 ?_
          refine lv_iload_n hx hb dL_isCutSo_157 rfl (lv_at hl 6 rfl) ?_
          refine lv_bipush (v := zI 7) hx hb dL_isCutSo_158 (zI_b8 (by decide)) ?_
          refine z_irem hx hb ⟨⟨by omega, by omega⟩, by omega, by omega⟩ dL_isCutSo_160 ?_
          refine lv_iload_n hx hb dL_isCutSo_161 rfl (lv_at hl 5 rfl) ?_
          refine lv_bipush (v := zI 7) hx hb dL_isCutSo_162 (zI_b8 (by decide)) ?_
          refine z_idiv hx hb ⟨⟨by omega, by omega⟩, by omega, by omega⟩ dL_isCutSo_164 ?_
          refine lv_iload_n hx hb dL_isCutSo_165 rfl (lv_at hl 5 rfl) ?_
          refine lv_bipush (v := zI 7) hx hb dL_isCutSo_166 (zI_b8 (by decide)) ?_
          refine z_irem hx hb ⟨⟨by omega, by omega⟩, by omega, by omega⟩ dL_isCutSo_168 ?_
          refine z_calli hP hD hS hA (va_runV (As := [.int (zI (b / 7)), .int (zI (b % 7)), .int (zI (a / 7)), .int (zI (a % 7))]) (rest := []) hC (c_X9_cutLength l D τ α γ h old ch rg ln sl pd hg9_l la9_l sg od hs (b / 7) (b % 7) (a / 7) (a % 7) (by first | assumption | rfl | omega) (by first | assumption | rfl | omega) (by first | assumption | rfl | omega) (by first | assumption | rfl | omega) (by first | assumption | rfl | omega) _) (cwV 4 hts (gV hB wl_L_135 wn_X9_cutLength ws_X9_cutLength wi_X9 wc_X9_cutLength) rfl rfl rfl hd_X9_cutLength ⟨Nat.le_of_ble_eq_true rfl, Nat.le_of_ble_eq_true rfl⟩) (zp_V hK hP hD hS hA hG (ci := 9) (q0 := 0) rfl rfl rfl) rfl rfl hl.1 rfl (lv_room (Nat.le_of_ble_eq_true rfl)) dL_isCutSo_169 ⟨Nat.le_of_ble_eq_true rfl, Nat.le_of_ble_eq_true rfl⟩) (fun r w1 H locs hq9 hP hD hS => ?_)
          obtain ⟨f169_4, n169_5, v169_6, hv169_0, hv169_1, rfl, rfl⟩ := hq9
          try simp only [e7] at hv169_0
          try simp only [e7] at hv169_1
          have hP : va_P D vwCl (wH α γ (h, old, ch) rg ln sl pd (f169_4, n169_5) sg od hs) H := hP
          have hD : va_D A (wH α γ (h, old, ch) rg ln sl pd (f169_4, n169_5) sg od hs) := hD
          rw [q_cutn_sy] at hv169_1
          refine lv_iload_n hx hb dL_isCutSo_172 rfl (lv_at hl 3 rfl) ?_
          refine z_icne (tgt := 240) hx hb ⟨by omega, by omega⟩ ⟨by omega, by omega⟩ dL_isCutSo_173 (by decide) (fun c_173 => ?_) (fun c_173 => ?_)
          · exfalso; omega
          · refine lv_aload_n hx hb dL_isCutSo_176 rfl (lv_at hl 4 rfl) ?_
            refine lv_iload_n hx hb dL_isCutSo_177 rfl (lv_at hl 5 rfl) ?_
            refine lv_bipush (v := zI 7) hx hb dL_isCutSo_178 (zI_b8 (by decide)) ?_
            refine z_idiv hx hb ⟨⟨by omega, by omega⟩, by omega, by omega⟩ dL_isCutSo_180 ?_
            refine lv_iload_n hx hb dL_isCutSo_181 rfl (lv_at hl 5 rfl) ?_
            refine lv_bipush (v := zI 7) hx hb dL_isCutSo_182 (zI_b8 (by decide)) ?_
            refine z_irem hx hb ⟨⟨by omega, by omega⟩, by omega, by omega⟩ dL_isCutSo_184 ?_
            refine lv_iload_n hx hb dL_isCutSo_185 rfl (lv_at hl 6 rfl) ?_
            refine lv_bipush (v := zI 7) hx hb dL_isCutSo_186 (zI_b8 (by decide)) ?_
            refine z_idiv hx hb ⟨⟨by omega, by omega⟩, by omega, by omega⟩ dL_isCutSo_188 ?_
            refine lv_iload_n hx hb dL_isCutSo_189 rfl (lv_at hl 6 rfl) ?_
            refine lv_bipush (v := zI 7) hx hb dL_isCutSo_190 (zI_b8 (by decide)) ?_
            refine z_irem hx hb ⟨⟨by omega, by omega⟩, by omega, by omega⟩ dL_isCutSo_192 ?_
            refine lv_iconst (v := zI 0) hx hb dL_isCutSo_193 rfl ?_
            refine z_calli hP hD hS hA (va_runV (As := [.int (zI (a / 7)), .int (zI (a % 7)), .int (zI (b / 7)), .int (zI (b % 7)), .int (zI 0)]) (rest := []) hC (c_X9_cutHeight l D τ α γ h old ch rg ln sl pd f169_4 n169_5 sg od hs (a / 7) (a % 7) (b / 7) (b % 7) 0 (by first | assumption | rfl | omega) (by first | assumption | rfl | omega) (by first | assumption | rfl | omega) (by first | assumption | rfl | omega) (by rw [e7, e7]; omega) (by first | assumption | rfl | omega) _) (cwV 5 hts (gV hB wl_L_139 wn_X9_cutHeight ws_X9_cutHeight wi_X9 wc_X9_cutHeight) rfl rfl rfl hd_X9_cutHeight ⟨Nat.le_of_ble_eq_true rfl, Nat.le_of_ble_eq_true rfl⟩) (zp_V hK hP hD hS hA hG (ci := 9) (q0 := 0) rfl rfl rfl) rfl rfl hl.1 rfl (lv_room (Nat.le_of_ble_eq_true rfl)) dL_isCutSo_194 ⟨Nat.le_of_ble_eq_true rfl, Nat.le_of_ble_eq_true rfl⟩) (fun r w1 H locs hq9 hP hD hS => ?_)
            obtain ⟨f194_7, n194_8, v194_9, hv194_0, hv194_1, rfl, rfl⟩ := hq9
            try simp only [e7] at hv194_0
            try simp only [e7] at hv194_1
            have hP : va_P D vwCl (wH α γ (h, old, ch) rg ln sl pd (f194_7, n194_8) sg od hs) H := hP
            have hD : va_D A (wH α γ (h, old, ch) rg ln sl pd (f194_7, n194_8) sg od hs) := hD
            rw [S_on_0 ha hb2] at hv194_1
            have b194 := hh a ha.1 ha.2
            refine lv_aload_n hx hb dL_isCutSo_197 rfl (lv_at hl 4 rfl) ?_
            refine lv_iload_n hx hb dL_isCutSo_198 rfl (lv_at hl 5 rfl) ?_
            refine z_calli hP hD hS hA (va_runS (As := [.ref (α 0), .int (zI a)]) (rest := [.int (zI v194_9)]) hC (c_L_at l D τ α γ h old ch rg ln sl pd (f194_7, n194_8) sg od hs a (by first | assumption | rfl | omega) (by first | assumption | rfl | omega) _) (va_cwS 2 hts (gS hB wl_L_42 wt_L_at wi_L wc_L_at) rfl rfl rfl hd_L_at.2 ⟨Nat.le_of_ble_eq_true rfl, Nat.le_of_ble_eq_true rfl⟩) (zp_S hK hP hD hS hA hG) rfl rfl hl.1 rfl (lv_room (Nat.le_of_ble_eq_true rfl)) dL_isCutSo_199 ⟨Nat.le_of_ble_eq_true rfl, Nat.le_of_ble_eq_true rfl⟩) (fun r w1 H locs hq9 hP hD hS => ?_)
            obtain ⟨v199_10, hv199_0, hv199_1, rfl, rfl⟩ := hq9
            try simp only [e7] at hv199_0
            try simp only [e7] at hv199_1
            have hP : va_P D vwCl (wH α γ (h, old, ch) rg ln sl pd (f194_7, n194_8) sg od hs) H := hP
            have hD : va_D A (wH α γ (h, old, ch) rg ln sl pd (f194_7, n194_8) sg od hs) := hD
            refine z_icne (tgt := 240) hx hb ⟨by omega, by omega⟩ ⟨by omega, by omega⟩ dL_isCutSo_202 (by decide) (fun c_202 => ?_) (fun c_202 => ?_)
            · exfalso; omega
            · refine lv_aload_n hx hb dL_isCutSo_205 rfl (lv_at hl 4 rfl) ?_
              refine lv_iload_n hx hb dL_isCutSo_206 rfl (lv_at hl 5 rfl) ?_
              refine lv_bipush (v := zI 7) hx hb dL_isCutSo_207 (zI_b8 (by decide)) ?_
              refine z_idiv hx hb ⟨⟨by omega, by omega⟩, by omega, by omega⟩ dL_isCutSo_209 ?_
              refine lv_iload_n hx hb dL_isCutSo_210 rfl (lv_at hl 5 rfl) ?_
              refine lv_bipush (v := zI 7) hx hb dL_isCutSo_211 (zI_b8 (by decide)) ?_
              refine z_irem hx hb ⟨⟨by omega, by omega⟩, by omega, by omega⟩ dL_isCutSo_213 ?_
              refine lv_iload_n hx hb dL_isCutSo_214 rfl (lv_at hl 6 rfl) ?_
              refine lv_bipush (v := zI 7) hx hb dL_isCutSo_215 (zI_b8 (by decide)) ?_
              refine z_idiv hx hb ⟨⟨by omega, by omega⟩, by omega, by omega⟩ dL_isCutSo_217 ?_
              refine lv_iload_n hx hb dL_isCutSo_218 rfl (lv_at hl 6 rfl) ?_
              refine lv_bipush (v := zI 7) hx hb dL_isCutSo_219 (zI_b8 (by decide)) ?_
              refine z_irem hx hb ⟨⟨by omega, by omega⟩, by omega, by omega⟩ dL_isCutSo_221 ?_
              refine lv_iload_n hx hb dL_isCutSo_222 rfl (lv_at hl 3 rfl) ?_
              refine lv_iconst (v := zI 1) hx hb dL_isCutSo_223 rfl ?_
              refine z_isub hx hb dL_isCutSo_224 ?_
              refine z_calli hP hD hS hA (va_runV (As := [.int (zI (a / 7)), .int (zI (a % 7)), .int (zI (b / 7)), .int (zI (b % 7)), .int (zI (v17_3 - 1))]) (rest := []) hC (c_X9_cutHeight l D τ α γ h old ch rg ln sl pd f194_7 n194_8 sg od hs (a / 7) (a % 7) (b / 7) (b % 7) (v17_3 - 1) (by first | assumption | rfl | omega) (by first | assumption | rfl | omega) (by first | assumption | rfl | omega) (by first | assumption | rfl | omega) (by rw [e7, e7]; omega) (by first | assumption | rfl | omega) _) (cwV 5 hts (gV hB wl_L_139 wn_X9_cutHeight ws_X9_cutHeight wi_X9 wc_X9_cutHeight) rfl rfl rfl hd_X9_cutHeight ⟨Nat.le_of_ble_eq_true rfl, Nat.le_of_ble_eq_true rfl⟩) (zp_V hK hP hD hS hA hG (ci := 9) (q0 := 0) rfl rfl rfl) rfl rfl hl.1 rfl (lv_room (Nat.le_of_ble_eq_true rfl)) dL_isCutSo_225 ⟨Nat.le_of_ble_eq_true rfl, Nat.le_of_ble_eq_true rfl⟩) (fun r w1 H locs hq9 hP hD hS => ?_)
              obtain ⟨f225_11, n225_12, v225_13, hv225_0, hv225_1, rfl, rfl⟩ := hq9
              try simp only [e7] at hv225_0
              try simp only [e7] at hv225_1
              have hP : va_P D vwCl (wH α γ (h, old, ch) rg ln sl pd (f225_11, n225_12) sg od hs) H := hP
              have hD : va_D A (wH α γ (h, old, ch) rg ln sl pd (f225_11, n225_12) sg od hs) := hD
              rw [show v17_3 - 1 = S_cutn a b by omega, S_on_n ha hb2] at hv225_1
              have b225 := hh b hb2.1 hb2.2
              refine lv_aload_n hx hb dL_isCutSo_228 rfl (lv_at hl 4 rfl) ?_
              refine lv_iload_n hx hb dL_isCutSo_229 rfl (lv_at hl 6 rfl) ?_
              refine z_calli hP hD hS hA (va_runS (As := [.ref (α 0), .int (zI b)]) (rest := [.int (zI v225_13)]) hC (c_L_at l D τ α γ h old ch rg ln sl pd (f225_11, n225_12) sg od hs b (by first | assumption | rfl | omega) (by first | assumption | rfl | omega) _) (va_cwS 2 hts (gS hB wl_L_42 wt_L_at wi_L wc_L_at) rfl rfl rfl hd_L_at.2 ⟨Nat.le_of_ble_eq_true rfl, Nat.le_of_ble_eq_true rfl⟩) (zp_S hK hP hD hS hA hG) rfl rfl hl.1 rfl (lv_room (Nat.le_of_ble_eq_true rfl)) dL_isCutSo_230 ⟨Nat.le_of_ble_eq_true rfl, Nat.le_of_ble_eq_true rfl⟩) (fun r w1 H locs hq9 hP hD hS => ?_)
              obtain ⟨v230_14, hv230_0, hv230_1, rfl, rfl⟩ := hq9
              try simp only [e7] at hv230_0
              try simp only [e7] at hv230_1
              have hP : va_P D vwCl (wH α γ (h, old, ch) rg ln sl pd (f225_11, n225_12) sg od hs) H := hP
              have hD : va_D A (wH α γ (h, old, ch) rg ln sl pd (f225_11, n225_12) sg od hs) := hD
              refine z_icne (tgt := 240) hx hb ⟨by omega, by omega⟩ ⟨by omega, by omega⟩ dL_isCutSo_233 (by decide) (fun c_233 => ?_) (fun c_233 => ?_)
              · exfalso; omega
              · refine lv_iconst (v := zI 1) hx hb dL_isCutSo_236 rfl ?_
                refine lv_goto (tgt := 241) hx hb dL_isCutSo_237 (by decide) ?_
                refine lv_istore (lv' := [(6, .int (zI 1)), (4, .int (zI cl)), (5, .int (zI ps)), (3, .int (zI v17_3)), (0, .ref (α 0)), (1, .int (zI a)), (2, .int (zI b))]) hx hb dL_isCutSo_241 hl (by decide) rfl (fun ls hl => ?_)
                refine lv_iload hx hb dL_isCutSo_243 (lv_at hl 0 rfl) ?_
                refine z_ifeq (tgt := 330) hx hb ⟨by omega, by omega⟩ dL_isCutSo_245 (by decide) (fun c_245 => ?_) (fun c_245 => ?_)
                · exact absurd c_245 (by decide)
                · refine lv_aload_n hx hb dL_isCutSo_248 rfl (lv_at hl 4 rfl) ?_
                  refine lv_iload_n hx hb dL_isCutSo_249 rfl (lv_at hl 5 rfl) ?_
                  refine lv_bipush (v := zI 7) hx hb dL_isCutSo_250 (zI_b8 (by decide)) ?_
                  refine z_idiv hx hb ⟨⟨by omega, by omega⟩, by omega, by omega⟩ dL_isCutSo_252 ?_
                  refine lv_iload_n hx hb dL_isCutSo_253 rfl (lv_at hl 5 rfl) ?_
                  refine lv_bipush (v := zI 7) hx hb dL_isCutSo_254 (zI_b8 (by decide)) ?_
                  refine z_irem hx hb ⟨⟨by omega, by omega⟩, by omega, by omega⟩ dL_isCutSo_256 ?_
                  refine lv_iload_n hx hb dL_isCutSo_257 rfl (lv_at hl 6 rfl) ?_
                  refine lv_bipush (v := zI 7) hx hb dL_isCutSo_258 (zI_b8 (by decide)) ?_
                  refine z_idiv hx hb ⟨⟨by omega, by omega⟩, by omega, by omega⟩ dL_isCutSo_260 ?_
                  refine lv_iload_n hx hb dL_isCutSo_261 rfl (lv_at hl 6 rfl) ?_
                  refine lv_bipush (v := zI 7) hx hb dL_isCutSo_262 (zI_b8 (by decide)) ?_
                  refine z_irem hx hb ⟨⟨by omega, by omega⟩, by omega, by omega⟩ dL_isCutSo_264 ?_
                  refine z_calli hP hD hS hA (va_runV (As := [.int (zI (a / 7)), .int (zI (a % 7)), .int (zI (b / 7)), .int (zI (b % 7))]) (rest := []) hC (c_X9_climb l D τ α γ h old ch rg ln sl pd f225_11 n225_12 sg od hs (a / 7) (a % 7) (b / 7) (b % 7) (by first | assumption | rfl | omega) (by first | assumption | rfl | omega) (by first | assumption | rfl | omega) (by first | assumption | rfl | omega) (by first | assumption | rfl | omega) _) (cwV 4 hts (gV hB wl_L_143 wn_X9_climb ws_X9_climb wi_X9 wc_X9_climb) rfl rfl rfl hd_X9_climb ⟨Nat.le_of_ble_eq_true rfl, Nat.le_of_ble_eq_true rfl⟩) (zp_V hK hP hD hS hA hG (ci := 9) (q0 := 0) rfl rfl rfl) rfl rfl hl.1 rfl (lv_room (Nat.le_of_ble_eq_true rfl)) dL_isCutSo_265 ⟨Nat.le_of_ble_eq_true rfl, Nat.le_of_ble_eq_true rfl⟩) (fun r w1 H locs hq9 hP hD hS => ?_)
                  obtain ⟨f265_15, n265_16, v265_17, hv265_0, hv265_1, rfl, rfl⟩ := hq9
                  try simp only [e7] at hv265_0
                  try simp only [e7] at hv265_1
                  have hP : va_P D vwCl (wH α γ (h, old, ch) rg ln sl pd (f265_15, n265_16) sg od hs) H := hP
                  have hD : va_D A (wH α γ (h, old, ch) rg ln sl pd (f265_15, n265_16) sg od hs) := hD
                  refine lv_iload hx hb dL_isCutSo_268 (lv_at hl 1 rfl) ?_
                  refine z_icne (tgt := 330) hx hb ⟨by omega, by omega⟩ ⟨by omega, by omega⟩ dL_isCutSo_270 (by decide) (fun c_270 => ?_) (fun c_270 => ?_)
                  · exfalso; omega
                  · refine lv_aload_n hx hb dL_isCutSo_273 rfl (lv_at hl 4 rfl) ?_
                    refine lv_iload_n hx hb dL_isCutSo_274 rfl (lv_at hl 5 rfl) ?_
                    refine lv_bipush (v := zI 7) hx hb dL_isCutSo_275 (zI_b8 (by decide)) ?_
                    refine z_idiv hx hb ⟨⟨by omega, by omega⟩, by omega, by omega⟩ dL_isCutSo_277 ?_
                    refine lv_iload_n hx hb dL_isCutSo_278 rfl (lv_at hl 5 rfl) ?_
                    refine lv_bipush (v := zI 7) hx hb dL_isCutSo_279 (zI_b8 (by decide)) ?_
                    refine z_irem hx hb ⟨⟨by omega, by omega⟩, by omega, by omega⟩ dL_isCutSo_281 ?_
                    refine lv_iload_n hx hb dL_isCutSo_282 rfl (lv_at hl 6 rfl) ?_
                    refine lv_bipush (v := zI 7) hx hb dL_isCutSo_283 (zI_b8 (by decide)) ?_
                    refine z_idiv hx hb ⟨⟨by omega, by omega⟩, by omega, by omega⟩ dL_isCutSo_285 ?_
                    refine lv_iload_n hx hb dL_isCutSo_286 rfl (lv_at hl 6 rfl) ?_
                    refine lv_bipush (v := zI 7) hx hb dL_isCutSo_287 (zI_b8 (by decide)) ?_
                    refine z_irem hx hb ⟨⟨by omega, by omega⟩, by omega, by omega⟩ dL_isCutSo_289 ?_
                    refine z_calli hP hD hS hA (va_runV (As := [.int (zI (a / 7)), .int (zI (a % 7)), .int (zI (b / 7)), .int (zI (b % 7))]) (rest := []) hC (c_X9_pass l D τ α γ h old ch rg ln sl pd f265_15 n265_16 sg od hs (a / 7) (a % 7) (b / 7) (b % 7) (by first | assumption | rfl | omega) (by first | assumption | rfl | omega) (by first | assumption | rfl | omega) (by first | assumption | rfl | omega) (by first | assumption | rfl | omega) _) (cwV 4 hts (gV hB wl_L_146 wn_X9_pass ws_X9_pass wi_X9 wc_X9_pass) rfl rfl rfl hd_X9_pass ⟨Nat.le_of_ble_eq_true rfl, Nat.le_of_ble_eq_true rfl⟩) (zp_V hK hP hD hS hA hG (ci := 9) (q0 := 0) rfl rfl rfl) rfl rfl hl.1 rfl (lv_room (Nat.le_of_ble_eq_true rfl)) dL_isCutSo_290 ⟨Nat.le_of_ble_eq_true rfl, Nat.le_of_ble_eq_true rfl⟩) (fun r w1 H locs hq9 hP hD hS => ?_)
                    obtain ⟨f290_18, n290_19, v290_20, hv290_0, hv290_1, rfl, rfl⟩ := hq9
                    try simp only [e7] at hv290_0
                    try simp only [e7] at hv290_1
                    have hP : va_P D vwCl (wH α γ (h, old, ch) rg ln sl pd (f290_18, n290_19) sg od hs) H := hP
                    have hD : va_D A (wH α γ (h, old, ch) rg ln sl pd (f290_18, n290_19) sg od hs) := hD
                    refine lv_iload hx hb dL_isCutSo_293 (lv_at hl 2 rfl) ?_
                    refine z_icne (tgt := 330) hx hb ⟨by omega, by omega⟩ ⟨by omega, by omega⟩ dL_isCutSo_295 (by decide) (fun c_295 => ?_) (fun c_295 => ?_)
                    · exfalso; omega
                    · refine lv_iload_n hx hb dL_isCutSo_298 rfl (lv_at hl 3 rfl) ?_
                      refine lv_iconst (v := zI 2) hx hb dL_isCutSo_299 rfl ?_
                      refine z_icgt (tgt := 326) hx hb ⟨by omega, by omega⟩ ⟨by omega, by omega⟩ dL_isCutSo_300 (by decide) (fun c_300 => ?_) (fun c_300 => ?_)
                      · refine lv_iconst (v := zI 1) hx hb dL_isCutSo_326 rfl ?_
                        refine lv_goto (tgt := 331) hx hb dL_isCutSo_327 (by decide) ?_
                        refine lv_istore (lv' := [(6, .int (zI 1)), (4, .int (zI cl)), (5, .int (zI ps)), (3, .int (zI v17_3)), (0, .ref (α 0)), (1, .int (zI a)), (2, .int (zI b))]) hx hb dL_isCutSo_331 hl (by decide) rfl (fun ls hl => ?_)
                        refine lv_aload_n hx hb dL_isCutSo_333 rfl (lv_at hl 4 rfl) ?_
                        refine lv_iload_n hx hb dL_isCutSo_334 rfl (lv_at hl 5 rfl) ?_
                        refine lv_bipush (v := zI 7) hx hb dL_isCutSo_335 (zI_b8 (by decide)) ?_
                        refine z_idiv hx hb ⟨⟨by omega, by omega⟩, by omega, by omega⟩ dL_isCutSo_337 ?_
                        refine lv_iload_n hx hb dL_isCutSo_338 rfl (lv_at hl 5 rfl) ?_
                        refine lv_bipush (v := zI 7) hx hb dL_isCutSo_339 (zI_b8 (by decide)) ?_
                        refine z_irem hx hb ⟨⟨by omega, by omega⟩, by omega, by omega⟩ dL_isCutSo_341 ?_
                        refine z_calli hP hD hS hA (va_runV (As := [.int (zI (a / 7)), .int (zI (a % 7))]) (rest := []) hC (c_X9_seenFrom l D τ α γ h old ch rg ln sl pd f290_18 n290_19 sg od hs (a / 7) (a % 7) (by first | assumption | rfl | omega) (by first | assumption | rfl | omega) (by first | assumption | rfl | omega) _) (cwV 2 hts (gV hB wl_L_153 wn_X9_seenFrom ws_X9_seenFrom wi_X9 wc_X9_seenFrom) rfl rfl rfl hd_X9_seenFrom ⟨Nat.le_of_ble_eq_true rfl, Nat.le_of_ble_eq_true rfl⟩) (zp_V hK hP hD hS hA hG (ci := 9) (q0 := 0) rfl rfl rfl) rfl rfl hl.1 rfl (lv_room (Nat.le_of_ble_eq_true rfl)) dL_isCutSo_342 ⟨Nat.le_of_ble_eq_true rfl, Nat.le_of_ble_eq_true rfl⟩) (fun r w1 H locs hq9 hP hD hS => ?_)
                        obtain ⟨f342_21, n342_22, v342_23, hv342_0, hv342_1, rfl, rfl⟩ := hq9
                        try simp only [e7] at hv342_0
                        try simp only [e7] at hv342_1
                        have hP : va_P D vwCl (wH α γ (h, old, ch) rg ln sl pd (f342_21, n342_22) sg od hs) H := hP
                        have hD : va_D A (wH α γ (h, old, ch) rg ln sl pd (f342_21, n342_22) sg od hs) := hD
                        have hse := q_seen (h := h) ha
                        refine lv_istore (lv' := [(7, .int (zI v342_23)), (6, .int (zI 1)), (4, .int (zI cl)), (5, .int (zI ps)), (3, .int (zI v17_3)), (0, .ref (α 0)), (1, .int (zI a)), (2, .int (zI b))]) hx hb dL_isCutSo_345 hl (by decide) rfl (fun ls hl => ?_)
                        refine lv_iload hx hb dL_isCutSo_347 (lv_at hl 1 rfl) ?_
                        refine z_ifeq (tgt := 369) hx hb ⟨by omega, by omega⟩ dL_isCutSo_349 (by decide) (fun c_349 => ?_) (fun c_349 => ?_)
                        · exact absurd c_349 (by decide)
                        · refine lv_iload hx hb dL_isCutSo_352 (lv_at hl 0 rfl) ?_
                          refine lv_iconst (v := zI 1) hx hb dL_isCutSo_354 rfl ?_
                          refine z_icle (tgt := 369) hx hb ⟨by omega, by omega⟩ ⟨by omega, by omega⟩ dL_isCutSo_355 (by decide) (fun c_355 => ?_) (fun c_355 => ?_)
                          · exfalso; omega
                          · refine lv_iload hx hb dL_isCutSo_358 (lv_at hl 0 rfl) ?_
                            refine lv_bipush (v := zI 49) hx hb dL_isCutSo_360 (zI_b8 (by decide)) ?_
                            refine z_icge (tgt := 369) hx hb ⟨by omega, by omega⟩ ⟨by omega, by omega⟩ dL_isCutSo_362 (by decide) (fun c_362 => ?_) (fun c_362 => ?_)
                            · exfalso; omega
                            · refine lv_iconst (v := zI 1) hx hb dL_isCutSo_365 rfl ?_
                              refine lv_goto (tgt := 370) hx hb dL_isCutSo_366 (by decide) ?_
                              refine W.eq (g2 := F0 m 370 ls [.int (bI true)]) rfl ?_
                              exact z_zret hC hr hlk hQ hP hD hS ⟨f342_21, n342_22, true, (by rfl), rfl, rfl⟩ dL_isCutSo_370
                      · refine lv_aload_n hx hb dL_isCutSo_303 rfl (lv_at hl 4 rfl) ?_
                        refine lv_iload_n hx hb dL_isCutSo_304 rfl (lv_at hl 5 rfl) ?_
                        refine lv_bipush (v := zI 7) hx hb dL_isCutSo_305 (zI_b8 (by decide)) ?_
                        refine z_idiv hx hb ⟨⟨by omega, by omega⟩, by omega, by omega⟩ dL_isCutSo_307 ?_
                        refine lv_iload_n hx hb dL_isCutSo_308 rfl (lv_at hl 5 rfl) ?_
                        refine lv_bipush (v := zI 7) hx hb dL_isCutSo_309 (zI_b8 (by decide)) ?_
                        refine z_irem hx hb ⟨⟨by omega, by omega⟩, by omega, by omega⟩ dL_isCutSo_311 ?_
                        refine lv_iload_n hx hb dL_isCutSo_312 rfl (lv_at hl 6 rfl) ?_
                        refine lv_bipush (v := zI 7) hx hb dL_isCutSo_313 (zI_b8 (by decide)) ?_
                        refine z_idiv hx hb ⟨⟨by omega, by omega⟩, by omega, by omega⟩ dL_isCutSo_315 ?_
                        refine lv_iload_n hx hb dL_isCutSo_316 rfl (lv_at hl 6 rfl) ?_
                        refine lv_bipush (v := zI 7) hx hb dL_isCutSo_317 (zI_b8 (by decide)) ?_
                        refine z_irem hx hb ⟨⟨by omega, by omega⟩, by omega, by omega⟩ dL_isCutSo_319 ?_
                        refine z_calli hP hD hS hA (va_runV (As := [.int (zI (a / 7)), .int (zI (a % 7)), .int (zI (b / 7)), .int (zI (b % 7))]) (rest := []) hC (c_X9_sees l D τ α γ h old ch rg ln sl pd f290_18 n290_19 sg od hs (a / 7) (a % 7) (b / 7) (b % 7) (by first | assumption | rfl | omega) (by first | assumption | rfl | omega) (by first | assumption | rfl | omega) (by first | assumption | rfl | omega) (by first | assumption | rfl | omega) _) (cwV 4 hts (gV hB wl_L_149 wn_X9_sees ws_X9_sees wi_X9 wc_X9_sees) rfl rfl rfl hd_X9_sees ⟨Nat.le_of_ble_eq_true rfl, Nat.le_of_ble_eq_true rfl⟩) (zp_V hK hP hD hS hA hG (ci := 9) (q0 := 0) rfl rfl rfl) rfl rfl hl.1 rfl (lv_room (Nat.le_of_ble_eq_true rfl)) dL_isCutSo_320 ⟨Nat.le_of_ble_eq_true rfl, Nat.le_of_ble_eq_true rfl⟩) (fun r w1 H locs hq9 hP hD hS => ?_)
                        obtain ⟨f320_24, n320_25, v320_26, hv320_0, hv320_1, rfl, rfl⟩ := hq9
                        try simp only [e7] at hv320_0
                        try simp only [e7] at hv320_1
                        have hP : va_P D vwCl (wH α γ (h, old, ch) rg ln sl pd (f320_24, n320_25) sg od hs) H := hP
                        have hD : va_D A (wH α γ (h, old, ch) rg ln sl pd (f320_24, n320_25) sg od hs) := hD
                        refine z_ifeqB (tgt := 330) hx hb dL_isCutSo_323 (by decide) (fun c_323 => ?_) (fun c_323 => ?_)
                        · have hb_323 := zb_neg hv320_1 c_323
                          exact absurd (show S_clear h a b from fun i i0 i1 => by exfalso; omega) hb_323
                        · have hb_323 := hv320_1.mp c_323
                          refine lv_iconst (v := zI 1) hx hb dL_isCutSo_326 rfl ?_
                          refine lv_goto (tgt := 331) hx hb dL_isCutSo_327 (by decide) ?_
                          refine lv_istore (lv' := [(6, .int (zI 1)), (4, .int (zI cl)), (5, .int (zI ps)), (3, .int (zI v17_3)), (0, .ref (α 0)), (1, .int (zI a)), (2, .int (zI b))]) hx hb dL_isCutSo_331 hl (by decide) rfl (fun ls hl => ?_)
                          refine lv_aload_n hx hb dL_isCutSo_333 rfl (lv_at hl 4 rfl) ?_
                          refine lv_iload_n hx hb dL_isCutSo_334 rfl (lv_at hl 5 rfl) ?_
                          refine lv_bipush (v := zI 7) hx hb dL_isCutSo_335 (zI_b8 (by decide)) ?_
                          refine z_idiv hx hb ⟨⟨by omega, by omega⟩, by omega, by omega⟩ dL_isCutSo_337 ?_
                          refine lv_iload_n hx hb dL_isCutSo_338 rfl (lv_at hl 5 rfl) ?_
                          refine lv_bipush (v := zI 7) hx hb dL_isCutSo_339 (zI_b8 (by decide)) ?_
                          refine z_irem hx hb ⟨⟨by omega, by omega⟩, by omega, by omega⟩ dL_isCutSo_341 ?_
                          refine z_calli hP hD hS hA (va_runV (As := [.int (zI (a / 7)), .int (zI (a % 7))]) (rest := []) hC (c_X9_seenFrom l D τ α γ h old ch rg ln sl pd f320_24 n320_25 sg od hs (a / 7) (a % 7) (by first | assumption | rfl | omega) (by first | assumption | rfl | omega) (by first | assumption | rfl | omega) _) (cwV 2 hts (gV hB wl_L_153 wn_X9_seenFrom ws_X9_seenFrom wi_X9 wc_X9_seenFrom) rfl rfl rfl hd_X9_seenFrom ⟨Nat.le_of_ble_eq_true rfl, Nat.le_of_ble_eq_true rfl⟩) (zp_V hK hP hD hS hA hG (ci := 9) (q0 := 0) rfl rfl rfl) rfl rfl hl.1 rfl (lv_room (Nat.le_of_ble_eq_true rfl)) dL_isCutSo_342 ⟨Nat.le_of_ble_eq_true rfl, Nat.le_of_ble_eq_true rfl⟩) (fun r w1 H locs hq9 hP hD hS => ?_)
                          obtain ⟨f342_27, n342_28, v342_29, hv342_0, hv342_1, rfl, rfl⟩ := hq9
                          try simp only [e7] at hv342_0
                          try simp only [e7] at hv342_1
                          have hP : va_P D vwCl (wH α γ (h, old, ch) rg ln sl pd (f342_27, n342_28) sg od hs) H := hP
                          have hD : va_D A (wH α γ (h, old, ch) rg ln sl pd (f342_27, n342_28) sg od hs) := hD
                          have hse := q_seen (h := h) ha
                          refine lv_istore (lv' := [(7, .int (zI v342_29)), (6, .int (zI 1)), (4, .int (zI cl)), (5, .int (zI ps)), (3, .int (zI v17_3)), (0, .ref (α 0)), (1, .int (zI a)), (2, .int (zI b))]) hx hb dL_isCutSo_345 hl (by decide) rfl (fun ls hl => ?_)
                          refine lv_iload hx hb dL_isCutSo_347 (lv_at hl 1 rfl) ?_
                          refine z_ifeq (tgt := 369) hx hb ⟨by omega, by omega⟩ dL_isCutSo_349 (by decide) (fun c_349 => ?_) (fun c_349 => ?_)
                          · exact absurd c_349 (by decide)
                          · refine lv_iload hx hb dL_isCutSo_352 (lv_at hl 0 rfl) ?_
                            refine lv_iconst (v := zI 1) hx hb dL_isCutSo_354 rfl ?_
                            refine z_icle (tgt := 369) hx hb ⟨by omega, by omega⟩ ⟨by omega, by omega⟩ dL_isCutSo_355 (by decide) (fun c_355 => ?_) (fun c_355 => ?_)
                            · exfalso; omega
                            · refine lv_iload hx hb dL_isCutSo_358 (lv_at hl 0 rfl) ?_
                              refine lv_bipush (v := zI 49) hx hb dL_isCutSo_360 (zI_b8 (by decide)) ?_
                              refine z_icge (tgt := 369) hx hb ⟨by omega, by omega⟩ ⟨by omega, by omega⟩ dL_isCutSo_362 (by decide) (fun c_362 => ?_) (fun c_362 => ?_)
                              · exfalso; omega
                              · refine lv_iconst (v := zI 1) hx hb dL_isCutSo_365 rfl ?_
                                refine lv_goto (tgt := 370) hx hb dL_isCutSo_366 (by decide) ?_
                                refine W.eq (g2 := F0 m 370 ls [.int (bI true)]) rfl ?_
                                exact z_zret hC hr hlk hQ hP hD hS ⟨f342_27, n342_28, true, (by rfl), rfl, rfl⟩ dL_isCutSo_370
    · refine lv_aload_n hx hb dL_isCutSo_36 rfl (lv_at hl 4 rfl) ?_
      refine lv_iload_n hx hb dL_isCutSo_37 rfl (lv_at hl 5 rfl) ?_
      refine lv_bipush (v := zI 7) hx hb dL_isCutSo_38 (zI_b8 (by decide)) ?_
      refine z_idiv hx hb ⟨⟨by omega, by omega⟩, by omega, by omega⟩ dL_isCutSo_40 ?_
      refine lv_iload_n hx hb dL_isCutSo_41 rfl (lv_at hl 5 rfl) ?_
      refine lv_bipush (v := zI 7) hx hb dL_isCutSo_42 (zI_b8 (by decide)) ?_
      refine z_irem hx hb ⟨⟨by omega, by omega⟩, by omega, by omega⟩ dL_isCutSo_44 ?_
      refine lv_iload_n hx hb dL_isCutSo_45 rfl (lv_at hl 6 rfl) ?_
      refine lv_bipush (v := zI 7) hx hb dL_isCutSo_46 (zI_b8 (by decide)) ?_
      refine z_idiv hx hb ⟨⟨by omega, by omega⟩, by omega, by omega⟩ dL_isCutSo_48 ?_
      refine lv_iload_n hx hb dL_isCutSo_49 rfl (lv_at hl 6 rfl) ?_
      refine lv_bipush (v := zI 7) hx hb dL_isCutSo_50 (zI_b8 (by decide)) ?_
      refine z_irem hx hb ⟨⟨by omega, by omega⟩, by omega, by omega⟩ dL_isCutSo_52 ?_
      refine lv_iload hx hb dL_isCutSo_53 (lv_at hl 2 rfl) ?_
      refine z_calli hP hD hS hA (va_runV (As := [.int (zI (a / 7)), .int (zI (a % 7)), .int (zI (b / 7)), .int (zI (b % 7)), .int (zI i)]) (rest := []) hC (c_X9_cutHeight l D τ α γ h old ch rg ln sl pd hg9_l la9_l sg od hs (a / 7) (a % 7) (b / 7) (b % 7) i (by first | assumption | rfl | omega) (by first | assumption | rfl | omega) (by first | assumption | rfl | omega) (by first | assumption | rfl | omega) (by rw [e7, e7]; omega) (by first | assumption | rfl | omega) _) (cwV 5 hts (gV hB wl_L_139 wn_X9_cutHeight ws_X9_cutHeight wi_X9 wc_X9_cutHeight) rfl rfl rfl hd_X9_cutHeight ⟨Nat.le_of_ble_eq_true rfl, Nat.le_of_ble_eq_true rfl⟩) (zp_V hK hP hD hS hA hG (ci := 9) (q0 := 0) rfl rfl rfl) rfl rfl hl.1 rfl (lv_room (Nat.le_of_ble_eq_true rfl)) dL_isCutSo_55 ⟨Nat.le_of_ble_eq_true rfl, Nat.le_of_ble_eq_true rfl⟩) (fun r w1 H locs hq9 hP hD hS => ?_)
      obtain ⟨f55_30, n55_31, v55_32, hv55_0, hv55_1, rfl, rfl⟩ := hq9
      try simp only [e7] at hv55_0
      try simp only [e7] at hv55_1
      have hP : va_P D vwCl (wH α γ (h, old, ch) rg ln sl pd (f55_30, n55_31) sg od hs) H := hP
      have hD : va_D A (wH α γ (h, old, ch) rg ln sl pd (f55_30, n55_31) sg od hs) := hD
      have b55 := hon i hi.1 (by omega)
      rw [← hv55_1] at b55
      refine lv_istore (lv' := [(7, .int (zI v55_32)), (4, .int (zI cl)), (5, .int (zI ps)), (6, .int (zI i)), (3, .int (zI v17_3)), (0, .ref (α 0)), (1, .int (zI a)), (2, .int (zI b))]) hx hb dL_isCutSo_58 hl (by decide) rfl (fun ls hl => ?_)
      have HJ_97 : ∀ (hg9_m : IA) (la9_m : Int) (nx9 : Int) (H : Heap) (locs : List Loc) (hP : va_P D vwCl (wH α γ (h, old, ch) rg ln sl pd (hg9_m, la9_m) sg od hs) H) (hD : va_D A (wH α γ (h, old, ch) rg ln sl pd (hg9_m, la9_m) sg od hs)) (hS : va_S A s.heap H locs) (ls : Array Slot) (hl : lv_has ls 9 [(7, .int (zI v55_32)), (4, .int (zI cl)), (5, .int (zI ps)), (6, .int (zI i)), (3, .int (zI v17_3)), (0, .ref (α 0)), (1, .int (zI a)), (2, .int (zI b))]) (hnx : i < S_cutn a b → nx9 = h (S_on a b (i + 1))) (hny : S_cutn a b ≤ i → nx9 = v55_32) (hnb : 0 ≤ nx9 ∧ nx9 ≤ 99), W pg l e rm_L_isCutSo s m args below meth c H locs 0 0 Q (F0 m 97 ls [.int (zI nx9)]) := by
        intro hg9_m la9_m nx9 H locs hP hD hS ls hl hnx hny hnb
        refine lv_istore (lv' := [(8, .int (zI nx9)), (7, .int (zI v55_32)), (4, .int (zI cl)), (5, .int (zI ps)), (6, .int (zI i)), (3, .int (zI v17_3)), (0, .ref (α 0)), (1, .int (zI a)), (2, .int (zI b))]) hx hb dL_isCutSo_97 hl (by decide) rfl (fun ls hl => ?_)
        have HJ_120 : ∀ (cl2 : Int) (H : Heap) (locs : List Loc) (hP : va_P D vwCl (wH α γ (h, old, ch) rg ln sl pd (hg9_m, la9_m) sg od hs) H) (hD : va_D A (wH α γ (h, old, ch) rg ln sl pd (hg9_m, la9_m) sg od hs)) (hS : va_S A s.heap H locs) (ls : Array Slot) (hl : lv_has ls 9 [(4, .int (zI cl2)), (8, .int (zI nx9)), (7, .int (zI v55_32)), (5, .int (zI ps)), (6, .int (zI i)), (3, .int (zI v17_3)), (0, .ref (α 0)), (1, .int (zI a)), (2, .int (zI b))]) (hz7 : cl2 = zS (riF h a b) (if i + 1 ≤ S_cutn a b then i + 1 else S_cutn a b)) (hb7 : 0 ≤ cl2 ∧ cl2 ≤ 99 * (i + 1)), W pg l e rm_L_isCutSo s m args below meth c H locs 0 0 Q (F0 m 120 ls []) := by
          intro cl2 H locs hP hD hS ls hl hz7 hb7
          refine lv_iload hx hb dL_isCutSo_120 (lv_at hl 2 rfl) ?_
          refine lv_iload hx hb dL_isCutSo_122 (lv_at hl 3 rfl) ?_
          refine z_icle (tgt := 132) hx hb ⟨by omega, by omega⟩ ⟨by omega, by omega⟩ dL_isCutSo_124 (by decide) (fun c_124 => ?_) (fun c_124 => ?_)
          · have hz5 := ps_st hi.1 hps hv55_1
            rw [if_neg (show ¬ ps < v55_32 by omega)] at hz5
            refine lv_iload hx hb dL_isCutSo_132 (lv_at hl 3 rfl) ?_
            refine lv_istore (lv' := [(5, .int (zI ps)), (4, .int (zI cl2)), (8, .int (zI nx9)), (7, .int (zI v55_32)), (6, .int (zI i)), (3, .int (zI v17_3)), (0, .ref (α 0)), (1, .int (zI a)), (2, .int (zI b))]) hx hb dL_isCutSo_134 hl (by decide) rfl (fun ls hl => ?_)
            refine z_iinc (k := 4) (v := i + 1) (lv' := [(6, .int (zI (i + 1))), (5, .int (zI ps)), (4, .int (zI cl2)), (8, .int (zI nx9)), (7, .int (zI v55_32)), (3, .int (zI v17_3)), (0, .ref (α 0)), (1, .int (zI a)), (2, .int (zI b))]) hx hb dL_isCutSo_136 hl rfl rfl (by decide) rfl (fun ls hl => ?_)
            refine lv_goto (tgt := 30) hx hb dL_isCutSo_139 (by decide) ?_
            exact ih_30 hg9_m la9_m cl2 ps (i + 1) _ _ hP hD hS _ (lv_sub hl [2, 1, 0, 5, 6, 7, 8] rfl) (by first | assumption | rfl | omega) (by exact hz7) (by exact hz5) (by first | assumption | rfl | omega) (by first | assumption | rfl | omega) (by omega)
          · have hz5 := ps_st hi.1 hps hv55_1
            rw [if_pos (show ps < v55_32 by omega)] at hz5
            refine lv_iload hx hb dL_isCutSo_127 (lv_at hl 2 rfl) ?_
            refine lv_goto (tgt := 134) hx hb dL_isCutSo_129 (by decide) ?_
            refine lv_istore (lv' := [(5, .int (zI v55_32)), (4, .int (zI cl2)), (8, .int (zI nx9)), (7, .int (zI v55_32)), (6, .int (zI i)), (3, .int (zI v17_3)), (0, .ref (α 0)), (1, .int (zI a)), (2, .int (zI b))]) hx hb dL_isCutSo_134 hl (by decide) rfl (fun ls hl => ?_)
            refine z_iinc (k := 4) (v := i + 1) (lv' := [(6, .int (zI (i + 1))), (5, .int (zI v55_32)), (4, .int (zI cl2)), (8, .int (zI nx9)), (7, .int (zI v55_32)), (3, .int (zI v17_3)), (0, .ref (α 0)), (1, .int (zI a)), (2, .int (zI b))]) hx hb dL_isCutSo_136 hl rfl rfl (by decide) rfl (fun ls hl => ?_)
            refine lv_goto (tgt := 30) hx hb dL_isCutSo_139 (by decide) ?_
            exact ih_30 hg9_m la9_m cl2 v55_32 (i + 1) _ _ hP hD hS _ (lv_sub hl [2, 1, 0, 5, 6, 7, 8] rfl) (by first | assumption | rfl | omega) (by exact hz7) (by exact hz5) (by first | assumption | rfl | omega) (by first | assumption | rfl | omega) (by omega)
        have hri := ri_st (i := i) ⟨hi.1, by omega⟩ hcl hv55_1 hnx hny
        refine lv_iload hx hb dL_isCutSo_99 (lv_at hl 2 rfl) ?_
        refine lv_iload hx hb dL_isCutSo_101 (lv_at hl 0 rfl) ?_
        refine lv_iload hx hb dL_isCutSo_103 (lv_at hl 1 rfl) ?_
        refine z_icle (tgt := 116) hx hb ⟨by omega, by omega⟩ ⟨by omega, by omega⟩ dL_isCutSo_105 (by decide) (fun c_105 => ?_) (fun c_105 => ?_)
        · rw [if_neg (show ¬ v55_32 < nx9 by omega)] at hri
          refine lv_iconst (v := zI 0) hx hb dL_isCutSo_116 rfl ?_
          have hz6 := hri
          refine z_iadd hx hb dL_isCutSo_117 ?_
          refine lv_istore (lv' := [(4, .int (zI (cl + 0))), (8, .int (zI nx9)), (7, .int (zI v55_32)), (5, .int (zI ps)), (6, .int (zI i)), (3, .int (zI v17_3)), (0, .ref (α 0)), (1, .int (zI a)), (2, .int (zI b))]) hx hb dL_isCutSo_118 hl (by decide) rfl (fun ls hl => ?_)
          exact HJ_120 (cl + 0) _ _ hP hD hS _ (lv_sub hl [0, 1, 2, 3, 4, 5, 6, 7, 8] rfl) (by exact hz6) (by first | assumption | rfl | omega)
        · rw [if_pos c_105] at hri
          refine lv_iload hx hb dL_isCutSo_108 (lv_at hl 0 rfl) ?_
          refine lv_iload hx hb dL_isCutSo_110 (lv_at hl 1 rfl) ?_
          refine z_isub hx hb dL_isCutSo_112 ?_
          refine lv_goto (tgt := 117) hx hb dL_isCutSo_113 (by decide) ?_
          have hz6 := hri
          refine z_iadd hx hb dL_isCutSo_117 ?_
          refine lv_istore (lv' := [(4, .int (zI (cl + (nx9 - v55_32)))), (8, .int (zI nx9)), (7, .int (zI v55_32)), (5, .int (zI ps)), (6, .int (zI i)), (3, .int (zI v17_3)), (0, .ref (α 0)), (1, .int (zI a)), (2, .int (zI b))]) hx hb dL_isCutSo_118 hl (by decide) rfl (fun ls hl => ?_)
          exact HJ_120 (cl + (nx9 - v55_32)) _ _ hP hD hS _ (lv_sub hl [0, 1, 2, 3, 4, 5, 6, 7, 8] rfl) (by exact hz6) (by first | assumption | rfl | omega)
      refine lv_iload hx hb dL_isCutSo_60 (lv_at hl 3 rfl) ?_
      refine lv_iload_n hx hb dL_isCutSo_62 rfl (lv_at hl 4 rfl) ?_
      refine lv_iconst (v := zI 1) hx hb dL_isCutSo_63 rfl ?_
      refine z_isub hx hb dL_isCutSo_64 ?_
      refine z_icge (tgt := 95) hx hb ⟨by omega, by omega⟩ ⟨by omega, by omega⟩ dL_isCutSo_65 (by decide) (fun c_65 => ?_) (fun c_65 => ?_)
      · have hz9 : i < S_cutn a b → v55_32 = h (S_on a b (i + 1)) := fun z9 => absurd z9 (by omega)
        have hz8 : S_cutn a b ≤ i → v55_32 = v55_32 := fun _ => rfl
        refine lv_iload hx hb dL_isCutSo_95 (lv_at hl 0 rfl) ?_
        exact HJ_97 f55_30 n55_31 v55_32 _ _ hP hD hS _ (lv_sub hl [0, 1, 2, 3, 4, 5, 6, 7] rfl) (by exact hz9) (by exact hz8) (by first | assumption | rfl | omega)
      · refine lv_aload_n hx hb dL_isCutSo_68 rfl (lv_at hl 5 rfl) ?_
        refine lv_iload_n hx hb dL_isCutSo_69 rfl (lv_at hl 6 rfl) ?_
        refine lv_bipush (v := zI 7) hx hb dL_isCutSo_70 (zI_b8 (by decide)) ?_
        refine z_idiv hx hb ⟨⟨by omega, by omega⟩, by omega, by omega⟩ dL_isCutSo_72 ?_
        refine lv_iload_n hx hb dL_isCutSo_73 rfl (lv_at hl 6 rfl) ?_
        refine lv_bipush (v := zI 7) hx hb dL_isCutSo_74 (zI_b8 (by decide)) ?_
        refine z_irem hx hb ⟨⟨by omega, by omega⟩, by omega, by omega⟩ dL_isCutSo_76 ?_
        refine lv_iload_n hx hb dL_isCutSo_77 rfl (lv_at hl 7 rfl) ?_
        refine lv_bipush (v := zI 7) hx hb dL_isCutSo_78 (zI_b8 (by decide)) ?_
        refine z_idiv hx hb ⟨⟨by omega, by omega⟩, by omega, by omega⟩ dL_isCutSo_80 ?_
        refine lv_iload_n hx hb dL_isCutSo_81 rfl (lv_at hl 7 rfl) ?_
        refine lv_bipush (v := zI 7) hx hb dL_isCutSo_82 (zI_b8 (by decide)) ?_
        refine z_irem hx hb ⟨⟨by omega, by omega⟩, by omega, by omega⟩ dL_isCutSo_84 ?_
        refine lv_iload hx hb dL_isCutSo_85 (lv_at hl 3 rfl) ?_
        refine lv_iconst (v := zI 1) hx hb dL_isCutSo_87 rfl ?_
        refine z_iadd hx hb dL_isCutSo_88 ?_
        refine z_calli hP hD hS hA (va_runV (As := [.int (zI (a / 7)), .int (zI (a % 7)), .int (zI (b / 7)), .int (zI (b % 7)), .int (zI (i + 1))]) (rest := []) hC (c_X9_cutHeight l D τ α γ h old ch rg ln sl pd f55_30 n55_31 sg od hs (a / 7) (a % 7) (b / 7) (b % 7) (i + 1) (by first | assumption | rfl | omega) (by first | assumption | rfl | omega) (by first | assumption | rfl | omega) (by first | assumption | rfl | omega) (by rw [e7, e7]; omega) (by first | assumption | rfl | omega) _) (cwV 5 hts (gV hB wl_L_139 wn_X9_cutHeight ws_X9_cutHeight wi_X9 wc_X9_cutHeight) rfl rfl rfl hd_X9_cutHeight ⟨Nat.le_of_ble_eq_true rfl, Nat.le_of_ble_eq_true rfl⟩) (zp_V hK hP hD hS hA hG (ci := 9) (q0 := 0) rfl rfl rfl) rfl rfl hl.1 rfl (lv_room (Nat.le_of_ble_eq_true rfl)) dL_isCutSo_89 ⟨Nat.le_of_ble_eq_true rfl, Nat.le_of_ble_eq_true rfl⟩) (fun r w1 H locs hq9 hP hD hS => ?_)
        obtain ⟨f89_33, n89_34, v89_35, hv89_0, hv89_1, rfl, rfl⟩ := hq9
        try simp only [e7] at hv89_0
        try simp only [e7] at hv89_1
        have hP : va_P D vwCl (wH α γ (h, old, ch) rg ln sl pd (f89_33, n89_34) sg od hs) H := hP
        have hD : va_D A (wH α γ (h, old, ch) rg ln sl pd (f89_33, n89_34) sg od hs) := hD
        have b89 := hon (i + 1) (by omega) (by omega)
        rw [← hv89_1] at b89
        have hz9 : i < S_cutn a b → v89_35 = h (S_on a b (i + 1)) := fun _ => hv89_1
        have hz8 : S_cutn a b ≤ i → v89_35 = v55_32 := fun z9 => absurd z9 (by omega)
        refine lv_goto (tgt := 97) hx hb dL_isCutSo_92 (by decide) ?_
        exact HJ_97 f89_33 n89_34 v89_35 _ _ hP hD hS _ (lv_sub hl [0, 1, 2, 3, 4, 5, 6, 7] rfl) (by exact hz9) (by exact hz8) (by first | assumption | rfl | omega)

abbrev wz_L_areAllSo : List Cond := .code yL_areAllSo cL_areAllSo 9 (some .boolean) :: W0
abbrev rm_L_areAllSo : Room := { frames := 6, cells := 0, slots := 0, locals := 131 }
theorem hd_L_areAllSo : yL_areAllSo.cls = RL ∧ yL_areAllSo.cls ≠ "java/lang/invoke/MethodHandle" ∧ yL_areAllSo.cls ≠ "java/lang/invoke/VarHandle" ∧ (parseMethodDescriptor yL_areAllSo.desc).map (fun d => d.parameters.length) = some 1 := by decide +kernel
set_option maxHeartbeats 4000000 in
set_option maxRecDepth 100000 in
theorem c_L_areAllSo (l : Launch) (D : va_G) (τ : Nat → Nat) (α : Nat → Nat) (γ : Nat → ClassId) (h : IA) (old : IA) (ch : IA) (wt : BA) (qu5 : IA) (ln : TLn) (nx : IA) (dr : IA) (qu : IA) (wy : IA) (lv : IA) (ct : TCt) (sg : TSg) (od : TOd) (hs : THs) (hh : ∀ k, 0 ≤ k → k < 49 → 0 ≤ h k ∧ h k ≤ 99) : cM l yL_areAllSo wz_L_areAllSo rm_L_areAllSo D τ (tyH γ) [.ref (α 0)] (wH α γ (h, old, ch) (wt, qu5) ln (nx, dr, qu) (wy, lv) ct sg od hs) (zQi (fun r w => ∃ (nx_p : IA), ∃ (dr_p : IA), ∃ (qu_p : IA), ∃ (wy_p : IA), ∃ (lv_p : IA), ∃ (wt_p : BA), ∃ (qu5_p : IA), ∃ (v : Bool), (v = true) ∧ r = bI v ∧ wH α γ (h, old, ch) (wt_p, qu5_p) ln (nx_p, dr_p, qu_p) (wy_p, lv_p) ct sg od hs = w)) := by
  refine z_ofM (cc := cL_areAllSo) (maxL := 9) (ret := (some .boolean)) (by decide +kernel) rfl (Nat.le_of_ble_eq_true rfl) ?_
  intro pg e s m args below meth c hC hr hlk hnm hK hP A hD hG hA hS ls hl Q hQ
  have hx := hC.1
  have hb := hC.2.1
  have hml := hC.2.2.1
  have hown := hC.2.2.2.1
  have hts := hC.2.2.2.2
  have hB : ∀ w ∈ W0, w ∈ wz_L_areAllSo := fun _ h => List.mem_cons_of_mem _ h
  have hW0 : ∀ w ∈ W0, w.before args s = true := fun w h => hts w (hB w h)
  have hl : lv_has ls 9 [(0, .ref (α 0))] := hl
  refine lv_iconst (v := zI 0) hx hb dL_areAllSo_0 rfl ?_
  refine lv_istore_n (lv' := [(1, .int (zI 0)), (0, .ref (α 0))]) hx hb dL_areAllSo_1 rfl hl (by decide) rfl (fun ls hl => ?_)
  refine lv_iconst (v := zI 0) hx hb dL_areAllSo_2 rfl ?_
  refine lv_istore_n (lv' := [(2, .int (zI 0)), (1, .int (zI 0)), (0, .ref (α 0))]) hx hb dL_areAllSo_3 rfl hl (by decide) rfl (fun ls hl => ?_)
  refine lv_iconst (v := zI 0) hx hb dL_areAllSo_4 rfl ?_
  refine lv_istore_n (lv' := [(3, .int (zI 0)), (2, .int (zI 0)), (1, .int (zI 0)), (0, .ref (α 0))]) hx hb dL_areAllSo_5 rfl hl (by decide) rfl (fun ls hl => ?_)
  refine lv_iconst (v := zI 0) hx hb dL_areAllSo_6 rfl ?_
  refine lv_istore (lv' := [(4, .int (zI 0)), (3, .int (zI 0)), (2, .int (zI 0)), (1, .int (zI 0)), (0, .ref (α 0))]) hx hb dL_areAllSo_7 hl (by decide) rfl (fun ls hl => ?_)
  refine lv_iconst (v := zI 0) hx hb dL_areAllSo_9 rfl ?_
  refine lv_istore (lv' := [(5, .int (zI 0)), (4, .int (zI 0)), (3, .int (zI 0)), (2, .int (zI 0)), (1, .int (zI 0)), (0, .ref (α 0))]) hx hb dL_areAllSo_10 hl (by decide) rfl (fun ls hl => ?_)
  refine lv_aload_n hx hb dL_areAllSo_12 rfl (lv_at hl 5 rfl) ?_
  refine z_calli hP hD hS hA (va_runV (As := []) (rest := []) hC (c_X9_summit l D τ α γ h old ch (wt, qu5) ln (nx, dr, qu) (wy, lv) ct sg od hs (by first | assumption | rfl | omega) _) (cwV 0 hts (gV hB wl_L_156 wn_X9_summit ws_X9_summit wi_X9 wc_X9_summit) rfl rfl rfl hd_X9_summit ⟨Nat.le_of_ble_eq_true rfl, Nat.le_of_ble_eq_true rfl⟩) (zp_V hK hP hD hS hA hG (ci := 9) (q0 := 0) rfl rfl rfl) rfl rfl hl.1 rfl (lv_room (Nat.le_of_ble_eq_true rfl)) dL_areAllSo_13 ⟨Nat.le_of_ble_eq_true rfl, Nat.le_of_ble_eq_true rfl⟩) (fun r w1 H locs hq9 hP hD hS => ?_)
  obtain ⟨v13_1, hv13_0, hv13_1, rfl, rfl⟩ := hq9
  try simp only [e7] at hv13_0
  try simp only [e7] at hv13_1
  have hP : va_P D vwCl (wH α γ (h, old, ch) (wt, qu5) ln (nx, dr, qu) (wy, lv) ct sg od hs) H := hP
  have hD : va_D A (wH α γ (h, old, ch) (wt, qu5) ln (nx, dr, qu) (wy, lv) ct sg od hs) := hD
  refine lv_istore (lv' := [(6, .int (zI v13_1)), (5, .int (zI 0)), (4, .int (zI 0)), (3, .int (zI 0)), (2, .int (zI 0)), (1, .int (zI 0)), (0, .ref (α 0))]) hx hb dL_areAllSo_16 hl (by decide) rfl (fun ls hl => ?_)
  refine lv_iconst (v := zI 1) hx hb dL_areAllSo_18 rfl ?_
  refine lv_istore (lv' := [(7, .int (zI 1)), (6, .int (zI v13_1)), (5, .int (zI 0)), (4, .int (zI 0)), (3, .int (zI 0)), (2, .int (zI 0)), (1, .int (zI 0)), (0, .ref (α 0))]) hx hb dL_areAllSo_19 hl (by decide) rfl (fun ls hl => ?_)
  refine lv_iconst (v := zI 0) hx hb dL_areAllSo_21 rfl ?_
  refine lv_istore (lv' := [(8, .int (zI 0)), (7, .int (zI 1)), (6, .int (zI v13_1)), (5, .int (zI 0)), (4, .int (zI 0)), (3, .int (zI 0)), (2, .int (zI 0)), (1, .int (zI 0)), (0, .ref (α 0))]) hx hb dL_areAllSo_22 hl (by decide) rfl (fun ls hl => ?_)
  suffices HL_24 : ∀ (n_24 : Nat), ∀ (nx_l : IA) (dr_l : IA) (qu_l : IA) (wy_l : IA) (lv_l : IA) (g1 : Int) (g2 : Int) (g3 : Int) (g4 : Int) (g5 : Int) (i : Int) (H : Heap) (locs : List Loc) (hP : va_P D vwCl (wH α γ (h, old, ch) (wt, qu5) ln (nx_l, dr_l, qu_l) (wy_l, lv_l) ct sg od hs) H) (hD : va_D A (wH α γ (h, old, ch) (wt, qu5) ln (nx_l, dr_l, qu_l) (wy_l, lv_l) ct sg od hs)) (hS : va_S A s.heap H locs) (ls : Array Slot) (hl : lv_has ls 9 [(1, .int (zI g1)), (2, .int (zI g2)), (3, .int (zI g3)), (4, .int (zI g4)), (5, .int (zI g5)), (8, .int (zI i)), (7, .int (zI 1)), (6, .int (zI v13_1)), (0, .ref (α 0))]) (hi : 0 ≤ i ∧ i ≤ 49) (hg1 : g1 = zS h i) (hg2 : g2 = zC (fun k => decide (S_next h k = -1)) i) (hg3 : g3 = zS (S_basin h) i) (hg4 : g4 = zS (fun k => S_spill h k - h k) i) (hg5 : g5 = zS (S_drop h) i) (hb1 : 0 ≤ g1 ∧ g1 ≤ 99 * i) (hb2 : 0 ≤ g2 ∧ g2 ≤ i) (hb3 : 0 ≤ g3 ∧ g3 ≤ 49 * i) (hb4 : 0 ≤ g4 ∧ g4 ≤ 100 * i) (hb5 : 0 ≤ g5 ∧ g5 ≤ 99 * i) (hm : (49 - i).toNat < n_24), W pg l e rm_L_areAllSo s m args below meth c H locs 0 0 Q (F0 m 24 ls []) from HL_24 _ nx dr qu wy lv 0 0 0 0 0 0 _ _ hP hD hS _ (lv_sub hl [7, 6, 5, 4, 3, 0, 1, 2, 8] rfl) (by first | assumption | rfl | omega) (by exact (zS_0 _).symm) (by exact (zC_0 _).symm) (by exact (zS_0 _).symm) (by exact (zS_0 _).symm) (by exact (zS_0 _).symm) (by first | assumption | rfl | omega) (by first | assumption | rfl | omega) (by first | assumption | rfl | omega) (by first | assumption | rfl | omega) (by first | assumption | rfl | omega) (Nat.lt_succ_self _)
  intro n_24
  induction n_24 with
  | zero => intro nx_l dr_l qu_l wy_l lv_l g1 g2 g3 g4 g5 i H locs hP hD hS ls hl hi hg1 hg2 hg3 hg4 hg5 hb1 hb2 hb3 hb4 hb5 hm; exact absurd hm (Nat.not_lt_zero _)
  | succ n_24 ih_24 =>
    intro nx_l dr_l qu_l wy_l lv_l g1 g2 g3 g4 g5 i H locs hP hD hS ls hl hi hg1 hg2 hg3 hg4 hg5 hb1 hb2 hb3 hb4 hb5 hm
    refine lv_iload hx hb dL_areAllSo_24 (lv_at hl 5 rfl) ?_
    refine lv_bipush (v := zI 49) hx hb dL_areAllSo_26 (zI_b8 (by decide)) ?_
    refine z_icge (tgt := 195) hx hb ⟨by omega, by omega⟩ ⟨by omega, by omega⟩ dL_areAllSo_28 (by decide) (fun c_28 => ?_) (fun c_28 => ?_)
    · have i49 : i = 49 := by omega
      rw [i49] at hg1 hg2 hg3 hg4 hg5
      rw [q_basins] at hg3
      have hqw := q_water hh
      rw [← hg4] at hqw
      have hm9 := q_mean2 (s := g5) ⟨by omega, by omega⟩
      refine lv_iload hx hb dL_areAllSo_195 (lv_at hl 6 rfl) ?_
      refine z_ifeq (tgt := 260) hx hb ⟨by omega, by omega⟩ dL_areAllSo_197 (by decide) (fun c_197 => ?_) (fun c_197 => ?_)
      · exact absurd c_197 (by decide)
      · refine lv_aload_n hx hb dL_areAllSo_200 rfl (lv_at hl 8 rfl) ?_
        refine z_calli hP hD hS hA (va_runV (As := []) (rest := []) hC (c_X9_bulk l D τ α γ h old ch (wt, qu5) ln (nx_l, dr_l, qu_l) (wy_l, lv_l) ct sg od hs (by first | assumption | rfl | omega) _) (cwV 0 hts (gV hB wl_L_46 wn_X9_bulk ws_X9_bulk wi_X9 wc_X9_bulk) rfl rfl rfl hd_X9_bulk ⟨Nat.le_of_ble_eq_true rfl, Nat.le_of_ble_eq_true rfl⟩) (zp_V hK hP hD hS hA hG (ci := 9) (q0 := 0) rfl rfl rfl) rfl rfl hl.1 rfl (lv_room (Nat.le_of_ble_eq_true rfl)) dL_areAllSo_201 ⟨Nat.le_of_ble_eq_true rfl, Nat.le_of_ble_eq_true rfl⟩) (fun r w1 H locs hq9 hP hD hS => ?_)
        obtain ⟨v201_2, hv201_0, hv201_1, rfl, rfl⟩ := hq9
        try simp only [e7] at hv201_0
        try simp only [e7] at hv201_1
        have hP : va_P D vwCl (wH α γ (h, old, ch) (wt, qu5) ln (nx_l, dr_l, qu_l) (wy_l, lv_l) ct sg od hs) H := hP
        have hD : va_D A (wH α γ (h, old, ch) (wt, qu5) ln (nx_l, dr_l, qu_l) (wy_l, lv_l) ct sg od hs) := hD
        refine lv_iload_n hx hb dL_areAllSo_204 rfl (lv_at hl 0 rfl) ?_
        refine z_icne (tgt := 260) hx hb ⟨by omega, by omega⟩ ⟨by omega, by omega⟩ dL_areAllSo_205 (by decide) (fun c_205 => ?_) (fun c_205 => ?_)
        · exfalso; omega
        · refine lv_aload_n hx hb dL_areAllSo_208 rfl (lv_at hl 8 rfl) ?_
          refine z_calli hP hD hS hA (va_runV (As := []) (rest := []) hC (c_X9_sinks l D τ α γ h old ch (wt, qu5) ln nx_l dr_l qu_l (wy_l, lv_l) ct sg od hs (by first | assumption | rfl | omega) _) (cwV 0 hts (gV hB wl_L_159 wn_X9_sinks ws_X9_sinks wi_X9 wc_X9_sinks) rfl rfl rfl hd_X9_sinks ⟨Nat.le_of_ble_eq_true rfl, Nat.le_of_ble_eq_true rfl⟩) (zp_V hK hP hD hS hA hG (ci := 9) (q0 := 0) rfl rfl rfl) rfl rfl hl.1 rfl (lv_room (Nat.le_of_ble_eq_true rfl)) dL_areAllSo_209 ⟨Nat.le_of_ble_eq_true rfl, Nat.le_of_ble_eq_true rfl⟩) (fun r w1 H locs hq9 hP hD hS => ?_)
          obtain ⟨n209_3, d209_4, v209_5, hv209_0, hv209_1, rfl, rfl⟩ := hq9
          try simp only [e7] at hv209_0
          try simp only [e7] at hv209_1
          have hP : va_P D vwCl (wH α γ (h, old, ch) (wt, qu5) ln (n209_3, d209_4, qu_l) (wy_l, lv_l) ct sg od hs) H := hP
          have hD : va_D A (wH α γ (h, old, ch) (wt, qu5) ln (n209_3, d209_4, qu_l) (wy_l, lv_l) ct sg od hs) := hD
          refine lv_iload_n hx hb dL_areAllSo_212 rfl (lv_at hl 1 rfl) ?_
          refine z_icne (tgt := 260) hx hb ⟨by omega, by omega⟩ ⟨by omega, by omega⟩ dL_areAllSo_213 (by decide) (fun c_213 => ?_) (fun c_213 => ?_)
          · exfalso; omega
          · refine lv_iload_n hx hb dL_areAllSo_216 rfl (lv_at hl 2 rfl) ?_
            refine lv_bipush (v := zI 49) hx hb dL_areAllSo_217 (zI_b8 (by decide)) ?_
            refine z_icne (tgt := 260) hx hb ⟨by omega, by omega⟩ ⟨by omega, by omega⟩ dL_areAllSo_219 (by decide) (fun c_219 => ?_) (fun c_219 => ?_)
            · exfalso; omega
            · refine lv_aload_n hx hb dL_areAllSo_222 rfl (lv_at hl 8 rfl) ?_
              refine z_calli hP hD hS hA (va_runV (As := []) (rest := []) hC (c_X9_water l D τ α γ h old ch (wt, qu5) ln (n209_3, d209_4, qu_l) wy_l lv_l ct sg od hs (by first | assumption | rfl | omega) _) (cwV 0 hts (gV hB wl_L_59 wn_X9_water ws_X9_water wi_X9 wc_X9_water) rfl rfl rfl hd_X9_water ⟨Nat.le_of_ble_eq_true rfl, Nat.le_of_ble_eq_true rfl⟩) (zp_V hK hP hD hS hA hG (ci := 9) (q0 := 0) rfl rfl rfl) rfl rfl hl.1 rfl (lv_room (Nat.le_of_ble_eq_true rfl)) dL_areAllSo_223 ⟨Nat.le_of_ble_eq_true rfl, Nat.le_of_ble_eq_true rfl⟩) (fun r w1 H locs hq9 hP hD hS => ?_)
              obtain ⟨w223_6, v223_7, hv223_0, hv223_1, rfl, rfl⟩ := hq9
              try simp only [e7] at hv223_0
              try simp only [e7] at hv223_1
              have hP : va_P D vwCl (wH α γ (h, old, ch) (wt, qu5) ln (n209_3, d209_4, qu_l) (w223_6, lv_l) ct sg od hs) H := hP
              have hD : va_D A (wH α γ (h, old, ch) (wt, qu5) ln (n209_3, d209_4, qu_l) (w223_6, lv_l) ct sg od hs) := hD
              refine lv_iload hx hb dL_areAllSo_226 (lv_at hl 3 rfl) ?_
              refine z_icne (tgt := 260) hx hb ⟨by omega, by omega⟩ ⟨by omega, by omega⟩ dL_areAllSo_228 (by decide) (fun c_228 => ?_) (fun c_228 => ?_)
              · exfalso; omega
              · refine lv_aload_n hx hb dL_areAllSo_231 rfl (lv_at hl 8 rfl) ?_
                refine z_calli hP hD hS hA (va_runV (As := []) (rest := []) hC (c_X9_ponds l D τ α γ h old ch wt qu5 ln (n209_3, d209_4, qu_l) w223_6 lv_l ct sg od hs (by first | assumption | rfl | omega) _) (cwV 0 hts (gV hB wl_L_62 wn_X9_ponds ws_X9_ponds wi_X9 wc_X9_ponds) rfl rfl rfl hd_X9_ponds ⟨Nat.le_of_ble_eq_true rfl, Nat.le_of_ble_eq_true rfl⟩) (zp_V hK hP hD hS hA hG (ci := 9) (q0 := 0) rfl rfl rfl) rfl rfl hl.1 rfl (lv_room (Nat.le_of_ble_eq_true rfl)) dL_areAllSo_232 ⟨Nat.le_of_ble_eq_true rfl, Nat.le_of_ble_eq_true rfl⟩) (fun r w1 H locs hq9 hP hD hS => ?_)
                obtain ⟨w232_8, b232_9, q232_10, v232_11, hv232_0, hv232_1, rfl, rfl⟩ := hq9
                try simp only [e7] at hv232_0
                try simp only [e7] at hv232_1
                have hP : va_P D vwCl (wH α γ (h, old, ch) (b232_9, q232_10) ln (n209_3, d209_4, qu_l) (w232_8, lv_l) ct sg od hs) H := hP
                have hD : va_D A (wH α γ (h, old, ch) (b232_9, q232_10) ln (n209_3, d209_4, qu_l) (w232_8, lv_l) ct sg od hs) := hD
                refine z_ifne (tgt := 242) hx hb ⟨by omega, by omega⟩ dL_areAllSo_235 (by decide) (fun c_235 => ?_) (fun c_235 => ?_)
                · refine lv_iconst (v := zI 0) hx hb dL_areAllSo_242 rfl ?_
                  refine lv_iload hx hb dL_areAllSo_243 (lv_at hl 3 rfl) ?_
                  refine z_ifne (tgt := 252) hx hb ⟨by omega, by omega⟩ dL_areAllSo_245 (by decide) (fun c_245 => ?_) (fun c_245 => ?_)
                  · refine lv_iconst (v := zI 0) hx hb dL_areAllSo_252 rfl ?_
                    refine z_icne (tgt := 260) hx hb ⟨by omega, by omega⟩ ⟨by omega, by omega⟩ dL_areAllSo_253 (by decide) (fun c_253 => ?_) (fun c_253 => ?_)
                    · exact absurd c_253 (by decide)
                    · refine lv_iconst (v := zI 1) hx hb dL_areAllSo_256 rfl ?_
                      refine lv_goto (tgt := 261) hx hb dL_areAllSo_257 (by decide) ?_
                      refine lv_istore (lv' := [(7, .int (zI 1)), (1, .int (zI g1)), (2, .int (zI g2)), (3, .int (zI g3)), (4, .int (zI g4)), (5, .int (zI g5)), (8, .int (zI i)), (6, .int (zI v13_1)), (0, .ref (α 0))]) hx hb dL_areAllSo_261 hl (by decide) rfl (fun ls hl => ?_)
                      refine lv_iload hx hb dL_areAllSo_263 (lv_at hl 0 rfl) ?_
                      refine z_ifeq (tgt := 306) hx hb ⟨by omega, by omega⟩ dL_areAllSo_265 (by decide) (fun c_265 => ?_) (fun c_265 => ?_)
                      · exact absurd c_265 (by decide)
                      · refine lv_aload_n hx hb dL_areAllSo_268 rfl (lv_at hl 8 rfl) ?_
                        refine z_calld hP hD hS hA (va_runV (As := []) (rest := []) hC (c_X9_meanDrop l D τ α γ h old ch (b232_9, q232_10) ln n209_3 d209_4 qu_l (w232_8, lv_l) ct sg od hs (by first | assumption | rfl | omega) _) (cwV 0 hts (gV hB wl_L_162 wn_X9_meanDrop ws_X9_meanDrop wi_X9 wc_X9_meanDrop) rfl rfl rfl hd_X9_meanDrop ⟨Nat.le_of_ble_eq_true rfl, Nat.le_of_ble_eq_true rfl⟩) (zp_V hK hP hD hS hA hG (ci := 9) (q0 := 0) rfl rfl rfl) rfl rfl hl.1 rfl (lv_room (Nat.le_of_ble_eq_true rfl)) dL_areAllSo_269 ⟨Nat.le_of_ble_eq_true rfl, Nat.le_of_ble_eq_true rfl⟩) (fun r w1 H locs hq9 hP hD hS => ?_)
                        obtain ⟨n269_12, d269_13, v269_14, hv269_0, rfl, rfl⟩ := hq9
                        try simp only [e7] at hv269_0
                        have hP : va_P D vwCl (wH α γ (h, old, ch) (b232_9, q232_10) ln (n269_12, d269_13, qu_l) (w232_8, lv_l) ct sg od hs) H := hP
                        have hD : va_D A (wH α γ (h, old, ch) (b232_9, q232_10) ln (n269_12, d269_13, qu_l) (w232_8, lv_l) ct sg od hs) := hD
                        rw [← hg5] at hv269_0
                        refine lv_ldc2d (v := D49) hx hb hown (hW0 _ wd_L_166) dL_areAllSo_272 ?_
                        refine lv_dmul hx hb dL_areAllSo_275 (by rw [hv269_0]; exact hm9.1) ?_
                        refine lv_iload hx hb dL_areAllSo_276 (lv_at hl 5 rfl) ?_
                        refine lv_iconst (v := zI 1) hx hb dL_areAllSo_278 rfl ?_
                        refine z_isub hx hb dL_areAllSo_279 ?_
                        refine lv_i2d hx hb dL_areAllSo_280 ?_
                        refine z_dcmp (op := .l) hx hb dL_areAllSo_281 ?_
                        have hb_281 := dcI_b (FP.dmul v269_14 D49) (FP.i2d (zI (g5 - 1))) .l
                        have hm1 : 0 < (dcI (FP.dmul v269_14 D49) (FP.i2d (zI (g5 - 1))) .l) := by (rw [hv269_0]; exact hm9.2.1)
                        refine z_ifle (tgt := 306) hx hb ⟨by omega, by omega⟩ dL_areAllSo_282 (by decide) (fun c_282 => ?_) (fun c_282 => ?_)
                        · exfalso; omega
                        · refine lv_aload_n hx hb dL_areAllSo_285 rfl (lv_at hl 8 rfl) ?_
                          refine z_calld hP hD hS hA (va_runV (As := []) (rest := []) hC (c_X9_meanDrop l D τ α γ h old ch (b232_9, q232_10) ln n269_12 d269_13 qu_l (w232_8, lv_l) ct sg od hs (by first | assumption | rfl | omega) _) (cwV 0 hts (gV hB wl_L_162 wn_X9_meanDrop ws_X9_meanDrop wi_X9 wc_X9_meanDrop) rfl rfl rfl hd_X9_meanDrop ⟨Nat.le_of_ble_eq_true rfl, Nat.le_of_ble_eq_true rfl⟩) (zp_V hK hP hD hS hA hG (ci := 9) (q0 := 0) rfl rfl rfl) rfl rfl hl.1 rfl (lv_room (Nat.le_of_ble_eq_true rfl)) dL_areAllSo_286 ⟨Nat.le_of_ble_eq_true rfl, Nat.le_of_ble_eq_true rfl⟩) (fun r w1 H locs hq9 hP hD hS => ?_)
                          obtain ⟨n286_15, d286_16, v286_17, hv286_0, rfl, rfl⟩ := hq9
                          try simp only [e7] at hv286_0
                          have hP : va_P D vwCl (wH α γ (h, old, ch) (b232_9, q232_10) ln (n286_15, d286_16, qu_l) (w232_8, lv_l) ct sg od hs) H := hP
                          have hD : va_D A (wH α γ (h, old, ch) (b232_9, q232_10) ln (n286_15, d286_16, qu_l) (w232_8, lv_l) ct sg od hs) := hD
                          rw [← hg5] at hv286_0
                          refine lv_ldc2d (v := D49) hx hb hown (hW0 _ wd_L_166) dL_areAllSo_289 ?_
                          refine lv_dmul hx hb dL_areAllSo_292 (by rw [hv286_0]; exact hm9.1) ?_
                          refine lv_iload hx hb dL_areAllSo_293 (lv_at hl 5 rfl) ?_
                          refine lv_iconst (v := zI 1) hx hb dL_areAllSo_295 rfl ?_
                          refine z_iadd hx hb dL_areAllSo_296 ?_
                          refine lv_i2d hx hb dL_areAllSo_297 ?_
                          refine z_dcmp (op := .g) hx hb dL_areAllSo_298 ?_
                          have hb_298 := dcI_b (FP.dmul v286_17 D49) (FP.i2d (zI (g5 + 1))) .g
                          have hm2 : (dcI (FP.dmul v286_17 D49) (FP.i2d (zI (g5 + 1))) .g) < 0 := by (rw [hv286_0]; exact hm9.2.2)
                          refine z_ifge (tgt := 306) hx hb ⟨by omega, by omega⟩ dL_areAllSo_299 (by decide) (fun c_299 => ?_) (fun c_299 => ?_)
                          · exfalso; omega
                          · refine lv_iconst (v := zI 1) hx hb dL_areAllSo_302 rfl ?_
                            refine lv_goto (tgt := 307) hx hb dL_areAllSo_303 (by decide) ?_
                            refine W.eq (g2 := F0 m 307 ls [.int (bI true)]) rfl ?_
                            exact z_zret hC hr hlk hQ hP hD hS ⟨n286_15, d286_16, qu_l, w232_8, lv_l, b232_9, q232_10, true, (by rfl), rfl, rfl⟩ dL_areAllSo_307
                  · refine lv_iconst (v := zI 1) hx hb dL_areAllSo_248 rfl ?_
                    refine lv_goto (tgt := 253) hx hb dL_areAllSo_249 (by decide) ?_
                    refine z_icne (tgt := 260) hx hb ⟨by omega, by omega⟩ ⟨by omega, by omega⟩ dL_areAllSo_253 (by decide) (fun c_253 => ?_) (fun c_253 => ?_)
                    · exfalso; omega
                    · exact absurd c_253 (by decide)
                · refine lv_iconst (v := zI 1) hx hb dL_areAllSo_238 rfl ?_
                  refine lv_goto (tgt := 243) hx hb dL_areAllSo_239 (by decide) ?_
                  refine lv_iload hx hb dL_areAllSo_243 (lv_at hl 3 rfl) ?_
                  refine z_ifne (tgt := 252) hx hb ⟨by omega, by omega⟩ dL_areAllSo_245 (by decide) (fun c_245 => ?_) (fun c_245 => ?_)
                  · refine lv_iconst (v := zI 0) hx hb dL_areAllSo_252 rfl ?_
                    refine z_icne (tgt := 260) hx hb ⟨by omega, by omega⟩ ⟨by omega, by omega⟩ dL_areAllSo_253 (by decide) (fun c_253 => ?_) (fun c_253 => ?_)
                    · exfalso; omega
                    · exact absurd c_253 (by decide)
                  · refine lv_iconst (v := zI 1) hx hb dL_areAllSo_248 rfl ?_
                    refine lv_goto (tgt := 253) hx hb dL_areAllSo_249 (by decide) ?_
                    refine z_icne (tgt := 260) hx hb ⟨by omega, by omega⟩ ⟨by omega, by omega⟩ dL_areAllSo_253 (by decide) (fun c_253 => ?_) (fun c_253 => ?_)
                    · exact absurd c_253 (by decide)
                    · refine lv_iconst (v := zI 1) hx hb dL_areAllSo_256 rfl ?_
                      refine lv_goto (tgt := 261) hx hb dL_areAllSo_257 (by decide) ?_
                      refine lv_istore (lv' := [(7, .int (zI 1)), (1, .int (zI g1)), (2, .int (zI g2)), (3, .int (zI g3)), (4, .int (zI g4)), (5, .int (zI g5)), (8, .int (zI i)), (6, .int (zI v13_1)), (0, .ref (α 0))]) hx hb dL_areAllSo_261 hl (by decide) rfl (fun ls hl => ?_)
                      refine lv_iload hx hb dL_areAllSo_263 (lv_at hl 0 rfl) ?_
                      refine z_ifeq (tgt := 306) hx hb ⟨by omega, by omega⟩ dL_areAllSo_265 (by decide) (fun c_265 => ?_) (fun c_265 => ?_)
                      · exact absurd c_265 (by decide)
                      · refine lv_aload_n hx hb dL_areAllSo_268 rfl (lv_at hl 8 rfl) ?_
                        refine z_calld hP hD hS hA (va_runV (As := []) (rest := []) hC (c_X9_meanDrop l D τ α γ h old ch (b232_9, q232_10) ln n209_3 d209_4 qu_l (w232_8, lv_l) ct sg od hs (by first | assumption | rfl | omega) _) (cwV 0 hts (gV hB wl_L_162 wn_X9_meanDrop ws_X9_meanDrop wi_X9 wc_X9_meanDrop) rfl rfl rfl hd_X9_meanDrop ⟨Nat.le_of_ble_eq_true rfl, Nat.le_of_ble_eq_true rfl⟩) (zp_V hK hP hD hS hA hG (ci := 9) (q0 := 0) rfl rfl rfl) rfl rfl hl.1 rfl (lv_room (Nat.le_of_ble_eq_true rfl)) dL_areAllSo_269 ⟨Nat.le_of_ble_eq_true rfl, Nat.le_of_ble_eq_true rfl⟩) (fun r w1 H locs hq9 hP hD hS => ?_)
                        obtain ⟨n269_18, d269_19, v269_20, hv269_0, rfl, rfl⟩ := hq9
                        try simp only [e7] at hv269_0
                        have hP : va_P D vwCl (wH α γ (h, old, ch) (b232_9, q232_10) ln (n269_18, d269_19, qu_l) (w232_8, lv_l) ct sg od hs) H := hP
                        have hD : va_D A (wH α γ (h, old, ch) (b232_9, q232_10) ln (n269_18, d269_19, qu_l) (w232_8, lv_l) ct sg od hs) := hD
                        rw [← hg5] at hv269_0
                        refine lv_ldc2d (v := D49) hx hb hown (hW0 _ wd_L_166) dL_areAllSo_272 ?_
                        refine lv_dmul hx hb dL_areAllSo_275 (by rw [hv269_0]; exact hm9.1) ?_
                        refine lv_iload hx hb dL_areAllSo_276 (lv_at hl 5 rfl) ?_
                        refine lv_iconst (v := zI 1) hx hb dL_areAllSo_278 rfl ?_
                        refine z_isub hx hb dL_areAllSo_279 ?_
                        refine lv_i2d hx hb dL_areAllSo_280 ?_
                        refine z_dcmp (op := .l) hx hb dL_areAllSo_281 ?_
                        have hb_281 := dcI_b (FP.dmul v269_20 D49) (FP.i2d (zI (g5 - 1))) .l
                        have hm1 : 0 < (dcI (FP.dmul v269_20 D49) (FP.i2d (zI (g5 - 1))) .l) := by (rw [hv269_0]; exact hm9.2.1)
                        refine z_ifle (tgt := 306) hx hb ⟨by omega, by omega⟩ dL_areAllSo_282 (by decide) (fun c_282 => ?_) (fun c_282 => ?_)
                        · exfalso; omega
                        · refine lv_aload_n hx hb dL_areAllSo_285 rfl (lv_at hl 8 rfl) ?_
                          refine z_calld hP hD hS hA (va_runV (As := []) (rest := []) hC (c_X9_meanDrop l D τ α γ h old ch (b232_9, q232_10) ln n269_18 d269_19 qu_l (w232_8, lv_l) ct sg od hs (by first | assumption | rfl | omega) _) (cwV 0 hts (gV hB wl_L_162 wn_X9_meanDrop ws_X9_meanDrop wi_X9 wc_X9_meanDrop) rfl rfl rfl hd_X9_meanDrop ⟨Nat.le_of_ble_eq_true rfl, Nat.le_of_ble_eq_true rfl⟩) (zp_V hK hP hD hS hA hG (ci := 9) (q0 := 0) rfl rfl rfl) rfl rfl hl.1 rfl (lv_room (Nat.le_of_ble_eq_true rfl)) dL_areAllSo_286 ⟨Nat.le_of_ble_eq_true rfl, Nat.le_of_ble_eq_true rfl⟩) (fun r w1 H locs hq9 hP hD hS => ?_)
                          obtain ⟨n286_21, d286_22, v286_23, hv286_0, rfl, rfl⟩ := hq9
                          try simp only [e7] at hv286_0
                          have hP : va_P D vwCl (wH α γ (h, old, ch) (b232_9, q232_10) ln (n286_21, d286_22, qu_l) (w232_8, lv_l) ct sg od hs) H := hP
                          have hD : va_D A (wH α γ (h, old, ch) (b232_9, q232_10) ln (n286_21, d286_22, qu_l) (w232_8, lv_l) ct sg od hs) := hD
                          rw [← hg5] at hv286_0
                          refine lv_ldc2d (v := D49) hx hb hown (hW0 _ wd_L_166) dL_areAllSo_289 ?_
                          refine lv_dmul hx hb dL_areAllSo_292 (by rw [hv286_0]; exact hm9.1) ?_
                          refine lv_iload hx hb dL_areAllSo_293 (lv_at hl 5 rfl) ?_
                          refine lv_iconst (v := zI 1) hx hb dL_areAllSo_295 rfl ?_
                          refine z_iadd hx hb dL_areAllSo_296 ?_
                          refine lv_i2d hx hb dL_areAllSo_297 ?_
                          refine z_dcmp (op := .g) hx hb dL_areAllSo_298 ?_
                          have hb_298 := dcI_b (FP.dmul v286_23 D49) (FP.i2d (zI (g5 + 1))) .g
                          have hm2 : (dcI (FP.dmul v286_23 D49) (FP.i2d (zI (g5 + 1))) .g) < 0 := by (rw [hv286_0]; exact hm9.2.2)
                          refine z_ifge (tgt := 306) hx hb ⟨by omega, by omega⟩ dL_areAllSo_299 (by decide) (fun c_299 => ?_) (fun c_299 => ?_)
                          · exfalso; omega
                          · refine lv_iconst (v := zI 1) hx hb dL_areAllSo_302 rfl ?_
                            refine lv_goto (tgt := 307) hx hb dL_areAllSo_303 (by decide) ?_
                            refine W.eq (g2 := F0 m 307 ls [.int (bI true)]) rfl ?_
                            exact z_zret hC hr hlk hQ hP hD hS ⟨n286_21, d286_22, qu_l, w232_8, lv_l, b232_9, q232_10, true, (by rfl), rfl, rfl⟩ dL_areAllSo_307
    · refine lv_iload_n hx hb dL_areAllSo_31 rfl (lv_at hl 0 rfl) ?_
      refine lv_aload_n hx hb dL_areAllSo_32 rfl (lv_at hl 8 rfl) ?_
      refine lv_iload hx hb dL_areAllSo_33 (lv_at hl 5 rfl) ?_
      refine z_calli hP hD hS hA (va_runS (As := [.ref (α 0), .int (zI i)]) (rest := [.int (zI g1)]) hC (c_L_at l D τ α γ h old ch (wt, qu5) ln (nx_l, dr_l, qu_l) (wy_l, lv_l) ct sg od hs i (by first | assumption | rfl | omega) (by first | assumption | rfl | omega) _) (va_cwS 2 hts (gS hB wl_L_42 wt_L_at wi_L wc_L_at) rfl rfl rfl hd_L_at.2 ⟨Nat.le_of_ble_eq_true rfl, Nat.le_of_ble_eq_true rfl⟩) (zp_S hK hP hD hS hA hG) rfl rfl hl.1 rfl (lv_room (Nat.le_of_ble_eq_true rfl)) dL_areAllSo_35 ⟨Nat.le_of_ble_eq_true rfl, Nat.le_of_ble_eq_true rfl⟩) (fun r w1 H locs hq9 hP hD hS => ?_)
      obtain ⟨v35_24, hv35_0, hv35_1, rfl, rfl⟩ := hq9
      try simp only [e7] at hv35_0
      try simp only [e7] at hv35_1
      have hP : va_P D vwCl (wH α γ (h, old, ch) (wt, qu5) ln (nx_l, dr_l, qu_l) (wy_l, lv_l) ct sg od hs) H := hP
      have hD : va_D A (wH α γ (h, old, ch) (wt, qu5) ln (nx_l, dr_l, qu_l) (wy_l, lv_l) ct sg od hs) := hD
      refine z_iadd hx hb dL_areAllSo_38 ?_
      refine lv_istore_n (lv' := [(1, .int (zI (g1 + v35_24))), (2, .int (zI g2)), (3, .int (zI g3)), (4, .int (zI g4)), (5, .int (zI g5)), (8, .int (zI i)), (7, .int (zI 1)), (6, .int (zI v13_1)), (0, .ref (α 0))]) hx hb dL_areAllSo_39 rfl hl (by decide) rfl (fun ls hl => ?_)
      have HJ_65 : ∀ (nx_m : IA) (dr_m : IA) (qu_m : IA) (g2b : Int) (H : Heap) (locs : List Loc) (hP : va_P D vwCl (wH α γ (h, old, ch) (wt, qu5) ln (nx_m, dr_m, qu_m) (wy_l, lv_l) ct sg od hs) H) (hD : va_D A (wH α γ (h, old, ch) (wt, qu5) ln (nx_m, dr_m, qu_m) (wy_l, lv_l) ct sg od hs)) (hS : va_S A s.heap H locs) (ls : Array Slot) (hl : lv_has ls 9 [(2, .int (zI g2b)), (1, .int (zI (g1 + v35_24))), (3, .int (zI g3)), (4, .int (zI g4)), (5, .int (zI g5)), (8, .int (zI i)), (7, .int (zI 1)), (6, .int (zI v13_1)), (0, .ref (α 0))]) (hg2b : g2b = zC (fun k => decide (S_next h k = -1)) (i + 1)) (hc2 : 0 ≤ g2b ∧ g2b ≤ i + 1), W pg l e rm_L_areAllSo s m args below meth c H locs 0 0 Q (F0 m 65 ls []) := by
        intro nx_m dr_m qu_m g2b H locs hP hD hS ls hl hg2b hc2
        refine lv_iload_n hx hb dL_areAllSo_65 rfl (lv_at hl 2 rfl) ?_
        refine lv_aload_n hx hb dL_areAllSo_66 rfl (lv_at hl 8 rfl) ?_
        refine lv_iload hx hb dL_areAllSo_67 (lv_at hl 5 rfl) ?_
        refine lv_bipush (v := zI 7) hx hb dL_areAllSo_69 (zI_b8 (by decide)) ?_
        refine z_idiv hx hb ⟨⟨by omega, by omega⟩, by omega, by omega⟩ dL_areAllSo_71 ?_
        refine lv_iload hx hb dL_areAllSo_72 (lv_at hl 5 rfl) ?_
        refine lv_bipush (v := zI 7) hx hb dL_areAllSo_74 (zI_b8 (by decide)) ?_
        refine z_irem hx hb ⟨⟨by omega, by omega⟩, by omega, by omega⟩ dL_areAllSo_76 ?_
        refine z_calli hP hD hS hA (va_runV (As := [.int (zI (i / 7)), .int (zI (i % 7))]) (rest := [.int (zI g3)]) hC (c_X9_basinByFollowing l D τ α γ h old ch (wt, qu5) ln nx_m dr_m qu_m (wy_l, lv_l) ct sg od hs (i / 7) (i % 7) (by first | assumption | rfl | omega) (by first | assumption | rfl | omega) (by first | assumption | rfl | omega) _) (cwV 2 hts (gV hB wl_L_114 wn_X9_basinByFollowing ws_X9_basinByFollowing wi_X9 wc_X9_basinByFollowing) rfl rfl rfl hd_X9_basinByFollowing ⟨Nat.le_of_ble_eq_true rfl, Nat.le_of_ble_eq_true rfl⟩) (zp_V hK hP hD hS hA hG (ci := 9) (q0 := 0) rfl rfl rfl) rfl rfl hl.1 rfl (lv_room (Nat.le_of_ble_eq_true rfl)) dL_areAllSo_77 ⟨Nat.le_of_ble_eq_true rfl, Nat.le_of_ble_eq_true rfl⟩) (fun r w1 H locs hq9 hP hD hS => ?_)
        obtain ⟨n77_25, d77_26, v77_27, hv77_0, hv77_1, rfl, rfl⟩ := hq9
        try simp only [e7] at hv77_0
        try simp only [e7] at hv77_1
        have hP : va_P D vwCl (wH α γ (h, old, ch) (wt, qu5) ln (n77_25, d77_26, qu_m) (wy_l, lv_l) ct sg od hs) H := hP
        have hD : va_D A (wH α γ (h, old, ch) (wt, qu5) ln (n77_25, d77_26, qu_m) (wy_l, lv_l) ct sg od hs) := hD
        have b77 := S_basin_b h i
        rw [← hv77_1] at b77
        refine z_iadd hx hb dL_areAllSo_80 ?_
        refine lv_istore_n (lv' := [(3, .int (zI (g3 + v77_27))), (2, .int (zI g2b)), (1, .int (zI (g1 + v35_24))), (4, .int (zI g4)), (5, .int (zI g5)), (8, .int (zI i)), (7, .int (zI 1)), (6, .int (zI v13_1)), (0, .ref (α 0))]) hx hb dL_areAllSo_81 rfl hl (by decide) rfl (fun ls hl => ?_)
        refine lv_iload hx hb dL_areAllSo_82 (lv_at hl 3 rfl) ?_
        refine lv_aload_n hx hb dL_areAllSo_84 rfl (lv_at hl 8 rfl) ?_
        refine lv_iload hx hb dL_areAllSo_85 (lv_at hl 5 rfl) ?_
        refine lv_bipush (v := zI 7) hx hb dL_areAllSo_87 (zI_b8 (by decide)) ?_
        refine z_idiv hx hb ⟨⟨by omega, by omega⟩, by omega, by omega⟩ dL_areAllSo_89 ?_
        refine lv_iload hx hb dL_areAllSo_90 (lv_at hl 5 rfl) ?_
        refine lv_bipush (v := zI 7) hx hb dL_areAllSo_92 (zI_b8 (by decide)) ?_
        refine z_irem hx hb ⟨⟨by omega, by omega⟩, by omega, by omega⟩ dL_areAllSo_94 ?_
        refine z_calli hP hD hS hA (va_runV (As := [.int (zI (i / 7)), .int (zI (i % 7))]) (rest := [.int (zI g4)]) hC (c_X9_depthOf l D τ α γ h old ch (wt, qu5) ln (n77_25, d77_26, qu_m) wy_l lv_l ct sg od hs (i / 7) (i % 7) (by first | assumption | rfl | omega) (by first | assumption | rfl | omega) (by first | assumption | rfl | omega) _) (cwV 2 hts (gV hB wl_L_132 wn_X9_depthOf ws_X9_depthOf wi_X9 wc_X9_depthOf) rfl rfl rfl hd_X9_depthOf ⟨Nat.le_of_ble_eq_true rfl, Nat.le_of_ble_eq_true rfl⟩) (zp_V hK hP hD hS hA hG (ci := 9) (q0 := 0) rfl rfl rfl) rfl rfl hl.1 rfl (lv_room (Nat.le_of_ble_eq_true rfl)) dL_areAllSo_95 ⟨Nat.le_of_ble_eq_true rfl, Nat.le_of_ble_eq_true rfl⟩) (fun r w1 H locs hq9 hP hD hS => ?_)
        obtain ⟨w95_28, v95_29, hv95_0, hv95_1, rfl, rfl⟩ := hq9
        try simp only [e7] at hv95_0
        try simp only [e7] at hv95_1
        have hP : va_P D vwCl (wH α γ (h, old, ch) (wt, qu5) ln (n77_25, d77_26, qu_m) (w95_28, lv_l) ct sg od hs) H := hP
        have hD : va_D A (wH α γ (h, old, ch) (wt, qu5) ln (n77_25, d77_26, qu_m) (w95_28, lv_l) ct sg od hs) := hD
        have b95 := (q_spill hh (k := i) ⟨by omega, by omega⟩).1
        have c95 := q_spill_ge hh (k := i) ⟨by omega, by omega⟩
        have d95 := hh i (by omega) (by omega)
        refine z_iadd hx hb dL_areAllSo_98 ?_
        refine lv_istore (lv' := [(4, .int (zI (g4 + v95_29))), (3, .int (zI (g3 + v77_27))), (2, .int (zI g2b)), (1, .int (zI (g1 + v35_24))), (5, .int (zI g5)), (8, .int (zI i)), (7, .int (zI 1)), (6, .int (zI v13_1)), (0, .ref (α 0))]) hx hb dL_areAllSo_99 hl (by decide) rfl (fun ls hl => ?_)
        refine lv_iload hx hb dL_areAllSo_101 (lv_at hl 4 rfl) ?_
        refine lv_aload_n hx hb dL_areAllSo_103 rfl (lv_at hl 8 rfl) ?_
        refine lv_iload hx hb dL_areAllSo_104 (lv_at hl 5 rfl) ?_
        refine lv_bipush (v := zI 7) hx hb dL_areAllSo_106 (zI_b8 (by decide)) ?_
        refine z_idiv hx hb ⟨⟨by omega, by omega⟩, by omega, by omega⟩ dL_areAllSo_108 ?_
        refine lv_iload hx hb dL_areAllSo_109 (lv_at hl 5 rfl) ?_
        refine lv_bipush (v := zI 7) hx hb dL_areAllSo_111 (zI_b8 (by decide)) ?_
        refine z_irem hx hb ⟨⟨by omega, by omega⟩, by omega, by omega⟩ dL_areAllSo_113 ?_
        refine z_calli hP hD hS hA (va_runV (As := [.int (zI (i / 7)), .int (zI (i % 7))]) (rest := [.int (zI g5)]) hC (c_X9_dropOf l D τ α γ h old ch (wt, qu5) ln n77_25 d77_26 qu_m (w95_28, lv_l) ct sg od hs (i / 7) (i % 7) (by first | assumption | rfl | omega) (by first | assumption | rfl | omega) (by first | assumption | rfl | omega) _) (cwV 2 hts (gV hB wl_L_52 wn_X9_dropOf ws_X9_dropOf wi_X9 wc_X9_dropOf) rfl rfl rfl hd_X9_dropOf ⟨Nat.le_of_ble_eq_true rfl, Nat.le_of_ble_eq_true rfl⟩) (zp_V hK hP hD hS hA hG (ci := 9) (q0 := 0) rfl rfl rfl) rfl rfl hl.1 rfl (lv_room (Nat.le_of_ble_eq_true rfl)) dL_areAllSo_114 ⟨Nat.le_of_ble_eq_true rfl, Nat.le_of_ble_eq_true rfl⟩) (fun r w1 H locs hq9 hP hD hS => ?_)
        obtain ⟨n114_30, d114_31, v114_32, hv114_0, hv114_1, rfl, rfl⟩ := hq9
        try simp only [e7] at hv114_0
        try simp only [e7] at hv114_1
        have hP : va_P D vwCl (wH α γ (h, old, ch) (wt, qu5) ln (n114_30, d114_31, qu_m) (w95_28, lv_l) ct sg od hs) H := hP
        have hD : va_D A (wH α γ (h, old, ch) (wt, qu5) ln (n114_30, d114_31, qu_m) (w95_28, lv_l) ct sg od hs) := hD
        have b114 := S_drop_b hh (p := i) ⟨by omega, by omega⟩
        rw [← hv114_1] at b114
        have hqa := q_arg (f := h) (k := i) 49 (by omega) (by omega) (by omega)
        rw [← hv13_0] at hqa
        refine z_iadd hx hb dL_areAllSo_117 ?_
        refine lv_istore (lv' := [(5, .int (zI (g5 + v114_32))), (4, .int (zI (g4 + v95_29))), (3, .int (zI (g3 + v77_27))), (2, .int (zI g2b)), (1, .int (zI (g1 + v35_24))), (8, .int (zI i)), (7, .int (zI 1)), (6, .int (zI v13_1)), (0, .ref (α 0))]) hx hb dL_areAllSo_118 hl (by decide) rfl (fun ls hl => ?_)
        refine lv_iload hx hb dL_areAllSo_120 (lv_at hl 6 rfl) ?_
        refine z_ifeq (tgt := 186) hx hb ⟨by omega, by omega⟩ dL_areAllSo_122 (by decide) (fun c_122 => ?_) (fun c_122 => ?_)
        · exact absurd c_122 (by decide)
        · refine lv_aload_n hx hb dL_areAllSo_125 rfl (lv_at hl 8 rfl) ?_
          refine lv_iload hx hb dL_areAllSo_126 (lv_at hl 5 rfl) ?_
          refine z_calli hP hD hS hA (va_runS (As := [.ref (α 0), .int (zI i)]) (rest := []) hC (c_L_at l D τ α γ h old ch (wt, qu5) ln (n114_30, d114_31, qu_m) (w95_28, lv_l) ct sg od hs i (by first | assumption | rfl | omega) (by first | assumption | rfl | omega) _) (va_cwS 2 hts (gS hB wl_L_42 wt_L_at wi_L wc_L_at) rfl rfl rfl hd_L_at.2 ⟨Nat.le_of_ble_eq_true rfl, Nat.le_of_ble_eq_true rfl⟩) (zp_S hK hP hD hS hA hG) rfl rfl hl.1 rfl (lv_room (Nat.le_of_ble_eq_true rfl)) dL_areAllSo_128 ⟨Nat.le_of_ble_eq_true rfl, Nat.le_of_ble_eq_true rfl⟩) (fun r w1 H locs hq9 hP hD hS => ?_)
          obtain ⟨v128_33, hv128_0, hv128_1, rfl, rfl⟩ := hq9
          try simp only [e7] at hv128_0
          try simp only [e7] at hv128_1
          have hP : va_P D vwCl (wH α γ (h, old, ch) (wt, qu5) ln (n114_30, d114_31, qu_m) (w95_28, lv_l) ct sg od hs) H := hP
          have hD : va_D A (wH α γ (h, old, ch) (wt, qu5) ln (n114_30, d114_31, qu_m) (w95_28, lv_l) ct sg od hs) := hD
          refine z_iflt (tgt := 186) hx hb ⟨by omega, by omega⟩ dL_areAllSo_131 (by decide) (fun c_131 => ?_) (fun c_131 => ?_)
          · exfalso; omega
          · refine lv_aload_n hx hb dL_areAllSo_134 rfl (lv_at hl 8 rfl) ?_
            refine lv_iload hx hb dL_areAllSo_135 (lv_at hl 5 rfl) ?_
            refine z_calli hP hD hS hA (va_runS (As := [.ref (α 0), .int (zI i)]) (rest := []) hC (c_L_at l D τ α γ h old ch (wt, qu5) ln (n114_30, d114_31, qu_m) (w95_28, lv_l) ct sg od hs i (by first | assumption | rfl | omega) (by first | assumption | rfl | omega) _) (va_cwS 2 hts (gS hB wl_L_42 wt_L_at wi_L wc_L_at) rfl rfl rfl hd_L_at.2 ⟨Nat.le_of_ble_eq_true rfl, Nat.le_of_ble_eq_true rfl⟩) (zp_S hK hP hD hS hA hG) rfl rfl hl.1 rfl (lv_room (Nat.le_of_ble_eq_true rfl)) dL_areAllSo_137 ⟨Nat.le_of_ble_eq_true rfl, Nat.le_of_ble_eq_true rfl⟩) (fun r w1 H locs hq9 hP hD hS => ?_)
            obtain ⟨v137_34, hv137_0, hv137_1, rfl, rfl⟩ := hq9
            try simp only [e7] at hv137_0
            try simp only [e7] at hv137_1
            have hP : va_P D vwCl (wH α γ (h, old, ch) (wt, qu5) ln (n114_30, d114_31, qu_m) (w95_28, lv_l) ct sg od hs) H := hP
            have hD : va_D A (wH α γ (h, old, ch) (wt, qu5) ln (n114_30, d114_31, qu_m) (w95_28, lv_l) ct sg od hs) := hD
            refine lv_bipush (v := zI 100) hx hb dL_areAllSo_140 (zI_b8 (by decide)) ?_
            refine z_icge (tgt := 186) hx hb ⟨by omega, by omega⟩ ⟨by omega, by omega⟩ dL_areAllSo_142 (by decide) (fun c_142 => ?_) (fun c_142 => ?_)
            · exfalso; omega
            · refine lv_aload_n hx hb dL_areAllSo_145 rfl (lv_at hl 8 rfl) ?_
              refine lv_iload hx hb dL_areAllSo_146 (lv_at hl 5 rfl) ?_
              refine z_calli hP hD hS hA (va_runS (As := [.ref (α 0), .int (zI i)]) (rest := []) hC (c_L_at l D τ α γ h old ch (wt, qu5) ln (n114_30, d114_31, qu_m) (w95_28, lv_l) ct sg od hs i (by first | assumption | rfl | omega) (by first | assumption | rfl | omega) _) (va_cwS 2 hts (gS hB wl_L_42 wt_L_at wi_L wc_L_at) rfl rfl rfl hd_L_at.2 ⟨Nat.le_of_ble_eq_true rfl, Nat.le_of_ble_eq_true rfl⟩) (zp_S hK hP hD hS hA hG) rfl rfl hl.1 rfl (lv_room (Nat.le_of_ble_eq_true rfl)) dL_areAllSo_148 ⟨Nat.le_of_ble_eq_true rfl, Nat.le_of_ble_eq_true rfl⟩) (fun r w1 H locs hq9 hP hD hS => ?_)
              obtain ⟨v148_35, hv148_0, hv148_1, rfl, rfl⟩ := hq9
              try simp only [e7] at hv148_0
              try simp only [e7] at hv148_1
              have hP : va_P D vwCl (wH α γ (h, old, ch) (wt, qu5) ln (n114_30, d114_31, qu_m) (w95_28, lv_l) ct sg od hs) H := hP
              have hD : va_D A (wH α γ (h, old, ch) (wt, qu5) ln (n114_30, d114_31, qu_m) (w95_28, lv_l) ct sg od hs) := hD
              refine lv_aload_n hx hb dL_areAllSo_151 rfl (lv_at hl 8 rfl) ?_
              refine lv_iload hx hb dL_areAllSo_152 (lv_at hl 7 rfl) ?_
              refine z_calli hP hD hS hA (va_runS (As := [.ref (α 0), .int (zI v13_1)]) (rest := [.int (zI v148_35)]) hC (c_L_at l D τ α γ h old ch (wt, qu5) ln (n114_30, d114_31, qu_m) (w95_28, lv_l) ct sg od hs v13_1 (by first | assumption | rfl | omega) (by first | assumption | rfl | omega) _) (va_cwS 2 hts (gS hB wl_L_42 wt_L_at wi_L wc_L_at) rfl rfl rfl hd_L_at.2 ⟨Nat.le_of_ble_eq_true rfl, Nat.le_of_ble_eq_true rfl⟩) (zp_S hK hP hD hS hA hG) rfl rfl hl.1 rfl (lv_room (Nat.le_of_ble_eq_true rfl)) dL_areAllSo_154 ⟨Nat.le_of_ble_eq_true rfl, Nat.le_of_ble_eq_true rfl⟩) (fun r w1 H locs hq9 hP hD hS => ?_)
              obtain ⟨v154_36, hv154_0, hv154_1, rfl, rfl⟩ := hq9
              try simp only [e7] at hv154_0
              try simp only [e7] at hv154_1
              have hP : va_P D vwCl (wH α γ (h, old, ch) (wt, qu5) ln (n114_30, d114_31, qu_m) (w95_28, lv_l) ct sg od hs) H := hP
              have hD : va_D A (wH α γ (h, old, ch) (wt, qu5) ln (n114_30, d114_31, qu_m) (w95_28, lv_l) ct sg od hs) := hD
              refine z_iclt (tgt := 182) hx hb ⟨by omega, by omega⟩ ⟨by omega, by omega⟩ dL_areAllSo_157 (by decide) (fun c_157 => ?_) (fun c_157 => ?_)
              · refine lv_iconst (v := zI 1) hx hb dL_areAllSo_182 rfl ?_
                refine lv_goto (tgt := 187) hx hb dL_areAllSo_183 (by decide) ?_
                refine lv_istore (lv' := [(7, .int (zI 1)), (5, .int (zI (g5 + v114_32))), (4, .int (zI (g4 + v95_29))), (3, .int (zI (g3 + v77_27))), (2, .int (zI g2b)), (1, .int (zI (g1 + v35_24))), (8, .int (zI i)), (6, .int (zI v13_1)), (0, .ref (α 0))]) hx hb dL_areAllSo_187 hl (by decide) rfl (fun ls hl => ?_)
                refine z_iinc (k := 6) (v := i + 1) (lv' := [(8, .int (zI (i + 1))), (7, .int (zI 1)), (5, .int (zI (g5 + v114_32))), (4, .int (zI (g4 + v95_29))), (3, .int (zI (g3 + v77_27))), (2, .int (zI g2b)), (1, .int (zI (g1 + v35_24))), (6, .int (zI v13_1)), (0, .ref (α 0))]) hx hb dL_areAllSo_189 hl rfl rfl (by decide) rfl (fun ls hl => ?_)
                refine lv_goto (tgt := 24) hx hb dL_areAllSo_192 (by decide) ?_
                exact ih_24 n114_30 d114_31 qu_m w95_28 lv_l (g1 + v35_24) g2b (g3 + v77_27) (g4 + v95_29) (g5 + v114_32) (i + 1) _ _ hP hD hS _ (lv_sub hl [6, 5, 4, 3, 2, 0, 1, 7, 8] rfl) (by first | assumption | rfl | omega) (by rw [zS_up hi.1, ← hg1, hv35_0]) (by exact hg2b) (by rw [zS_up hi.1, ← hg3, hv77_1]) (by rw [zS_up hi.1, ← hg4, hv95_1]) (by rw [zS_up hi.1, ← hg5, hv114_1]) (by first | assumption | rfl | omega) (by first | assumption | rfl | omega) (by first | assumption | rfl | omega) (by first | assumption | rfl | omega) (by first | assumption | rfl | omega) (by omega)
              · refine lv_aload_n hx hb dL_areAllSo_160 rfl (lv_at hl 8 rfl) ?_
                refine lv_iload hx hb dL_areAllSo_161 (lv_at hl 5 rfl) ?_
                refine z_calli hP hD hS hA (va_runS (As := [.ref (α 0), .int (zI i)]) (rest := []) hC (c_L_at l D τ α γ h old ch (wt, qu5) ln (n114_30, d114_31, qu_m) (w95_28, lv_l) ct sg od hs i (by first | assumption | rfl | omega) (by first | assumption | rfl | omega) _) (va_cwS 2 hts (gS hB wl_L_42 wt_L_at wi_L wc_L_at) rfl rfl rfl hd_L_at.2 ⟨Nat.le_of_ble_eq_true rfl, Nat.le_of_ble_eq_true rfl⟩) (zp_S hK hP hD hS hA hG) rfl rfl hl.1 rfl (lv_room (Nat.le_of_ble_eq_true rfl)) dL_areAllSo_163 ⟨Nat.le_of_ble_eq_true rfl, Nat.le_of_ble_eq_true rfl⟩) (fun r w1 H locs hq9 hP hD hS => ?_)
                obtain ⟨v163_37, hv163_0, hv163_1, rfl, rfl⟩ := hq9
                try simp only [e7] at hv163_0
                try simp only [e7] at hv163_1
                have hP : va_P D vwCl (wH α γ (h, old, ch) (wt, qu5) ln (n114_30, d114_31, qu_m) (w95_28, lv_l) ct sg od hs) H := hP
                have hD : va_D A (wH α γ (h, old, ch) (wt, qu5) ln (n114_30, d114_31, qu_m) (w95_28, lv_l) ct sg od hs) := hD
                refine lv_aload_n hx hb dL_areAllSo_166 rfl (lv_at hl 8 rfl) ?_
                refine lv_iload hx hb dL_areAllSo_167 (lv_at hl 7 rfl) ?_
                refine z_calli hP hD hS hA (va_runS (As := [.ref (α 0), .int (zI v13_1)]) (rest := [.int (zI v163_37)]) hC (c_L_at l D τ α γ h old ch (wt, qu5) ln (n114_30, d114_31, qu_m) (w95_28, lv_l) ct sg od hs v13_1 (by first | assumption | rfl | omega) (by first | assumption | rfl | omega) _) (va_cwS 2 hts (gS hB wl_L_42 wt_L_at wi_L wc_L_at) rfl rfl rfl hd_L_at.2 ⟨Nat.le_of_ble_eq_true rfl, Nat.le_of_ble_eq_true rfl⟩) (zp_S hK hP hD hS hA hG) rfl rfl hl.1 rfl (lv_room (Nat.le_of_ble_eq_true rfl)) dL_areAllSo_169 ⟨Nat.le_of_ble_eq_true rfl, Nat.le_of_ble_eq_true rfl⟩) (fun r w1 H locs hq9 hP hD hS => ?_)
                obtain ⟨v169_38, hv169_0, hv169_1, rfl, rfl⟩ := hq9
                try simp only [e7] at hv169_0
                try simp only [e7] at hv169_1
                have hP : va_P D vwCl (wH α γ (h, old, ch) (wt, qu5) ln (n114_30, d114_31, qu_m) (w95_28, lv_l) ct sg od hs) H := hP
                have hD : va_D A (wH α γ (h, old, ch) (wt, qu5) ln (n114_30, d114_31, qu_m) (w95_28, lv_l) ct sg od hs) := hD
                refine z_icne (tgt := 186) hx hb ⟨by omega, by omega⟩ ⟨by omega, by omega⟩ dL_areAllSo_172 (by decide) (fun c_172 => ?_) (fun c_172 => ?_)
                · exfalso; omega
                · refine lv_iload hx hb dL_areAllSo_175 (lv_at hl 5 rfl) ?_
                  refine lv_iload hx hb dL_areAllSo_177 (lv_at hl 7 rfl) ?_
                  refine z_iclt (tgt := 186) hx hb ⟨by omega, by omega⟩ ⟨by omega, by omega⟩ dL_areAllSo_179 (by decide) (fun c_179 => ?_) (fun c_179 => ?_)
                  · exfalso; omega
                  · refine lv_iconst (v := zI 1) hx hb dL_areAllSo_182 rfl ?_
                    refine lv_goto (tgt := 187) hx hb dL_areAllSo_183 (by decide) ?_
                    refine lv_istore (lv' := [(7, .int (zI 1)), (5, .int (zI (g5 + v114_32))), (4, .int (zI (g4 + v95_29))), (3, .int (zI (g3 + v77_27))), (2, .int (zI g2b)), (1, .int (zI (g1 + v35_24))), (8, .int (zI i)), (6, .int (zI v13_1)), (0, .ref (α 0))]) hx hb dL_areAllSo_187 hl (by decide) rfl (fun ls hl => ?_)
                    refine z_iinc (k := 6) (v := i + 1) (lv' := [(8, .int (zI (i + 1))), (7, .int (zI 1)), (5, .int (zI (g5 + v114_32))), (4, .int (zI (g4 + v95_29))), (3, .int (zI (g3 + v77_27))), (2, .int (zI g2b)), (1, .int (zI (g1 + v35_24))), (6, .int (zI v13_1)), (0, .ref (α 0))]) hx hb dL_areAllSo_189 hl rfl rfl (by decide) rfl (fun ls hl => ?_)
                    refine lv_goto (tgt := 24) hx hb dL_areAllSo_192 (by decide) ?_
                    exact ih_24 n114_30 d114_31 qu_m w95_28 lv_l (g1 + v35_24) g2b (g3 + v77_27) (g4 + v95_29) (g5 + v114_32) (i + 1) _ _ hP hD hS _ (lv_sub hl [6, 5, 4, 3, 2, 0, 1, 7, 8] rfl) (by first | assumption | rfl | omega) (by rw [zS_up hi.1, ← hg1, hv35_0]) (by exact hg2b) (by rw [zS_up hi.1, ← hg3, hv77_1]) (by rw [zS_up hi.1, ← hg4, hv95_1]) (by rw [zS_up hi.1, ← hg5, hv114_1]) (by first | assumption | rfl | omega) (by first | assumption | rfl | omega) (by first | assumption | rfl | omega) (by first | assumption | rfl | omega) (by first | assumption | rfl | omega) (by omega)
      refine lv_iload_n hx hb dL_areAllSo_40 rfl (lv_at hl 1 rfl) ?_
      refine lv_aload_n hx hb dL_areAllSo_41 rfl (lv_at hl 8 rfl) ?_
      refine lv_iload hx hb dL_areAllSo_42 (lv_at hl 5 rfl) ?_
      refine lv_bipush (v := zI 7) hx hb dL_areAllSo_44 (zI_b8 (by decide)) ?_
      refine z_idiv hx hb ⟨⟨by omega, by omega⟩, by omega, by omega⟩ dL_areAllSo_46 ?_
      refine lv_iload hx hb dL_areAllSo_47 (lv_at hl 5 rfl) ?_
      refine lv_bipush (v := zI 7) hx hb dL_areAllSo_49 (zI_b8 (by decide)) ?_
      refine z_irem hx hb ⟨⟨by omega, by omega⟩, by omega, by omega⟩ dL_areAllSo_51 ?_
      refine z_calli hP hD hS hA (va_runV (As := [.int (zI (i / 7)), .int (zI (i % 7))]) (rest := [.int (zI g2)]) hC (c_X9_isSink l D τ α γ h old ch (wt, qu5) ln nx_l dr_l qu_l (wy_l, lv_l) ct sg od hs (i / 7) (i % 7) (by first | assumption | rfl | omega) (by first | assumption | rfl | omega) (by first | assumption | rfl | omega) _) (cwV 2 hts (gV hB wl_L_107 wn_X9_isSink ws_X9_isSink wi_X9 wc_X9_isSink) rfl rfl rfl hd_X9_isSink ⟨Nat.le_of_ble_eq_true rfl, Nat.le_of_ble_eq_true rfl⟩) (zp_V hK hP hD hS hA hG (ci := 9) (q0 := 0) rfl rfl rfl) rfl rfl hl.1 rfl (lv_room (Nat.le_of_ble_eq_true rfl)) dL_areAllSo_52 ⟨Nat.le_of_ble_eq_true rfl, Nat.le_of_ble_eq_true rfl⟩) (fun r w1 H locs hq9 hP hD hS => ?_)
      obtain ⟨n52_39, d52_40, v52_41, hv52_0, hv52_1, rfl, rfl⟩ := hq9
      try simp only [e7] at hv52_0
      try simp only [e7] at hv52_1
      have hP : va_P D vwCl (wH α γ (h, old, ch) (wt, qu5) ln (n52_39, d52_40, qu_l) (wy_l, lv_l) ct sg od hs) H := hP
      have hD : va_D A (wH α γ (h, old, ch) (wt, qu5) ln (n52_39, d52_40, qu_l) (wy_l, lv_l) ct sg od hs) := hD
      refine z_ifeqB (tgt := 62) hx hb dL_areAllSo_55 (by decide) (fun c_55 => ?_) (fun c_55 => ?_)
      · have hb_55 := zb_neg hv52_1 c_55
        have hz9 : g2 + 0 = zC (fun k => decide (S_next h k = -1)) (i + 1) := by rw [zC_up hi.1, ← hg2, z1_f (decide_eq_false hb_55)]
        refine lv_iconst (v := zI 0) hx hb dL_areAllSo_62 rfl ?_
        refine z_iadd hx hb dL_areAllSo_63 ?_
        refine lv_istore_n (lv' := [(2, .int (zI (g2 + 0))), (1, .int (zI (g1 + v35_24))), (3, .int (zI g3)), (4, .int (zI g4)), (5, .int (zI g5)), (8, .int (zI i)), (7, .int (zI 1)), (6, .int (zI v13_1)), (0, .ref (α 0))]) hx hb dL_areAllSo_64 rfl hl (by decide) rfl (fun ls hl => ?_)
        exact HJ_65 n52_39 d52_40 qu_l (g2 + 0) _ _ hP hD hS _ (lv_sub hl [0, 1, 2, 3, 4, 5, 6, 7, 8] rfl) (by exact hz9) (by first | assumption | rfl | omega)
      · have hb_55 := hv52_1.mp c_55
        have hz9 : g2 + 1 = zC (fun k => decide (S_next h k = -1)) (i + 1) := by rw [zC_up hi.1, ← hg2, z1_t (decide_eq_true hb_55)]
        refine lv_iconst (v := zI 1) hx hb dL_areAllSo_58 rfl ?_
        refine lv_goto (tgt := 63) hx hb dL_areAllSo_59 (by decide) ?_
        refine z_iadd hx hb dL_areAllSo_63 ?_
        refine lv_istore_n (lv' := [(2, .int (zI (g2 + 1))), (1, .int (zI (g1 + v35_24))), (3, .int (zI g3)), (4, .int (zI g4)), (5, .int (zI g5)), (8, .int (zI i)), (7, .int (zI 1)), (6, .int (zI v13_1)), (0, .ref (α 0))]) hx hb dL_areAllSo_64 rfl hl (by decide) rfl (fun ls hl => ?_)
        exact HJ_65 n52_39 d52_40 qu_l (g2 + 1) _ _ hP hD hS _ (lv_sub hl [0, 1, 2, 3, 4, 5, 6, 7, 8] rfl) (by exact hz9) (by first | assumption | rfl | omega)

abbrev wz_L_does : List Cond := .code yL_does cL_does 10 (some .boolean) :: W0
abbrev rm_L_does : Room := { frames := 8, cells := 0, slots := 0, locals := 191 }
theorem hd_L_does : yL_does.cls = RL ∧ yL_does.cls ≠ "java/lang/invoke/MethodHandle" ∧ yL_does.cls ≠ "java/lang/invoke/VarHandle" ∧ (parseMethodDescriptor yL_does.desc).map (fun d => d.parameters.length) = some 3 := by decide +kernel
set_option maxHeartbeats 4000000 in
set_option maxRecDepth 100000 in
theorem c_L_does (l : Launch) (D : va_G) (τ : Nat → Nat) (α : Nat → Nat) (γ : Nat → ClassId) (h : IA) (old : IA) (ch : IA) (wt : BA) (qu5 : IA) (hi8 : BA) (fe : IA) (se : IA) (gn : BA) (fp : IA) (sp : IA) (np : Int) (tot : Int) (clo : Int) (lon : Int) (nx : IA) (dr : IA) (qu : IA) (wy : IA) (lv : IA) (ct : TCt) (sg : TSg) (od : TOd) (sv : IA) (sl9 : IA) (tk : BA) (ct9 : Int) (v9 : Int) (w9 : Int) (hv9 : -2147483648 ≤ v9 ∧ v9 < 2147483648) (hw9 : -2147483648 ≤ w9 ∧ w9 < 2147483648) (hh : ∀ k, 0 ≤ k → k < 49 → 0 ≤ h k ∧ h k ≤ 99) (hct : 0 ≤ ct9 ∧ ct9 ≤ 6) : cM l yL_does wz_L_does rm_L_does D τ (tyH γ) [.ref (α 0), .int (zI v9), .int (zI w9)] (wH α γ (h, old, ch) (wt, qu5) (hi8, fe, se, gn, fp, sp, np, tot, clo, lon) (nx, dr, qu) (wy, lv) ct sg od (sv, sl9, tk, ct9)) (zQi (fun r w => ∃ (h_p : IA), ∃ (old_p : IA), ∃ (ch_p : IA), ∃ (sv_p : IA), ∃ (sl9_p : IA), ∃ (tk_p : BA), ∃ (ct9_p : Int), ∃ (nx_p : IA), ∃ (dr_p : IA), ∃ (qu_p : IA), ∃ (wt_p : BA), ∃ (qu5_p : IA), ∃ (hi8_p : BA), ∃ (fe_p : IA), ∃ (se_p : IA), ∃ (gn_p : BA), ∃ (fp_p : IA), ∃ (sp_p : IA), ∃ (np_p : Int), ∃ (tot_p : Int), ∃ (clo_p : Int), ∃ (lon_p : Int), ∃ (wy_p : IA), ∃ (lv_p : IA), ∃ (v : Bool), (v = true) ∧ (∀ k, 0 ≤ k → k < 49 → 0 ≤ h_p k ∧ h_p k ≤ 99) ∧ (0 ≤ ct9_p ∧ ct9_p ≤ 6) ∧ r = bI v ∧ wH α γ (h_p, old_p, ch_p) (wt_p, qu5_p) (hi8_p, fe_p, se_p, gn_p, fp_p, sp_p, np_p, tot_p, clo_p, lon_p) (nx_p, dr_p, qu_p) (wy_p, lv_p) ct sg od (sv_p, sl9_p, tk_p, ct9_p) = w)) := by
  refine z_ofM (cc := cL_does) (maxL := 10) (ret := (some .boolean)) (by decide +kernel) rfl (Nat.le_of_ble_eq_true rfl) ?_
  intro pg e s m args below meth c hC hr hlk hnm hK hP A hD hG hA hS ls hl Q hQ
  have hx := hC.1
  have hb := hC.2.1
  have hml := hC.2.2.1
  have hown := hC.2.2.2.1
  have hts := hC.2.2.2.2
  have hB : ∀ w ∈ W0, w ∈ wz_L_does := fun _ h => List.mem_cons_of_mem _ h
  have hW0 : ∀ w ∈ W0, w.before args s = true := fun w h => hts w (hB w h)
  have hl : lv_has ls 10 [(0, .ref (α 0)), (1, .int (zI v9)), (2, .int (zI w9))] := hl
  refine lv_iload_n hx hb dL_does_0 rfl (lv_at hl 1 rfl) ?_
  refine lv_iconst (v := zI 4) hx hb dL_does_1 rfl ?_
  refine z_ishrA hx hb dL_does_2 (fun x2_1 hx2_1 => ?_)
  refine lv_bipush (v := zI 7) hx hb dL_does_3 (zI_b8 (by decide)) ?_
  refine z_calli hP hD hS hA (va_runS (As := [.int (zI x2_1), .int (zI 7)]) (rest := []) hC (c_L_low l D τ _ _ x2_1 7 (by first | assumption | rfl | omega) _) (va_cwS 2 hts (gS hB wl_L_14 wt_L_low wi_L wc_L_low) rfl rfl rfl hd_L_low.2 ⟨Nat.le_of_ble_eq_true rfl, Nat.le_of_ble_eq_true rfl⟩) (zp_S hK hP hD hS hA hG) rfl rfl hl.1 rfl (lv_room (Nat.le_of_ble_eq_true rfl)) dL_does_5 ⟨Nat.le_of_ble_eq_true rfl, Nat.le_of_ble_eq_true rfl⟩) (fun r w1 H locs hq9 hP hD hS => ?_)
  obtain ⟨v5_2, hv5_0, rfl, rfl⟩ := hq9
  try simp only [e7] at hv5_0
  refine lv_istore_n (lv' := [(3, .int (zI v5_2)), (0, .ref (α 0)), (1, .int (zI v9)), (2, .int (zI w9))]) hx hb dL_does_8 rfl hl (by decide) rfl (fun ls hl => ?_)
  refine lv_iload_n hx hb dL_does_9 rfl (lv_at hl 2 rfl) ?_
  refine lv_bipush (v := zI 7) hx hb dL_does_10 (zI_b8 (by decide)) ?_
  refine z_ishrA hx hb dL_does_12 (fun x12_3 hx12_3 => ?_)
  refine lv_bipush (v := zI 7) hx hb dL_does_13 (zI_b8 (by decide)) ?_
  refine z_calli hP hD hS hA (va_runS (As := [.int (zI x12_3), .int (zI 7)]) (rest := []) hC (c_L_low l D τ _ _ x12_3 7 (by first | assumption | rfl | omega) _) (va_cwS 2 hts (gS hB wl_L_14 wt_L_low wi_L wc_L_low) rfl rfl rfl hd_L_low.2 ⟨Nat.le_of_ble_eq_true rfl, Nat.le_of_ble_eq_true rfl⟩) (zp_S hK hP hD hS hA hG) rfl rfl hl.1 rfl (lv_room (Nat.le_of_ble_eq_true rfl)) dL_does_15 ⟨Nat.le_of_ble_eq_true rfl, Nat.le_of_ble_eq_true rfl⟩) (fun r w1 H locs hq9 hP hD hS => ?_)
  obtain ⟨v15_4, hv15_0, rfl, rfl⟩ := hq9
  try simp only [e7] at hv15_0
  refine lv_istore (lv' := [(4, .int (zI v15_4)), (3, .int (zI v5_2)), (0, .ref (α 0)), (1, .int (zI v9)), (2, .int (zI w9))]) hx hb dL_does_18 hl (by decide) rfl (fun ls hl => ?_)
  refine lv_iload_n hx hb dL_does_20 rfl (lv_at hl 3 rfl) ?_
  refine lv_bipush (v := zI 15) hx hb dL_does_21 (zI_b8 (by decide)) ?_
  refine z_iandC hx hb (by decide) dL_does_23 (fun x23_5 hx23_5 => ?_)
  have HJ_96 : ∀ (H : Heap) (locs : List Loc) (hP : va_P D vwCl (wH α γ (h, old, ch) (wt, qu5) (hi8, fe, se, gn, fp, sp, np, tot, clo, lon) (nx, dr, qu) (wy, lv) ct sg od (sv, sl9, tk, ct9)) H) (hD : va_D A (wH α γ (h, old, ch) (wt, qu5) (hi8, fe, se, gn, fp, sp, np, tot, clo, lon) (nx, dr, qu) (wy, lv) ct sg od (sv, sl9, tk, ct9))) (hS : va_S A s.heap H locs) (ls : Array Slot) (hl : lv_has ls 10 [(4, .int (zI v15_4)), (3, .int (zI v5_2)), (0, .ref (α 0)), (1, .int (zI v9)), (2, .int (zI w9))]), W pg l e rm_L_does s m args below meth c H locs 0 0 Q (F0 m 96 ls []) := by
    intro H locs hP hD hS ls hl
    refine lv_aload_n hx hb dL_does_96 rfl (lv_at hl 2 rfl) ?_
    refine lv_iload_n hx hb dL_does_97 rfl (lv_at hl 1 rfl) ?_
    refine lv_iload hx hb dL_does_98 (lv_at hl 0 rfl) ?_
    refine z_calli hP hD hS hA (va_runV (As := [.int (zI v5_2), .int (zI v15_4)]) (rest := []) hC (c_X9_heightOf l D τ α γ h old ch (wt, qu5) (hi8, fe, se, gn, fp, sp, np, tot, clo, lon) (nx, dr, qu) (wy, lv) ct sg od (sv, sl9, tk, ct9) v5_2 v15_4 (by first | assumption | rfl | omega) (by first | assumption | rfl | omega) (by first | assumption | rfl | omega) _) (cwV 2 hts (gV hB wl_L_8 wn_X9_heightOf ws_X9_heightOf wi_X9 wc_X9_heightOf) rfl rfl rfl hd_X9_heightOf ⟨Nat.le_of_ble_eq_true rfl, Nat.le_of_ble_eq_true rfl⟩) (zp_V hK hP hD hS hA hG (ci := 9) (q0 := 0) rfl rfl rfl) rfl rfl hl.1 rfl (lv_room (Nat.le_of_ble_eq_true rfl)) dL_does_100 ⟨Nat.le_of_ble_eq_true rfl, Nat.le_of_ble_eq_true rfl⟩) (fun r w1 H locs hq9 hP hD hS => ?_)
    obtain ⟨v100_6, hv100_0, hv100_1, rfl, rfl⟩ := hq9
    try simp only [e7] at hv100_0
    try simp only [e7] at hv100_1
    have hP : va_P D vwCl (wH α γ (h, old, ch) (wt, qu5) (hi8, fe, se, gn, fp, sp, np, tot, clo, lon) (nx, dr, qu) (wy, lv) ct sg od (sv, sl9, tk, ct9)) H := hP
    have hD : va_D A (wH α γ (h, old, ch) (wt, qu5) (hi8, fe, se, gn, fp, sp, np, tot, clo, lon) (nx, dr, qu) (wy, lv) ct sg od (sv, sl9, tk, ct9)) := hD
    have b100 := hh (7 * v5_2 + v15_4) (by omega) (by omega)
    refine lv_istore (lv' := [(5, .int (zI v100_6)), (4, .int (zI v15_4)), (3, .int (zI v5_2)), (0, .ref (α 0)), (1, .int (zI v9)), (2, .int (zI w9))]) hx hb dL_does_103 hl (by decide) rfl (fun ls hl => ?_)
    refine lv_iload_n hx hb dL_does_105 rfl (lv_at hl 5 rfl) ?_
    refine lv_bipush (v := zI 100) hx hb dL_does_106 (zI_b8 (by decide)) ?_
    refine z_calli hP hD hS hA (va_runS (As := [.int (zI w9), .int (zI 100)]) (rest := []) hC (c_L_low l D τ _ _ w9 100 (by first | assumption | rfl | omega) _) (va_cwS 2 hts (gS hB wl_L_14 wt_L_low wi_L wc_L_low) rfl rfl rfl hd_L_low.2 ⟨Nat.le_of_ble_eq_true rfl, Nat.le_of_ble_eq_true rfl⟩) (zp_S hK hP hD hS hA hG) rfl rfl hl.1 rfl (lv_room (Nat.le_of_ble_eq_true rfl)) dL_does_108 ⟨Nat.le_of_ble_eq_true rfl, Nat.le_of_ble_eq_true rfl⟩) (fun r w1 H locs hq9 hP hD hS => ?_)
    obtain ⟨v108_7, hv108_0, rfl, rfl⟩ := hq9
    try simp only [e7] at hv108_0
    refine lv_istore (lv' := [(6, .int (zI v108_7)), (5, .int (zI v100_6)), (4, .int (zI v15_4)), (3, .int (zI v5_2)), (0, .ref (α 0)), (1, .int (zI v9)), (2, .int (zI w9))]) hx hb dL_does_111 hl (by decide) rfl (fun ls hl => ?_)
    refine lv_aload_n hx hb dL_does_113 rfl (lv_at hl 4 rfl) ?_
    refine lv_iload_n hx hb dL_does_114 rfl (lv_at hl 3 rfl) ?_
    refine lv_iload hx hb dL_does_115 (lv_at hl 2 rfl) ?_
    refine lv_iload hx hb dL_does_117 (lv_at hl 0 rfl) ?_
    refine z_calli hP hD hS hA (va_runV (As := [.int (zI v5_2), .int (zI v15_4), .int (zI v108_7)]) (rest := []) hC (c_X9_set l D τ α γ h old ch (wt, qu5) (hi8, fe, se, gn, fp, sp, np, tot, clo, lon) (nx, dr, qu) (wy, lv) ct sg od sv sl9 tk ct9 v5_2 v15_4 v108_7 (by first | assumption | rfl | omega) (by first | assumption | rfl | omega) (by first | assumption | rfl | omega) (by first | assumption | rfl | omega) (by first | assumption | rfl | omega) _) (cwV 3 hts (gV hB wl_L_19 wn_X9_set ws_X9_set wi_X9 wc_X9_set) rfl rfl rfl hd_X9_set ⟨Nat.le_of_ble_eq_true rfl, Nat.le_of_ble_eq_true rfl⟩) (zp_V hK hP hD hS hA hG (ci := 9) (q0 := 0) rfl rfl rfl) rfl rfl hl.1 rfl (lv_room (Nat.le_of_ble_eq_true rfl)) dL_does_119 ⟨Nat.le_of_ble_eq_true rfl, Nat.le_of_ble_eq_true rfl⟩) (fun r w1 H locs hq9 hP hD hS => ?_)
    obtain ⟨h119_8, s119_9, c119_10, v119_11, hv119_0, hv119_1, hv119_2, hv119_3, hv119_4, rfl, rfl⟩ := hq9
    try simp only [e7] at hv119_0
    try simp only [e7] at hv119_1
    try simp only [e7] at hv119_2
    try simp only [e7] at hv119_3
    try simp only [e7] at hv119_4
    have hP : va_P D vwCl (wH α γ (h119_8, old, ch) (wt, qu5) (hi8, fe, se, gn, fp, sp, np, tot, clo, lon) (nx, dr, qu) (wy, lv) ct sg od (s119_9, sl9, tk, c119_10)) H := hP
    have hD : va_D A (wH α γ (h119_8, old, ch) (wt, qu5) (hi8, fe, se, gn, fp, sp, np, tot, clo, lon) (nx, dr, qu) (wy, lv) ct sg od (s119_9, sl9, tk, c119_10)) := hD
    have hh2 : ∀ k, 0 ≤ k → k < 49 → 0 ≤ h119_8 k ∧ h119_8 k ≤ 99 := by (rw [hv119_2]; exact set_hh hh (by omega))
    refine lv_iload hx hb dL_does_122 (lv_at hl 1 rfl) ?_
    refine z_icne (tgt := 143) hx hb ⟨by omega, by omega⟩ ⟨by omega, by omega⟩ dL_does_124 (by decide) (fun c_124 => ?_) (fun c_124 => ?_)
    · exfalso; omega
    · refine lv_aload_n hx hb dL_does_127 rfl (lv_at hl 4 rfl) ?_
      refine lv_iload_n hx hb dL_does_128 rfl (lv_at hl 3 rfl) ?_
      refine lv_iload hx hb dL_does_129 (lv_at hl 2 rfl) ?_
      refine z_calli hP hD hS hA (va_runV (As := [.int (zI v5_2), .int (zI v15_4)]) (rest := []) hC (c_X9_heightOf l D τ α γ h119_8 old ch (wt, qu5) (hi8, fe, se, gn, fp, sp, np, tot, clo, lon) (nx, dr, qu) (wy, lv) ct sg od (s119_9, sl9, tk, c119_10) v5_2 v15_4 (by first | assumption | rfl | omega) (by first | assumption | rfl | omega) (by exact hh2) _) (cwV 2 hts (gV hB wl_L_8 wn_X9_heightOf ws_X9_heightOf wi_X9 wc_X9_heightOf) rfl rfl rfl hd_X9_heightOf ⟨Nat.le_of_ble_eq_true rfl, Nat.le_of_ble_eq_true rfl⟩) (zp_V hK hP hD hS hA hG (ci := 9) (q0 := 0) rfl rfl rfl) rfl rfl hl.1 rfl (lv_room (Nat.le_of_ble_eq_true rfl)) dL_does_131 ⟨Nat.le_of_ble_eq_true rfl, Nat.le_of_ble_eq_true rfl⟩) (fun r w1 H locs hq9 hP hD hS => ?_)
      obtain ⟨v131_12, hv131_0, hv131_1, rfl, rfl⟩ := hq9
      try simp only [e7] at hv131_0
      try simp only [e7] at hv131_1
      have hP : va_P D vwCl (wH α γ (h119_8, old, ch) (wt, qu5) (hi8, fe, se, gn, fp, sp, np, tot, clo, lon) (nx, dr, qu) (wy, lv) ct sg od (s119_9, sl9, tk, c119_10)) H := hP
      have hD : va_D A (wH α γ (h119_8, old, ch) (wt, qu5) (hi8, fe, se, gn, fp, sp, np, tot, clo, lon) (nx, dr, qu) (wy, lv) ct sg od (s119_9, sl9, tk, c119_10)) := hD
      have e131 : v131_12 = v108_7 := by rw [hv131_1, hv119_2, zu_s]
      refine lv_iload hx hb dL_does_134 (lv_at hl 0 rfl) ?_
      refine z_icne (tgt := 143) hx hb ⟨by omega, by omega⟩ ⟨by omega, by omega⟩ dL_does_136 (by decide) (fun c_136 => ?_) (fun c_136 => ?_)
      · exfalso; omega
      · refine lv_iconst (v := zI 1) hx hb dL_does_139 rfl ?_
        refine lv_goto (tgt := 144) hx hb dL_does_140 (by decide) ?_
        refine W.eq (g2 := F0 m 144 ls [.int (bI true)]) rfl ?_
        exact z_zret hC hr hlk hQ hP hD hS ⟨h119_8, old, ch, s119_9, sl9, tk, c119_10, nx, dr, qu, wt, qu5, hi8, fe, se, gn, fp, sp, np, tot, clo, lon, wy, lv, true, (by first | rfl | assumption | exact hv178_0 | exact hv248_0 | exact hv259_0), (by first | exact hh2 | exact hv178_1 | exact hv248_1 | exact hv259_1 | exact hh), (by first | exact hct | exact hv178_2 | exact hv248_2 | exact hv259_2 | (rw [hv119_4]; exact svC_b hct) | (rw [hv197_3]; exact svC_b hct)), rfl, rfl⟩ dL_does_144
  have HJ_145 : ∀ (H : Heap) (locs : List Loc) (hP : va_P D vwCl (wH α γ (h, old, ch) (wt, qu5) (hi8, fe, se, gn, fp, sp, np, tot, clo, lon) (nx, dr, qu) (wy, lv) ct sg od (sv, sl9, tk, ct9)) H) (hD : va_D A (wH α γ (h, old, ch) (wt, qu5) (hi8, fe, se, gn, fp, sp, np, tot, clo, lon) (nx, dr, qu) (wy, lv) ct sg od (sv, sl9, tk, ct9))) (hS : va_S A s.heap H locs) (ls : Array Slot) (hl : lv_has ls 10 [(4, .int (zI v15_4)), (3, .int (zI v5_2)), (0, .ref (α 0)), (1, .int (zI v9)), (2, .int (zI w9))]), W pg l e rm_L_does s m args below meth c H locs 0 0 Q (F0 m 145 ls []) := by
    intro H locs hP hD hS ls hl
    refine lv_aload_n hx hb dL_does_145 rfl (lv_at hl 2 rfl) ?_
    refine lv_iload_n hx hb dL_does_146 rfl (lv_at hl 1 rfl) ?_
    refine lv_iload hx hb dL_does_147 (lv_at hl 0 rfl) ?_
    refine lv_iload_n hx hb dL_does_149 rfl (lv_at hl 4 rfl) ?_
    refine lv_iconst (v := zI 1) hx hb dL_does_150 rfl ?_
    refine z_iandC hx hb (by decide) dL_does_151 (fun x151_13 hx151_13 => ?_)
    refine z_ifne (tgt := 168) hx hb ⟨by omega, by omega⟩ dL_does_152 (by decide) (fun c_152 => ?_) (fun c_152 => ?_)
    · refine lv_iconst (v := zI (-1)) hx hb dL_does_168 rfl ?_
      refine lv_iload_n hx hb dL_does_169 rfl (lv_at hl 4 rfl) ?_
      refine lv_iconst (v := zI 1) hx hb dL_does_170 rfl ?_
      refine z_ishrA hx hb dL_does_171 (fun x171_14 hx171_14 => ?_)
      refine lv_bipush (v := zI 60) hx hb dL_does_172 (zI_b8 (by decide)) ?_
      refine z_calli hP hD hS hA (va_runS (As := [.int (zI x171_14), .int (zI 60)]) (rest := [.int (zI (-1)), .int (zI v15_4), .int (zI v5_2), .ref (α 0)]) hC (c_L_low l D τ _ _ x171_14 60 (by first | assumption | rfl | omega) _) (va_cwS 2 hts (gS hB wl_L_14 wt_L_low wi_L wc_L_low) rfl rfl rfl hd_L_low.2 ⟨Nat.le_of_ble_eq_true rfl, Nat.le_of_ble_eq_true rfl⟩) (zp_S hK hP hD hS hA hG) rfl rfl hl.1 rfl (lv_room (Nat.le_of_ble_eq_true rfl)) dL_does_174 ⟨Nat.le_of_ble_eq_true rfl, Nat.le_of_ble_eq_true rfl⟩) (fun r w1 H locs hq9 hP hD hS => ?_)
      obtain ⟨v174_15, hv174_0, rfl, rfl⟩ := hq9
      try simp only [e7] at hv174_0
      refine z_isub hx hb dL_does_177 ?_
      refine z_calli hP hD hS hA (va_runS (As := [.ref (α 0), .int (zI v5_2), .int (zI v15_4), .int (zI ((-1) - v174_15))]) (rest := []) hC (c_L_isHeaped l D τ α γ h old ch (wt, qu5) (hi8, fe, se, gn, fp, sp, np, tot, clo, lon) (nx, dr, qu) (wy, lv) ct sg od sv sl9 tk ct9 v5_2 v15_4 ((-1) - v174_15) (by first | assumption | rfl | omega) (by first | assumption | rfl | omega) (by first | assumption | rfl | omega) (by first | assumption | rfl | omega) (by first | assumption | rfl | omega) _) (va_cwS 4 hts (gS hB wl_L_23 wt_L_isHeaped wi_L wc_L_isHeaped) rfl rfl rfl hd_L_isHeaped.2 ⟨Nat.le_of_ble_eq_true rfl, Nat.le_of_ble_eq_true rfl⟩) (zp_S hK hP hD hS hA hG) rfl rfl hl.1 rfl (lv_room (Nat.le_of_ble_eq_true rfl)) dL_does_178 ⟨Nat.le_of_ble_eq_true rfl, Nat.le_of_ble_eq_true rfl⟩) (fun r w1 H locs hq9 hP hD hS => ?_)
      obtain ⟨h_p178_16, old_p178_17, ch_p178_18, sv_p178_19, sl9_p178_20, tk_p178_21, ct9_p178_22, v178_23, hv178_0, hv178_1, hv178_2, rfl, rfl⟩ := hq9
      try simp only [e7] at hv178_0
      try simp only [e7] at hv178_1
      try simp only [e7] at hv178_2
      have hP : va_P D vwCl (wH α γ (h_p178_16, old_p178_17, ch_p178_18) (wt, qu5) (hi8, fe, se, gn, fp, sp, np, tot, clo, lon) (nx, dr, qu) (wy, lv) ct sg od (sv_p178_19, sl9_p178_20, tk_p178_21, ct9_p178_22)) H := hP
      have hD : va_D A (wH α γ (h_p178_16, old_p178_17, ch_p178_18) (wt, qu5) (hi8, fe, se, gn, fp, sp, np, tot, clo, lon) (nx, dr, qu) (wy, lv) ct sg od (sv_p178_19, sl9_p178_20, tk_p178_21, ct9_p178_22)) := hD
      exact z_zret hC hr hlk hQ hP hD hS ⟨h_p178_16, old_p178_17, ch_p178_18, sv_p178_19, sl9_p178_20, tk_p178_21, ct9_p178_22, nx, dr, qu, wt, qu5, hi8, fe, se, gn, fp, sp, np, tot, clo, lon, wy, lv, v178_23, (by first | rfl | assumption | exact hv178_0 | exact hv248_0 | exact hv259_0), (by first | exact hh2 | exact hv178_1 | exact hv248_1 | exact hv259_1 | exact hh), (by first | exact hct | exact hv178_2 | exact hv248_2 | exact hv259_2 | (rw [hv119_4]; exact svC_b hct) | (rw [hv197_3]; exact svC_b hct)), rfl, rfl⟩ dL_does_181
    · refine lv_iconst (v := zI 1) hx hb dL_does_155 rfl ?_
      refine lv_iload_n hx hb dL_does_156 rfl (lv_at hl 4 rfl) ?_
      refine lv_iconst (v := zI 1) hx hb dL_does_157 rfl ?_
      refine z_ishrA hx hb dL_does_158 (fun x158_24 hx158_24 => ?_)
      refine lv_bipush (v := zI 60) hx hb dL_does_159 (zI_b8 (by decide)) ?_
      refine z_calli hP hD hS hA (va_runS (As := [.int (zI x158_24), .int (zI 60)]) (rest := [.int (zI 1), .int (zI v15_4), .int (zI v5_2), .ref (α 0)]) hC (c_L_low l D τ _ _ x158_24 60 (by first | assumption | rfl | omega) _) (va_cwS 2 hts (gS hB wl_L_14 wt_L_low wi_L wc_L_low) rfl rfl rfl hd_L_low.2 ⟨Nat.le_of_ble_eq_true rfl, Nat.le_of_ble_eq_true rfl⟩) (zp_S hK hP hD hS hA hG) rfl rfl hl.1 rfl (lv_room (Nat.le_of_ble_eq_true rfl)) dL_does_161 ⟨Nat.le_of_ble_eq_true rfl, Nat.le_of_ble_eq_true rfl⟩) (fun r w1 H locs hq9 hP hD hS => ?_)
      obtain ⟨v161_25, hv161_0, rfl, rfl⟩ := hq9
      try simp only [e7] at hv161_0
      refine z_iadd hx hb dL_does_164 ?_
      refine lv_goto (tgt := 178) hx hb dL_does_165 (by decide) ?_
      refine z_calli hP hD hS hA (va_runS (As := [.ref (α 0), .int (zI v5_2), .int (zI v15_4), .int (zI (1 + v161_25))]) (rest := []) hC (c_L_isHeaped l D τ α γ h old ch (wt, qu5) (hi8, fe, se, gn, fp, sp, np, tot, clo, lon) (nx, dr, qu) (wy, lv) ct sg od sv sl9 tk ct9 v5_2 v15_4 (1 + v161_25) (by first | assumption | rfl | omega) (by first | assumption | rfl | omega) (by first | assumption | rfl | omega) (by first | assumption | rfl | omega) (by first | assumption | rfl | omega) _) (va_cwS 4 hts (gS hB wl_L_23 wt_L_isHeaped wi_L wc_L_isHeaped) rfl rfl rfl hd_L_isHeaped.2 ⟨Nat.le_of_ble_eq_true rfl, Nat.le_of_ble_eq_true rfl⟩) (zp_S hK hP hD hS hA hG) rfl rfl hl.1 rfl (lv_room (Nat.le_of_ble_eq_true rfl)) dL_does_178 ⟨Nat.le_of_ble_eq_true rfl, Nat.le_of_ble_eq_true rfl⟩) (fun r w1 H locs hq9 hP hD hS => ?_)
      obtain ⟨h_p178_26, old_p178_27, ch_p178_28, sv_p178_29, sl9_p178_30, tk_p178_31, ct9_p178_32, v178_33, hv178_0, hv178_1, hv178_2, rfl, rfl⟩ := hq9
      try simp only [e7] at hv178_0
      try simp only [e7] at hv178_1
      try simp only [e7] at hv178_2
      have hP : va_P D vwCl (wH α γ (h_p178_26, old_p178_27, ch_p178_28) (wt, qu5) (hi8, fe, se, gn, fp, sp, np, tot, clo, lon) (nx, dr, qu) (wy, lv) ct sg od (sv_p178_29, sl9_p178_30, tk_p178_31, ct9_p178_32)) H := hP
      have hD : va_D A (wH α γ (h_p178_26, old_p178_27, ch_p178_28) (wt, qu5) (hi8, fe, se, gn, fp, sp, np, tot, clo, lon) (nx, dr, qu) (wy, lv) ct sg od (sv_p178_29, sl9_p178_30, tk_p178_31, ct9_p178_32)) := hD
      exact z_zret hC hr hlk hQ hP hD hS ⟨h_p178_26, old_p178_27, ch_p178_28, sv_p178_29, sl9_p178_30, tk_p178_31, ct9_p178_32, nx, dr, qu, wt, qu5, hi8, fe, se, gn, fp, sp, np, tot, clo, lon, wy, lv, v178_33, (by first | rfl | assumption | exact hv178_0 | exact hv248_0 | exact hv259_0), (by first | exact hh2 | exact hv178_1 | exact hv248_1 | exact hv259_1 | exact hh), (by first | exact hct | exact hv178_2 | exact hv248_2 | exact hv259_2 | (rw [hv119_4]; exact svC_b hct) | (rw [hv197_3]; exact svC_b hct)), rfl, rfl⟩ dL_does_181
  have HJ_240 : ∀ (H : Heap) (locs : List Loc) (hP : va_P D vwCl (wH α γ (h, old, ch) (wt, qu5) (hi8, fe, se, gn, fp, sp, np, tot, clo, lon) (nx, dr, qu) (wy, lv) ct sg od (sv, sl9, tk, ct9)) H) (hD : va_D A (wH α γ (h, old, ch) (wt, qu5) (hi8, fe, se, gn, fp, sp, np, tot, clo, lon) (nx, dr, qu) (wy, lv) ct sg od (sv, sl9, tk, ct9))) (hS : va_S A s.heap H locs) (ls : Array Slot) (hl : lv_has ls 10 [(4, .int (zI v15_4)), (3, .int (zI v5_2)), (0, .ref (α 0)), (1, .int (zI v9)), (2, .int (zI w9))]), W pg l e rm_L_does s m args below meth c H locs 0 0 Q (F0 m 240 ls []) := by
    intro H locs hP hD hS ls hl
    refine lv_aload_n hx hb dL_does_240 rfl (lv_at hl 2 rfl) ?_
    refine lv_iconst (v := zI 1) hx hb dL_does_241 rfl ?_
    refine lv_iload_n hx hb dL_does_242 rfl (lv_at hl 4 rfl) ?_
    refine lv_iconst (v := zI 4) hx hb dL_does_243 rfl ?_
    refine z_calli hP hD hS hA (va_runS (As := [.int (zI w9), .int (zI 4)]) (rest := [.int (zI 1), .ref (α 0)]) hC (c_L_low l D τ _ _ w9 4 (by first | assumption | rfl | omega) _) (va_cwS 2 hts (gS hB wl_L_14 wt_L_low wi_L wc_L_low) rfl rfl rfl hd_L_low.2 ⟨Nat.le_of_ble_eq_true rfl, Nat.le_of_ble_eq_true rfl⟩) (zp_S hK hP hD hS hA hG) rfl rfl hl.1 rfl (lv_room (Nat.le_of_ble_eq_true rfl)) dL_does_244 ⟨Nat.le_of_ble_eq_true rfl, Nat.le_of_ble_eq_true rfl⟩) (fun r w1 H locs hq9 hP hD hS => ?_)
    obtain ⟨v244_34, hv244_0, rfl, rfl⟩ := hq9
    try simp only [e7] at hv244_0
    refine z_iadd hx hb dL_does_247 ?_
    refine z_calli hP hD hS hA (va_runS (As := [.ref (α 0), .int (zI (1 + v244_34))]) (rest := []) hC (c_L_isWashed l D τ α γ h old ch (wt, qu5) (hi8, fe, se, gn, fp, sp, np, tot, clo, lon) nx dr qu (wy, lv) ct sg od sv sl9 tk ct9 (1 + v244_34) (by first | assumption | rfl | omega) (by first | assumption | rfl | omega) (by first | assumption | rfl | omega) _) (va_cwS 2 hts (gS hB wl_L_35 wt_L_isWashed wi_L wc_L_isWashed) rfl rfl rfl hd_L_isWashed.2 ⟨Nat.le_of_ble_eq_true rfl, Nat.le_of_ble_eq_true rfl⟩) (zp_S hK hP hD hS hA hG) rfl rfl hl.1 rfl (lv_room (Nat.le_of_ble_eq_true rfl)) dL_does_248 ⟨Nat.le_of_ble_eq_true rfl, Nat.le_of_ble_eq_true rfl⟩) (fun r w1 H locs hq9 hP hD hS => ?_)
    obtain ⟨h_p248_35, old_p248_36, ch_p248_37, sv_p248_38, sl9_p248_39, tk_p248_40, ct9_p248_41, nx_p248_42, dr_p248_43, qu_p248_44, v248_45, hv248_0, hv248_1, hv248_2, rfl, rfl⟩ := hq9
    try simp only [e7] at hv248_0
    try simp only [e7] at hv248_1
    try simp only [e7] at hv248_2
    have hP : va_P D vwCl (wH α γ (h_p248_35, old_p248_36, ch_p248_37) (wt, qu5) (hi8, fe, se, gn, fp, sp, np, tot, clo, lon) (nx_p248_42, dr_p248_43, qu_p248_44) (wy, lv) ct sg od (sv_p248_38, sl9_p248_39, tk_p248_40, ct9_p248_41)) H := hP
    have hD : va_D A (wH α γ (h_p248_35, old_p248_36, ch_p248_37) (wt, qu5) (hi8, fe, se, gn, fp, sp, np, tot, clo, lon) (nx_p248_42, dr_p248_43, qu_p248_44) (wy, lv) ct sg od (sv_p248_38, sl9_p248_39, tk_p248_40, ct9_p248_41)) := hD
    exact z_zret hC hr hlk hQ hP hD hS ⟨h_p248_35, old_p248_36, ch_p248_37, sv_p248_38, sl9_p248_39, tk_p248_40, ct9_p248_41, nx_p248_42, dr_p248_43, qu_p248_44, wt, qu5, hi8, fe, se, gn, fp, sp, np, tot, clo, lon, wy, lv, v248_45, (by first | rfl | assumption | exact hv178_0 | exact hv248_0 | exact hv259_0), (by first | exact hh2 | exact hv178_1 | exact hv248_1 | exact hv259_1 | exact hh), (by first | exact hct | exact hv178_2 | exact hv248_2 | exact hv259_2 | (rw [hv119_4]; exact svC_b hct) | (rw [hv197_3]; exact svC_b hct)), rfl, rfl⟩ dL_does_251
  by_cases c_24_0 : x23_5 = 0
  · refine z_tabIn (off := 72) (tgt := 96) hx hb ⟨by omega, by omega⟩ dL_does_24 (by omega) (by rw [c_24_0]; rfl) (by decide) ?_
    exact HJ_96  _ _ hP hD hS _ (lv_sub hl [0, 1, 2, 3, 4] rfl) 
  by_cases c_24_1 : x23_5 = 1
  · refine z_tabIn (off := 72) (tgt := 96) hx hb ⟨by omega, by omega⟩ dL_does_24 (by omega) (by rw [c_24_1]; rfl) (by decide) ?_
    exact HJ_96  _ _ hP hD hS _ (lv_sub hl [0, 1, 2, 3, 4] rfl) 
  by_cases c_24_2 : x23_5 = 2
  · refine z_tabIn (off := 72) (tgt := 96) hx hb ⟨by omega, by omega⟩ dL_does_24 (by omega) (by rw [c_24_2]; rfl) (by decide) ?_
    exact HJ_96  _ _ hP hD hS _ (lv_sub hl [0, 1, 2, 3, 4] rfl) 
  by_cases c_24_3 : x23_5 = 3
  · refine z_tabIn (off := 121) (tgt := 145) hx hb ⟨by omega, by omega⟩ dL_does_24 (by omega) (by rw [c_24_3]; rfl) (by decide) ?_
    exact HJ_145  _ _ hP hD hS _ (lv_sub hl [0, 1, 2, 3, 4] rfl) 
  by_cases c_24_4 : x23_5 = 4
  · refine z_tabIn (off := 121) (tgt := 145) hx hb ⟨by omega, by omega⟩ dL_does_24 (by omega) (by rw [c_24_4]; rfl) (by decide) ?_
    exact HJ_145  _ _ hP hD hS _ (lv_sub hl [0, 1, 2, 3, 4] rfl) 
  by_cases c_24_5 : x23_5 = 5
  · refine z_tabIn (off := 121) (tgt := 145) hx hb ⟨by omega, by omega⟩ dL_does_24 (by omega) (by rw [c_24_5]; rfl) (by decide) ?_
    exact HJ_145  _ _ hP hD hS _ (lv_sub hl [0, 1, 2, 3, 4] rfl) 
  by_cases c_24_6 : x23_5 = 6
  · refine z_tabIn (off := 121) (tgt := 145) hx hb ⟨by omega, by omega⟩ dL_does_24 (by omega) (by rw [c_24_6]; rfl) (by decide) ?_
    exact HJ_145  _ _ hP hD hS _ (lv_sub hl [0, 1, 2, 3, 4] rfl) 
  by_cases c_24_7 : x23_5 = 7
  · refine z_tabIn (off := 121) (tgt := 145) hx hb ⟨by omega, by omega⟩ dL_does_24 (by omega) (by rw [c_24_7]; rfl) (by decide) ?_
    exact HJ_145  _ _ hP hD hS _ (lv_sub hl [0, 1, 2, 3, 4] rfl) 
  by_cases c_24_8 : x23_5 = 8
  · refine z_tabIn (off := 121) (tgt := 145) hx hb ⟨by omega, by omega⟩ dL_does_24 (by omega) (by rw [c_24_8]; rfl) (by decide) ?_
    exact HJ_145  _ _ hP hD hS _ (lv_sub hl [0, 1, 2, 3, 4] rfl) 
  by_cases c_24_9 : x23_5 = 9
  · refine z_tabIn (off := 158) (tgt := 182) hx hb ⟨by omega, by omega⟩ dL_does_24 (by omega) (by rw [c_24_9]; rfl) (by decide) ?_
    refine lv_aload_n hx hb dL_does_182 rfl (lv_at hl 2 rfl) ?_
    refine lv_iconst (v := zI 0) hx hb dL_does_183 rfl ?_
    refine z_calli hP hD hS hA (va_runS (As := [.ref (α 0), .int (bI false)]) (rest := []) hC (c_L_extreme l D τ α γ h old ch (wt, qu5) (hi8, fe, se, gn, fp, sp, np, tot, clo, lon) (nx, dr, qu) (wy, lv) ct sg od (sv, sl9, tk, ct9) false (by first | assumption | rfl | omega) _) (va_cwS 2 hts (gS hB wl_L_27 wt_L_extreme wi_L wc_L_extreme) rfl rfl rfl hd_L_extreme.2 ⟨Nat.le_of_ble_eq_true rfl, Nat.le_of_ble_eq_true rfl⟩) (zp_S hK hP hD hS hA hG) rfl rfl hl.1 rfl (lv_room (Nat.le_of_ble_eq_true rfl)) dL_does_184 ⟨Nat.le_of_ble_eq_true rfl, Nat.le_of_ble_eq_true rfl⟩) (fun r w1 H locs hq9 hP hD hS => ?_)
    obtain ⟨v184_46, hv184_0, hv184_1, hv184_2, hv184_3, rfl, rfl⟩ := hq9
    try simp only [e7] at hv184_0
    try simp only [e7] at hv184_1
    try simp only [e7] at hv184_2
    try simp only [e7] at hv184_3
    have hP : va_P D vwCl (wH α γ (h, old, ch) (wt, qu5) (hi8, fe, se, gn, fp, sp, np, tot, clo, lon) (nx, dr, qu) (wy, lv) ct sg od (sv, sl9, tk, ct9)) H := hP
    have hD : va_D A (wH α γ (h, old, ch) (wt, qu5) (hi8, fe, se, gn, fp, sp, np, tot, clo, lon) (nx, dr, qu) (wy, lv) ct sg od (sv, sl9, tk, ct9)) := hD
    refine lv_istore (lv' := [(7, .int (zI v184_46)), (4, .int (zI v15_4)), (3, .int (zI v5_2)), (0, .ref (α 0)), (1, .int (zI v9)), (2, .int (zI w9))]) hx hb dL_does_187 hl (by decide) rfl (fun ls hl => ?_)
    refine lv_aload_n hx hb dL_does_189 rfl (lv_at hl 3 rfl) ?_
    refine lv_iconst (v := zI 1) hx hb dL_does_190 rfl ?_
    refine z_calli hP hD hS hA (va_runS (As := [.ref (α 0), .int (bI true)]) (rest := []) hC (c_L_extreme l D τ α γ h old ch (wt, qu5) (hi8, fe, se, gn, fp, sp, np, tot, clo, lon) (nx, dr, qu) (wy, lv) ct sg od (sv, sl9, tk, ct9) true (by first | assumption | rfl | omega) _) (va_cwS 2 hts (gS hB wl_L_27 wt_L_extreme wi_L wc_L_extreme) rfl rfl rfl hd_L_extreme.2 ⟨Nat.le_of_ble_eq_true rfl, Nat.le_of_ble_eq_true rfl⟩) (zp_S hK hP hD hS hA hG) rfl rfl hl.1 rfl (lv_room (Nat.le_of_ble_eq_true rfl)) dL_does_191 ⟨Nat.le_of_ble_eq_true rfl, Nat.le_of_ble_eq_true rfl⟩) (fun r w1 H locs hq9 hP hD hS => ?_)
    obtain ⟨v191_47, hv191_0, hv191_1, hv191_2, hv191_3, rfl, rfl⟩ := hq9
    try simp only [e7] at hv191_0
    try simp only [e7] at hv191_1
    try simp only [e7] at hv191_2
    try simp only [e7] at hv191_3
    have hP : va_P D vwCl (wH α γ (h, old, ch) (wt, qu5) (hi8, fe, se, gn, fp, sp, np, tot, clo, lon) (nx, dr, qu) (wy, lv) ct sg od (sv, sl9, tk, ct9)) H := hP
    have hD : va_D A (wH α γ (h, old, ch) (wt, qu5) (hi8, fe, se, gn, fp, sp, np, tot, clo, lon) (nx, dr, qu) (wy, lv) ct sg od (sv, sl9, tk, ct9)) := hD
    refine lv_istore (lv' := [(8, .int (zI v191_47)), (7, .int (zI v184_46)), (4, .int (zI v15_4)), (3, .int (zI v5_2)), (0, .ref (α 0)), (1, .int (zI v9)), (2, .int (zI w9))]) hx hb dL_does_194 hl (by decide) rfl (fun ls hl => ?_)
    refine lv_aload_n hx hb dL_does_196 rfl (lv_at hl 4 rfl) ?_
    refine z_calli hP hD hS hA (va_runV (As := []) (rest := []) hC (c_X9_smooth l D τ α γ h old ch (wt, qu5) (hi8, fe, se, gn, fp, sp, np, tot, clo, lon) (nx, dr, qu) (wy, lv) ct sg od sv sl9 tk ct9 (by first | assumption | rfl | omega) (by first | assumption | rfl | omega) _) (cwV 0 hts (gV hB wl_L_31 wn_X9_smooth ws_X9_smooth wi_X9 wc_X9_smooth) rfl rfl rfl hd_X9_smooth ⟨Nat.le_of_ble_eq_true rfl, Nat.le_of_ble_eq_true rfl⟩) (zp_V hK hP hD hS hA hG (ci := 9) (q0 := 0) rfl rfl rfl) rfl rfl hl.1 rfl (lv_room (Nat.le_of_ble_eq_true rfl)) dL_does_197 ⟨Nat.le_of_ble_eq_true rfl, Nat.le_of_ble_eq_true rfl⟩) (fun r w1 H locs hq9 hP hD hS => ?_)
    obtain ⟨h197_48, o197_49, s197_50, c197_51, v197_52, hv197_0, hv197_1, hv197_2, hv197_3, rfl, rfl⟩ := hq9
    try simp only [e7] at hv197_0
    try simp only [e7] at hv197_1
    try simp only [e7] at hv197_2
    try simp only [e7] at hv197_3
    have hP : va_P D vwCl (wH α γ (h197_48, o197_49, ch) (wt, qu5) (hi8, fe, se, gn, fp, sp, np, tot, clo, lon) (nx, dr, qu) (wy, lv) ct sg od (s197_50, sl9, tk, c197_51)) H := hP
    have hD : va_D A (wH α γ (h197_48, o197_49, ch) (wt, qu5) (hi8, fe, se, gn, fp, sp, np, tot, clo, lon) (nx, dr, qu) (wy, lv) ct sg od (s197_50, sl9, tk, c197_51)) := hD
    have hh2 : ∀ k, 0 ≤ k → k < 49 → 0 ≤ h197_48 k ∧ h197_48 k ≤ 99 := by (rw [hv197_1]; exact smooth_hh hh)
    have b197 := q_diff_b (S_smooth h) h
    rw [← hv197_0] at b197
    have hqs := q_smooth hh (lo := v184_46) (hi := v191_47) (fun k a b => ⟨hv184_2 trivial k a b, hv191_1 trivial k a b⟩)
    rw [← hv197_1] at hqs
    refine lv_istore (lv' := [(9, .int (zI v197_52)), (8, .int (zI v191_47)), (7, .int (zI v184_46)), (4, .int (zI v15_4)), (3, .int (zI v5_2)), (0, .ref (α 0)), (1, .int (zI v9)), (2, .int (zI w9))]) hx hb dL_does_200 hl (by decide) rfl (fun ls hl => ?_)
    refine lv_iload hx hb dL_does_202 (lv_at hl 0 rfl) ?_
    refine z_iflt (tgt := 238) hx hb ⟨by omega, by omega⟩ dL_does_204 (by decide) (fun c_204 => ?_) (fun c_204 => ?_)
    · exfalso; omega
    · refine lv_iload hx hb dL_does_207 (lv_at hl 0 rfl) ?_
      refine lv_bipush (v := zI 49) hx hb dL_does_209 (zI_b8 (by decide)) ?_
      refine z_icgt (tgt := 238) hx hb ⟨by omega, by omega⟩ ⟨by omega, by omega⟩ dL_does_211 (by decide) (fun c_211 => ?_) (fun c_211 => ?_)
      · exfalso; omega
      · refine lv_aload_n hx hb dL_does_214 rfl (lv_at hl 5 rfl) ?_
        refine lv_iconst (v := zI 0) hx hb dL_does_215 rfl ?_
        refine z_calli hP hD hS hA (va_runS (As := [.ref (α 0), .int (bI false)]) (rest := []) hC (c_L_extreme l D τ α γ h197_48 o197_49 ch (wt, qu5) (hi8, fe, se, gn, fp, sp, np, tot, clo, lon) (nx, dr, qu) (wy, lv) ct sg od (s197_50, sl9, tk, c197_51) false (by exact hh2) _) (va_cwS 2 hts (gS hB wl_L_27 wt_L_extreme wi_L wc_L_extreme) rfl rfl rfl hd_L_extreme.2 ⟨Nat.le_of_ble_eq_true rfl, Nat.le_of_ble_eq_true rfl⟩) (zp_S hK hP hD hS hA hG) rfl rfl hl.1 rfl (lv_room (Nat.le_of_ble_eq_true rfl)) dL_does_216 ⟨Nat.le_of_ble_eq_true rfl, Nat.le_of_ble_eq_true rfl⟩) (fun r w1 H locs hq9 hP hD hS => ?_)
        obtain ⟨v216_53, hv216_0, hv216_1, hv216_2, hv216_3, rfl, rfl⟩ := hq9
        try simp only [e7] at hv216_0
        try simp only [e7] at hv216_1
        try simp only [e7] at hv216_2
        try simp only [e7] at hv216_3
        have hP : va_P D vwCl (wH α γ (h197_48, o197_49, ch) (wt, qu5) (hi8, fe, se, gn, fp, sp, np, tot, clo, lon) (nx, dr, qu) (wy, lv) ct sg od (s197_50, sl9, tk, c197_51)) H := hP
        have hD : va_D A (wH α γ (h197_48, o197_49, ch) (wt, qu5) (hi8, fe, se, gn, fp, sp, np, tot, clo, lon) (nx, dr, qu) (wy, lv) ct sg od (s197_50, sl9, tk, c197_51)) := hD
        obtain ⟨k9, k9a, k9b, k9c⟩ := hv216_0
        have z9 := hqs k9 k9a k9b
        refine lv_iload hx hb dL_does_219 (lv_at hl 2 rfl) ?_
        refine z_iclt (tgt := 238) hx hb ⟨by omega, by omega⟩ ⟨by omega, by omega⟩ dL_does_221 (by decide) (fun c_221 => ?_) (fun c_221 => ?_)
        · exfalso; omega
        · refine lv_aload_n hx hb dL_does_224 rfl (lv_at hl 5 rfl) ?_
          refine lv_iconst (v := zI 1) hx hb dL_does_225 rfl ?_
          refine z_calli hP hD hS hA (va_runS (As := [.ref (α 0), .int (bI true)]) (rest := []) hC (c_L_extreme l D τ α γ h197_48 o197_49 ch (wt, qu5) (hi8, fe, se, gn, fp, sp, np, tot, clo, lon) (nx, dr, qu) (wy, lv) ct sg od (s197_50, sl9, tk, c197_51) true (by exact hh2) _) (va_cwS 2 hts (gS hB wl_L_27 wt_L_extreme wi_L wc_L_extreme) rfl rfl rfl hd_L_extreme.2 ⟨Nat.le_of_ble_eq_true rfl, Nat.le_of_ble_eq_true rfl⟩) (zp_S hK hP hD hS hA hG) rfl rfl hl.1 rfl (lv_room (Nat.le_of_ble_eq_true rfl)) dL_does_226 ⟨Nat.le_of_ble_eq_true rfl, Nat.le_of_ble_eq_true rfl⟩) (fun r w1 H locs hq9 hP hD hS => ?_)
          obtain ⟨v226_54, hv226_0, hv226_1, hv226_2, hv226_3, rfl, rfl⟩ := hq9
          try simp only [e7] at hv226_0
          try simp only [e7] at hv226_1
          try simp only [e7] at hv226_2
          try simp only [e7] at hv226_3
          have hP : va_P D vwCl (wH α γ (h197_48, o197_49, ch) (wt, qu5) (hi8, fe, se, gn, fp, sp, np, tot, clo, lon) (nx, dr, qu) (wy, lv) ct sg od (s197_50, sl9, tk, c197_51)) H := hP
          have hD : va_D A (wH α γ (h197_48, o197_49, ch) (wt, qu5) (hi8, fe, se, gn, fp, sp, np, tot, clo, lon) (nx, dr, qu) (wy, lv) ct sg od (s197_50, sl9, tk, c197_51)) := hD
          obtain ⟨k8, k8a, k8b, k8c⟩ := hv226_0
          have z8 := hqs k8 k8a k8b
          refine lv_iload hx hb dL_does_229 (lv_at hl 1 rfl) ?_
          refine z_icgt (tgt := 238) hx hb ⟨by omega, by omega⟩ ⟨by omega, by omega⟩ dL_does_231 (by decide) (fun c_231 => ?_) (fun c_231 => ?_)
          · exfalso; omega
          · refine lv_iconst (v := zI 1) hx hb dL_does_234 rfl ?_
            refine lv_goto (tgt := 239) hx hb dL_does_235 (by decide) ?_
            refine W.eq (g2 := F0 m 239 ls [.int (bI true)]) rfl ?_
            exact z_zret hC hr hlk hQ hP hD hS ⟨h197_48, o197_49, ch, s197_50, sl9, tk, c197_51, nx, dr, qu, wt, qu5, hi8, fe, se, gn, fp, sp, np, tot, clo, lon, wy, lv, true, (by first | rfl | assumption | exact hv178_0 | exact hv248_0 | exact hv259_0), (by first | exact hh2 | exact hv178_1 | exact hv248_1 | exact hv259_1 | exact hh), (by first | exact hct | exact hv178_2 | exact hv248_2 | exact hv259_2 | (rw [hv119_4]; exact svC_b hct) | (rw [hv197_3]; exact svC_b hct)), rfl, rfl⟩ dL_does_239
  by_cases c_24_10 : x23_5 = 10
  · refine z_tabIn (off := 216) (tgt := 240) hx hb ⟨by omega, by omega⟩ dL_does_24 (by omega) (by rw [c_24_10]; rfl) (by decide) ?_
    exact HJ_240  _ _ hP hD hS _ (lv_sub hl [0, 1, 2, 3, 4] rfl) 
  by_cases c_24_11 : x23_5 = 11
  · refine z_tabIn (off := 216) (tgt := 240) hx hb ⟨by omega, by omega⟩ dL_does_24 (by omega) (by rw [c_24_11]; rfl) (by decide) ?_
    exact HJ_240  _ _ hP hD hS _ (lv_sub hl [0, 1, 2, 3, 4] rfl) 
  by_cases c_24_12 : x23_5 = 12
  · refine z_tabIn (off := 216) (tgt := 240) hx hb ⟨by omega, by omega⟩ dL_does_24 (by omega) (by rw [c_24_12]; rfl) (by decide) ?_
    exact HJ_240  _ _ hP hD hS _ (lv_sub hl [0, 1, 2, 3, 4] rfl) 
  by_cases c_24_13 : x23_5 = 13
  · refine z_tabIn (off := 228) (tgt := 252) hx hb ⟨by omega, by omega⟩ dL_does_24 (by omega) (by rw [c_24_13]; rfl) (by decide) ?_
    refine lv_aload_n hx hb dL_does_252 rfl (lv_at hl 2 rfl) ?_
    refine lv_iload_n hx hb dL_does_253 rfl (lv_at hl 4 rfl) ?_
    refine lv_bipush (v := zI 99) hx hb dL_does_254 (zI_b8 (by decide)) ?_
    refine z_calli hP hD hS hA (va_runS (As := [.int (zI w9), .int (zI 99)]) (rest := [.ref (α 0)]) hC (c_L_low l D τ _ _ w9 99 (by first | assumption | rfl | omega) _) (va_cwS 2 hts (gS hB wl_L_14 wt_L_low wi_L wc_L_low) rfl rfl rfl hd_L_low.2 ⟨Nat.le_of_ble_eq_true rfl, Nat.le_of_ble_eq_true rfl⟩) (zp_S hK hP hD hS hA hG) rfl rfl hl.1 rfl (lv_room (Nat.le_of_ble_eq_true rfl)) dL_does_256 ⟨Nat.le_of_ble_eq_true rfl, Nat.le_of_ble_eq_true rfl⟩) (fun r w1 H locs hq9 hP hD hS => ?_)
    obtain ⟨v256_55, hv256_0, rfl, rfl⟩ := hq9
    try simp only [e7] at hv256_0
    refine z_calli hP hD hS hA (va_runS (As := [.ref (α 0), .int (zI v256_55)]) (rest := []) hC (c_L_isTurned l D τ α γ h old ch wt qu5 hi8 fe se gn fp sp np tot clo lon (nx, dr, qu) wy lv ct sg od sv sl9 tk ct9 v256_55 (by first | assumption | rfl | omega) (by first | assumption | rfl | omega) (by first | assumption | rfl | omega) _) (va_cwS 2 hts (gS hB wl_L_39 wt_L_isTurned wi_L wc_L_isTurned) rfl rfl rfl hd_L_isTurned.2 ⟨Nat.le_of_ble_eq_true rfl, Nat.le_of_ble_eq_true rfl⟩) (zp_S hK hP hD hS hA hG) rfl rfl hl.1 rfl (lv_room (Nat.le_of_ble_eq_true rfl)) dL_does_259 ⟨Nat.le_of_ble_eq_true rfl, Nat.le_of_ble_eq_true rfl⟩) (fun r w1 H locs hq9 hP hD hS => ?_)
    obtain ⟨h_p259_56, old_p259_57, ch_p259_58, sv_p259_59, sl9_p259_60, tk_p259_61, ct9_p259_62, wt_p259_63, qu5_p259_64, hi8_p259_65, fe_p259_66, se_p259_67, gn_p259_68, fp_p259_69, sp_p259_70, np_p259_71, tot_p259_72, clo_p259_73, lon_p259_74, wy_p259_75, lv_p259_76, v259_77, hv259_0, hv259_1, hv259_2, rfl, rfl⟩ := hq9
    try simp only [e7] at hv259_0
    try simp only [e7] at hv259_1
    try simp only [e7] at hv259_2
    have hP : va_P D vwCl (wH α γ (h_p259_56, old_p259_57, ch_p259_58) (wt_p259_63, qu5_p259_64) (hi8_p259_65, fe_p259_66, se_p259_67, gn_p259_68, fp_p259_69, sp_p259_70, np_p259_71, tot_p259_72, clo_p259_73, lon_p259_74) (nx, dr, qu) (wy_p259_75, lv_p259_76) ct sg od (sv_p259_59, sl9_p259_60, tk_p259_61, ct9_p259_62)) H := hP
    have hD : va_D A (wH α γ (h_p259_56, old_p259_57, ch_p259_58) (wt_p259_63, qu5_p259_64) (hi8_p259_65, fe_p259_66, se_p259_67, gn_p259_68, fp_p259_69, sp_p259_70, np_p259_71, tot_p259_72, clo_p259_73, lon_p259_74) (nx, dr, qu) (wy_p259_75, lv_p259_76) ct sg od (sv_p259_59, sl9_p259_60, tk_p259_61, ct9_p259_62)) := hD
    exact z_zret hC hr hlk hQ hP hD hS ⟨h_p259_56, old_p259_57, ch_p259_58, sv_p259_59, sl9_p259_60, tk_p259_61, ct9_p259_62, nx, dr, qu, wt_p259_63, qu5_p259_64, hi8_p259_65, fe_p259_66, se_p259_67, gn_p259_68, fp_p259_69, sp_p259_70, np_p259_71, tot_p259_72, clo_p259_73, lon_p259_74, wy_p259_75, lv_p259_76, v259_77, (by first | rfl | assumption | exact hv178_0 | exact hv248_0 | exact hv259_0), (by first | exact hh2 | exact hv178_1 | exact hv248_1 | exact hv259_1 | exact hh), (by first | exact hct | exact hv178_2 | exact hv248_2 | exact hv259_2 | (rw [hv119_4]; exact svC_b hct) | (rw [hv197_3]; exact svC_b hct)), rfl, rfl⟩ dL_does_262
  refine z_tabOut (tgt := 263) hx hb ⟨by omega, by omega⟩ dL_does_24 (by omega) (by decide) ?_
  refine lv_iconst (v := zI 1) hx hb dL_does_263 rfl ?_
  refine W.eq (g2 := F0 m 264 ls [.int (bI true)]) rfl ?_
  exact z_zret hC hr hlk hQ hP hD hS ⟨h, old, ch, sv, sl9, tk, ct9, nx, dr, qu, wt, qu5, hi8, fe, se, gn, fp, sp, np, tot, clo, lon, wy, lv, true, (by first | rfl | assumption | exact hv178_0 | exact hv248_0 | exact hv259_0), (by first | exact hh2 | exact hv178_1 | exact hv248_1 | exact hv259_1 | exact hh), (by first | exact hct | exact hv178_2 | exact hv248_2 | exact hv259_2 | (rw [hv119_4]; exact svC_b hct) | (rw [hv197_3]; exact svC_b hct)), rfl, rfl⟩ dL_does_264

