abbrev wz_X4_leastAround : List Cond := .code yX4_leastAround cX4_leastAround 5 (some .int) :: W0
abbrev rm_X4_leastAround : Room := { frames := 2, cells := 0, slots := 0, locals := 42 }
theorem hd_X4_leastAround : yX4_leastAround.cls = RX4 ∧ yX4_leastAround.cls ≠ "java/lang/invoke/MethodHandle" ∧ yX4_leastAround.cls ≠ "java/lang/invoke/VarHandle" ∧ (parseMethodDescriptor yX4_leastAround.desc).map (fun d => d.parameters.length) = some 1 := by decide +kernel
set_option maxHeartbeats 4000000 in
set_option maxRecDepth 100000 in
theorem c_X4_leastAround (l : Launch) (D : va_G) (τ : Nat → Nat) (α : Nat → Nat) (γ : Nat → ClassId) (rl : TRl) (rg : TRg) (ln : TLn) (sl : TSl) (wy : IA) (lv : IA) (ct : TCt) (sg : TSg) (od : TOd) (hs : THs) (p : Int) (hp : 0 ≤ p ∧ p < 49) (hwy : ∀ k, 0 ≤ k → k < 49 → 0 ≤ wy k ∧ wy k ≤ 99) : cM l yX4_leastAround wz_X4_leastAround rm_X4_leastAround D τ (tyH γ) [.ref (α 5), .int (zI p)] (wH α γ rl rg ln sl (wy, lv) ct sg od hs) (zQi (fun r w => ∃ (v : Int), (LA wy p v 4) ∧ (0 ≤ v ∧ v ≤ 99) ∧ r = zI v ∧ wH α γ rl rg ln sl (wy, lv) ct sg od hs = w)) := by
  refine z_ofM (cc := cX4_leastAround) (maxL := 5) (ret := (some .int)) (by decide +kernel) rfl (Nat.le_of_ble_eq_true rfl) ?_
  intro pg e s m args below meth c hC hr hlk hnm hK hP A hD hG hA hS ls hl Q hQ
  have hx := hC.1
  have hb := hC.2.1
  have hml := hC.2.2.1
  have hown := hC.2.2.2.1
  have hts := hC.2.2.2.2
  have hB : ∀ w ∈ W0, w ∈ wz_X4_leastAround := fun _ h => List.mem_cons_of_mem _ h
  have hW0 : ∀ w ∈ W0, w.before args s = true := fun w h => hts w (hB w h)
  have hl : lv_has ls 5 [(0, .ref (α 5)), (1, .int (zI p))] := hl
  refine lv_bipush (v := zI 99) hx hb dX4_leastAround_0 (zI_b8 (by decide)) ?_
  refine lv_istore_n (lv' := [(2, .int (zI 99)), (0, .ref (α 5)), (1, .int (zI p))]) hx hb dX4_leastAround_2 rfl hl (by decide) rfl (fun ls hl => ?_)
  refine lv_iconst (v := zI 0) hx hb dX4_leastAround_3 rfl ?_
  refine lv_istore_n (lv' := [(3, .int (zI 0)), (2, .int (zI 99)), (0, .ref (α 5)), (1, .int (zI p))]) hx hb dX4_leastAround_4 rfl hl (by decide) rfl (fun ls hl => ?_)
  suffices HL_5 : ∀ (n_5 : Nat), ∀ (t : Int) (i : Int) (H : Heap) (locs : List Loc) (hP : va_P D vwCl (wH α γ rl rg ln sl (wy, lv) ct sg od hs) H) (hD : va_D A (wH α γ rl rg ln sl (wy, lv) ct sg od hs)) (hS : va_S A s.heap H locs) (ls : Array Slot) (hl : lv_has ls 5 [(2, .int (zI t)), (3, .int (zI i)), (0, .ref (α 5)), (1, .int (zI p))]) (hi : 0 ≤ i ∧ i ≤ 4) (ht : LA wy p t i) (htb : 0 ≤ t ∧ t ≤ 99) (hm : (4 - i).toNat < n_5), W pg l e rm_X4_leastAround s m args below meth c H locs 0 0 Q (F0 m 5 ls []) from HL_5 _ 99 0 _ _ hP hD hS _ (lv_sub hl [1, 0, 2, 3] rfl) (by first | assumption | rfl | omega) (by exact LA_0 wy p) (by first | assumption | rfl | omega) (Nat.lt_succ_self _)
  intro n_5
  induction n_5 with
  | zero => intro t i H locs hP hD hS ls hl hi ht htb hm; exact absurd hm (Nat.not_lt_zero _)
  | succ n_5 ih_5 =>
    intro t i H locs hP hD hS ls hl hi ht htb hm
    refine lv_iload_n hx hb dX4_leastAround_5 rfl (lv_at hl 1 rfl) ?_
    refine lv_iconst (v := zI 4) hx hb dX4_leastAround_6 rfl ?_
    refine z_icge (tgt := 43) hx hb ⟨by omega, by omega⟩ ⟨by omega, by omega⟩ dX4_leastAround_7 (by decide) (fun c_7 => ?_) (fun c_7 => ?_)
    · refine lv_iload_n hx hb dX4_leastAround_43 rfl (lv_at hl 0 rfl) ?_
      exact z_iret hC hr hlk hQ hP hD hS ⟨t, (by exact (show i = 4 by omega) ▸ ht), (by omega), rfl, rfl⟩ dX4_leastAround_44
    · refine lv_iload_n hx hb dX4_leastAround_10 rfl (lv_at hl 3 rfl) ?_
      refine lv_iload_n hx hb dX4_leastAround_11 rfl (lv_at hl 1 rfl) ?_
      refine z_calli hP hD hS hA (va_runSN (As := [.int (zI p), .int (zI i)]) (rest := []) hC (c_X9_stepFrom l D τ _ _ p i (by first | assumption | rfl | omega) (by first | assumption | rfl | omega) _) ⟨va_cnB 2 hts (gC hB wc_X9_stepFrom) rfl rfl rfl (hG.2.2.2.2.2.2.2 _ (List.mem_of_getElem? (i := 5) rfl)) (hW0 _ wi_X9) hd_X9_stepFrom.2 ⟨Nat.le_of_ble_eq_true rfl, Nat.le_of_ble_eq_true rfl⟩, (hW0 _ wt_X9_stepFrom), trivial⟩ (zp_S hK hP hD hS hA hG) rfl rfl hl.1 rfl (lv_room (Nat.le_of_ble_eq_true rfl)) dX4_leastAround_12 ⟨Nat.le_of_ble_eq_true rfl, Nat.le_of_ble_eq_true rfl⟩) (fun r w1 H locs hq9 hP hD hS => ?_)
      obtain ⟨v12_1, hv12_0, hv12_1, rfl, rfl⟩ := hq9
      refine lv_istore (lv' := [(4, .int (zI v12_1)), (2, .int (zI t)), (3, .int (zI i)), (0, .ref (α 5)), (1, .int (zI p))]) hx hb dX4_leastAround_15 hl (by decide) rfl (fun ls hl => ?_)
      refine lv_iload hx hb dX4_leastAround_17 (lv_at hl 0 rfl) ?_
      refine z_calli hP hD hS hA (va_runSN (As := [.int (zI v12_1)]) (rest := []) hC (c_X9_isPoint l D τ _ _ v12_1 (by first | assumption | rfl | omega) _) ⟨va_cnB 1 hts (gC hB wc_X9_isPoint) rfl rfl rfl (hG.2.2.2.2.2.2.2 _ (List.mem_of_getElem? (i := 6) rfl)) (hW0 _ wi_X9) hd_X9_isPoint.2 ⟨Nat.le_of_ble_eq_true rfl, Nat.le_of_ble_eq_true rfl⟩, (hW0 _ wt_X9_isPoint), trivial⟩ (zp_S hK hP hD hS hA hG) rfl rfl hl.1 rfl (lv_room (Nat.le_of_ble_eq_true rfl)) dX4_leastAround_19 ⟨Nat.le_of_ble_eq_true rfl, Nat.le_of_ble_eq_true rfl⟩) (fun r w1 H locs hq9 hP hD hS => ?_)
      obtain ⟨v19_2, hv19_0, rfl, rfl⟩ := hq9
      refine z_ifeqB (tgt := 37) hx hb dX4_leastAround_22 (by decide) (fun c_22 => ?_) (fun c_22 => ?_)
      · have hb_22 := zb_neg hv19_0 c_22
        refine z_iinc (k := 2) (v := i + 1) (lv' := [(3, .int (zI (i + 1))), (4, .int (zI v12_1)), (2, .int (zI t)), (0, .ref (α 5)), (1, .int (zI p))]) hx hb dX4_leastAround_37 hl rfl rfl (by decide) rfl (fun ls hl => ?_)
        refine lv_goto (tgt := 5) hx hb dX4_leastAround_40 (by decide) ?_
        exact ih_5 t (i + 1) _ _ hP hD hS _ (lv_sub hl [2, 0, 3, 4] rfl) (by first | assumption | rfl | omega) (by first | exact LA_skip ht (by rw [← hv12_0]; omega) | (have z9 := LA_up ht hi.1 (by rw [← hv12_0]; omega); rw [← hv12_0] at z9; rw [hnone_]; exact z9)) (by omega) (by omega)
      · have hb_22 := hv19_0.mp c_22
        refine lv_iload_n hx hb dX4_leastAround_25 rfl (lv_at hl 1 rfl) ?_
        refine lv_aload_n hx hb dX4_leastAround_26 rfl (lv_at hl 3 rfl) ?_
        refine va_get (D := D) (ci := 4) (v := .ref (α 24)) (C := RX4) (T := TX4) (N := 2) hx hb hts (fun w h => List.mem_cons_of_mem _ (wx_X4 w h)) hown hK hP 5 rfl rfl 0 (by decide) (hW0 _ wf_X4_9) (fun _ h9 => h9) rfl dX4_leastAround_27 ?_
        refine lv_iload hx hb dX4_leastAround_30 (lv_at hl 0 rfl) ?_
        refine z_iald (f := wy) hx hb hK hP 24 14 rfl rfl ⟨⟨by omega, by omega⟩, by decide⟩ dX4_leastAround_32 ?_
        have hb_32 := hwy v12_1 (by omega) (by omega)
        refine z_mmin hx hb (hml.trans hl.1.symm) hown (hW0 _ wl_X4_43) (hW0 _ wt_Lib_Math_min_name) (hW0 _ wi_Math) (hW0 _ wc_Lib_Math_min_name) (Nat.le_of_ble_eq_true rfl) (Nat.le_of_ble_eq_true rfl) (Nat.le_of_ble_eq_true rfl) (Nat.le_of_ble_eq_true rfl) ⟨by omega, by omega⟩ ⟨by omega, by omega⟩ dX4_leastAround_33 ?_
        obtain ⟨x33_3, hx33_3⟩ : ∃ z : Int, z = zmin t (wy v12_1) := ⟨_, rfl⟩
        rw [← hx33_3]
        have kx33_3 := zmin_spec t (wy v12_1)
        rw [← hx33_3] at kx33_3
        refine lv_istore_n (lv' := [(2, .int (zI x33_3)), (4, .int (zI v12_1)), (3, .int (zI i)), (0, .ref (α 5)), (1, .int (zI p))]) hx hb dX4_leastAround_36 rfl hl (by decide) rfl (fun ls hl => ?_)
        refine z_iinc (k := 2) (v := i + 1) (lv' := [(3, .int (zI (i + 1))), (2, .int (zI x33_3)), (4, .int (zI v12_1)), (0, .ref (α 5)), (1, .int (zI p))]) hx hb dX4_leastAround_37 hl rfl rfl (by decide) rfl (fun ls hl => ?_)
        refine lv_goto (tgt := 5) hx hb dX4_leastAround_40 (by decide) ?_
        exact ih_5 x33_3 (i + 1) _ _ hP hD hS _ (lv_sub hl [1, 0, 3, 4] rfl) (by first | assumption | rfl | omega) (by first | exact LA_skip ht (by rw [← hv12_0]; omega) | (have z9 := LA_up ht hi.1 (by rw [← hv12_0]; omega); rw [← hv12_0] at z9; rw [hx33_3]; exact z9)) (by omega) (by omega)

abbrev wz_X4_readByWays : List Cond := .code yX4_readByWays cX4_readByWays 6 none :: W0
abbrev rm_X4_readByWays : Room := { frames := 3, cells := 0, slots := 0, locals := 66 }
theorem hd_X4_readByWays : yX4_readByWays.cls = RX4 ∧ yX4_readByWays.cls ≠ "java/lang/invoke/MethodHandle" ∧ yX4_readByWays.cls ≠ "java/lang/invoke/VarHandle" ∧ (parseMethodDescriptor yX4_readByWays.desc).map (fun d => d.parameters.length) = some 1 := by decide +kernel
set_option maxHeartbeats 4000000 in
set_option maxRecDepth 100000 in
theorem c_X4_readByWays (l : Launch) (D : va_G) (τ : Nat → Nat) (α : Nat → Nat) (γ : Nat → ClassId) (h : IA) (old : IA) (ch : IA) (rg : TRg) (ln : TLn) (sl : TSl) (wy : IA) (lv : IA) (ct : TCt) (sg : TSg) (od : TOd) (hs : THs) (hh : ∀ k, 0 ≤ k → k < 49 → 0 ≤ h k ∧ h k ≤ 99) : cM l yX4_readByWays wz_X4_readByWays rm_X4_readByWays D τ (tyH γ) [.ref (α 5), .ref (α 1)] (wH α γ (h, old, ch) rg ln sl (wy, lv) ct sg od hs) (zQv (fun w => ∃ (w2 : IA), (∀ k, 0 ≤ k → k < 49 → w2 k = S_spill h k) ∧ wH α γ (h, old, ch) rg ln sl (w2, lv) ct sg od hs = w)) := by
  refine z_ofM (cc := cX4_readByWays) (maxL := 6) (ret := none) (by decide +kernel) rfl (Nat.le_of_ble_eq_true rfl) ?_
  intro pg e s m args below meth c hC hr hlk hnm hK hP A hD hG hA hS ls hl Q hQ
  have hx := hC.1
  have hb := hC.2.1
  have hml := hC.2.2.1
  have hown := hC.2.2.2.1
  have hts := hC.2.2.2.2
  have hB : ∀ w ∈ W0, w ∈ wz_X4_readByWays := fun _ h => List.mem_cons_of_mem _ h
  have hW0 : ∀ w ∈ W0, w.before args s = true := fun w h => hts w (hB w h)
  have hl : lv_has ls 6 [(0, .ref (α 5)), (1, .ref (α 1))] := hl
  refine lv_iconst (v := zI 0) hx hb dX4_readByWays_0 rfl ?_
  refine lv_istore_n (lv' := [(2, .int (zI 0)), (0, .ref (α 5)), (1, .ref (α 1))]) hx hb dX4_readByWays_1 rfl hl (by decide) rfl (fun ls hl => ?_)
  suffices HL_2 : ∀ (n_2 : Nat), ∀ (w1 : IA) (i : Int) (H : Heap) (locs : List Loc) (hP : va_P D vwCl (wH α γ (h, old, ch) rg ln sl (w1, lv) ct sg od hs) H) (hD : va_D A (wH α γ (h, old, ch) rg ln sl (w1, lv) ct sg od hs)) (hS : va_S A s.heap H locs) (ls : Array Slot) (hl : lv_has ls 6 [(2, .int (zI i)), (0, .ref (α 5)), (1, .ref (α 1))]) (hi : 0 ≤ i ∧ i ≤ 49) (hw1 : ∀ k, 0 ≤ k → k < i → w1 k = (if cb (S_bd k) = true then h k else 99)) (hm : (49 - i).toNat < n_2), W pg l e rm_X4_readByWays s m args below meth c H locs 0 0 Q (F0 m 2 ls []) from HL_2 _ wy 0 _ _ hP hD hS _ (lv_sub hl [0, 1, 2] rfl) (by first | assumption | rfl | omega) (by intro k a b; omega) (Nat.lt_succ_self _)
  intro n_2
  induction n_2 with
  | zero => intro w1 i H locs hP hD hS ls hl hi hw1 hm; exact absurd hm (Nat.not_lt_zero _)
  | succ n_2 ih_2 =>
    intro w1 i H locs hP hD hS ls hl hi hw1 hm
    refine lv_iload_n hx hb dX4_readByWays_2 rfl (lv_at hl 0 rfl) ?_
    refine lv_bipush (v := zI 49) hx hb dX4_readByWays_3 (zI_b8 (by decide)) ?_
    refine z_icge (tgt := 37) hx hb ⟨by omega, by omega⟩ ⟨by omega, by omega⟩ dX4_readByWays_5 (by decide) (fun c_5 => ?_) (fun c_5 => ?_)
    · refine lv_iconst (v := zI 1) hx hb dX4_readByWays_37 rfl ?_
      refine lv_istore_n (lv' := [(2, .int (zI 1)), (0, .ref (α 5)), (1, .ref (α 1))]) hx hb dX4_readByWays_38 rfl hl (by decide) rfl (fun ls hl => ?_)
      refine lv_iconst (v := zI 0) hx hb dX4_readByWays_39 rfl ?_
      refine lv_istore_n (lv' := [(3, .int (zI 0)), (2, .int (zI 1)), (0, .ref (α 5)), (1, .ref (α 1))]) hx hb dX4_readByWays_40 rfl hl (by decide) rfl (fun ls hl => ?_)
      suffices HL_41 : ∀ (n_41 : Nat), ∀ (w3 : IA) (c8 : Int) (r : Int) (H : Heap) (locs : List Loc) (hP : va_P D vwCl (wH α γ (h, old, ch) rg ln sl (w3, lv) ct sg od hs) H) (hD : va_D A (wH α γ (h, old, ch) rg ln sl (w3, lv) ct sg od hs)) (hS : va_S A s.heap H locs) (ls : Array Slot) (hl : lv_has ls 6 [(2, .int (zI c8)), (3, .int (zI r)), (0, .ref (α 5)), (1, .ref (α 1))]) (hr8 : 0 ≤ r ∧ r ≤ 49) (hc8 : c8 = 0 ∨ c8 = 1) (hO : WO h w3 r c8) (hm : (49 - r).toNat < n_41), W pg l e rm_X4_readByWays s m args below meth c H locs 0 0 Q (F0 m 41 ls []) from HL_41 _ w1 1 0 _ _ hP hD hS _ (lv_sub hl [1, 0, 2, 3] rfl) (by first | assumption | rfl | omega) (by first | assumption | rfl | omega) (by exact WO_init hh (fun k a b => hw1 k a (by omega))) (Nat.lt_succ_self _)
      intro n_41
      induction n_41 with
      | zero => intro w3 c8 r H locs hP hD hS ls hl hr8 hc8 hO hm; exact absurd hm (Nat.not_lt_zero _)
      | succ n_41 ih_41 =>
        intro w3 c8 r H locs hP hD hS ls hl hr8 hc8 hO hm
        refine lv_iload_n hx hb dX4_readByWays_41 rfl (lv_at hl 1 rfl) ?_
        refine lv_bipush (v := zI 49) hx hb dX4_readByWays_42 (zI_b8 (by decide)) ?_
        refine z_icge (tgt := 115) hx hb ⟨by omega, by omega⟩ ⟨by omega, by omega⟩ dX4_readByWays_44 (by decide) (fun c_44 => ?_) (fun c_44 => ?_)
        · exact z_vret hC hr hlk hQ hP hD hS ⟨w3, (by exact fun k a b => WO_end hh hO (by omega) ⟨a, b⟩), rfl⟩ dX4_readByWays_115
        · refine lv_iload_n hx hb dX4_readByWays_47 rfl (lv_at hl 0 rfl) ?_
          refine z_ifeq (tgt := 115) hx hb ⟨by omega, by omega⟩ dX4_readByWays_48 (by decide) (fun c_48 => ?_) (fun c_48 => ?_)
          · exact z_vret hC hr hlk hQ hP hD hS ⟨w3, (by exact fun k a b => WO_end hh hO (by omega) ⟨a, b⟩), rfl⟩ dX4_readByWays_115
          · refine lv_iconst (v := zI 0) hx hb dX4_readByWays_51 rfl ?_
            refine lv_istore_n (lv' := [(2, .int (zI 0)), (3, .int (zI r)), (0, .ref (α 5)), (1, .ref (α 1))]) hx hb dX4_readByWays_52 rfl hl (by decide) rfl (fun ls hl => ?_)
            refine lv_iconst (v := zI 0) hx hb dX4_readByWays_53 rfl ?_
            refine lv_istore (lv' := [(4, .int (zI 0)), (2, .int (zI 0)), (3, .int (zI r)), (0, .ref (α 5)), (1, .ref (α 1))]) hx hb dX4_readByWays_54 hl (by decide) rfl (fun ls hl => ?_)
            suffices HL_56 : ∀ (n_56 : Nat), ∀ (w4 : IA) (c9 : Int) (i : Int) (H : Heap) (locs : List Loc) (hP : va_P D vwCl (wH α γ (h, old, ch) rg ln sl (w4, lv) ct sg od hs) H) (hD : va_D A (wH α γ (h, old, ch) rg ln sl (w4, lv) ct sg od hs)) (hS : va_S A s.heap H locs) (ls : Array Slot) (hl : lv_has ls 6 [(2, .int (zI c9)), (4, .int (zI i)), (3, .int (zI r)), (0, .ref (α 5)), (1, .ref (α 1))]) (hi5 : 0 ≤ i ∧ i ≤ 49) (hc9 : c9 = 0 ∨ c9 = 1) (hQ5 : WQ h w4 r i c9) (hm : (49 - i).toNat < n_56), W pg l e rm_X4_readByWays s m args below meth c H locs 0 0 Q (F0 m 56 ls []) from HL_56 _ w3 0 0 _ _ hP hD hS _ (lv_sub hl [1, 0, 2, 3, 4] rfl) (by first | assumption | rfl | omega) (by first | assumption | rfl | omega) (by exact WO_in hO) (Nat.lt_succ_self _)
            intro n_56
            induction n_56 with
            | zero => intro w4 c9 i H locs hP hD hS ls hl hi5 hc9 hQ5 hm; exact absurd hm (Nat.not_lt_zero _)
            | succ n_56 ih_56 =>
              intro w4 c9 i H locs hP hD hS ls hl hi5 hc9 hQ5 hm
              refine lv_iload hx hb dX4_readByWays_56 (lv_at hl 1 rfl) ?_
              refine lv_bipush (v := zI 49) hx hb dX4_readByWays_58 (zI_b8 (by decide)) ?_
              have hwr : ∀ k, 0 ≤ k → k < 49 → 0 ≤ w4 k ∧ w4 k ≤ 99 := fun k a b => by have z1 := WQ_rng hQ5 k a b; have z2 := hh k a b; omega
              refine z_icge (tgt := 109) hx hb ⟨by omega, by omega⟩ ⟨by omega, by omega⟩ dX4_readByWays_60 (by decide) (fun c_60 => ?_) (fun c_60 => ?_)
              · refine z_iinc (k := 2) (v := r + 1) (lv' := [(3, .int (zI (r + 1))), (2, .int (zI c9)), (4, .int (zI i)), (0, .ref (α 5)), (1, .ref (α 1))]) hx hb dX4_readByWays_109 hl rfl rfl (by decide) rfl (fun ls hl => ?_)
                refine lv_goto (tgt := 41) hx hb dX4_readByWays_112 (by decide) ?_
                exact ih_41 w4 c9 (r + 1) _ _ hP hD hS _ (lv_sub hl [1, 0, 3, 4] rfl) (by first | assumption | rfl | omega) (by exact hc9) (by exact WQ_out hr8.1 ((show i = 49 by omega) ▸ hQ5)) (by omega)
              · refine lv_aload_n hx hb dX4_readByWays_63 rfl (lv_at hl 4 rfl) ?_
                refine lv_iload hx hb dX4_readByWays_64 (lv_at hl 1 rfl) ?_
                refine z_calli hP hD hS hA (va_runV (As := [.int (zI i)]) (rest := []) hC (c_X6_at l D τ α γ h old ch rg ln sl (w4, lv) ct sg od hs i (by first | assumption | rfl | omega) (by first | assumption | rfl | omega) _) (cwV 1 hts (gV hB wl_X4_22 wn_X6_at ws_X6_at wi_X6 wc_X6_at) rfl rfl rfl hd_X6_at ⟨Nat.le_of_ble_eq_true rfl, Nat.le_of_ble_eq_true rfl⟩) (zp_V hK hP hD hS hA hG (ci := 6) (q0 := 1) rfl rfl rfl) rfl rfl hl.1 rfl (lv_room (Nat.le_of_ble_eq_true rfl)) dX4_readByWays_66 ⟨Nat.le_of_ble_eq_true rfl, Nat.le_of_ble_eq_true rfl⟩) (fun r w1 H locs hq9 hP hD hS => ?_)
                obtain ⟨v66_1, hv66_0, hv66_1, hv66_2, rfl, rfl⟩ := hq9
                have hP : va_P D vwCl (wH α γ (h, old, ch) rg ln sl (w4, lv) ct sg od hs) H := hP
                have hD : va_D A (wH α γ (h, old, ch) rg ln sl (w4, lv) ct sg od hs) := hD
                refine lv_aload_n hx hb dX4_readByWays_69 rfl (lv_at hl 3 rfl) ?_
                refine lv_iload hx hb dX4_readByWays_70 (lv_at hl 1 rfl) ?_
                refine z_calli hP hD hS hA (va_runV (As := [.int (zI i)]) (rest := [.int (zI v66_1)]) hC (c_X4_leastAround l D τ α γ (h, old, ch) rg ln sl w4 lv ct sg od hs i (by first | assumption | rfl | omega) (by exact hwr) _) (cwV 1 hts (gV hB wl_X4_28 wn_X4_leastAround ws_X4_leastAround wi_X4 wc_X4_leastAround) rfl rfl rfl hd_X4_leastAround ⟨Nat.le_of_ble_eq_true rfl, Nat.le_of_ble_eq_true rfl⟩) (zp_V hK hP hD hS hA hG (ci := 4) (q0 := 5) rfl rfl rfl) rfl rfl hl.1 rfl (lv_room (Nat.le_of_ble_eq_true rfl)) dX4_readByWays_72 ⟨Nat.le_of_ble_eq_true rfl, Nat.le_of_ble_eq_true rfl⟩) (fun r w1 H locs hq9 hP hD hS => ?_)
                obtain ⟨v72_2, hv72_0, hv72_1, rfl, rfl⟩ := hq9
                have hP : va_P D vwCl (wH α γ (h, old, ch) rg ln sl (w4, lv) ct sg od hs) H := hP
                have hD : va_D A (wH α γ (h, old, ch) rg ln sl (w4, lv) ct sg od hs) := hD
                refine z_mmax hx hb (hml.trans hl.1.symm) hown (hW0 _ wl_X4_31) (hW0 _ wt_Lib_Math_max_name) (hW0 _ wi_Math) (hW0 _ wc_Lib_Math_max_name) (Nat.le_of_ble_eq_true rfl) (Nat.le_of_ble_eq_true rfl) (Nat.le_of_ble_eq_true rfl) (Nat.le_of_ble_eq_true rfl) ⟨by omega, by omega⟩ ⟨by omega, by omega⟩ dX4_readByWays_75 ?_
                obtain ⟨x75_3, hx75_3⟩ : ∃ z : Int, z = zmax v66_1 v72_2 := ⟨_, rfl⟩
                rw [← hx75_3]
                have kx75_3 := zmax_spec v66_1 v72_2
                rw [← hx75_3] at kx75_3
                refine lv_istore (lv' := [(5, .int (zI x75_3)), (2, .int (zI c9)), (4, .int (zI i)), (3, .int (zI r)), (0, .ref (α 5)), (1, .ref (α 1))]) hx hb dX4_readByWays_78 hl (by decide) rfl (fun ls hl => ?_)
                have e66 := hv66_2 (by omega)
                have hzz : x75_3 = zmax (h i) v72_2 := by rw [hx75_3, e66]
                refine lv_iload hx hb dX4_readByWays_80 (lv_at hl 0 rfl) ?_
                refine lv_aload_n hx hb dX4_readByWays_82 rfl (lv_at hl 4 rfl) ?_
                refine va_get (D := D) (ci := 4) (v := .ref (α 24)) (C := RX4) (T := TX4) (N := 2) hx hb hts (fun w h => List.mem_cons_of_mem _ (wx_X4 w h)) hown hK hP 5 rfl rfl 0 (by decide) (hW0 _ wf_X4_9) (fun _ h9 => h9) rfl dX4_readByWays_83 ?_
                have b88 := hwr i (by omega) (by omega)
                refine lv_iload hx hb dX4_readByWays_86 (lv_at hl 2 rfl) ?_
                refine z_iald (f := w4) hx hb hK hP 24 14 rfl rfl ⟨⟨by omega, by omega⟩, by decide⟩ dX4_readByWays_88 ?_
                refine z_icge (tgt := 103) hx hb ⟨by omega, by omega⟩ ⟨by omega, by omega⟩ dX4_readByWays_89 (by decide) (fun c_89 => ?_) (fun c_89 => ?_)
                · refine z_iinc (k := 2) (v := i + 1) (lv' := [(4, .int (zI (i + 1))), (5, .int (zI x75_3)), (2, .int (zI c9)), (3, .int (zI r)), (0, .ref (α 5)), (1, .ref (α 1))]) hx hb dX4_readByWays_103 hl rfl rfl (by decide) rfl (fun ls hl => ?_)
                  refine lv_goto (tgt := 56) hx hb dX4_readByWays_106 (by decide) ?_
                  exact ih_56 w4 c9 (i + 1) _ _ hP hD hS _ (lv_sub hl [2, 0, 3, 4, 5] rfl) (by first | assumption | rfl | omega) (by first | assumption | rfl | omega) (by first | exact WQ_skip hQ5 ⟨hi5.1, by omega⟩ hv72_0 (by rw [← hzz]; omega) | (rw [hzz]; exact WQ_up hQ5 ⟨hi5.1, by omega⟩ hv72_0 (by rw [← hzz]; omega))) (by omega)
                · refine lv_aload_n hx hb dX4_readByWays_92 rfl (lv_at hl 4 rfl) ?_
                  refine va_get (D := D) (ci := 4) (v := .ref (α 24)) (C := RX4) (T := TX4) (N := 2) hx hb hts (fun w h => List.mem_cons_of_mem _ (wx_X4 w h)) hown hK hP 5 rfl rfl 0 (by decide) (hW0 _ wf_X4_9) (fun _ h9 => h9) rfl dX4_readByWays_93 ?_
                  refine lv_iload hx hb dX4_readByWays_96 (lv_at hl 2 rfl) ?_
                  refine lv_iload hx hb dX4_readByWays_98 (lv_at hl 0 rfl) ?_
                  refine z_iast (f := w4) (v := x75_3) hx hb hK hP hD hS 24 14 rfl rfl ⟨⟨by omega, by omega⟩, by decide⟩ dX4_readByWays_100 (fun H locs hP hD hS => ?_)
                  have hP : va_P D vwCl (wH α γ (h, old, ch) rg ln sl (zu w4 i x75_3, lv) ct sg od hs) H := hP
                  have hD : va_D A (wH α γ (h, old, ch) rg ln sl (zu w4 i x75_3, lv) ct sg od hs) := hD
                  refine lv_iconst (v := zI 1) hx hb dX4_readByWays_101 rfl ?_
                  refine lv_istore_n (lv' := [(2, .int (zI 1)), (5, .int (zI x75_3)), (4, .int (zI i)), (3, .int (zI r)), (0, .ref (α 5)), (1, .ref (α 1))]) hx hb dX4_readByWays_102 rfl hl (by decide) rfl (fun ls hl => ?_)
                  refine z_iinc (k := 2) (v := i + 1) (lv' := [(4, .int (zI (i + 1))), (2, .int (zI 1)), (5, .int (zI x75_3)), (3, .int (zI r)), (0, .ref (α 5)), (1, .ref (α 1))]) hx hb dX4_readByWays_103 hl rfl rfl (by decide) rfl (fun ls hl => ?_)
                  refine lv_goto (tgt := 56) hx hb dX4_readByWays_106 (by decide) ?_
                  exact ih_56 (zu w4 i x75_3) 1 (i + 1) _ _ hP hD hS _ (lv_sub hl [1, 0, 3, 4, 5] rfl) (by first | assumption | rfl | omega) (by first | assumption | rfl | omega) (by first | exact WQ_skip hQ5 ⟨hi5.1, by omega⟩ hv72_0 (by rw [← hzz]; omega) | (rw [hzz]; exact WQ_up hQ5 ⟨hi5.1, by omega⟩ hv72_0 (by rw [← hzz]; omega))) (by omega)
    · refine lv_aload_n hx hb dX4_readByWays_8 rfl (lv_at hl 1 rfl) ?_
      refine va_get (D := D) (ci := 4) (v := .ref (α 24)) (C := RX4) (T := TX4) (N := 2) hx hb hts (fun w h => List.mem_cons_of_mem _ (wx_X4 w h)) hown hK hP 5 rfl rfl 0 (by decide) (hW0 _ wf_X4_9) (fun _ h9 => h9) rfl dX4_readByWays_9 ?_
      refine lv_iload_n hx hb dX4_readByWays_12 rfl (lv_at hl 0 rfl) ?_
      refine lv_iload_n hx hb dX4_readByWays_13 rfl (lv_at hl 0 rfl) ?_
      refine z_calli hP hD hS hA (va_runSN (As := [.int (zI i)]) (rest := [.int (zI i), .ref (α 24)]) hC (c_X9_isBorder l D τ _ _ i (by first | assumption | rfl | omega) _) ⟨va_cnB 1 hts (gC hB wc_X9_isBorder) rfl rfl rfl (hG.2.2.2.2.2.2.2 _ (List.mem_of_getElem? (i := 4) rfl)) (hW0 _ wi_X9) hd_X9_isBorder.2 ⟨Nat.le_of_ble_eq_true rfl, Nat.le_of_ble_eq_true rfl⟩, (hW0 _ wt_X9_isBorder), trivial⟩ (zp_S hK hP hD hS hA hG) rfl rfl hl.1 rfl (lv_room (Nat.le_of_ble_eq_true rfl)) dX4_readByWays_14 ⟨Nat.le_of_ble_eq_true rfl, Nat.le_of_ble_eq_true rfl⟩) (fun r w1 H locs hq9 hP hD hS => ?_)
      obtain ⟨v14_4, hv14_0, rfl, rfl⟩ := hq9
      refine z_ifeqB (tgt := 28) hx hb dX4_readByWays_17 (by decide) (fun c_17 => ?_) (fun c_17 => ?_)
      · have hb_17 := zb_neg hv14_0 c_17
        refine lv_bipush (v := zI 99) hx hb dX4_readByWays_28 (zI_b8 (by decide)) ?_
        refine z_iast (f := w1) (v := 99) hx hb hK hP hD hS 24 14 rfl rfl ⟨⟨by omega, by omega⟩, by decide⟩ dX4_readByWays_30 (fun H locs hP hD hS => ?_)
        have hP : va_P D vwCl (wH α γ (h, old, ch) rg ln sl (zu w1 i 99, lv) ct sg od hs) H := hP
        have hD : va_D A (wH α γ (h, old, ch) rg ln sl (zu w1 i 99, lv) ct sg od hs) := hD
        refine z_iinc (k := 0) (v := i + 1) (lv' := [(2, .int (zI (i + 1))), (0, .ref (α 5)), (1, .ref (α 1))]) hx hb dX4_readByWays_31 hl rfl rfl (by decide) rfl (fun ls hl => ?_)
        refine lv_goto (tgt := 2) hx hb dX4_readByWays_34 (by decide) ?_
        exact ih_2 (zu w1 i 99) (i + 1) _ _ hP hD hS _ (lv_sub hl [0, 1, 2] rfl) (by first | assumption | rfl | omega) (by intro k a b; by_cases e9 : k = i; (rw [e9, zu_s]; first | (rw [if_pos (cb_iff.mpr (show S_bd i from hb_17))]; exact hv22_2 (by omega)) | (rw [if_neg (by rw [cb_f.mpr (show ¬ S_bd i from hb_17)]; decide)])); (rw [zu_n e9]; exact hw1 k a (by omega))) (by omega)
      · have hb_17 := hv14_0.mp c_17
        refine lv_aload_n hx hb dX4_readByWays_20 rfl (lv_at hl 2 rfl) ?_
        refine lv_iload_n hx hb dX4_readByWays_21 rfl (lv_at hl 0 rfl) ?_
        refine z_calli hP hD hS hA (va_runV (As := [.int (zI i)]) (rest := [.int (zI i), .ref (α 24)]) hC (c_X6_at l D τ α γ h old ch rg ln sl (w1, lv) ct sg od hs i (by first | assumption | rfl | omega) (by first | assumption | rfl | omega) _) (cwV 1 hts (gV hB wl_X4_22 wn_X6_at ws_X6_at wi_X6 wc_X6_at) rfl rfl rfl hd_X6_at ⟨Nat.le_of_ble_eq_true rfl, Nat.le_of_ble_eq_true rfl⟩) (zp_V hK hP hD hS hA hG (ci := 6) (q0 := 1) rfl rfl rfl) rfl rfl hl.1 rfl (lv_room (Nat.le_of_ble_eq_true rfl)) dX4_readByWays_22 ⟨Nat.le_of_ble_eq_true rfl, Nat.le_of_ble_eq_true rfl⟩) (fun r w1 H locs hq9 hP hD hS => ?_)
        obtain ⟨v22_5, hv22_0, hv22_1, hv22_2, rfl, rfl⟩ := hq9
        have hP : va_P D vwCl (wH α γ (h, old, ch) rg ln sl (w1, lv) ct sg od hs) H := hP
        have hD : va_D A (wH α γ (h, old, ch) rg ln sl (w1, lv) ct sg od hs) := hD
        refine lv_goto (tgt := 30) hx hb dX4_readByWays_25 (by decide) ?_
        refine z_iast (f := w1) (v := v22_5) hx hb hK hP hD hS 24 14 rfl rfl ⟨⟨by omega, by omega⟩, by decide⟩ dX4_readByWays_30 (fun H locs hP hD hS => ?_)
        have hP : va_P D vwCl (wH α γ (h, old, ch) rg ln sl (zu w1 i v22_5, lv) ct sg od hs) H := hP
        have hD : va_D A (wH α γ (h, old, ch) rg ln sl (zu w1 i v22_5, lv) ct sg od hs) := hD
        refine z_iinc (k := 0) (v := i + 1) (lv' := [(2, .int (zI (i + 1))), (0, .ref (α 5)), (1, .ref (α 1))]) hx hb dX4_readByWays_31 hl rfl rfl (by decide) rfl (fun ls hl => ?_)
        refine lv_goto (tgt := 2) hx hb dX4_readByWays_34 (by decide) ?_
        exact ih_2 (zu w1 i v22_5) (i + 1) _ _ hP hD hS _ (lv_sub hl [0, 1, 2] rfl) (by first | assumption | rfl | omega) (by intro k a b; by_cases e9 : k = i; (rw [e9, zu_s]; first | (rw [if_pos (cb_iff.mpr (show S_bd i from hb_17))]; exact hv22_2 (by omega)) | (rw [if_neg (by rw [cb_f.mpr (show ¬ S_bd i from hb_17)]; decide)])); (rw [zu_n e9]; exact hw1 k a (by omega))) (by omega)

abbrev wz_X4_readLevel : List Cond := .code yX4_readLevel cX4_readLevel 5 none :: W0
abbrev rm_X4_readLevel : Room := { frames := 3, cells := 0, slots := 0, locals := 68 }
theorem hd_X4_readLevel : yX4_readLevel.cls = RX4 ∧ yX4_readLevel.cls ≠ "java/lang/invoke/MethodHandle" ∧ yX4_readLevel.cls ≠ "java/lang/invoke/VarHandle" ∧ (parseMethodDescriptor yX4_readLevel.desc).map (fun d => d.parameters.length) = some 3 := by decide +kernel
set_option maxHeartbeats 4000000 in
set_option maxRecDepth 100000 in
theorem c_X4_readLevel (l : Launch) (D : va_G) (τ : Nat → Nat) (α : Nat → Nat) (γ : Nat → ClassId) (h : IA) (old : IA) (ch : IA) (wt : BA) (qu5 : IA) (ln : TLn) (sl : TSl) (wy : IA) (lv : IA) (ct : TCt) (sg : TSg) (od : TOd) (hs : THs) (L : Int) (hh : ∀ k, 0 ≤ k → k < 49 → 0 ≤ h k ∧ h k ≤ 99) (hL : 0 ≤ L ∧ L ≤ 99) : cM l yX4_readLevel wz_X4_readLevel rm_X4_readLevel D τ (tyH γ) [.ref (α 5), .ref (α 1), .ref (α 2), .int (zI L)] (wH α γ (h, old, ch) (wt, qu5) ln sl (wy, lv) ct sg od hs) (zQv (fun w => ∃ (l2 : IA), ∃ (w2 : BA), ∃ (q2 : IA), (∀ k, 0 ≤ k → k < 49 → l2 k = S_lvl h L lv k) ∧ wH α γ (h, old, ch) (w2, q2) ln sl (wy, l2) ct sg od hs = w)) := by
  refine z_ofM (cc := cX4_readLevel) (maxL := 5) (ret := none) (by decide +kernel) rfl (Nat.le_of_ble_eq_true rfl) ?_
  intro pg e s m args below meth c hC hr hlk hnm hK hP A hD hG hA hS ls hl Q hQ
  have hx := hC.1
  have hb := hC.2.1
  have hml := hC.2.2.1
  have hown := hC.2.2.2.1
  have hts := hC.2.2.2.2
  have hB : ∀ w ∈ W0, w ∈ wz_X4_readLevel := fun _ h => List.mem_cons_of_mem _ h
  have hW0 : ∀ w ∈ W0, w.before args s = true := fun w h => hts w (hB w h)
  have hl : lv_has ls 5 [(0, .ref (α 5)), (1, .ref (α 1)), (2, .ref (α 2)), (3, .int (zI L))] := hl
  refine lv_aload_n hx hb dX4_readLevel_0 rfl (lv_at hl 2 rfl) ?_
  refine z_callv hP hD hS hA (va_runV (As := []) (rest := []) hC (c_X5_clear l D τ α γ (h, old, ch) wt qu5 ln sl (wy, lv) ct sg od hs _) (cwV 0 hts (gV hB wl_X4_53 wn_X5_clear ws_X5_clear wi_X5 wc_X5_clear) rfl rfl rfl hd_X5_clear ⟨Nat.le_of_ble_eq_true rfl, Nat.le_of_ble_eq_true rfl⟩) (zp_V hK hP hD hS hA hG (ci := 5) (q0 := 2) rfl rfl rfl) rfl rfl hl.1 rfl (lv_room (Nat.le_of_ble_eq_true rfl)) dX4_readLevel_1 ⟨Nat.le_of_ble_eq_true rfl, Nat.le_of_ble_eq_true rfl⟩) (fun w1 H locs hq9 hP hD hS => ?_)
  obtain ⟨w1_1, hv1_0, rfl⟩ := hq9
  have hP : va_P D vwCl (wH α γ (h, old, ch) (w1_1, qu5) ln sl (wy, lv) ct sg od hs) H := hP
  have hD : va_D A (wH α γ (h, old, ch) (w1_1, qu5) ln sl (wy, lv) ct sg od hs) := hD
  refine lv_iconst (v := zI 0) hx hb dX4_readLevel_4 rfl ?_
  refine lv_istore (lv' := [(4, .int (zI 0)), (0, .ref (α 5)), (1, .ref (α 1)), (2, .ref (α 2)), (3, .int (zI L))]) hx hb dX4_readLevel_5 hl (by decide) rfl (fun ls hl => ?_)
  suffices HL_7 : ∀ (n_7 : Nat), ∀ (w : BA) (i : Int) (H : Heap) (locs : List Loc) (hP : va_P D vwCl (wH α γ (h, old, ch) (w, qu5) ln sl (wy, lv) ct sg od hs) H) (hD : va_D A (wH α γ (h, old, ch) (w, qu5) ln sl (wy, lv) ct sg od hs)) (hS : va_S A s.heap H locs) (ls : Array Slot) (hl : lv_has ls 5 [(4, .int (zI i)), (0, .ref (α 5)), (1, .ref (α 1)), (2, .ref (α 2)), (3, .int (zI L))]) (hi : 0 ≤ i ∧ i ≤ 49) (hw : w = bmix i (fun k => decide (h k ≤ L)) (bmix 49 (fun _ => false) wt)) (hm : (49 - i).toNat < n_7), W pg l e rm_X4_readLevel s m args below meth c H locs 0 0 Q (F0 m 7 ls []) from HL_7 _ w1_1 0 _ _ hP hD hS _ (lv_sub hl [0, 1, 2, 3, 4] rfl) (by first | assumption | rfl | omega) (by rw [bmix_0]; exact hv1_0) (Nat.lt_succ_self _)
  intro n_7
  induction n_7 with
  | zero => intro w i H locs hP hD hS ls hl hi hw hm; exact absurd hm (Nat.not_lt_zero _)
  | succ n_7 ih_7 =>
    intro w i H locs hP hD hS ls hl hi hw hm
    refine lv_iload hx hb dX4_readLevel_7 (lv_at hl 0 rfl) ?_
    refine lv_bipush (v := zI 49) hx hb dX4_readLevel_9 (zI_b8 (by decide)) ?_
    refine z_icge (tgt := 36) hx hb ⟨by omega, by omega⟩ ⟨by omega, by omega⟩ dX4_readLevel_11 (by decide) (fun c_11 => ?_) (fun c_11 => ?_)
    · have hwm : ∀ k, 0 ≤ k → k < 49 → w k = decide (h k ≤ L) := fun k a b => by rw [hw, bmix_at (by omega)]
      refine lv_iconst (v := zI 0) hx hb dX4_readLevel_36 rfl ?_
      refine lv_istore (lv' := [(4, .int (zI 0)), (0, .ref (α 5)), (1, .ref (α 1)), (2, .ref (α 2)), (3, .int (zI L))]) hx hb dX4_readLevel_37 hl (by decide) rfl (fun ls hl => ?_)
      suffices HL_39 : ∀ (n_39 : Nat), ∀ (w3 : BA) (q3 : IA) (i : Int) (H : Heap) (locs : List Loc) (hP : va_P D vwCl (wH α γ (h, old, ch) (w3, q3) ln sl (wy, lv) ct sg od hs) H) (hD : va_D A (wH α γ (h, old, ch) (w3, q3) ln sl (wy, lv) ct sg od hs)) (hS : va_S A s.heap H locs) (ls : Array Slot) (hl : lv_has ls 5 [(4, .int (zI i)), (0, .ref (α 5)), (1, .ref (α 1)), (2, .ref (α 2)), (3, .int (zI L))]) (hi3 : 0 ≤ i ∧ i ≤ 49) (hw3 : w3 = S_leftB 4 w S_bd i) (hm : (49 - i).toNat < n_39), W pg l e rm_X4_readLevel s m args below meth c H locs 0 0 Q (F0 m 39 ls []) from HL_39 _ w qu5 0 _ _ hP hD hS _ (lv_sub hl [0, 1, 2, 3, 4] rfl) (by first | assumption | rfl | omega) (by exact S_leftB_0 4 w S_bd) (Nat.lt_succ_self _)
      intro n_39
      induction n_39 with
      | zero => intro w3 q3 i H locs hP hD hS ls hl hi3 hw3 hm; exact absurd hm (Nat.not_lt_zero _)
      | succ n_39 ih_39 =>
        intro w3 q3 i H locs hP hD hS ls hl hi3 hw3 hm
        refine lv_iload hx hb dX4_readLevel_39 (lv_at hl 0 rfl) ?_
        refine lv_bipush (v := zI 49) hx hb dX4_readLevel_41 (zI_b8 (by decide)) ?_
        refine z_icge (tgt := 67) hx hb ⟨by omega, by omega⟩ ⟨by omega, by omega⟩ dX4_readLevel_43 (by decide) (fun c_43 => ?_) (fun c_43 => ?_)
        · have hcon : ∀ k, 0 ≤ k → k < 49 → (w3 k = true ↔ h k ≤ L ∧ ¬ S_con h L k) := fun k a b => by rw [hw3, show i = 49 by omega]; exact S_leftB_con hwm ⟨a, b⟩
          refine lv_iconst (v := zI 0) hx hb dX4_readLevel_67 rfl ?_
          refine lv_istore (lv' := [(4, .int (zI 0)), (0, .ref (α 5)), (1, .ref (α 1)), (2, .ref (α 2)), (3, .int (zI L))]) hx hb dX4_readLevel_68 hl (by decide) rfl (fun ls hl => ?_)
          suffices HL_70 : ∀ (n_70 : Nat), ∀ (l3 : IA) (i : Int) (H : Heap) (locs : List Loc) (hP : va_P D vwCl (wH α γ (h, old, ch) (w3, q3) ln sl (wy, l3) ct sg od hs) H) (hD : va_D A (wH α γ (h, old, ch) (w3, q3) ln sl (wy, l3) ct sg od hs)) (hS : va_S A s.heap H locs) (ls : Array Slot) (hl : lv_has ls 5 [(4, .int (zI i)), (0, .ref (α 5)), (1, .ref (α 1)), (2, .ref (α 2)), (3, .int (zI L))]) (hi7 : 0 ≤ i ∧ i ≤ 49) (hl3 : ∀ k, 0 ≤ k → k < 49 → l3 k = (if k < i then S_lvl h L lv k else lv k)) (hm : (49 - i).toNat < n_70), W pg l e rm_X4_readLevel s m args below meth c H locs 0 0 Q (F0 m 70 ls []) from HL_70 _ lv 0 _ _ hP hD hS _ (lv_sub hl [0, 1, 2, 3, 4] rfl) (by first | assumption | rfl | omega) (by intro k a b; rw [if_neg (by omega)]) (Nat.lt_succ_self _)
          intro n_70
          induction n_70 with
          | zero => intro l3 i H locs hP hD hS ls hl hi7 hl3 hm; exact absurd hm (Nat.not_lt_zero _)
          | succ n_70 ih_70 =>
            intro l3 i H locs hP hD hS ls hl hi7 hl3 hm
            refine lv_iload hx hb dX4_readLevel_70 (lv_at hl 0 rfl) ?_
            refine lv_bipush (v := zI 49) hx hb dX4_readLevel_72 (zI_b8 (by decide)) ?_
            refine z_icge (tgt := 110) hx hb ⟨by omega, by omega⟩ ⟨by omega, by omega⟩ dX4_readLevel_74 (by decide) (fun c_74 => ?_) (fun c_74 => ?_)
            · exact z_vret hC hr hlk hQ hP hD hS ⟨l3, w3, q3, (by intro k a b; rw [hl3 k a b, if_pos (by omega)]), rfl⟩ dX4_readLevel_110
            · refine lv_aload_n hx hb dX4_readLevel_77 rfl (lv_at hl 2 rfl) ?_
              refine lv_iload hx hb dX4_readLevel_78 (lv_at hl 0 rfl) ?_
              refine z_calli hP hD hS hA (va_runV (As := [.int (zI i)]) (rest := []) hC (c_X6_at l D τ α γ h old ch (w3, q3) ln sl (wy, l3) ct sg od hs i (by first | assumption | rfl | omega) (by first | assumption | rfl | omega) _) (cwV 1 hts (gV hB wl_X4_22 wn_X6_at ws_X6_at wi_X6 wc_X6_at) rfl rfl rfl hd_X6_at ⟨Nat.le_of_ble_eq_true rfl, Nat.le_of_ble_eq_true rfl⟩) (zp_V hK hP hD hS hA hG (ci := 6) (q0 := 1) rfl rfl rfl) rfl rfl hl.1 rfl (lv_room (Nat.le_of_ble_eq_true rfl)) dX4_readLevel_80 ⟨Nat.le_of_ble_eq_true rfl, Nat.le_of_ble_eq_true rfl⟩) (fun r w1 H locs hq9 hP hD hS => ?_)
              obtain ⟨v80_2, hv80_0, hv80_1, hv80_2, rfl, rfl⟩ := hq9
              have hP : va_P D vwCl (wH α γ (h, old, ch) (w3, q3) ln sl (wy, l3) ct sg od hs) H := hP
              have hD : va_D A (wH α γ (h, old, ch) (w3, q3) ln sl (wy, l3) ct sg od hs) := hD
              have e80 := hv80_2 (by omega)
              refine lv_iload_n hx hb dX4_readLevel_83 rfl (lv_at hl 4 rfl) ?_
              refine z_icgt (tgt := 104) hx hb ⟨by omega, by omega⟩ ⟨by omega, by omega⟩ dX4_readLevel_84 (by decide) (fun c_84 => ?_) (fun c_84 => ?_)
              · refine z_iinc (k := 0) (v := i + 1) (lv' := [(4, .int (zI (i + 1))), (0, .ref (α 5)), (1, .ref (α 1)), (2, .ref (α 2)), (3, .int (zI L))]) hx hb dX4_readLevel_104 hl rfl rfl (by decide) rfl (fun ls hl => ?_)
                refine lv_goto (tgt := 70) hx hb dX4_readLevel_107 (by decide) ?_
                exact ih_70 l3 (i + 1) _ _ hP hD hS _ (lv_sub hl [0, 1, 2, 3, 4] rfl) (by first | assumption | rfl | omega) (by first | exact lv_put hl3 (Classical.byContradiction (fun z => hb_93 ⟨⟨by omega, by omega⟩, (hcon i (by omega) (by omega)).mpr ⟨by omega, z⟩⟩)) | exact lv_skip hl3 ((hcon i (by omega) (by omega)).mp hb_93.2).2 | exact lv_skip hl3 (fun z => by have z1 := (S_con_m z).2; omega)) (by omega)
              · refine lv_aload_n hx hb dX4_readLevel_87 rfl (lv_at hl 3 rfl) ?_
                refine lv_iload hx hb dX4_readLevel_88 (lv_at hl 0 rfl) ?_
                refine z_calli hP hD hS hA (va_runV (As := [.int (zI i)]) (rest := []) hC (c_X5_isWaiting l D τ α γ (h, old, ch) w3 q3 ln sl (wy, l3) ct sg od hs i (by first | assumption | rfl | omega) _) (cwV 1 hts (gV hB wl_X4_66 wn_X5_isWaiting ws_X5_isWaiting wi_X5 wc_X5_isWaiting) rfl rfl rfl hd_X5_isWaiting ⟨Nat.le_of_ble_eq_true rfl, Nat.le_of_ble_eq_true rfl⟩) (zp_V hK hP hD hS hA hG (ci := 5) (q0 := 2) rfl rfl rfl) rfl rfl hl.1 rfl (lv_room (Nat.le_of_ble_eq_true rfl)) dX4_readLevel_90 ⟨Nat.le_of_ble_eq_true rfl, Nat.le_of_ble_eq_true rfl⟩) (fun r w1 H locs hq9 hP hD hS => ?_)
                obtain ⟨v90_3, hv90_0, rfl, rfl⟩ := hq9
                have hP : va_P D vwCl (wH α γ (h, old, ch) (w3, q3) ln sl (wy, l3) ct sg od hs) H := hP
                have hD : va_D A (wH α γ (h, old, ch) (w3, q3) ln sl (wy, l3) ct sg od hs) := hD
                refine z_ifneB (tgt := 104) hx hb dX4_readLevel_93 (by decide) (fun c_93 => ?_) (fun c_93 => ?_)
                · have hb_93 := hv90_0.mp c_93
                  refine z_iinc (k := 0) (v := i + 1) (lv' := [(4, .int (zI (i + 1))), (0, .ref (α 5)), (1, .ref (α 1)), (2, .ref (α 2)), (3, .int (zI L))]) hx hb dX4_readLevel_104 hl rfl rfl (by decide) rfl (fun ls hl => ?_)
                  refine lv_goto (tgt := 70) hx hb dX4_readLevel_107 (by decide) ?_
                  exact ih_70 l3 (i + 1) _ _ hP hD hS _ (lv_sub hl [0, 1, 2, 3, 4] rfl) (by first | assumption | rfl | omega) (by first | exact lv_put hl3 (Classical.byContradiction (fun z => hb_93 ⟨⟨by omega, by omega⟩, (hcon i (by omega) (by omega)).mpr ⟨by omega, z⟩⟩)) | exact lv_skip hl3 ((hcon i (by omega) (by omega)).mp hb_93.2).2 | exact lv_skip hl3 (fun z => by have z1 := (S_con_m z).2; omega)) (by omega)
                · have hb_93 := zb_neg hv90_0 c_93
                  refine lv_aload_n hx hb dX4_readLevel_96 rfl (lv_at hl 1 rfl) ?_
                  refine va_get (D := D) (ci := 4) (v := .ref (α 25)) (C := RX4) (T := TX4) (N := 2) hx hb hts (fun w h => List.mem_cons_of_mem _ (wx_X4 w h)) hown hK hP 5 rfl rfl 1 (by decide) (hW0 _ wf_X4_15) (fun _ h9 => h9) rfl dX4_readLevel_97 ?_
                  refine lv_iload hx hb dX4_readLevel_100 (lv_at hl 0 rfl) ?_
                  refine lv_iload_n hx hb dX4_readLevel_102 rfl (lv_at hl 4 rfl) ?_
                  refine z_iast (f := l3) (v := L) hx hb hK hP hD hS 25 15 rfl rfl ⟨⟨by omega, by omega⟩, by decide⟩ dX4_readLevel_103 (fun H locs hP hD hS => ?_)
                  have hP : va_P D vwCl (wH α γ (h, old, ch) (w3, q3) ln sl (wy, zu l3 i L) ct sg od hs) H := hP
                  have hD : va_D A (wH α γ (h, old, ch) (w3, q3) ln sl (wy, zu l3 i L) ct sg od hs) := hD
                  refine z_iinc (k := 0) (v := i + 1) (lv' := [(4, .int (zI (i + 1))), (0, .ref (α 5)), (1, .ref (α 1)), (2, .ref (α 2)), (3, .int (zI L))]) hx hb dX4_readLevel_104 hl rfl rfl (by decide) rfl (fun ls hl => ?_)
                  refine lv_goto (tgt := 70) hx hb dX4_readLevel_107 (by decide) ?_
                  exact ih_70 (zu l3 i L) (i + 1) _ _ hP hD hS _ (lv_sub hl [0, 1, 2, 3, 4] rfl) (by first | assumption | rfl | omega) (by first | exact lv_put hl3 (Classical.byContradiction (fun z => hb_93 ⟨⟨by omega, by omega⟩, (hcon i (by omega) (by omega)).mpr ⟨by omega, z⟩⟩)) | exact lv_skip hl3 ((hcon i (by omega) (by omega)).mp hb_93.2).2 | exact lv_skip hl3 (fun z => by have z1 := (S_con_m z).2; omega)) (by omega)
        · refine lv_iload hx hb dX4_readLevel_46 (lv_at hl 0 rfl) ?_
          refine z_calli hP hD hS hA (va_runSN (As := [.int (zI i)]) (rest := []) hC (c_X9_isBorder l D τ _ _ i (by first | assumption | rfl | omega) _) ⟨va_cnB 1 hts (gC hB wc_X9_isBorder) rfl rfl rfl (hG.2.2.2.2.2.2.2 _ (List.mem_of_getElem? (i := 4) rfl)) (hW0 _ wi_X9) hd_X9_isBorder.2 ⟨Nat.le_of_ble_eq_true rfl, Nat.le_of_ble_eq_true rfl⟩, (hW0 _ wt_X9_isBorder), trivial⟩ (zp_S hK hP hD hS hA hG) rfl rfl hl.1 rfl (lv_room (Nat.le_of_ble_eq_true rfl)) dX4_readLevel_48 ⟨Nat.le_of_ble_eq_true rfl, Nat.le_of_ble_eq_true rfl⟩) (fun r w1 H locs hq9 hP hD hS => ?_)
          obtain ⟨v48_4, hv48_0, rfl, rfl⟩ := hq9
          refine z_ifeqB (tgt := 61) hx hb dX4_readLevel_51 (by decide) (fun c_51 => ?_) (fun c_51 => ?_)
          · have hb_51 := zb_neg hv48_0 c_51
            refine z_iinc (k := 0) (v := i + 1) (lv' := [(4, .int (zI (i + 1))), (0, .ref (α 5)), (1, .ref (α 1)), (2, .ref (α 2)), (3, .int (zI L))]) hx hb dX4_readLevel_61 hl rfl rfl (by decide) rfl (fun ls hl => ?_)
            refine lv_goto (tgt := 39) hx hb dX4_readLevel_64 (by decide) ?_
            exact ih_39 w3 q3 (i + 1) _ _ hP hD hS _ (lv_sub hl [0, 1, 2, 3, 4] rfl) (by first | assumption | rfl | omega) (by first | (rw [hw3]; exact S_leftB_skip (Or.inl hb_51)) | (rw [hv58_0]; split; (next z9 => rw [hw3] at z9 ⊢; exact S_leftB_up (Or.inl rfl) hi3.1 hb_51 z9); (next z9 => rw [hw3] at z9 ⊢; exact S_leftB_skip (Or.inr (Bool.eq_false_iff.mpr z9))))) (by omega)
          · have hb_51 := hv48_0.mp c_51
            refine lv_aload_n hx hb dX4_readLevel_54 rfl (lv_at hl 3 rfl) ?_
            refine lv_iload hx hb dX4_readLevel_55 (lv_at hl 0 rfl) ?_
            refine lv_iconst (v := zI 4) hx hb dX4_readLevel_57 rfl ?_
            refine z_callv hP hD hS hA (va_runV (As := [.int (zI i), .int (zI 4)]) (rest := []) hC (c_X5_reach l D τ α γ (h, old, ch) w3 q3 ln sl (wy, lv) ct sg od hs i 4 (by first | assumption | rfl | omega) (by first | assumption | rfl | omega) _) (cwV 2 hts (gV hB wl_X4_62 wn_X5_reach ws_X5_reach wi_X5 wc_X5_reach) rfl rfl rfl hd_X5_reach ⟨Nat.le_of_ble_eq_true rfl, Nat.le_of_ble_eq_true rfl⟩) (zp_V hK hP hD hS hA hG (ci := 5) (q0 := 2) rfl rfl rfl) rfl rfl hl.1 rfl (lv_room (Nat.le_of_ble_eq_true rfl)) dX4_readLevel_58 ⟨Nat.le_of_ble_eq_true rfl, Nat.le_of_ble_eq_true rfl⟩) (fun w1 H locs hq9 hP hD hS => ?_)
            obtain ⟨w58_5, q58_6, hv58_0, rfl⟩ := hq9
            have hP : va_P D vwCl (wH α γ (h, old, ch) (w58_5, q58_6) ln sl (wy, lv) ct sg od hs) H := hP
            have hD : va_D A (wH α γ (h, old, ch) (w58_5, q58_6) ln sl (wy, lv) ct sg od hs) := hD
            refine z_iinc (k := 0) (v := i + 1) (lv' := [(4, .int (zI (i + 1))), (0, .ref (α 5)), (1, .ref (α 1)), (2, .ref (α 2)), (3, .int (zI L))]) hx hb dX4_readLevel_61 hl rfl rfl (by decide) rfl (fun ls hl => ?_)
            refine lv_goto (tgt := 39) hx hb dX4_readLevel_64 (by decide) ?_
            exact ih_39 w58_5 q58_6 (i + 1) _ _ hP hD hS _ (lv_sub hl [0, 1, 2, 3, 4] rfl) (by first | assumption | rfl | omega) (by first | (rw [hw3]; exact S_leftB_skip (Or.inl hb_51)) | (rw [hv58_0]; split; (next z9 => rw [hw3] at z9 ⊢; exact S_leftB_up (Or.inl rfl) hi3.1 hb_51 z9); (next z9 => rw [hw3] at z9 ⊢; exact S_leftB_skip (Or.inr (Bool.eq_false_iff.mpr z9))))) (by omega)
    · refine lv_aload_n hx hb dX4_readLevel_14 rfl (lv_at hl 2 rfl) ?_
      refine lv_iload hx hb dX4_readLevel_15 (lv_at hl 0 rfl) ?_
      refine z_calli hP hD hS hA (va_runV (As := [.int (zI i)]) (rest := []) hC (c_X6_at l D τ α γ h old ch (w, qu5) ln sl (wy, lv) ct sg od hs i (by first | assumption | rfl | omega) (by first | assumption | rfl | omega) _) (cwV 1 hts (gV hB wl_X4_22 wn_X6_at ws_X6_at wi_X6 wc_X6_at) rfl rfl rfl hd_X6_at ⟨Nat.le_of_ble_eq_true rfl, Nat.le_of_ble_eq_true rfl⟩) (zp_V hK hP hD hS hA hG (ci := 6) (q0 := 1) rfl rfl rfl) rfl rfl hl.1 rfl (lv_room (Nat.le_of_ble_eq_true rfl)) dX4_readLevel_17 ⟨Nat.le_of_ble_eq_true rfl, Nat.le_of_ble_eq_true rfl⟩) (fun r w1 H locs hq9 hP hD hS => ?_)
      obtain ⟨v17_7, hv17_0, hv17_1, hv17_2, rfl, rfl⟩ := hq9
      have hP : va_P D vwCl (wH α γ (h, old, ch) (w, qu5) ln sl (wy, lv) ct sg od hs) H := hP
      have hD : va_D A (wH α γ (h, old, ch) (w, qu5) ln sl (wy, lv) ct sg od hs) := hD
      have e17 := hv17_2 (by omega)
      refine lv_iload_n hx hb dX4_readLevel_20 rfl (lv_at hl 4 rfl) ?_
      refine z_icgt (tgt := 30) hx hb ⟨by omega, by omega⟩ ⟨by omega, by omega⟩ dX4_readLevel_21 (by decide) (fun c_21 => ?_) (fun c_21 => ?_)
      · refine z_iinc (k := 0) (v := i + 1) (lv' := [(4, .int (zI (i + 1))), (0, .ref (α 5)), (1, .ref (α 1)), (2, .ref (α 2)), (3, .int (zI L))]) hx hb dX4_readLevel_30 hl rfl rfl (by decide) rfl (fun ls hl => ?_)
        refine lv_goto (tgt := 7) hx hb dX4_readLevel_33 (by decide) ?_
        exact ih_7 w (i + 1) _ _ hP hD hS _ (lv_sub hl [0, 1, 2, 3, 4] rfl) (by first | assumption | rfl | omega) (by first | (rw [hv27_0, hw]; exact bmix_up hi.1 (decide_eq_true (by omega)).symm) | (rw [hw]; exact bmix_skip hi.1 (by rw [bmix_at (by omega)]; exact (decide_eq_false (by omega)).symm))) (by omega)
      · refine lv_aload_n hx hb dX4_readLevel_24 rfl (lv_at hl 3 rfl) ?_
        refine lv_iload hx hb dX4_readLevel_25 (lv_at hl 0 rfl) ?_
        refine z_callv hP hD hS hA (va_runV (As := [.int (zI i)]) (rest := []) hC (c_X5_add l D τ α γ (h, old, ch) w qu5 ln sl (wy, lv) ct sg od hs i (by first | assumption | rfl | omega) _) (cwV 1 hts (gV hB wl_X4_58 wn_X5_add ws_X5_add wi_X5 wc_X5_add) rfl rfl rfl hd_X5_add ⟨Nat.le_of_ble_eq_true rfl, Nat.le_of_ble_eq_true rfl⟩) (zp_V hK hP hD hS hA hG (ci := 5) (q0 := 2) rfl rfl rfl) rfl rfl hl.1 rfl (lv_room (Nat.le_of_ble_eq_true rfl)) dX4_readLevel_27 ⟨Nat.le_of_ble_eq_true rfl, Nat.le_of_ble_eq_true rfl⟩) (fun w1 H locs hq9 hP hD hS => ?_)
        obtain ⟨w27_8, hv27_0, rfl⟩ := hq9
        have hP : va_P D vwCl (wH α γ (h, old, ch) (w27_8, qu5) ln sl (wy, lv) ct sg od hs) H := hP
        have hD : va_D A (wH α γ (h, old, ch) (w27_8, qu5) ln sl (wy, lv) ct sg od hs) := hD
        refine z_iinc (k := 0) (v := i + 1) (lv' := [(4, .int (zI (i + 1))), (0, .ref (α 5)), (1, .ref (α 1)), (2, .ref (α 2)), (3, .int (zI L))]) hx hb dX4_readLevel_30 hl rfl rfl (by decide) rfl (fun ls hl => ?_)
        refine lv_goto (tgt := 7) hx hb dX4_readLevel_33 (by decide) ?_
        exact ih_7 w27_8 (i + 1) _ _ hP hD hS _ (lv_sub hl [0, 1, 2, 3, 4] rfl) (by first | assumption | rfl | omega) (by first | (rw [hv27_0, hw]; exact bmix_up hi.1 (decide_eq_true (by omega)).symm) | (rw [hw]; exact bmix_skip hi.1 (by rw [bmix_at (by omega)]; exact (decide_eq_false (by omega)).symm))) (by omega)

abbrev wz_X4_readByLevels : List Cond := .code yX4_readByLevels cX4_readByLevels 4 none :: W0
abbrev rm_X4_readByLevels : Room := { frames := 4, cells := 0, slots := 0, locals := 92 }
theorem hd_X4_readByLevels : yX4_readByLevels.cls = RX4 ∧ yX4_readByLevels.cls ≠ "java/lang/invoke/MethodHandle" ∧ yX4_readByLevels.cls ≠ "java/lang/invoke/VarHandle" ∧ (parseMethodDescriptor yX4_readByLevels.desc).map (fun d => d.parameters.length) = some 2 := by decide +kernel
set_option maxHeartbeats 4000000 in
set_option maxRecDepth 100000 in
theorem c_X4_readByLevels (l : Launch) (D : va_G) (τ : Nat → Nat) (α : Nat → Nat) (γ : Nat → ClassId) (h : IA) (old : IA) (ch : IA) (wt : BA) (qu5 : IA) (ln : TLn) (sl : TSl) (wy : IA) (lv : IA) (ct : TCt) (sg : TSg) (od : TOd) (hs : THs) (hh : ∀ k, 0 ≤ k → k < 49 → 0 ≤ h k ∧ h k ≤ 99) : cM l yX4_readByLevels wz_X4_readByLevels rm_X4_readByLevels D τ (tyH γ) [.ref (α 5), .ref (α 1), .ref (α 2)] (wH α γ (h, old, ch) (wt, qu5) ln sl (wy, lv) ct sg od hs) (zQv (fun w => ∃ (l2 : IA), ∃ (w2 : BA), ∃ (q2 : IA), (∀ k, 0 ≤ k → k < 49 → l2 k = S_spill h k) ∧ wH α γ (h, old, ch) (w2, q2) ln sl (wy, l2) ct sg od hs = w)) := by
  refine z_ofM (cc := cX4_readByLevels) (maxL := 4) (ret := none) (by decide +kernel) rfl (Nat.le_of_ble_eq_true rfl) ?_
  intro pg e s m args below meth c hC hr hlk hnm hK hP A hD hG hA hS ls hl Q hQ
  have hx := hC.1
  have hb := hC.2.1
  have hml := hC.2.2.1
  have hown := hC.2.2.2.1
  have hts := hC.2.2.2.2
  have hB : ∀ w ∈ W0, w ∈ wz_X4_readByLevels := fun _ h => List.mem_cons_of_mem _ h
  have hW0 : ∀ w ∈ W0, w.before args s = true := fun w h => hts w (hB w h)
  have hl : lv_has ls 4 [(0, .ref (α 5)), (1, .ref (α 1)), (2, .ref (α 2))] := hl
  refine lv_bipush (v := zI 99) hx hb dX4_readByLevels_0 (zI_b8 (by decide)) ?_
  refine lv_istore_n (lv' := [(3, .int (zI 99)), (0, .ref (α 5)), (1, .ref (α 1)), (2, .ref (α 2))]) hx hb dX4_readByLevels_2 rfl hl (by decide) rfl (fun ls hl => ?_)
  suffices HL_3 : ∀ (n_3 : Nat), ∀ (l3 : IA) (w : BA) (q : IA) (i : Int) (H : Heap) (locs : List Loc) (hP : va_P D vwCl (wH α γ (h, old, ch) (w, q) ln sl (wy, l3) ct sg od hs) H) (hD : va_D A (wH α γ (h, old, ch) (w, q) ln sl (wy, l3) ct sg od hs)) (hS : va_S A s.heap H locs) (ls : Array Slot) (hl : lv_has ls 4 [(3, .int (zI i)), (0, .ref (α 5)), (1, .ref (α 1)), (2, .ref (α 2))]) (hi : -1 ≤ i ∧ i ≤ 99) (hJ : LJ h l3 (i + 1)) (hm : (i + 1).toNat < n_3), W pg l e rm_X4_readByLevels s m args below meth c H locs 0 0 Q (F0 m 3 ls []) from HL_3 _ lv wt qu5 99 _ _ hP hD hS _ (lv_sub hl [0, 1, 2, 3] rfl) (by first | assumption | rfl | omega) (by exact LJ_init h lv) (Nat.lt_succ_self _)
  intro n_3
  induction n_3 with
  | zero => intro l3 w q i H locs hP hD hS ls hl hi hJ hm; exact absurd hm (Nat.not_lt_zero _)
  | succ n_3 ih_3 =>
    intro l3 w q i H locs hP hD hS ls hl hi hJ hm
    refine lv_iload_n hx hb dX4_readByLevels_3 rfl (lv_at hl 0 rfl) ?_
    refine z_iflt (tgt := 28) hx hb ⟨by omega, by omega⟩ dX4_readByLevels_4 (by decide) (fun c_4 => ?_) (fun c_4 => ?_)
    · exact z_vret hC hr hlk hQ hP hD hS ⟨l3, w, q, (by exact fun k a b => LJ_end hh ((show i + 1 = 0 by omega) ▸ hJ) ⟨a, b⟩), rfl⟩ dX4_readByLevels_28
    · refine lv_aload_n hx hb dX4_readByLevels_7 rfl (lv_at hl 2 rfl) ?_
      refine lv_iload_n hx hb dX4_readByLevels_8 rfl (lv_at hl 0 rfl) ?_
      refine z_calli hP hD hS hA (va_runV (As := [.int (zI i)]) (rest := []) hC (c_X6_has l D τ α γ h old ch (w, q) ln sl (wy, l3) ct sg od hs i (by first | assumption | rfl | omega) (by first | assumption | rfl | omega) _) (cwV 1 hts (gV hB wl_X4_46 wn_X6_has ws_X6_has wi_X6 wc_X6_has) rfl rfl rfl hd_X6_has ⟨Nat.le_of_ble_eq_true rfl, Nat.le_of_ble_eq_true rfl⟩) (zp_V hK hP hD hS hA hG (ci := 6) (q0 := 1) rfl rfl rfl) rfl rfl hl.1 rfl (lv_room (Nat.le_of_ble_eq_true rfl)) dX4_readByLevels_9 ⟨Nat.le_of_ble_eq_true rfl, Nat.le_of_ble_eq_true rfl⟩) (fun r w1 H locs hq9 hP hD hS => ?_)
      obtain ⟨v9_1, hv9_0, rfl, rfl⟩ := hq9
      have hP : va_P D vwCl (wH α γ (h, old, ch) (w, q) ln sl (wy, l3) ct sg od hs) H := hP
      have hD : va_D A (wH α γ (h, old, ch) (w, q) ln sl (wy, l3) ct sg od hs) := hD
      refine z_ifeqB (tgt := 22) hx hb dX4_readByLevels_12 (by decide) (fun c_12 => ?_) (fun c_12 => ?_)
      · have hb_12 := zb_neg hv9_0 c_12
        refine z_iinc (k := 0) (v := i + (-1)) (lv' := [(3, .int (zI (i + (-1)))), (0, .ref (α 5)), (1, .ref (α 1)), (2, .ref (α 2))]) hx hb dX4_readByLevels_22 hl rfl rfl (by decide) rfl (fun ls hl => ?_)
        refine lv_goto (tgt := 3) hx hb dX4_readByLevels_25 (by decide) ?_
        exact ih_3 l3 w q (i + (-1)) _ _ hP hD hS _ (lv_sub hl [0, 1, 2, 3] rfl) (by first | assumption | rfl | omega) (by first | (rw [show i + -1 + 1 = i from Int.neg_add_cancel_right i 1]; exact LJ_skip hJ hb_12) | (rw [show i + -1 + 1 = i from Int.neg_add_cancel_right i 1]; exact LJ_cong hv19_0 (LJ_up hi.2 hJ))) (by clear hv9_0 hb_12; omega)
      · have hb_12 := hv9_0.mp c_12
        refine lv_aload_n hx hb dX4_readByLevels_15 rfl (lv_at hl 1 rfl) ?_
        refine lv_aload_n hx hb dX4_readByLevels_16 rfl (lv_at hl 2 rfl) ?_
        refine lv_aload_n hx hb dX4_readByLevels_17 rfl (lv_at hl 3 rfl) ?_
        refine lv_iload_n hx hb dX4_readByLevels_18 rfl (lv_at hl 0 rfl) ?_
        refine z_callv hP hD hS hA (va_runV (As := [.ref (α 1), .ref (α 2), .int (zI i)]) (rest := []) hC (c_X4_readLevel l D τ α γ h old ch w q ln sl wy l3 ct sg od hs i (by first | assumption | rfl | omega) (by first | assumption | rfl | omega) _) (cwV 3 hts (gV hB wl_X4_49 wn_X4_readLevel ws_X4_readLevel wi_X4 wc_X4_readLevel) rfl rfl rfl hd_X4_readLevel ⟨Nat.le_of_ble_eq_true rfl, Nat.le_of_ble_eq_true rfl⟩) (zp_V hK hP hD hS hA hG (ci := 4) (q0 := 5) rfl rfl rfl) rfl rfl hl.1 rfl (lv_room (Nat.le_of_ble_eq_true rfl)) dX4_readByLevels_19 ⟨Nat.le_of_ble_eq_true rfl, Nat.le_of_ble_eq_true rfl⟩) (fun w1 H locs hq9 hP hD hS => ?_)
        obtain ⟨l19_2, w19_3, q19_4, hv19_0, rfl⟩ := hq9
        have hP : va_P D vwCl (wH α γ (h, old, ch) (w19_3, q19_4) ln sl (wy, l19_2) ct sg od hs) H := hP
        have hD : va_D A (wH α γ (h, old, ch) (w19_3, q19_4) ln sl (wy, l19_2) ct sg od hs) := hD
        refine z_iinc (k := 0) (v := i + (-1)) (lv' := [(3, .int (zI (i + (-1)))), (0, .ref (α 5)), (1, .ref (α 1)), (2, .ref (α 2))]) hx hb dX4_readByLevels_22 hl rfl rfl (by decide) rfl (fun ls hl => ?_)
        refine lv_goto (tgt := 3) hx hb dX4_readByLevels_25 (by decide) ?_
        exact ih_3 l19_2 w19_3 q19_4 (i + (-1)) _ _ hP hD hS _ (lv_sub hl [0, 1, 2, 3] rfl) (by first | assumption | rfl | omega) (by first | (rw [show i + -1 + 1 = i from Int.neg_add_cancel_right i 1]; exact LJ_skip hJ hb_12) | (rw [show i + -1 + 1 = i from Int.neg_add_cancel_right i 1]; exact LJ_cong hv19_0 (LJ_up hi.2 hJ))) (by clear hv9_0 hb_12; omega)

abbrev wz_X4_wayHeight : List Cond := .code yX4_wayHeight cX4_wayHeight 2 (some .int) :: W0
abbrev rm_X4_wayHeight : Room := { frames := 1, cells := 0, slots := 0, locals := 20 }
theorem hd_X4_wayHeight : yX4_wayHeight.cls = RX4 ∧ yX4_wayHeight.cls ≠ "java/lang/invoke/MethodHandle" ∧ yX4_wayHeight.cls ≠ "java/lang/invoke/VarHandle" ∧ (parseMethodDescriptor yX4_wayHeight.desc).map (fun d => d.parameters.length) = some 1 := by decide +kernel
set_option maxHeartbeats 4000000 in
set_option maxRecDepth 100000 in
theorem c_X4_wayHeight (l : Launch) (D : va_G) (τ : Nat → Nat) (α : Nat → Nat) (γ : Nat → ClassId) (rl : TRl) (rg : TRg) (ln : TLn) (sl : TSl) (wy : IA) (lv : IA) (ct : TCt) (sg : TSg) (od : TOd) (hs : THs) (h : IA) (a : Int) (ha : 0 ≤ a ∧ a < 49) (hwy : ∀ k, 0 ≤ k → k < 49 → wy k = S_spill h k) : cM l yX4_wayHeight wz_X4_wayHeight rm_X4_wayHeight D τ (tyH γ) [.ref (α 5), .int (zI a)] (wH α γ rl rg ln sl (wy, lv) ct sg od hs) (zQi (fun r w => ∃ (v : Int), (v = S_spill h a) ∧ (0 ≤ v ∧ v ≤ 100) ∧ r = zI v ∧ wH α γ rl rg ln sl (wy, lv) ct sg od hs = w)) := by
  refine z_ofM (cc := cX4_wayHeight) (maxL := 2) (ret := (some .int)) (by decide +kernel) rfl (Nat.le_of_ble_eq_true rfl) ?_
  intro pg e s m args below meth c hC hr hlk hnm hK hP A hD hG hA hS ls hl Q hQ
  have hx := hC.1
  have hb := hC.2.1
  have hml := hC.2.2.1
  have hown := hC.2.2.2.1
  have hts := hC.2.2.2.2
  have hB : ∀ w ∈ W0, w ∈ wz_X4_wayHeight := fun _ h => List.mem_cons_of_mem _ h
  have hW0 : ∀ w ∈ W0, w.before args s = true := fun w h => hts w (hB w h)
  have hl : lv_has ls 2 [(0, .ref (α 5)), (1, .int (zI a))] := hl
  refine lv_iload_n hx hb dX4_wayHeight_0 rfl (lv_at hl 1 rfl) ?_
  refine z_calli hP hD hS hA (va_runSN (As := [.int (zI a)]) (rest := []) hC (c_X9_isPoint l D τ _ _ a (by first | assumption | rfl | omega) _) ⟨va_cnB 1 hts (gC hB wc_X9_isPoint) rfl rfl rfl (hG.2.2.2.2.2.2.2 _ (List.mem_of_getElem? (i := 6) rfl)) (hW0 _ wi_X9) hd_X9_isPoint.2 ⟨Nat.le_of_ble_eq_true rfl, Nat.le_of_ble_eq_true rfl⟩, (hW0 _ wt_X9_isPoint), trivial⟩ (zp_S hK hP hD hS hA hG) rfl rfl hl.1 rfl (lv_room (Nat.le_of_ble_eq_true rfl)) dX4_wayHeight_1 ⟨Nat.le_of_ble_eq_true rfl, Nat.le_of_ble_eq_true rfl⟩) (fun r w1 H locs hq9 hP hD hS => ?_)
  obtain ⟨v1_1, hv1_0, rfl, rfl⟩ := hq9
  refine z_ifeqB (tgt := 16) hx hb dX4_wayHeight_4 (by decide) (fun c_4 => ?_) (fun c_4 => ?_)
  · have hb_4 := zb_neg hv1_0 c_4
    exact absurd ha hb_4
  · have hb_4 := hv1_0.mp c_4
    refine lv_aload_n hx hb dX4_wayHeight_7 rfl (lv_at hl 0 rfl) ?_
    refine va_get (D := D) (ci := 4) (v := .ref (α 24)) (C := RX4) (T := TX4) (N := 2) hx hb hts (fun w h => List.mem_cons_of_mem _ (wx_X4 w h)) hown hK hP 5 rfl rfl 0 (by decide) (hW0 _ wf_X4_9) (fun _ h9 => h9) rfl dX4_wayHeight_8 ?_
    refine lv_iload_n hx hb dX4_wayHeight_11 rfl (lv_at hl 1 rfl) ?_
    refine z_iald (f := wy) hx hb hK hP 24 14 rfl rfl ⟨⟨by omega, by omega⟩, by decide⟩ dX4_wayHeight_12 ?_
    refine lv_goto (tgt := 17) hx hb dX4_wayHeight_13 (by decide) ?_
    exact z_iret hC hr hlk hQ hP hD hS ⟨wy a, (by exact hwy a ha.1 ha.2), (by rw [hwy a ha.1 ha.2]; exact S_spill_b h a), rfl, rfl⟩ dX4_wayHeight_17

abbrev wz_X4_levelHeight : List Cond := .code yX4_levelHeight cX4_levelHeight 2 (some .int) :: W0
abbrev rm_X4_levelHeight : Room := { frames := 1, cells := 0, slots := 0, locals := 20 }
theorem hd_X4_levelHeight : yX4_levelHeight.cls = RX4 ∧ yX4_levelHeight.cls ≠ "java/lang/invoke/MethodHandle" ∧ yX4_levelHeight.cls ≠ "java/lang/invoke/VarHandle" ∧ (parseMethodDescriptor yX4_levelHeight.desc).map (fun d => d.parameters.length) = some 1 := by decide +kernel
set_option maxHeartbeats 4000000 in
set_option maxRecDepth 100000 in
theorem c_X4_levelHeight (l : Launch) (D : va_G) (τ : Nat → Nat) (α : Nat → Nat) (γ : Nat → ClassId) (rl : TRl) (rg : TRg) (ln : TLn) (sl : TSl) (wy : IA) (lv : IA) (ct : TCt) (sg : TSg) (od : TOd) (hs : THs) (h : IA) (a : Int) (ha : 0 ≤ a ∧ a < 49) (hlv : ∀ k, 0 ≤ k → k < 49 → lv k = S_spill h k) : cM l yX4_levelHeight wz_X4_levelHeight rm_X4_levelHeight D τ (tyH γ) [.ref (α 5), .int (zI a)] (wH α γ rl rg ln sl (wy, lv) ct sg od hs) (zQi (fun r w => ∃ (v : Int), (v = S_spill h a) ∧ (0 ≤ v ∧ v ≤ 100) ∧ r = zI v ∧ wH α γ rl rg ln sl (wy, lv) ct sg od hs = w)) := by
  refine z_ofM (cc := cX4_levelHeight) (maxL := 2) (ret := (some .int)) (by decide +kernel) rfl (Nat.le_of_ble_eq_true rfl) ?_
  intro pg e s m args below meth c hC hr hlk hnm hK hP A hD hG hA hS ls hl Q hQ
  have hx := hC.1
  have hb := hC.2.1
  have hml := hC.2.2.1
  have hown := hC.2.2.2.1
  have hts := hC.2.2.2.2
  have hB : ∀ w ∈ W0, w ∈ wz_X4_levelHeight := fun _ h => List.mem_cons_of_mem _ h
  have hW0 : ∀ w ∈ W0, w.before args s = true := fun w h => hts w (hB w h)
  have hl : lv_has ls 2 [(0, .ref (α 5)), (1, .int (zI a))] := hl
  refine lv_iload_n hx hb dX4_levelHeight_0 rfl (lv_at hl 1 rfl) ?_
  refine z_calli hP hD hS hA (va_runSN (As := [.int (zI a)]) (rest := []) hC (c_X9_isPoint l D τ _ _ a (by first | assumption | rfl | omega) _) ⟨va_cnB 1 hts (gC hB wc_X9_isPoint) rfl rfl rfl (hG.2.2.2.2.2.2.2 _ (List.mem_of_getElem? (i := 6) rfl)) (hW0 _ wi_X9) hd_X9_isPoint.2 ⟨Nat.le_of_ble_eq_true rfl, Nat.le_of_ble_eq_true rfl⟩, (hW0 _ wt_X9_isPoint), trivial⟩ (zp_S hK hP hD hS hA hG) rfl rfl hl.1 rfl (lv_room (Nat.le_of_ble_eq_true rfl)) dX4_levelHeight_1 ⟨Nat.le_of_ble_eq_true rfl, Nat.le_of_ble_eq_true rfl⟩) (fun r w1 H locs hq9 hP hD hS => ?_)
  obtain ⟨v1_1, hv1_0, rfl, rfl⟩ := hq9
  refine z_ifeqB (tgt := 16) hx hb dX4_levelHeight_4 (by decide) (fun c_4 => ?_) (fun c_4 => ?_)
  · have hb_4 := zb_neg hv1_0 c_4
    exact absurd ha hb_4
  · have hb_4 := hv1_0.mp c_4
    refine lv_aload_n hx hb dX4_levelHeight_7 rfl (lv_at hl 0 rfl) ?_
    refine va_get (D := D) (ci := 4) (v := .ref (α 25)) (C := RX4) (T := TX4) (N := 2) hx hb hts (fun w h => List.mem_cons_of_mem _ (wx_X4 w h)) hown hK hP 5 rfl rfl 1 (by decide) (hW0 _ wf_X4_15) (fun _ h9 => h9) rfl dX4_levelHeight_8 ?_
    refine lv_iload_n hx hb dX4_levelHeight_11 rfl (lv_at hl 1 rfl) ?_
    refine z_iald (f := lv) hx hb hK hP 25 15 rfl rfl ⟨⟨by omega, by omega⟩, by decide⟩ dX4_levelHeight_12 ?_
    refine lv_goto (tgt := 17) hx hb dX4_levelHeight_13 (by decide) ?_
    exact z_iret hC hr hlk hQ hP hD hS ⟨lv a, (by exact hlv a ha.1 ha.2), (by rw [hlv a ha.1 ha.2]; exact S_spill_b h a), rfl, rfl⟩ dX4_levelHeight_17

