abbrev wz_X3_size : List Cond := .code yX3_size cX3_size 1 (some .int) :: W0
abbrev rm_X3_size : Room := { frames := 0, cells := 0, slots := 0, locals := 0 }
theorem hd_X3_size : yX3_size.cls = RX3 ∧ yX3_size.cls ≠ "java/lang/invoke/MethodHandle" ∧ yX3_size.cls ≠ "java/lang/invoke/VarHandle" ∧ (parseMethodDescriptor yX3_size.desc).map (fun d => d.parameters.length) = some 0 := by decide +kernel
set_option maxHeartbeats 4000000 in
set_option maxRecDepth 100000 in
theorem c_X3_size (l : Launch) (D : va_G) (τ : Nat → Nat) (α : Nat → Nat) (γ : Nat → ClassId) (rl : TRl) (rg : TRg) (ln : TLn) (sl : TSl) (pd : TPd) (ct : TCt) (sg : TSg) (cd : IA) (ln9 : Int) (pl : Int) (le : Int) (ro : Int) (co : Int) (nu : Int) (hs : THs) : cM l yX3_size wz_X3_size rm_X3_size D τ (tyH γ) [.ref (α 8)] (wH α γ rl rg ln sl pd ct sg (cd, ln9, pl, le, ro, co, nu) hs) (zQi (fun r w => ∃ (v : Int), (v = ln9) ∧ r = zI v ∧ wH α γ rl rg ln sl pd ct sg (cd, ln9, pl, le, ro, co, nu) hs = w)) := by
  refine z_ofM (cc := cX3_size) (maxL := 1) (ret := (some .int)) (by decide +kernel) rfl (Nat.le_of_ble_eq_true rfl) ?_
  intro pg e s m args below meth c hC hr hlk hnm hK hP A hD hG hA hS ls hl Q hQ
  have hx := hC.1
  have hb := hC.2.1
  have hml := hC.2.2.1
  have hown := hC.2.2.2.1
  have hts := hC.2.2.2.2
  have hB : ∀ w ∈ W0, w ∈ wz_X3_size := fun _ h => List.mem_cons_of_mem _ h
  have hW0 : ∀ w ∈ W0, w.before args s = true := fun w h => hts w (hB w h)
  have hl : lv_has ls 1 [(0, .ref (α 8))] := hl
  refine lv_aload_n hx hb dX3_size_0 rfl (lv_at hl 0 rfl) ?_
  refine va_get (D := D) (ci := 3) (v := .int (zI ln9)) (C := RX3) (T := TX3) (N := 7) hx hb hts (fun w h => List.mem_cons_of_mem _ (wx_X3 w h)) hown hK hP 8 rfl rfl 1 (by decide) (hW0 _ wf_X3_15) (fun _ h9 => h9) rfl dX3_size_1 ?_
  exact z_iret hC hr hlk hQ hP hD hS ⟨ln9, (by first | assumption | rfl | omega), rfl, rfl⟩ dX3_size_4

abbrev wz_X3_code : List Cond := .code yX3_code cX3_code 2 (some .int) :: W0
abbrev rm_X3_code : Room := { frames := 0, cells := 0, slots := 0, locals := 0 }
theorem hd_X3_code : yX3_code.cls = RX3 ∧ yX3_code.cls ≠ "java/lang/invoke/MethodHandle" ∧ yX3_code.cls ≠ "java/lang/invoke/VarHandle" ∧ (parseMethodDescriptor yX3_code.desc).map (fun d => d.parameters.length) = some 1 := by decide +kernel
set_option maxHeartbeats 4000000 in
set_option maxRecDepth 100000 in
theorem c_X3_code (l : Launch) (D : va_G) (τ : Nat → Nat) (α : Nat → Nat) (γ : Nat → ClassId) (rl : TRl) (rg : TRg) (ln : TLn) (sl : TSl) (pd : TPd) (ct : TCt) (sg : TSg) (cd : IA) (ln9 : Int) (pl : Int) (le : Int) (ro : Int) (co : Int) (nu : Int) (hs : THs) (i : Int) (hi : 0 ≤ i ∧ i < ln9) (hln : 0 ≤ ln9 ∧ ln9 ≤ 60) (hcd : ∀ k, 0 ≤ k → k < ln9 → 0 ≤ cd k ∧ cd k ≤ 126) : cM l yX3_code wz_X3_code rm_X3_code D τ (tyH γ) [.ref (α 8), .int (zI i)] (wH α γ rl rg ln sl pd ct sg (cd, ln9, pl, le, ro, co, nu) hs) (zQi (fun r w => ∃ (v : Int), (v = cd i) ∧ (0 ≤ v ∧ v ≤ 126) ∧ r = zI v ∧ wH α γ rl rg ln sl pd ct sg (cd, ln9, pl, le, ro, co, nu) hs = w)) := by
  refine z_ofM (cc := cX3_code) (maxL := 2) (ret := (some .int)) (by decide +kernel) rfl (Nat.le_of_ble_eq_true rfl) ?_
  intro pg e s m args below meth c hC hr hlk hnm hK hP A hD hG hA hS ls hl Q hQ
  have hx := hC.1
  have hb := hC.2.1
  have hml := hC.2.2.1
  have hown := hC.2.2.2.1
  have hts := hC.2.2.2.2
  have hB : ∀ w ∈ W0, w ∈ wz_X3_code := fun _ h => List.mem_cons_of_mem _ h
  have hW0 : ∀ w ∈ W0, w.before args s = true := fun w h => hts w (hB w h)
  have hl : lv_has ls 2 [(0, .ref (α 8)), (1, .int (zI i))] := hl
  refine lv_iload_n hx hb dX3_code_0 rfl (lv_at hl 1 rfl) ?_
  refine z_iflt (tgt := 27) hx hb ⟨by omega, by omega⟩ dX3_code_1 (by decide) (fun c_1 => ?_) (fun c_1 => ?_)
  · exact absurd c_1 (by omega)
  · refine lv_iload_n hx hb dX3_code_4 rfl (lv_at hl 1 rfl) ?_
    refine lv_aload_n hx hb dX3_code_5 rfl (lv_at hl 0 rfl) ?_
    refine va_get (D := D) (ci := 3) (v := .int (zI ln9)) (C := RX3) (T := TX3) (N := 7) hx hb hts (fun w h => List.mem_cons_of_mem _ (wx_X3 w h)) hown hK hP 8 rfl rfl 1 (by decide) (hW0 _ wf_X3_15) (fun _ h9 => h9) rfl dX3_code_6 ?_
    refine z_icge (tgt := 27) hx hb ⟨by omega, by omega⟩ ⟨by omega, by omega⟩ dX3_code_9 (by decide) (fun c_9 => ?_) (fun c_9 => ?_)
    · exact absurd c_9 (by omega)
    · refine lv_iload_n hx hb dX3_code_12 rfl (lv_at hl 1 rfl) ?_
      refine lv_bipush (v := zI 60) hx hb dX3_code_13 (zI_b8 (by decide)) ?_
      refine z_icge (tgt := 27) hx hb ⟨by omega, by omega⟩ ⟨by omega, by omega⟩ dX3_code_15 (by decide) (fun c_15 => ?_) (fun c_15 => ?_)
      · exact absurd c_15 (by omega)
      · refine lv_aload_n hx hb dX3_code_18 rfl (lv_at hl 0 rfl) ?_
        refine va_get (D := D) (ci := 3) (v := .ref (α 28)) (C := RX3) (T := TX3) (N := 7) hx hb hts (fun w h => List.mem_cons_of_mem _ (wx_X3 w h)) hown hK hP 8 rfl rfl 0 (by decide) (hW0 _ wf_X3_9) (fun _ h9 => h9) rfl dX3_code_19 ?_
        refine lv_iload_n hx hb dX3_code_22 rfl (lv_at hl 1 rfl) ?_
        refine z_iald (f := cd) hx hb hK hP 28 18 rfl rfl ⟨⟨by omega, by omega⟩, by decide⟩ dX3_code_23 ?_
        have hb_23 := hcd i (by omega) (by omega)
        refine lv_goto (tgt := 28) hx hb dX3_code_24 (by decide) ?_
        exact z_iret hC hr hlk hQ hP hD hS ⟨cd i, (by first | assumption | rfl | omega), (by first | assumption | rfl | omega), rfl, rfl⟩ dX3_code_28

abbrev wz_X3_add : List Cond := .code yX3_add cX3_add 2 none :: W0
abbrev rm_X3_add : Room := { frames := 0, cells := 0, slots := 0, locals := 0 }
theorem hd_X3_add : yX3_add.cls = RX3 ∧ yX3_add.cls ≠ "java/lang/invoke/MethodHandle" ∧ yX3_add.cls ≠ "java/lang/invoke/VarHandle" ∧ (parseMethodDescriptor yX3_add.desc).map (fun d => d.parameters.length) = some 1 := by decide +kernel
set_option maxHeartbeats 4000000 in
set_option maxRecDepth 100000 in
theorem c_X3_add (l : Launch) (D : va_G) (τ : Nat → Nat) (α : Nat → Nat) (γ : Nat → ClassId) (rl : TRl) (rg : TRg) (ln : TLn) (sl : TSl) (pd : TPd) (ct : TCt) (sg : TSg) (cd : IA) (ln9 : Int) (pl : Int) (le : Int) (ro : Int) (co : Int) (nu : Int) (hs : THs) (cc9 : Int) (hln : 0 ≤ ln9 ∧ ln9 < 60) : cM l yX3_add wz_X3_add rm_X3_add D τ (tyH γ) [.ref (α 8), .int (zI cc9)] (wH α γ rl rg ln sl pd ct sg (cd, ln9, pl, le, ro, co, nu) hs) (zQv (fun w => ∃ (f2 : IA), ∃ (n2 : Int), (f2 = zu cd ln9 cc9) ∧ (n2 = ln9 + 1) ∧ wH α γ rl rg ln sl pd ct sg (f2, n2, pl, le, ro, co, nu) hs = w)) := by
  refine z_ofM (cc := cX3_add) (maxL := 2) (ret := none) (by decide +kernel) rfl (Nat.le_of_ble_eq_true rfl) ?_
  intro pg e s m args below meth c hC hr hlk hnm hK hP A hD hG hA hS ls hl Q hQ
  have hx := hC.1
  have hb := hC.2.1
  have hml := hC.2.2.1
  have hown := hC.2.2.2.1
  have hts := hC.2.2.2.2
  have hB : ∀ w ∈ W0, w ∈ wz_X3_add := fun _ h => List.mem_cons_of_mem _ h
  have hW0 : ∀ w ∈ W0, w.before args s = true := fun w h => hts w (hB w h)
  have hl : lv_has ls 2 [(0, .ref (α 8)), (1, .int (zI cc9))] := hl
  refine lv_aload_n hx hb dX3_add_0 rfl (lv_at hl 0 rfl) ?_
  refine va_get (D := D) (ci := 3) (v := .int (zI ln9)) (C := RX3) (T := TX3) (N := 7) hx hb hts (fun w h => List.mem_cons_of_mem _ (wx_X3 w h)) hown hK hP 8 rfl rfl 1 (by decide) (hW0 _ wf_X3_15) (fun _ h9 => h9) rfl dX3_add_1 ?_
  refine z_iflt (tgt := 36) hx hb ⟨by omega, by omega⟩ dX3_add_4 (by decide) (fun c_4 => ?_) (fun c_4 => ?_)
  · exact absurd c_4 (by omega)
  · refine lv_aload_n hx hb dX3_add_7 rfl (lv_at hl 0 rfl) ?_
    refine va_get (D := D) (ci := 3) (v := .int (zI ln9)) (C := RX3) (T := TX3) (N := 7) hx hb hts (fun w h => List.mem_cons_of_mem _ (wx_X3 w h)) hown hK hP 8 rfl rfl 1 (by decide) (hW0 _ wf_X3_15) (fun _ h9 => h9) rfl dX3_add_8 ?_
    refine lv_bipush (v := zI 60) hx hb dX3_add_11 (zI_b8 (by decide)) ?_
    refine z_icge (tgt := 36) hx hb ⟨by omega, by omega⟩ ⟨by omega, by omega⟩ dX3_add_13 (by decide) (fun c_13 => ?_) (fun c_13 => ?_)
    · exact absurd c_13 (by omega)
    · refine lv_aload_n hx hb dX3_add_16 rfl (lv_at hl 0 rfl) ?_
      refine va_get (D := D) (ci := 3) (v := .ref (α 28)) (C := RX3) (T := TX3) (N := 7) hx hb hts (fun w h => List.mem_cons_of_mem _ (wx_X3 w h)) hown hK hP 8 rfl rfl 0 (by decide) (hW0 _ wf_X3_9) (fun _ h9 => h9) rfl dX3_add_17 ?_
      refine lv_aload_n hx hb dX3_add_20 rfl (lv_at hl 0 rfl) ?_
      refine va_get (D := D) (ci := 3) (v := .int (zI ln9)) (C := RX3) (T := TX3) (N := 7) hx hb hts (fun w h => List.mem_cons_of_mem _ (wx_X3 w h)) hown hK hP 8 rfl rfl 1 (by decide) (hW0 _ wf_X3_15) (fun _ h9 => h9) rfl dX3_add_21 ?_
      refine lv_iload_n hx hb dX3_add_24 rfl (lv_at hl 1 rfl) ?_
      refine z_iast (f := cd) (v := cc9) hx hb hK hP hD hS 28 18 rfl rfl ⟨⟨by omega, by omega⟩, by decide⟩ dX3_add_25 (fun H locs hP hD hS => ?_)
      have hP : va_P D vwCl (wH α γ rl rg ln sl pd ct sg (zu cd ln9 cc9, ln9, pl, le, ro, co, nu) hs) H := hP
      have hD : va_D A (wH α γ rl rg ln sl pd ct sg (zu cd ln9 cc9, ln9, pl, le, ro, co, nu) hs) := hD
      refine lv_aload_n hx hb dX3_add_26 rfl (lv_at hl 0 rfl) ?_
      refine lv_dup hx hb dX3_add_27 rfl ?_
      refine va_get (D := D) (ci := 3) (v := .int (zI ln9)) (C := RX3) (T := TX3) (N := 7) hx hb hts (fun w h => List.mem_cons_of_mem _ (wx_X3 w h)) hown hK hP 8 rfl rfl 1 (by decide) (hW0 _ wf_X3_15) (fun _ h9 => h9) rfl dX3_add_28 ?_
      refine lv_iconst (v := zI 1) hx hb dX3_add_31 rfl ?_
      refine z_iadd hx hb dX3_add_32 ?_
      refine va_put (D := D) (ci := 3) (v := .int (zI (ln9 + 1))) (ty := .int) (C := RX3) (T := TX3) (N := 7) hx hb hts (fun w h => List.mem_cons_of_mem _ (wx_X3 w h)) tyX3 tyX3_ok nmX3 hown hK hP hD hS 8 rfl rfl 1 (by decide) (hW0 _ wf_X3_15) (fun _ h9 => h9) rfl (by decide +kernel) rfl rfl (Nat.le_of_ble_eq_true rfl) dX3_add_33 (fun H locs hP hD hS => ?_)
      have hP : va_P D vwCl (wH α γ rl rg ln sl pd ct sg (zu cd ln9 cc9, ln9 + 1, pl, le, ro, co, nu) hs) H := hP
      have hD : va_D A (wH α γ rl rg ln sl pd ct sg (zu cd ln9 cc9, ln9 + 1, pl, le, ro, co, nu) hs) := hD
      exact z_vret hC hr hlk hQ hP hD hS ⟨zu cd ln9 cc9, ln9 + 1, (by first | assumption | rfl | omega), (by first | assumption | rfl | omega), rfl⟩ dX3_add_36

abbrev wz_X3_drop : List Cond := .code yX3_drop cX3_drop 1 none :: W0
abbrev rm_X3_drop : Room := { frames := 0, cells := 0, slots := 0, locals := 0 }
theorem hd_X3_drop : yX3_drop.cls = RX3 ∧ yX3_drop.cls ≠ "java/lang/invoke/MethodHandle" ∧ yX3_drop.cls ≠ "java/lang/invoke/VarHandle" ∧ (parseMethodDescriptor yX3_drop.desc).map (fun d => d.parameters.length) = some 0 := by decide +kernel
set_option maxHeartbeats 4000000 in
set_option maxRecDepth 100000 in
theorem c_X3_drop (l : Launch) (D : va_G) (τ : Nat → Nat) (α : Nat → Nat) (γ : Nat → ClassId) (rl : TRl) (rg : TRg) (ln : TLn) (sl : TSl) (pd : TPd) (ct : TCt) (sg : TSg) (cd : IA) (ln9 : Int) (pl : Int) (le : Int) (ro : Int) (co : Int) (nu : Int) (hs : THs) : cM l yX3_drop wz_X3_drop rm_X3_drop D τ (tyH γ) [.ref (α 8)] (wH α γ rl rg ln sl pd ct sg (cd, ln9, pl, le, ro, co, nu) hs) (zQv (fun w => wH α γ rl rg ln sl pd ct sg (cd, 0, pl, le, ro, co, nu) hs = w)) := by
  refine z_ofM (cc := cX3_drop) (maxL := 1) (ret := none) (by decide +kernel) rfl (Nat.le_of_ble_eq_true rfl) ?_
  intro pg e s m args below meth c hC hr hlk hnm hK hP A hD hG hA hS ls hl Q hQ
  have hx := hC.1
  have hb := hC.2.1
  have hml := hC.2.2.1
  have hown := hC.2.2.2.1
  have hts := hC.2.2.2.2
  have hB : ∀ w ∈ W0, w ∈ wz_X3_drop := fun _ h => List.mem_cons_of_mem _ h
  have hW0 : ∀ w ∈ W0, w.before args s = true := fun w h => hts w (hB w h)
  have hl : lv_has ls 1 [(0, .ref (α 8))] := hl
  refine lv_aload_n hx hb dX3_drop_0 rfl (lv_at hl 0 rfl) ?_
  refine lv_iconst (v := zI 0) hx hb dX3_drop_1 rfl ?_
  refine va_put (D := D) (ci := 3) (v := .int (zI 0)) (ty := .int) (C := RX3) (T := TX3) (N := 7) hx hb hts (fun w h => List.mem_cons_of_mem _ (wx_X3 w h)) tyX3 tyX3_ok nmX3 hown hK hP hD hS 8 rfl rfl 1 (by decide) (hW0 _ wf_X3_15) (fun _ h9 => h9) rfl (by decide +kernel) rfl rfl (Nat.le_of_ble_eq_true rfl) dX3_drop_2 (fun H locs hP hD hS => ?_)
  have hP : va_P D vwCl (wH α γ rl rg ln sl pd ct sg (cd, 0, pl, le, ro, co, nu) hs) H := hP
  have hD : va_D A (wH α γ rl rg ln sl pd ct sg (cd, 0, pl, le, ro, co, nu) hs) := hD
  exact z_vret hC hr hlk hQ hP hD hS rfl dX3_drop_5

abbrev wz_X3_isSecondDigit : List Cond := .code yX3_isSecondDigit cX3_isSecondDigit 3 (some .boolean) :: W0
abbrev rm_X3_isSecondDigit : Room := { frames := 0, cells := 0, slots := 0, locals := 0 }
theorem hd_X3_isSecondDigit : yX3_isSecondDigit.cls = RX3 ∧ yX3_isSecondDigit.cls ≠ "java/lang/invoke/MethodHandle" ∧ yX3_isSecondDigit.cls ≠ "java/lang/invoke/VarHandle" ∧ (parseMethodDescriptor yX3_isSecondDigit.desc).map (fun d => d.parameters.length) = some 1 := by decide +kernel
set_option maxHeartbeats 4000000 in
set_option maxRecDepth 100000 in
theorem c_X3_isSecondDigit (l : Launch) (D : va_G) (τ : Nat → Nat) (α : Nat → Nat) (γ : Nat → ClassId) (rl : TRl) (rg : TRg) (ln : TLn) (sl : TSl) (pd : TPd) (ct : TCt) (sg : TSg) (cd : IA) (ln9 : Int) (pl : Int) (le : Int) (ro : Int) (co : Int) (nu : Int) (hs : THs) (cc9 : Int) (hc9 : 0 ≤ cc9 ∧ cc9 ≤ 126) (hov : OV pl le ro co nu) : cM l yX3_isSecondDigit wz_X3_isSecondDigit rm_X3_isSecondDigit D τ (tyH γ) [.ref (α 8), .int (zI cc9)] (wH α γ rl rg ln sl pd ct sg (cd, ln9, pl, le, ro, co, nu) hs) (zQi (fun r w => ∃ (v : Bool), (v = true ↔ O_sec le nu cc9) ∧ r = bI v ∧ wH α γ rl rg ln sl pd ct sg (cd, ln9, pl, le, ro, co, nu) hs = w)) := by
  refine z_ofM (cc := cX3_isSecondDigit) (maxL := 3) (ret := (some .boolean)) (by decide +kernel) rfl (Nat.le_of_ble_eq_true rfl) ?_
  intro pg e s m args below meth c hC hr hlk hnm hK hP A hD hG hA hS ls hl Q hQ
  have hx := hC.1
  have hb := hC.2.1
  have hml := hC.2.2.1
  have hown := hC.2.2.2.1
  have hts := hC.2.2.2.2
  have hB : ∀ w ∈ W0, w ∈ wz_X3_isSecondDigit := fun _ h => List.mem_cons_of_mem _ h
  have hW0 : ∀ w ∈ W0, w.before args s = true := fun w h => hts w (hB w h)
  have hl : lv_has ls 3 [(0, .ref (α 8)), (1, .int (zI cc9))] := hl
  unfold OV at hov
  refine lv_aload_n hx hb dX3_isSecondDigit_0 rfl (lv_at hl 0 rfl) ?_
  refine va_get (D := D) (ci := 3) (v := .int (zI le)) (C := RX3) (T := TX3) (N := 7) hx hb hts (fun w h => List.mem_cons_of_mem _ (wx_X3 w h)) hown hK hP 8 rfl rfl 3 (by decide) (hW0 _ wf_X3_22) (fun _ h9 => h9) rfl dX3_isSecondDigit_1 ?_
  refine lv_bipush (v := zI 115) hx hb dX3_isSecondDigit_4 (zI_b8 (by decide)) ?_
  refine z_icne (tgt := 14) hx hb ⟨by omega, by omega⟩ ⟨by omega, by omega⟩ dX3_isSecondDigit_6 (by decide) (fun c_6 => ?_) (fun c_6 => ?_)
  · refine lv_bipush (v := zI 60) hx hb dX3_isSecondDigit_14 (zI_b8 (by decide)) ?_
    refine lv_istore_n (lv' := [(2, .int (zI 60)), (0, .ref (α 8)), (1, .int (zI cc9))]) hx hb dX3_isSecondDigit_16 rfl hl (by decide) rfl (fun ls hl => ?_)
    refine lv_iload_n hx hb dX3_isSecondDigit_17 rfl (lv_at hl 2 rfl) ?_
    refine lv_bipush (v := zI 48) hx hb dX3_isSecondDigit_18 (zI_b8 (by decide)) ?_
    refine z_iclt (tgt := 56) hx hb ⟨by omega, by omega⟩ ⟨by omega, by omega⟩ dX3_isSecondDigit_20 (by decide) (fun c_20 => ?_) (fun c_20 => ?_)
    · refine lv_iconst (v := zI 0) hx hb dX3_isSecondDigit_56 rfl ?_
      refine W.eq (g2 := F0 m 57 ls [.int (bI false)]) rfl ?_
      exact z_zret hC hr hlk hQ hP hD hS ⟨false, (by first | (refine zb_T ?_; unfold O_sec O_last; (repeat' split) <;> omega) | (refine zb_F ?_; unfold O_sec O_last; (repeat' split) <;> omega)), rfl, rfl⟩ dX3_isSecondDigit_57
    · refine lv_iload_n hx hb dX3_isSecondDigit_23 rfl (lv_at hl 2 rfl) ?_
      refine lv_bipush (v := zI 57) hx hb dX3_isSecondDigit_24 (zI_b8 (by decide)) ?_
      refine z_icgt (tgt := 56) hx hb ⟨by omega, by omega⟩ ⟨by omega, by omega⟩ dX3_isSecondDigit_26 (by decide) (fun c_26 => ?_) (fun c_26 => ?_)
      · refine lv_iconst (v := zI 0) hx hb dX3_isSecondDigit_56 rfl ?_
        refine W.eq (g2 := F0 m 57 ls [.int (bI false)]) rfl ?_
        exact z_zret hC hr hlk hQ hP hD hS ⟨false, (by first | (refine zb_T ?_; unfold O_sec O_last; (repeat' split) <;> omega) | (refine zb_F ?_; unfold O_sec O_last; (repeat' split) <;> omega)), rfl, rfl⟩ dX3_isSecondDigit_57
      · refine lv_aload_n hx hb dX3_isSecondDigit_29 rfl (lv_at hl 1 rfl) ?_
        refine va_get (D := D) (ci := 3) (v := .int (zI nu)) (C := RX3) (T := TX3) (N := 7) hx hb hts (fun w h => List.mem_cons_of_mem _ (wx_X3 w h)) hown hK hP 8 rfl rfl 6 (by decide) (hW0 _ wf_X3_31) (fun _ h9 => h9) rfl dX3_isSecondDigit_30 ?_
        refine z_ifle (tgt := 56) hx hb ⟨by omega, by omega⟩ dX3_isSecondDigit_33 (by decide) (fun c_33 => ?_) (fun c_33 => ?_)
        · refine lv_iconst (v := zI 0) hx hb dX3_isSecondDigit_56 rfl ?_
          refine W.eq (g2 := F0 m 57 ls [.int (bI false)]) rfl ?_
          exact z_zret hC hr hlk hQ hP hD hS ⟨false, (by first | (refine zb_T ?_; unfold O_sec O_last; (repeat' split) <;> omega) | (refine zb_F ?_; unfold O_sec O_last; (repeat' split) <;> omega)), rfl, rfl⟩ dX3_isSecondDigit_57
        · refine lv_aload_n hx hb dX3_isSecondDigit_36 rfl (lv_at hl 1 rfl) ?_
          refine va_get (D := D) (ci := 3) (v := .int (zI nu)) (C := RX3) (T := TX3) (N := 7) hx hb hts (fun w h => List.mem_cons_of_mem _ (wx_X3 w h)) hown hK hP 8 rfl rfl 6 (by decide) (hW0 _ wf_X3_31) (fun _ h9 => h9) rfl dX3_isSecondDigit_37 ?_
          refine lv_bipush (v := zI 10) hx hb dX3_isSecondDigit_40 (zI_b8 (by decide)) ?_
          refine z_imul hx hb dX3_isSecondDigit_42 ?_
          refine lv_iload_n hx hb dX3_isSecondDigit_43 rfl (lv_at hl 2 rfl) ?_
          refine lv_bipush (v := zI 48) hx hb dX3_isSecondDigit_44 (zI_b8 (by decide)) ?_
          refine z_isub hx hb dX3_isSecondDigit_46 ?_
          refine z_iadd hx hb dX3_isSecondDigit_47 ?_
          refine lv_iload_n hx hb dX3_isSecondDigit_48 rfl (lv_at hl 0 rfl) ?_
          refine z_icgt (tgt := 56) hx hb ⟨by omega, by omega⟩ ⟨by omega, by omega⟩ dX3_isSecondDigit_49 (by decide) (fun c_49 => ?_) (fun c_49 => ?_)
          · refine lv_iconst (v := zI 0) hx hb dX3_isSecondDigit_56 rfl ?_
            refine W.eq (g2 := F0 m 57 ls [.int (bI false)]) rfl ?_
            exact z_zret hC hr hlk hQ hP hD hS ⟨false, (by first | (refine zb_T ?_; unfold O_sec O_last; (repeat' split) <;> omega) | (refine zb_F ?_; unfold O_sec O_last; (repeat' split) <;> omega)), rfl, rfl⟩ dX3_isSecondDigit_57
          · refine lv_iconst (v := zI 1) hx hb dX3_isSecondDigit_52 rfl ?_
            refine lv_goto (tgt := 57) hx hb dX3_isSecondDigit_53 (by decide) ?_
            refine W.eq (g2 := F0 m 57 ls [.int (bI true)]) rfl ?_
            exact z_zret hC hr hlk hQ hP hD hS ⟨true, (by first | (refine zb_T ?_; unfold O_sec O_last; (repeat' split) <;> omega) | (refine zb_F ?_; unfold O_sec O_last; (repeat' split) <;> omega)), rfl, rfl⟩ dX3_isSecondDigit_57
  · refine lv_bipush (v := zI 99) hx hb dX3_isSecondDigit_9 (zI_b8 (by decide)) ?_
    refine lv_goto (tgt := 16) hx hb dX3_isSecondDigit_11 (by decide) ?_
    refine lv_istore_n (lv' := [(2, .int (zI 99)), (0, .ref (α 8)), (1, .int (zI cc9))]) hx hb dX3_isSecondDigit_16 rfl hl (by decide) rfl (fun ls hl => ?_)
    refine lv_iload_n hx hb dX3_isSecondDigit_17 rfl (lv_at hl 2 rfl) ?_
    refine lv_bipush (v := zI 48) hx hb dX3_isSecondDigit_18 (zI_b8 (by decide)) ?_
    refine z_iclt (tgt := 56) hx hb ⟨by omega, by omega⟩ ⟨by omega, by omega⟩ dX3_isSecondDigit_20 (by decide) (fun c_20 => ?_) (fun c_20 => ?_)
    · refine lv_iconst (v := zI 0) hx hb dX3_isSecondDigit_56 rfl ?_
      refine W.eq (g2 := F0 m 57 ls [.int (bI false)]) rfl ?_
      exact z_zret hC hr hlk hQ hP hD hS ⟨false, (by first | (refine zb_T ?_; unfold O_sec O_last; (repeat' split) <;> omega) | (refine zb_F ?_; unfold O_sec O_last; (repeat' split) <;> omega)), rfl, rfl⟩ dX3_isSecondDigit_57
    · refine lv_iload_n hx hb dX3_isSecondDigit_23 rfl (lv_at hl 2 rfl) ?_
      refine lv_bipush (v := zI 57) hx hb dX3_isSecondDigit_24 (zI_b8 (by decide)) ?_
      refine z_icgt (tgt := 56) hx hb ⟨by omega, by omega⟩ ⟨by omega, by omega⟩ dX3_isSecondDigit_26 (by decide) (fun c_26 => ?_) (fun c_26 => ?_)
      · refine lv_iconst (v := zI 0) hx hb dX3_isSecondDigit_56 rfl ?_
        refine W.eq (g2 := F0 m 57 ls [.int (bI false)]) rfl ?_
        exact z_zret hC hr hlk hQ hP hD hS ⟨false, (by first | (refine zb_T ?_; unfold O_sec O_last; (repeat' split) <;> omega) | (refine zb_F ?_; unfold O_sec O_last; (repeat' split) <;> omega)), rfl, rfl⟩ dX3_isSecondDigit_57
      · refine lv_aload_n hx hb dX3_isSecondDigit_29 rfl (lv_at hl 1 rfl) ?_
        refine va_get (D := D) (ci := 3) (v := .int (zI nu)) (C := RX3) (T := TX3) (N := 7) hx hb hts (fun w h => List.mem_cons_of_mem _ (wx_X3 w h)) hown hK hP 8 rfl rfl 6 (by decide) (hW0 _ wf_X3_31) (fun _ h9 => h9) rfl dX3_isSecondDigit_30 ?_
        refine z_ifle (tgt := 56) hx hb ⟨by omega, by omega⟩ dX3_isSecondDigit_33 (by decide) (fun c_33 => ?_) (fun c_33 => ?_)
        · refine lv_iconst (v := zI 0) hx hb dX3_isSecondDigit_56 rfl ?_
          refine W.eq (g2 := F0 m 57 ls [.int (bI false)]) rfl ?_
          exact z_zret hC hr hlk hQ hP hD hS ⟨false, (by first | (refine zb_T ?_; unfold O_sec O_last; (repeat' split) <;> omega) | (refine zb_F ?_; unfold O_sec O_last; (repeat' split) <;> omega)), rfl, rfl⟩ dX3_isSecondDigit_57
        · refine lv_aload_n hx hb dX3_isSecondDigit_36 rfl (lv_at hl 1 rfl) ?_
          refine va_get (D := D) (ci := 3) (v := .int (zI nu)) (C := RX3) (T := TX3) (N := 7) hx hb hts (fun w h => List.mem_cons_of_mem _ (wx_X3 w h)) hown hK hP 8 rfl rfl 6 (by decide) (hW0 _ wf_X3_31) (fun _ h9 => h9) rfl dX3_isSecondDigit_37 ?_
          refine lv_bipush (v := zI 10) hx hb dX3_isSecondDigit_40 (zI_b8 (by decide)) ?_
          refine z_imul hx hb dX3_isSecondDigit_42 ?_
          refine lv_iload_n hx hb dX3_isSecondDigit_43 rfl (lv_at hl 2 rfl) ?_
          refine lv_bipush (v := zI 48) hx hb dX3_isSecondDigit_44 (zI_b8 (by decide)) ?_
          refine z_isub hx hb dX3_isSecondDigit_46 ?_
          refine z_iadd hx hb dX3_isSecondDigit_47 ?_
          refine lv_iload_n hx hb dX3_isSecondDigit_48 rfl (lv_at hl 0 rfl) ?_
          refine z_icgt (tgt := 56) hx hb ⟨by omega, by omega⟩ ⟨by omega, by omega⟩ dX3_isSecondDigit_49 (by decide) (fun c_49 => ?_) (fun c_49 => ?_)
          · refine lv_iconst (v := zI 0) hx hb dX3_isSecondDigit_56 rfl ?_
            refine W.eq (g2 := F0 m 57 ls [.int (bI false)]) rfl ?_
            exact z_zret hC hr hlk hQ hP hD hS ⟨false, (by first | (refine zb_T ?_; unfold O_sec O_last; (repeat' split) <;> omega) | (refine zb_F ?_; unfold O_sec O_last; (repeat' split) <;> omega)), rfl, rfl⟩ dX3_isSecondDigit_57
          · refine lv_iconst (v := zI 1) hx hb dX3_isSecondDigit_52 rfl ?_
            refine lv_goto (tgt := 57) hx hb dX3_isSecondDigit_53 (by decide) ?_
            refine W.eq (g2 := F0 m 57 ls [.int (bI true)]) rfl ?_
            exact z_zret hC hr hlk hQ hP hD hS ⟨true, (by first | (refine zb_T ?_; unfold O_sec O_last; (repeat' split) <;> omega) | (refine zb_F ?_; unfold O_sec O_last; (repeat' split) <;> omega)), rfl, rfl⟩ dX3_isSecondDigit_57

abbrev wz_X3_fits : List Cond := .code yX3_fits cX3_fits 2 (some .boolean) :: W0
abbrev rm_X3_fits : Room := { frames := 1, cells := 0, slots := 0, locals := 22 }
theorem hd_X3_fits : yX3_fits.cls = RX3 ∧ yX3_fits.cls ≠ "java/lang/invoke/MethodHandle" ∧ yX3_fits.cls ≠ "java/lang/invoke/VarHandle" ∧ (parseMethodDescriptor yX3_fits.desc).map (fun d => d.parameters.length) = some 1 := by decide +kernel
set_option maxHeartbeats 4000000 in
set_option maxRecDepth 100000 in
theorem c_X3_fits (l : Launch) (D : va_G) (τ : Nat → Nat) (α : Nat → Nat) (γ : Nat → ClassId) (rl : TRl) (rg : TRg) (ln : TLn) (sl : TSl) (pd : TPd) (ct : TCt) (sg : TSg) (cd : IA) (ln9 : Int) (pl : Int) (le : Int) (ro : Int) (co : Int) (nu : Int) (hs : THs) (cc9 : Int) (hc9 : 0 ≤ cc9 ∧ cc9 ≤ 126) (hov : OV pl le ro co nu) : cM l yX3_fits wz_X3_fits rm_X3_fits D τ (tyH γ) [.ref (α 8), .int (zI cc9)] (wH α γ rl rg ln sl pd ct sg (cd, ln9, pl, le, ro, co, nu) hs) (zQi (fun r w => ∃ (v : Bool), (v = true ↔ O_fits pl le nu cc9) ∧ r = bI v ∧ wH α γ rl rg ln sl pd ct sg (cd, ln9, pl, le, ro, co, nu) hs = w)) := by
  refine z_ofM (cc := cX3_fits) (maxL := 2) (ret := (some .boolean)) (by decide +kernel) rfl (Nat.le_of_ble_eq_true rfl) ?_
  intro pg e s m args below meth c hC hr hlk hnm hK hP A hD hG hA hS ls hl Q hQ
  have hx := hC.1
  have hb := hC.2.1
  have hml := hC.2.2.1
  have hown := hC.2.2.2.1
  have hts := hC.2.2.2.2
  have hB : ∀ w ∈ W0, w ∈ wz_X3_fits := fun _ h => List.mem_cons_of_mem _ h
  have hW0 : ∀ w ∈ W0, w.before args s = true := fun w h => hts w (hB w h)
  have hl : lv_has ls 2 [(0, .ref (α 8)), (1, .int (zI cc9))] := hl
  have hov0 := hov
  unfold OV at hov
  refine lv_aload_n hx hb dX3_fits_0 rfl (lv_at hl 0 rfl) ?_
  refine va_get (D := D) (ci := 3) (v := .int (zI pl)) (C := RX3) (T := TX3) (N := 7) hx hb hts (fun w h => List.mem_cons_of_mem _ (wx_X3 w h)) hown hK hP 8 rfl rfl 2 (by decide) (hW0 _ wf_X3_19) (fun _ h9 => h9) rfl dX3_fits_1 ?_
  by_cases c_4_0 : pl = 0
  · refine z_tabIn (off := 40) (tgt := 44) hx hb ⟨by omega, by omega⟩ dX3_fits_4 (by omega) (by rw [c_4_0]; rfl) (by decide) ?_
    refine lv_iload_n hx hb dX3_fits_44 rfl (lv_at hl 1 rfl) ?_
    refine lv_bipush (v := zI 115) hx hb dX3_fits_45 (zI_b8 (by decide)) ?_
    refine z_iceq (tgt := 68) hx hb ⟨by omega, by omega⟩ ⟨by omega, by omega⟩ dX3_fits_47 (by decide) (fun c_47 => ?_) (fun c_47 => ?_)
    · refine lv_iconst (v := zI 1) hx hb dX3_fits_68 rfl ?_
      refine lv_goto (tgt := 73) hx hb dX3_fits_69 (by decide) ?_
      refine W.eq (g2 := F0 m 73 ls [.int (bI true)]) rfl ?_
      exact z_zret hC hr hlk hQ hP hD hS ⟨true, (by first | (refine zb_T ?_; unfold O_fits O_sec O_last; (repeat' split) <;> omega) | (refine zb_F ?_; unfold O_fits O_sec O_last; (repeat' split) <;> omega)), rfl, rfl⟩ dX3_fits_73
    · refine lv_iload_n hx hb dX3_fits_50 rfl (lv_at hl 1 rfl) ?_
      refine lv_bipush (v := zI 104) hx hb dX3_fits_51 (zI_b8 (by decide)) ?_
      refine z_iceq (tgt := 68) hx hb ⟨by omega, by omega⟩ ⟨by omega, by omega⟩ dX3_fits_53 (by decide) (fun c_53 => ?_) (fun c_53 => ?_)
      · refine lv_iconst (v := zI 1) hx hb dX3_fits_68 rfl ?_
        refine lv_goto (tgt := 73) hx hb dX3_fits_69 (by decide) ?_
        refine W.eq (g2 := F0 m 73 ls [.int (bI true)]) rfl ?_
        exact z_zret hC hr hlk hQ hP hD hS ⟨true, (by first | (refine zb_T ?_; unfold O_fits O_sec O_last; (repeat' split) <;> omega) | (refine zb_F ?_; unfold O_fits O_sec O_last; (repeat' split) <;> omega)), rfl, rfl⟩ dX3_fits_73
      · refine lv_iload_n hx hb dX3_fits_56 rfl (lv_at hl 1 rfl) ?_
        refine lv_bipush (v := zI 100) hx hb dX3_fits_57 (zI_b8 (by decide)) ?_
        refine z_iceq (tgt := 68) hx hb ⟨by omega, by omega⟩ ⟨by omega, by omega⟩ dX3_fits_59 (by decide) (fun c_59 => ?_) (fun c_59 => ?_)
        · refine lv_iconst (v := zI 1) hx hb dX3_fits_68 rfl ?_
          refine lv_goto (tgt := 73) hx hb dX3_fits_69 (by decide) ?_
          refine W.eq (g2 := F0 m 73 ls [.int (bI true)]) rfl ?_
          exact z_zret hC hr hlk hQ hP hD hS ⟨true, (by first | (refine zb_T ?_; unfold O_fits O_sec O_last; (repeat' split) <;> omega) | (refine zb_F ?_; unfold O_fits O_sec O_last; (repeat' split) <;> omega)), rfl, rfl⟩ dX3_fits_73
        · refine lv_iload_n hx hb dX3_fits_62 rfl (lv_at hl 1 rfl) ?_
          refine lv_bipush (v := zI 126) hx hb dX3_fits_63 (zI_b8 (by decide)) ?_
          refine z_icne (tgt := 72) hx hb ⟨by omega, by omega⟩ ⟨by omega, by omega⟩ dX3_fits_65 (by decide) (fun c_65 => ?_) (fun c_65 => ?_)
          · refine lv_iconst (v := zI 0) hx hb dX3_fits_72 rfl ?_
            refine W.eq (g2 := F0 m 73 ls [.int (bI false)]) rfl ?_
            exact z_zret hC hr hlk hQ hP hD hS ⟨false, (by first | (refine zb_T ?_; unfold O_fits O_sec O_last; (repeat' split) <;> omega) | (refine zb_F ?_; unfold O_fits O_sec O_last; (repeat' split) <;> omega)), rfl, rfl⟩ dX3_fits_73
          · refine lv_iconst (v := zI 1) hx hb dX3_fits_68 rfl ?_
            refine lv_goto (tgt := 73) hx hb dX3_fits_69 (by decide) ?_
            refine W.eq (g2 := F0 m 73 ls [.int (bI true)]) rfl ?_
            exact z_zret hC hr hlk hQ hP hD hS ⟨true, (by first | (refine zb_T ?_; unfold O_fits O_sec O_last; (repeat' split) <;> omega) | (refine zb_F ?_; unfold O_fits O_sec O_last; (repeat' split) <;> omega)), rfl, rfl⟩ dX3_fits_73
  by_cases c_4_1 : pl = 1
  · refine z_tabIn (off := 70) (tgt := 74) hx hb ⟨by omega, by omega⟩ dX3_fits_4 (by omega) (by rw [c_4_1]; rfl) (by decide) ?_
    refine lv_iload_n hx hb dX3_fits_74 rfl (lv_at hl 1 rfl) ?_
    refine lv_bipush (v := zI 48) hx hb dX3_fits_75 (zI_b8 (by decide)) ?_
    refine z_iclt (tgt := 90) hx hb ⟨by omega, by omega⟩ ⟨by omega, by omega⟩ dX3_fits_77 (by decide) (fun c_77 => ?_) (fun c_77 => ?_)
    · refine lv_iconst (v := zI 0) hx hb dX3_fits_90 rfl ?_
      refine W.eq (g2 := F0 m 91 ls [.int (bI false)]) rfl ?_
      exact z_zret hC hr hlk hQ hP hD hS ⟨false, (by first | (refine zb_T ?_; unfold O_fits O_sec O_last; (repeat' split) <;> omega) | (refine zb_F ?_; unfold O_fits O_sec O_last; (repeat' split) <;> omega)), rfl, rfl⟩ dX3_fits_91
    · refine lv_iload_n hx hb dX3_fits_80 rfl (lv_at hl 1 rfl) ?_
      refine lv_bipush (v := zI 55) hx hb dX3_fits_81 (zI_b8 (by decide)) ?_
      refine z_icge (tgt := 90) hx hb ⟨by omega, by omega⟩ ⟨by omega, by omega⟩ dX3_fits_83 (by decide) (fun c_83 => ?_) (fun c_83 => ?_)
      · refine lv_iconst (v := zI 0) hx hb dX3_fits_90 rfl ?_
        refine W.eq (g2 := F0 m 91 ls [.int (bI false)]) rfl ?_
        exact z_zret hC hr hlk hQ hP hD hS ⟨false, (by first | (refine zb_T ?_; unfold O_fits O_sec O_last; (repeat' split) <;> omega) | (refine zb_F ?_; unfold O_fits O_sec O_last; (repeat' split) <;> omega)), rfl, rfl⟩ dX3_fits_91
      · refine lv_iconst (v := zI 1) hx hb dX3_fits_86 rfl ?_
        refine lv_goto (tgt := 91) hx hb dX3_fits_87 (by decide) ?_
        refine W.eq (g2 := F0 m 91 ls [.int (bI true)]) rfl ?_
        exact z_zret hC hr hlk hQ hP hD hS ⟨true, (by first | (refine zb_T ?_; unfold O_fits O_sec O_last; (repeat' split) <;> omega) | (refine zb_F ?_; unfold O_fits O_sec O_last; (repeat' split) <;> omega)), rfl, rfl⟩ dX3_fits_91
  by_cases c_4_2 : pl = 2
  · refine z_tabIn (off := 70) (tgt := 74) hx hb ⟨by omega, by omega⟩ dX3_fits_4 (by omega) (by rw [c_4_2]; rfl) (by decide) ?_
    refine lv_iload_n hx hb dX3_fits_74 rfl (lv_at hl 1 rfl) ?_
    refine lv_bipush (v := zI 48) hx hb dX3_fits_75 (zI_b8 (by decide)) ?_
    refine z_iclt (tgt := 90) hx hb ⟨by omega, by omega⟩ ⟨by omega, by omega⟩ dX3_fits_77 (by decide) (fun c_77 => ?_) (fun c_77 => ?_)
    · refine lv_iconst (v := zI 0) hx hb dX3_fits_90 rfl ?_
      refine W.eq (g2 := F0 m 91 ls [.int (bI false)]) rfl ?_
      exact z_zret hC hr hlk hQ hP hD hS ⟨false, (by first | (refine zb_T ?_; unfold O_fits O_sec O_last; (repeat' split) <;> omega) | (refine zb_F ?_; unfold O_fits O_sec O_last; (repeat' split) <;> omega)), rfl, rfl⟩ dX3_fits_91
    · refine lv_iload_n hx hb dX3_fits_80 rfl (lv_at hl 1 rfl) ?_
      refine lv_bipush (v := zI 55) hx hb dX3_fits_81 (zI_b8 (by decide)) ?_
      refine z_icge (tgt := 90) hx hb ⟨by omega, by omega⟩ ⟨by omega, by omega⟩ dX3_fits_83 (by decide) (fun c_83 => ?_) (fun c_83 => ?_)
      · refine lv_iconst (v := zI 0) hx hb dX3_fits_90 rfl ?_
        refine W.eq (g2 := F0 m 91 ls [.int (bI false)]) rfl ?_
        exact z_zret hC hr hlk hQ hP hD hS ⟨false, (by first | (refine zb_T ?_; unfold O_fits O_sec O_last; (repeat' split) <;> omega) | (refine zb_F ?_; unfold O_fits O_sec O_last; (repeat' split) <;> omega)), rfl, rfl⟩ dX3_fits_91
      · refine lv_iconst (v := zI 1) hx hb dX3_fits_86 rfl ?_
        refine lv_goto (tgt := 91) hx hb dX3_fits_87 (by decide) ?_
        refine W.eq (g2 := F0 m 91 ls [.int (bI true)]) rfl ?_
        exact z_zret hC hr hlk hQ hP hD hS ⟨true, (by first | (refine zb_T ?_; unfold O_fits O_sec O_last; (repeat' split) <;> omega) | (refine zb_F ?_; unfold O_fits O_sec O_last; (repeat' split) <;> omega)), rfl, rfl⟩ dX3_fits_91
  by_cases c_4_3 : pl = 3
  · refine z_tabIn (off := 88) (tgt := 92) hx hb ⟨by omega, by omega⟩ dX3_fits_4 (by omega) (by rw [c_4_3]; rfl) (by decide) ?_
    refine lv_iload_n hx hb dX3_fits_92 rfl (lv_at hl 1 rfl) ?_
    refine lv_aload_n hx hb dX3_fits_93 rfl (lv_at hl 0 rfl) ?_
    refine va_get (D := D) (ci := 3) (v := .int (zI le)) (C := RX3) (T := TX3) (N := 7) hx hb hts (fun w h => List.mem_cons_of_mem _ (wx_X3 w h)) hown hK hP 8 rfl rfl 3 (by decide) (hW0 _ wf_X3_22) (fun _ h9 => h9) rfl dX3_fits_94 ?_
    refine lv_bipush (v := zI 115) hx hb dX3_fits_97 (zI_b8 (by decide)) ?_
    refine z_icne (tgt := 107) hx hb ⟨by omega, by omega⟩ ⟨by omega, by omega⟩ dX3_fits_99 (by decide) (fun c_99 => ?_) (fun c_99 => ?_)
    · refine lv_bipush (v := zI 42) hx hb dX3_fits_107 (zI_b8 (by decide)) ?_
      refine z_icne (tgt := 116) hx hb ⟨by omega, by omega⟩ ⟨by omega, by omega⟩ dX3_fits_109 (by decide) (fun c_109 => ?_) (fun c_109 => ?_)
      · refine lv_iconst (v := zI 0) hx hb dX3_fits_116 rfl ?_
        refine W.eq (g2 := F0 m 117 ls [.int (bI false)]) rfl ?_
        exact z_zret hC hr hlk hQ hP hD hS ⟨false, (by first | (refine zb_T ?_; unfold O_fits O_sec O_last; (repeat' split) <;> omega) | (refine zb_F ?_; unfold O_fits O_sec O_last; (repeat' split) <;> omega)), rfl, rfl⟩ dX3_fits_117
      · refine lv_iconst (v := zI 1) hx hb dX3_fits_112 rfl ?_
        refine lv_goto (tgt := 117) hx hb dX3_fits_113 (by decide) ?_
        refine W.eq (g2 := F0 m 117 ls [.int (bI true)]) rfl ?_
        exact z_zret hC hr hlk hQ hP hD hS ⟨true, (by first | (refine zb_T ?_; unfold O_fits O_sec O_last; (repeat' split) <;> omega) | (refine zb_F ?_; unfold O_fits O_sec O_last; (repeat' split) <;> omega)), rfl, rfl⟩ dX3_fits_117
    · refine lv_bipush (v := zI 61) hx hb dX3_fits_102 (zI_b8 (by decide)) ?_
      refine lv_goto (tgt := 109) hx hb dX3_fits_104 (by decide) ?_
      refine z_icne (tgt := 116) hx hb ⟨by omega, by omega⟩ ⟨by omega, by omega⟩ dX3_fits_109 (by decide) (fun c_109 => ?_) (fun c_109 => ?_)
      · refine lv_iconst (v := zI 0) hx hb dX3_fits_116 rfl ?_
        refine W.eq (g2 := F0 m 117 ls [.int (bI false)]) rfl ?_
        exact z_zret hC hr hlk hQ hP hD hS ⟨false, (by first | (refine zb_T ?_; unfold O_fits O_sec O_last; (repeat' split) <;> omega) | (refine zb_F ?_; unfold O_fits O_sec O_last; (repeat' split) <;> omega)), rfl, rfl⟩ dX3_fits_117
      · refine lv_iconst (v := zI 1) hx hb dX3_fits_112 rfl ?_
        refine lv_goto (tgt := 117) hx hb dX3_fits_113 (by decide) ?_
        refine W.eq (g2 := F0 m 117 ls [.int (bI true)]) rfl ?_
        exact z_zret hC hr hlk hQ hP hD hS ⟨true, (by first | (refine zb_T ?_; unfold O_fits O_sec O_last; (repeat' split) <;> omega) | (refine zb_F ?_; unfold O_fits O_sec O_last; (repeat' split) <;> omega)), rfl, rfl⟩ dX3_fits_117
  by_cases c_4_4 : pl = 4
  · refine z_tabIn (off := 114) (tgt := 118) hx hb ⟨by omega, by omega⟩ dX3_fits_4 (by omega) (by rw [c_4_4]; rfl) (by decide) ?_
    refine lv_iload_n hx hb dX3_fits_118 rfl (lv_at hl 1 rfl) ?_
    refine lv_aload_n hx hb dX3_fits_119 rfl (lv_at hl 0 rfl) ?_
    refine va_get (D := D) (ci := 3) (v := .int (zI le)) (C := RX3) (T := TX3) (N := 7) hx hb hts (fun w h => List.mem_cons_of_mem _ (wx_X3 w h)) hown hK hP 8 rfl rfl 3 (by decide) (hW0 _ wf_X3_22) (fun _ h9 => h9) rfl dX3_fits_120 ?_
    refine lv_bipush (v := zI 115) hx hb dX3_fits_123 (zI_b8 (by decide)) ?_
    refine z_icne (tgt := 133) hx hb ⟨by omega, by omega⟩ ⟨by omega, by omega⟩ dX3_fits_125 (by decide) (fun c_125 => ?_) (fun c_125 => ?_)
    · refine lv_bipush (v := zI 49) hx hb dX3_fits_133 (zI_b8 (by decide)) ?_
      refine z_iclt (tgt := 148) hx hb ⟨by omega, by omega⟩ ⟨by omega, by omega⟩ dX3_fits_135 (by decide) (fun c_135 => ?_) (fun c_135 => ?_)
      · refine lv_iconst (v := zI 0) hx hb dX3_fits_148 rfl ?_
        refine W.eq (g2 := F0 m 149 ls [.int (bI false)]) rfl ?_
        exact z_zret hC hr hlk hQ hP hD hS ⟨false, (by first | (refine zb_T ?_; unfold O_fits O_sec O_last; (repeat' split) <;> omega) | (refine zb_F ?_; unfold O_fits O_sec O_last; (repeat' split) <;> omega)), rfl, rfl⟩ dX3_fits_149
      · refine lv_iload_n hx hb dX3_fits_138 rfl (lv_at hl 1 rfl) ?_
        refine lv_bipush (v := zI 57) hx hb dX3_fits_139 (zI_b8 (by decide)) ?_
        refine z_icgt (tgt := 148) hx hb ⟨by omega, by omega⟩ ⟨by omega, by omega⟩ dX3_fits_141 (by decide) (fun c_141 => ?_) (fun c_141 => ?_)
        · refine lv_iconst (v := zI 0) hx hb dX3_fits_148 rfl ?_
          refine W.eq (g2 := F0 m 149 ls [.int (bI false)]) rfl ?_
          exact z_zret hC hr hlk hQ hP hD hS ⟨false, (by first | (refine zb_T ?_; unfold O_fits O_sec O_last; (repeat' split) <;> omega) | (refine zb_F ?_; unfold O_fits O_sec O_last; (repeat' split) <;> omega)), rfl, rfl⟩ dX3_fits_149
        · refine lv_iconst (v := zI 1) hx hb dX3_fits_144 rfl ?_
          refine lv_goto (tgt := 149) hx hb dX3_fits_145 (by decide) ?_
          refine W.eq (g2 := F0 m 149 ls [.int (bI true)]) rfl ?_
          exact z_zret hC hr hlk hQ hP hD hS ⟨true, (by first | (refine zb_T ?_; unfold O_fits O_sec O_last; (repeat' split) <;> omega) | (refine zb_F ?_; unfold O_fits O_sec O_last; (repeat' split) <;> omega)), rfl, rfl⟩ dX3_fits_149
    · refine lv_bipush (v := zI 48) hx hb dX3_fits_128 (zI_b8 (by decide)) ?_
      refine lv_goto (tgt := 135) hx hb dX3_fits_130 (by decide) ?_
      refine z_iclt (tgt := 148) hx hb ⟨by omega, by omega⟩ ⟨by omega, by omega⟩ dX3_fits_135 (by decide) (fun c_135 => ?_) (fun c_135 => ?_)
      · refine lv_iconst (v := zI 0) hx hb dX3_fits_148 rfl ?_
        refine W.eq (g2 := F0 m 149 ls [.int (bI false)]) rfl ?_
        exact z_zret hC hr hlk hQ hP hD hS ⟨false, (by first | (refine zb_T ?_; unfold O_fits O_sec O_last; (repeat' split) <;> omega) | (refine zb_F ?_; unfold O_fits O_sec O_last; (repeat' split) <;> omega)), rfl, rfl⟩ dX3_fits_149
      · refine lv_iload_n hx hb dX3_fits_138 rfl (lv_at hl 1 rfl) ?_
        refine lv_bipush (v := zI 57) hx hb dX3_fits_139 (zI_b8 (by decide)) ?_
        refine z_icgt (tgt := 148) hx hb ⟨by omega, by omega⟩ ⟨by omega, by omega⟩ dX3_fits_141 (by decide) (fun c_141 => ?_) (fun c_141 => ?_)
        · refine lv_iconst (v := zI 0) hx hb dX3_fits_148 rfl ?_
          refine W.eq (g2 := F0 m 149 ls [.int (bI false)]) rfl ?_
          exact z_zret hC hr hlk hQ hP hD hS ⟨false, (by first | (refine zb_T ?_; unfold O_fits O_sec O_last; (repeat' split) <;> omega) | (refine zb_F ?_; unfold O_fits O_sec O_last; (repeat' split) <;> omega)), rfl, rfl⟩ dX3_fits_149
        · refine lv_iconst (v := zI 1) hx hb dX3_fits_144 rfl ?_
          refine lv_goto (tgt := 149) hx hb dX3_fits_145 (by decide) ?_
          refine W.eq (g2 := F0 m 149 ls [.int (bI true)]) rfl ?_
          exact z_zret hC hr hlk hQ hP hD hS ⟨true, (by first | (refine zb_T ?_; unfold O_fits O_sec O_last; (repeat' split) <;> omega) | (refine zb_F ?_; unfold O_fits O_sec O_last; (repeat' split) <;> omega)), rfl, rfl⟩ dX3_fits_149
  by_cases c_4_5 : pl = 5
  · refine z_tabIn (off := 146) (tgt := 150) hx hb ⟨by omega, by omega⟩ dX3_fits_4 (by omega) (by rw [c_4_5]; rfl) (by decide) ?_
    refine lv_iload_n hx hb dX3_fits_150 rfl (lv_at hl 1 rfl) ?_
    refine lv_bipush (v := zI 59) hx hb dX3_fits_151 (zI_b8 (by decide)) ?_
    refine z_iceq (tgt := 164) hx hb ⟨by omega, by omega⟩ ⟨by omega, by omega⟩ dX3_fits_153 (by decide) (fun c_153 => ?_) (fun c_153 => ?_)
    · refine lv_iconst (v := zI 1) hx hb dX3_fits_164 rfl ?_
      refine lv_goto (tgt := 169) hx hb dX3_fits_165 (by decide) ?_
      refine W.eq (g2 := F0 m 169 ls [.int (bI true)]) rfl ?_
      exact z_zret hC hr hlk hQ hP hD hS ⟨true, (by first | (refine zb_T ?_; unfold O_fits; rw [if_neg (by omega), if_neg (by omega), if_neg (by omega), if_neg (by omega), if_pos (by omega)]; first | exact Or.inl (by omega) | exact Or.inr hb_161) | (refine zb_F ?_; unfold O_fits; rw [if_neg (by omega), if_neg (by omega), if_neg (by omega), if_neg (by omega), if_pos (by omega)]; intro h9; rcases h9 with h9 | h9; exact absurd h9 (by omega); exact absurd h9 hb_161)), rfl, rfl⟩ dX3_fits_169
    · refine lv_aload_n hx hb dX3_fits_156 rfl (lv_at hl 0 rfl) ?_
      refine lv_iload_n hx hb dX3_fits_157 rfl (lv_at hl 1 rfl) ?_
      refine z_calli hP hD hS hA (va_runV (As := [.int (zI cc9)]) (rest := []) hC (c_X3_isSecondDigit l D τ α γ rl rg ln sl pd ct sg cd ln9 pl le ro co nu hs cc9 (by first | assumption | rfl | omega) (by exact hov0) _) (cwV 1 hts (gV hB wl_X3_70 wn_X3_isSecondDigit ws_X3_isSecondDigit wi_X3 wc_X3_isSecondDigit) rfl rfl rfl hd_X3_isSecondDigit ⟨Nat.le_of_ble_eq_true rfl, Nat.le_of_ble_eq_true rfl⟩) (zp_V hK hP hD hS hA hG (ci := 3) (q0 := 8) rfl rfl rfl) rfl rfl hl.1 rfl (lv_room (Nat.le_of_ble_eq_true rfl)) dX3_fits_158 ⟨Nat.le_of_ble_eq_true rfl, Nat.le_of_ble_eq_true rfl⟩) (fun r w1 H locs hq9 hP hD hS => ?_)
      obtain ⟨v158_1, hv158_0, rfl, rfl⟩ := hq9
      have hP : va_P D vwCl (wH α γ rl rg ln sl pd ct sg (cd, ln9, pl, le, ro, co, nu) hs) H := hP
      have hD : va_D A (wH α γ rl rg ln sl pd ct sg (cd, ln9, pl, le, ro, co, nu) hs) := hD
      refine z_ifeqB (tgt := 168) hx hb dX3_fits_161 (by decide) (fun c_161 => ?_) (fun c_161 => ?_)
      · have hb_161 := zb_neg hv158_0 c_161
        refine lv_iconst (v := zI 0) hx hb dX3_fits_168 rfl ?_
        refine W.eq (g2 := F0 m 169 ls [.int (bI false)]) rfl ?_
        exact z_zret hC hr hlk hQ hP hD hS ⟨false, (by first | (refine zb_T ?_; unfold O_fits; rw [if_neg (by omega), if_neg (by omega), if_neg (by omega), if_neg (by omega), if_pos (by omega)]; first | exact Or.inl (by omega) | exact Or.inr hb_161) | (refine zb_F ?_; unfold O_fits; rw [if_neg (by omega), if_neg (by omega), if_neg (by omega), if_neg (by omega), if_pos (by omega)]; intro h9; rcases h9 with h9 | h9; exact absurd h9 (by omega); exact absurd h9 hb_161)), rfl, rfl⟩ dX3_fits_169
      · have hb_161 := hv158_0.mp c_161
        refine lv_iconst (v := zI 1) hx hb dX3_fits_164 rfl ?_
        refine lv_goto (tgt := 169) hx hb dX3_fits_165 (by decide) ?_
        refine W.eq (g2 := F0 m 169 ls [.int (bI true)]) rfl ?_
        exact z_zret hC hr hlk hQ hP hD hS ⟨true, (by first | (refine zb_T ?_; unfold O_fits; rw [if_neg (by omega), if_neg (by omega), if_neg (by omega), if_neg (by omega), if_pos (by omega)]; first | exact Or.inl (by omega) | exact Or.inr hb_161) | (refine zb_F ?_; unfold O_fits; rw [if_neg (by omega), if_neg (by omega), if_neg (by omega), if_neg (by omega), if_pos (by omega)]; intro h9; rcases h9 with h9 | h9; exact absurd h9 (by omega); exact absurd h9 hb_161)), rfl, rfl⟩ dX3_fits_169
  refine z_tabOut (tgt := 170) hx hb ⟨by omega, by omega⟩ dX3_fits_4 (by omega) (by decide) ?_
  refine lv_iload_n hx hb dX3_fits_170 rfl (lv_at hl 1 rfl) ?_
  refine lv_bipush (v := zI 59) hx hb dX3_fits_171 (zI_b8 (by decide)) ?_
  refine z_icne (tgt := 180) hx hb ⟨by omega, by omega⟩ ⟨by omega, by omega⟩ dX3_fits_173 (by decide) (fun c_173 => ?_) (fun c_173 => ?_)
  · refine lv_iconst (v := zI 0) hx hb dX3_fits_180 rfl ?_
    refine W.eq (g2 := F0 m 181 ls [.int (bI false)]) rfl ?_
    exact z_zret hC hr hlk hQ hP hD hS ⟨false, (by first | (refine zb_T ?_; unfold O_fits O_sec O_last; (repeat' split) <;> omega) | (refine zb_F ?_; unfold O_fits O_sec O_last; (repeat' split) <;> omega)), rfl, rfl⟩ dX3_fits_181
  · refine lv_iconst (v := zI 1) hx hb dX3_fits_176 rfl ?_
    refine lv_goto (tgt := 181) hx hb dX3_fits_177 (by decide) ?_
    refine W.eq (g2 := F0 m 181 ls [.int (bI true)]) rfl ?_
    exact z_zret hC hr hlk hQ hP hD hS ⟨true, (by first | (refine zb_T ?_; unfold O_fits O_sec O_last; (repeat' split) <;> omega) | (refine zb_F ?_; unfold O_fits O_sec O_last; (repeat' split) <;> omega)), rfl, rfl⟩ dX3_fits_181

abbrev wz_X3_stepBehindNumber : List Cond := .code yX3_stepBehindNumber cX3_stepBehindNumber 2 none :: W0
abbrev rm_X3_stepBehindNumber : Room := { frames := 0, cells := 0, slots := 0, locals := 0 }
theorem hd_X3_stepBehindNumber : yX3_stepBehindNumber.cls = RX3 ∧ yX3_stepBehindNumber.cls ≠ "java/lang/invoke/MethodHandle" ∧ yX3_stepBehindNumber.cls ≠ "java/lang/invoke/VarHandle" ∧ (parseMethodDescriptor yX3_stepBehindNumber.desc).map (fun d => d.parameters.length) = some 1 := by decide +kernel
set_option maxHeartbeats 4000000 in
set_option maxRecDepth 100000 in
theorem c_X3_stepBehindNumber (l : Launch) (D : va_G) (τ : Nat → Nat) (α : Nat → Nat) (γ : Nat → ClassId) (rl : TRl) (rg : TRg) (ln : TLn) (sl : TSl) (pd : TPd) (ct : TCt) (sg : TSg) (cd : IA) (ln9 : Int) (pl : Int) (le : Int) (ro : Int) (co : Int) (nu : Int) (hs : THs) (cc9 : Int) (hc9 : 0 ≤ cc9 ∧ cc9 ≤ 126) : cM l yX3_stepBehindNumber wz_X3_stepBehindNumber rm_X3_stepBehindNumber D τ (tyH γ) [.ref (α 8), .int (zI cc9)] (wH α γ rl rg ln sl pd ct sg (cd, ln9, pl, le, ro, co, nu) hs) (zQv (fun w => ∃ (p2 : Int), ∃ (n2 : Int), ((p2, le, ro, co, n2) = (if cc9 = 59 then ((0, le, ro, co, nu) : OS) else (6, le, ro, co, nu * 10 + (cc9 - 48)))) ∧ wH α γ rl rg ln sl pd ct sg (cd, ln9, p2, le, ro, co, n2) hs = w)) := by
  refine z_ofM (cc := cX3_stepBehindNumber) (maxL := 2) (ret := none) (by decide +kernel) rfl (Nat.le_of_ble_eq_true rfl) ?_
  intro pg e s m args below meth c hC hr hlk hnm hK hP A hD hG hA hS ls hl Q hQ
  have hx := hC.1
  have hb := hC.2.1
  have hml := hC.2.2.1
  have hown := hC.2.2.2.1
  have hts := hC.2.2.2.2
  have hB : ∀ w ∈ W0, w ∈ wz_X3_stepBehindNumber := fun _ h => List.mem_cons_of_mem _ h
  have hW0 : ∀ w ∈ W0, w.before args s = true := fun w h => hts w (hB w h)
  have hl : lv_has ls 2 [(0, .ref (α 8)), (1, .int (zI cc9))] := hl
  refine lv_iload_n hx hb dX3_stepBehindNumber_0 rfl (lv_at hl 1 rfl) ?_
  refine lv_bipush (v := zI 59) hx hb dX3_stepBehindNumber_1 (zI_b8 (by decide)) ?_
  refine z_icne (tgt := 14) hx hb ⟨by omega, by omega⟩ ⟨by omega, by omega⟩ dX3_stepBehindNumber_3 (by decide) (fun c_3 => ?_) (fun c_3 => ?_)
  · refine lv_aload_n hx hb dX3_stepBehindNumber_14 rfl (lv_at hl 0 rfl) ?_
    refine lv_aload_n hx hb dX3_stepBehindNumber_15 rfl (lv_at hl 0 rfl) ?_
    refine va_get (D := D) (ci := 3) (v := .int (zI nu)) (C := RX3) (T := TX3) (N := 7) hx hb hts (fun w h => List.mem_cons_of_mem _ (wx_X3 w h)) hown hK hP 8 rfl rfl 6 (by decide) (hW0 _ wf_X3_31) (fun _ h9 => h9) rfl dX3_stepBehindNumber_16 ?_
    refine lv_bipush (v := zI 10) hx hb dX3_stepBehindNumber_19 (zI_b8 (by decide)) ?_
    refine z_imul hx hb dX3_stepBehindNumber_21 ?_
    refine lv_iload_n hx hb dX3_stepBehindNumber_22 rfl (lv_at hl 1 rfl) ?_
    refine lv_bipush (v := zI 48) hx hb dX3_stepBehindNumber_23 (zI_b8 (by decide)) ?_
    refine z_isub hx hb dX3_stepBehindNumber_25 ?_
    refine z_iadd hx hb dX3_stepBehindNumber_26 ?_
    refine va_put (D := D) (ci := 3) (v := .int (zI ((nu * 10) + (cc9 - 48)))) (ty := .int) (C := RX3) (T := TX3) (N := 7) hx hb hts (fun w h => List.mem_cons_of_mem _ (wx_X3 w h)) tyX3 tyX3_ok nmX3 hown hK hP hD hS 8 rfl rfl 6 (by decide) (hW0 _ wf_X3_31) (fun _ h9 => h9) rfl (by decide +kernel) rfl rfl (Nat.le_of_ble_eq_true rfl) dX3_stepBehindNumber_27 (fun H locs hP hD hS => ?_)
    have hP : va_P D vwCl (wH α γ rl rg ln sl pd ct sg (cd, ln9, pl, le, ro, co, (nu * 10) + (cc9 - 48)) hs) H := hP
    have hD : va_D A (wH α γ rl rg ln sl pd ct sg (cd, ln9, pl, le, ro, co, (nu * 10) + (cc9 - 48)) hs) := hD
    refine lv_aload_n hx hb dX3_stepBehindNumber_30 rfl (lv_at hl 0 rfl) ?_
    refine lv_bipush (v := zI 6) hx hb dX3_stepBehindNumber_31 (zI_b8 (by decide)) ?_
    refine va_put (D := D) (ci := 3) (v := .int (zI 6)) (ty := .int) (C := RX3) (T := TX3) (N := 7) hx hb hts (fun w h => List.mem_cons_of_mem _ (wx_X3 w h)) tyX3 tyX3_ok nmX3 hown hK hP hD hS 8 rfl rfl 2 (by decide) (hW0 _ wf_X3_19) (fun _ h9 => h9) rfl (by decide +kernel) rfl rfl (Nat.le_of_ble_eq_true rfl) dX3_stepBehindNumber_33 (fun H locs hP hD hS => ?_)
    have hP : va_P D vwCl (wH α γ rl rg ln sl pd ct sg (cd, ln9, 6, le, ro, co, (nu * 10) + (cc9 - 48)) hs) H := hP
    have hD : va_D A (wH α γ rl rg ln sl pd ct sg (cd, ln9, 6, le, ro, co, (nu * 10) + (cc9 - 48)) hs) := hD
    exact z_vret hC hr hlk hQ hP hD hS ⟨6, (nu * 10) + (cc9 - 48), (by first | (rw [if_pos (by omega)]; done) | (rw [if_neg (by omega)]; done)), rfl⟩ dX3_stepBehindNumber_36
  · refine lv_aload_n hx hb dX3_stepBehindNumber_6 rfl (lv_at hl 0 rfl) ?_
    refine lv_iconst (v := zI 0) hx hb dX3_stepBehindNumber_7 rfl ?_
    refine va_put (D := D) (ci := 3) (v := .int (zI 0)) (ty := .int) (C := RX3) (T := TX3) (N := 7) hx hb hts (fun w h => List.mem_cons_of_mem _ (wx_X3 w h)) tyX3 tyX3_ok nmX3 hown hK hP hD hS 8 rfl rfl 2 (by decide) (hW0 _ wf_X3_19) (fun _ h9 => h9) rfl (by decide +kernel) rfl rfl (Nat.le_of_ble_eq_true rfl) dX3_stepBehindNumber_8 (fun H locs hP hD hS => ?_)
    have hP : va_P D vwCl (wH α γ rl rg ln sl pd ct sg (cd, ln9, 0, le, ro, co, nu) hs) H := hP
    have hD : va_D A (wH α γ rl rg ln sl pd ct sg (cd, ln9, 0, le, ro, co, nu) hs) := hD
    refine lv_goto (tgt := 36) hx hb dX3_stepBehindNumber_11 (by decide) ?_
    exact z_vret hC hr hlk hQ hP hD hS ⟨0, nu, (by first | (rw [if_pos (by omega)]; done) | (rw [if_neg (by omega)]; done)), rfl⟩ dX3_stepBehindNumber_36

abbrev wz_X3_step : List Cond := .code yX3_step cX3_step 2 none :: W0
abbrev rm_X3_step : Room := { frames := 1, cells := 0, slots := 0, locals := 21 }
theorem hd_X3_step : yX3_step.cls = RX3 ∧ yX3_step.cls ≠ "java/lang/invoke/MethodHandle" ∧ yX3_step.cls ≠ "java/lang/invoke/VarHandle" ∧ (parseMethodDescriptor yX3_step.desc).map (fun d => d.parameters.length) = some 1 := by decide +kernel
set_option maxHeartbeats 4000000 in
set_option maxRecDepth 100000 in
theorem c_X3_step (l : Launch) (D : va_G) (τ : Nat → Nat) (α : Nat → Nat) (γ : Nat → ClassId) (rl : TRl) (rg : TRg) (ln : TLn) (sl : TSl) (pd : TPd) (ct : TCt) (sg : TSg) (cd : IA) (ln9 : Int) (pl : Int) (le : Int) (ro : Int) (co : Int) (nu : Int) (hs : THs) (cc9 : Int) (hc9 : 0 ≤ cc9 ∧ cc9 ≤ 126) (hpl : 0 ≤ pl ∧ pl ≤ 6) : cM l yX3_step wz_X3_step rm_X3_step D τ (tyH γ) [.ref (α 8), .int (zI cc9)] (wH α γ rl rg ln sl pd ct sg (cd, ln9, pl, le, ro, co, nu) hs) (zQv (fun w => ∃ (p2 : Int), ∃ (l2 : Int), ∃ (r2 : Int), ∃ (c2 : Int), ∃ (n2 : Int), ((p2, l2, r2, c2, n2) = O_step pl le ro co nu cc9) ∧ wH α γ rl rg ln sl pd ct sg (cd, ln9, p2, l2, r2, c2, n2) hs = w)) := by
  refine z_ofM (cc := cX3_step) (maxL := 2) (ret := none) (by decide +kernel) rfl (Nat.le_of_ble_eq_true rfl) ?_
  intro pg e s m args below meth c hC hr hlk hnm hK hP A hD hG hA hS ls hl Q hQ
  have hx := hC.1
  have hb := hC.2.1
  have hml := hC.2.2.1
  have hown := hC.2.2.2.1
  have hts := hC.2.2.2.2
  have hB : ∀ w ∈ W0, w ∈ wz_X3_step := fun _ h => List.mem_cons_of_mem _ h
  have hW0 : ∀ w ∈ W0, w.before args s = true := fun w h => hts w (hB w h)
  have hl : lv_has ls 2 [(0, .ref (α 8)), (1, .int (zI cc9))] := hl
  refine lv_aload_n hx hb dX3_step_0 rfl (lv_at hl 0 rfl) ?_
  refine va_get (D := D) (ci := 3) (v := .int (zI pl)) (C := RX3) (T := TX3) (N := 7) hx hb hts (fun w h => List.mem_cons_of_mem _ (wx_X3 w h)) hown hK hP 8 rfl rfl 2 (by decide) (hW0 _ wf_X3_19) (fun _ h9 => h9) rfl dX3_step_1 ?_
  by_cases c_4_0 : pl = 0
  · refine z_tabIn (off := 36) (tgt := 40) hx hb ⟨by omega, by omega⟩ dX3_step_4 (by omega) (by rw [c_4_0]; rfl) (by decide) ?_
    refine lv_aload_n hx hb dX3_step_40 rfl (lv_at hl 0 rfl) ?_
    refine lv_iload_n hx hb dX3_step_41 rfl (lv_at hl 1 rfl) ?_
    refine va_put (D := D) (ci := 3) (v := .int (zI cc9)) (ty := .int) (C := RX3) (T := TX3) (N := 7) hx hb hts (fun w h => List.mem_cons_of_mem _ (wx_X3 w h)) tyX3 tyX3_ok nmX3 hown hK hP hD hS 8 rfl rfl 3 (by decide) (hW0 _ wf_X3_22) (fun _ h9 => h9) rfl (by decide +kernel) rfl rfl (Nat.le_of_ble_eq_true rfl) dX3_step_42 (fun H locs hP hD hS => ?_)
    have hP : va_P D vwCl (wH α γ rl rg ln sl pd ct sg (cd, ln9, pl, cc9, ro, co, nu) hs) H := hP
    have hD : va_D A (wH α γ rl rg ln sl pd ct sg (cd, ln9, pl, cc9, ro, co, nu) hs) := hD
    refine lv_aload_n hx hb dX3_step_45 rfl (lv_at hl 0 rfl) ?_
    refine lv_iload_n hx hb dX3_step_46 rfl (lv_at hl 1 rfl) ?_
    refine lv_bipush (v := zI 126) hx hb dX3_step_47 (zI_b8 (by decide)) ?_
    refine z_icne (tgt := 57) hx hb ⟨by omega, by omega⟩ ⟨by omega, by omega⟩ dX3_step_49 (by decide) (fun c_49 => ?_) (fun c_49 => ?_)
    · refine lv_iconst (v := zI 1) hx hb dX3_step_57 rfl ?_
      refine va_put (D := D) (ci := 3) (v := .int (zI 1)) (ty := .int) (C := RX3) (T := TX3) (N := 7) hx hb hts (fun w h => List.mem_cons_of_mem _ (wx_X3 w h)) tyX3 tyX3_ok nmX3 hown hK hP hD hS 8 rfl rfl 2 (by decide) (hW0 _ wf_X3_19) (fun _ h9 => h9) rfl (by decide +kernel) rfl rfl (Nat.le_of_ble_eq_true rfl) dX3_step_58 (fun H locs hP hD hS => ?_)
      have hP : va_P D vwCl (wH α γ rl rg ln sl pd ct sg (cd, ln9, 1, cc9, ro, co, nu) hs) H := hP
      have hD : va_D A (wH α γ rl rg ln sl pd ct sg (cd, ln9, 1, cc9, ro, co, nu) hs) := hD
      refine lv_goto (tgt := 125) hx hb dX3_step_61 (by decide) ?_
      exact z_vret hC hr hlk hQ hP hD hS ⟨1, cc9, ro, co, nu, (by unfold O_step; first | (rw [if_pos (by omega), if_pos (by omega)]; done) | (rw [if_pos (by omega), if_neg (by omega)]; done) | (rw [if_neg (by omega), if_pos (by omega)]; done) | (rw [if_neg (by omega), if_neg (by omega), if_pos (by omega)]; done) | (rw [if_neg (by omega), if_neg (by omega), if_neg (by omega), if_pos (by omega)]; done) | (rw [if_neg (by omega), if_neg (by omega), if_neg (by omega), if_neg (by omega), if_pos (by omega)]; done) | (rw [if_neg (by omega), if_neg (by omega), if_neg (by omega), if_neg (by omega), if_neg (by omega)]; exact hv122_0)), rfl⟩ dX3_step_125
    · refine lv_bipush (v := zI 6) hx hb dX3_step_52 (zI_b8 (by decide)) ?_
      refine lv_goto (tgt := 58) hx hb dX3_step_54 (by decide) ?_
      refine va_put (D := D) (ci := 3) (v := .int (zI 6)) (ty := .int) (C := RX3) (T := TX3) (N := 7) hx hb hts (fun w h => List.mem_cons_of_mem _ (wx_X3 w h)) tyX3 tyX3_ok nmX3 hown hK hP hD hS 8 rfl rfl 2 (by decide) (hW0 _ wf_X3_19) (fun _ h9 => h9) rfl (by decide +kernel) rfl rfl (Nat.le_of_ble_eq_true rfl) dX3_step_58 (fun H locs hP hD hS => ?_)
      have hP : va_P D vwCl (wH α γ rl rg ln sl pd ct sg (cd, ln9, 6, cc9, ro, co, nu) hs) H := hP
      have hD : va_D A (wH α γ rl rg ln sl pd ct sg (cd, ln9, 6, cc9, ro, co, nu) hs) := hD
      refine lv_goto (tgt := 125) hx hb dX3_step_61 (by decide) ?_
      exact z_vret hC hr hlk hQ hP hD hS ⟨6, cc9, ro, co, nu, (by unfold O_step; first | (rw [if_pos (by omega), if_pos (by omega)]; done) | (rw [if_pos (by omega), if_neg (by omega)]; done) | (rw [if_neg (by omega), if_pos (by omega)]; done) | (rw [if_neg (by omega), if_neg (by omega), if_pos (by omega)]; done) | (rw [if_neg (by omega), if_neg (by omega), if_neg (by omega), if_pos (by omega)]; done) | (rw [if_neg (by omega), if_neg (by omega), if_neg (by omega), if_neg (by omega), if_pos (by omega)]; done) | (rw [if_neg (by omega), if_neg (by omega), if_neg (by omega), if_neg (by omega), if_neg (by omega)]; exact hv122_0)), rfl⟩ dX3_step_125
  by_cases c_4_1 : pl = 1
  · refine z_tabIn (off := 60) (tgt := 64) hx hb ⟨by omega, by omega⟩ dX3_step_4 (by omega) (by rw [c_4_1]; rfl) (by decide) ?_
    refine lv_aload_n hx hb dX3_step_64 rfl (lv_at hl 0 rfl) ?_
    refine lv_iload_n hx hb dX3_step_65 rfl (lv_at hl 1 rfl) ?_
    refine lv_bipush (v := zI 48) hx hb dX3_step_66 (zI_b8 (by decide)) ?_
    refine z_isub hx hb dX3_step_68 ?_
    refine va_put (D := D) (ci := 3) (v := .int (zI (cc9 - 48))) (ty := .int) (C := RX3) (T := TX3) (N := 7) hx hb hts (fun w h => List.mem_cons_of_mem _ (wx_X3 w h)) tyX3 tyX3_ok nmX3 hown hK hP hD hS 8 rfl rfl 4 (by decide) (hW0 _ wf_X3_25) (fun _ h9 => h9) rfl (by decide +kernel) rfl rfl (Nat.le_of_ble_eq_true rfl) dX3_step_69 (fun H locs hP hD hS => ?_)
    have hP : va_P D vwCl (wH α γ rl rg ln sl pd ct sg (cd, ln9, pl, le, cc9 - 48, co, nu) hs) H := hP
    have hD : va_D A (wH α γ rl rg ln sl pd ct sg (cd, ln9, pl, le, cc9 - 48, co, nu) hs) := hD
    refine lv_aload_n hx hb dX3_step_72 rfl (lv_at hl 0 rfl) ?_
    refine lv_iconst (v := zI 2) hx hb dX3_step_73 rfl ?_
    refine va_put (D := D) (ci := 3) (v := .int (zI 2)) (ty := .int) (C := RX3) (T := TX3) (N := 7) hx hb hts (fun w h => List.mem_cons_of_mem _ (wx_X3 w h)) tyX3 tyX3_ok nmX3 hown hK hP hD hS 8 rfl rfl 2 (by decide) (hW0 _ wf_X3_19) (fun _ h9 => h9) rfl (by decide +kernel) rfl rfl (Nat.le_of_ble_eq_true rfl) dX3_step_74 (fun H locs hP hD hS => ?_)
    have hP : va_P D vwCl (wH α γ rl rg ln sl pd ct sg (cd, ln9, 2, le, cc9 - 48, co, nu) hs) H := hP
    have hD : va_D A (wH α γ rl rg ln sl pd ct sg (cd, ln9, 2, le, cc9 - 48, co, nu) hs) := hD
    refine lv_goto (tgt := 125) hx hb dX3_step_77 (by decide) ?_
    exact z_vret hC hr hlk hQ hP hD hS ⟨2, le, cc9 - 48, co, nu, (by unfold O_step; first | (rw [if_pos (by omega), if_pos (by omega)]; done) | (rw [if_pos (by omega), if_neg (by omega)]; done) | (rw [if_neg (by omega), if_pos (by omega)]; done) | (rw [if_neg (by omega), if_neg (by omega), if_pos (by omega)]; done) | (rw [if_neg (by omega), if_neg (by omega), if_neg (by omega), if_pos (by omega)]; done) | (rw [if_neg (by omega), if_neg (by omega), if_neg (by omega), if_neg (by omega), if_pos (by omega)]; done) | (rw [if_neg (by omega), if_neg (by omega), if_neg (by omega), if_neg (by omega), if_neg (by omega)]; exact hv122_0)), rfl⟩ dX3_step_125
  by_cases c_4_2 : pl = 2
  · refine z_tabIn (off := 76) (tgt := 80) hx hb ⟨by omega, by omega⟩ dX3_step_4 (by omega) (by rw [c_4_2]; rfl) (by decide) ?_
    refine lv_aload_n hx hb dX3_step_80 rfl (lv_at hl 0 rfl) ?_
    refine lv_iload_n hx hb dX3_step_81 rfl (lv_at hl 1 rfl) ?_
    refine lv_bipush (v := zI 48) hx hb dX3_step_82 (zI_b8 (by decide)) ?_
    refine z_isub hx hb dX3_step_84 ?_
    refine va_put (D := D) (ci := 3) (v := .int (zI (cc9 - 48))) (ty := .int) (C := RX3) (T := TX3) (N := 7) hx hb hts (fun w h => List.mem_cons_of_mem _ (wx_X3 w h)) tyX3 tyX3_ok nmX3 hown hK hP hD hS 8 rfl rfl 5 (by decide) (hW0 _ wf_X3_28) (fun _ h9 => h9) rfl (by decide +kernel) rfl rfl (Nat.le_of_ble_eq_true rfl) dX3_step_85 (fun H locs hP hD hS => ?_)
    have hP : va_P D vwCl (wH α γ rl rg ln sl pd ct sg (cd, ln9, pl, le, ro, cc9 - 48, nu) hs) H := hP
    have hD : va_D A (wH α γ rl rg ln sl pd ct sg (cd, ln9, pl, le, ro, cc9 - 48, nu) hs) := hD
    refine lv_aload_n hx hb dX3_step_88 rfl (lv_at hl 0 rfl) ?_
    refine lv_iconst (v := zI 3) hx hb dX3_step_89 rfl ?_
    refine va_put (D := D) (ci := 3) (v := .int (zI 3)) (ty := .int) (C := RX3) (T := TX3) (N := 7) hx hb hts (fun w h => List.mem_cons_of_mem _ (wx_X3 w h)) tyX3 tyX3_ok nmX3 hown hK hP hD hS 8 rfl rfl 2 (by decide) (hW0 _ wf_X3_19) (fun _ h9 => h9) rfl (by decide +kernel) rfl rfl (Nat.le_of_ble_eq_true rfl) dX3_step_90 (fun H locs hP hD hS => ?_)
    have hP : va_P D vwCl (wH α γ rl rg ln sl pd ct sg (cd, ln9, 3, le, ro, cc9 - 48, nu) hs) H := hP
    have hD : va_D A (wH α γ rl rg ln sl pd ct sg (cd, ln9, 3, le, ro, cc9 - 48, nu) hs) := hD
    refine lv_goto (tgt := 125) hx hb dX3_step_93 (by decide) ?_
    exact z_vret hC hr hlk hQ hP hD hS ⟨3, le, ro, cc9 - 48, nu, (by unfold O_step; first | (rw [if_pos (by omega), if_pos (by omega)]; done) | (rw [if_pos (by omega), if_neg (by omega)]; done) | (rw [if_neg (by omega), if_pos (by omega)]; done) | (rw [if_neg (by omega), if_neg (by omega), if_pos (by omega)]; done) | (rw [if_neg (by omega), if_neg (by omega), if_neg (by omega), if_pos (by omega)]; done) | (rw [if_neg (by omega), if_neg (by omega), if_neg (by omega), if_neg (by omega), if_pos (by omega)]; done) | (rw [if_neg (by omega), if_neg (by omega), if_neg (by omega), if_neg (by omega), if_neg (by omega)]; exact hv122_0)), rfl⟩ dX3_step_125
  by_cases c_4_3 : pl = 3
  · refine z_tabIn (off := 92) (tgt := 96) hx hb ⟨by omega, by omega⟩ dX3_step_4 (by omega) (by rw [c_4_3]; rfl) (by decide) ?_
    refine lv_aload_n hx hb dX3_step_96 rfl (lv_at hl 0 rfl) ?_
    refine lv_iconst (v := zI 4) hx hb dX3_step_97 rfl ?_
    refine va_put (D := D) (ci := 3) (v := .int (zI 4)) (ty := .int) (C := RX3) (T := TX3) (N := 7) hx hb hts (fun w h => List.mem_cons_of_mem _ (wx_X3 w h)) tyX3 tyX3_ok nmX3 hown hK hP hD hS 8 rfl rfl 2 (by decide) (hW0 _ wf_X3_19) (fun _ h9 => h9) rfl (by decide +kernel) rfl rfl (Nat.le_of_ble_eq_true rfl) dX3_step_98 (fun H locs hP hD hS => ?_)
    have hP : va_P D vwCl (wH α γ rl rg ln sl pd ct sg (cd, ln9, 4, le, ro, co, nu) hs) H := hP
    have hD : va_D A (wH α γ rl rg ln sl pd ct sg (cd, ln9, 4, le, ro, co, nu) hs) := hD
    refine lv_goto (tgt := 125) hx hb dX3_step_101 (by decide) ?_
    exact z_vret hC hr hlk hQ hP hD hS ⟨4, le, ro, co, nu, (by unfold O_step; first | (rw [if_pos (by omega), if_pos (by omega)]; done) | (rw [if_pos (by omega), if_neg (by omega)]; done) | (rw [if_neg (by omega), if_pos (by omega)]; done) | (rw [if_neg (by omega), if_neg (by omega), if_pos (by omega)]; done) | (rw [if_neg (by omega), if_neg (by omega), if_neg (by omega), if_pos (by omega)]; done) | (rw [if_neg (by omega), if_neg (by omega), if_neg (by omega), if_neg (by omega), if_pos (by omega)]; done) | (rw [if_neg (by omega), if_neg (by omega), if_neg (by omega), if_neg (by omega), if_neg (by omega)]; exact hv122_0)), rfl⟩ dX3_step_125
  by_cases c_4_4 : pl = 4
  · refine z_tabIn (off := 100) (tgt := 104) hx hb ⟨by omega, by omega⟩ dX3_step_4 (by omega) (by rw [c_4_4]; rfl) (by decide) ?_
    refine lv_aload_n hx hb dX3_step_104 rfl (lv_at hl 0 rfl) ?_
    refine lv_iload_n hx hb dX3_step_105 rfl (lv_at hl 1 rfl) ?_
    refine lv_bipush (v := zI 48) hx hb dX3_step_106 (zI_b8 (by decide)) ?_
    refine z_isub hx hb dX3_step_108 ?_
    refine va_put (D := D) (ci := 3) (v := .int (zI (cc9 - 48))) (ty := .int) (C := RX3) (T := TX3) (N := 7) hx hb hts (fun w h => List.mem_cons_of_mem _ (wx_X3 w h)) tyX3 tyX3_ok nmX3 hown hK hP hD hS 8 rfl rfl 6 (by decide) (hW0 _ wf_X3_31) (fun _ h9 => h9) rfl (by decide +kernel) rfl rfl (Nat.le_of_ble_eq_true rfl) dX3_step_109 (fun H locs hP hD hS => ?_)
    have hP : va_P D vwCl (wH α γ rl rg ln sl pd ct sg (cd, ln9, pl, le, ro, co, cc9 - 48) hs) H := hP
    have hD : va_D A (wH α γ rl rg ln sl pd ct sg (cd, ln9, pl, le, ro, co, cc9 - 48) hs) := hD
    refine lv_aload_n hx hb dX3_step_112 rfl (lv_at hl 0 rfl) ?_
    refine lv_iconst (v := zI 5) hx hb dX3_step_113 rfl ?_
    refine va_put (D := D) (ci := 3) (v := .int (zI 5)) (ty := .int) (C := RX3) (T := TX3) (N := 7) hx hb hts (fun w h => List.mem_cons_of_mem _ (wx_X3 w h)) tyX3 tyX3_ok nmX3 hown hK hP hD hS 8 rfl rfl 2 (by decide) (hW0 _ wf_X3_19) (fun _ h9 => h9) rfl (by decide +kernel) rfl rfl (Nat.le_of_ble_eq_true rfl) dX3_step_114 (fun H locs hP hD hS => ?_)
    have hP : va_P D vwCl (wH α γ rl rg ln sl pd ct sg (cd, ln9, 5, le, ro, co, cc9 - 48) hs) H := hP
    have hD : va_D A (wH α γ rl rg ln sl pd ct sg (cd, ln9, 5, le, ro, co, cc9 - 48) hs) := hD
    refine lv_goto (tgt := 125) hx hb dX3_step_117 (by decide) ?_
    exact z_vret hC hr hlk hQ hP hD hS ⟨5, le, ro, co, cc9 - 48, (by unfold O_step; first | (rw [if_pos (by omega), if_pos (by omega)]; done) | (rw [if_pos (by omega), if_neg (by omega)]; done) | (rw [if_neg (by omega), if_pos (by omega)]; done) | (rw [if_neg (by omega), if_neg (by omega), if_pos (by omega)]; done) | (rw [if_neg (by omega), if_neg (by omega), if_neg (by omega), if_pos (by omega)]; done) | (rw [if_neg (by omega), if_neg (by omega), if_neg (by omega), if_neg (by omega), if_pos (by omega)]; done) | (rw [if_neg (by omega), if_neg (by omega), if_neg (by omega), if_neg (by omega), if_neg (by omega)]; exact hv122_0)), rfl⟩ dX3_step_125
  refine z_tabOut (tgt := 120) hx hb ⟨by omega, by omega⟩ dX3_step_4 (by omega) (by decide) ?_
  refine lv_aload_n hx hb dX3_step_120 rfl (lv_at hl 0 rfl) ?_
  refine lv_iload_n hx hb dX3_step_121 rfl (lv_at hl 1 rfl) ?_
  refine z_callv hP hD hS hA (va_runV (As := [.int (zI cc9)]) (rest := []) hC (c_X3_stepBehindNumber l D τ α γ rl rg ln sl pd ct sg cd ln9 pl le ro co nu hs cc9 (by first | assumption | rfl | omega) _) (cwV 1 hts (gV hB wl_X3_73 wn_X3_stepBehindNumber ws_X3_stepBehindNumber wi_X3 wc_X3_stepBehindNumber) rfl rfl rfl hd_X3_stepBehindNumber ⟨Nat.le_of_ble_eq_true rfl, Nat.le_of_ble_eq_true rfl⟩) (zp_V hK hP hD hS hA hG (ci := 3) (q0 := 8) rfl rfl rfl) rfl rfl hl.1 rfl (lv_room (Nat.le_of_ble_eq_true rfl)) dX3_step_122 ⟨Nat.le_of_ble_eq_true rfl, Nat.le_of_ble_eq_true rfl⟩) (fun w1 H locs hq9 hP hD hS => ?_)
  obtain ⟨p122_1, n122_2, hv122_0, rfl⟩ := hq9
  have hP : va_P D vwCl (wH α γ rl rg ln sl pd ct sg (cd, ln9, p122_1, le, ro, co, n122_2) hs) H := hP
  have hD : va_D A (wH α γ rl rg ln sl pd ct sg (cd, ln9, p122_1, le, ro, co, n122_2) hs) := hD
  exact z_vret hC hr hlk hQ hP hD hS ⟨p122_1, le, ro, co, n122_2, (by unfold O_step; first | (rw [if_pos (by omega), if_pos (by omega)]; done) | (rw [if_pos (by omega), if_neg (by omega)]; done) | (rw [if_neg (by omega), if_pos (by omega)]; done) | (rw [if_neg (by omega), if_neg (by omega), if_pos (by omega)]; done) | (rw [if_neg (by omega), if_neg (by omega), if_neg (by omega), if_pos (by omega)]; done) | (rw [if_neg (by omega), if_neg (by omega), if_neg (by omega), if_neg (by omega), if_pos (by omega)]; done) | (rw [if_neg (by omega), if_neg (by omega), if_neg (by omega), if_neg (by omega), if_neg (by omega)]; exact hv122_0)), rfl⟩ dX3_step_125

abbrev wz_X3_read : List Cond := .code yX3_read cX3_read 2 (some .int) :: W0
abbrev rm_X3_read : Room := { frames := 2, cells := 0, slots := 0, locals := 43 }
theorem hd_X3_read : yX3_read.cls = RX3 ∧ yX3_read.cls ≠ "java/lang/invoke/MethodHandle" ∧ yX3_read.cls ≠ "java/lang/invoke/VarHandle" ∧ (parseMethodDescriptor yX3_read.desc).map (fun d => d.parameters.length) = some 0 := by decide +kernel
set_option maxHeartbeats 4000000 in
set_option maxRecDepth 100000 in
theorem c_X3_read (l : Launch) (D : va_G) (τ : Nat → Nat) (α : Nat → Nat) (γ : Nat → ClassId) (rl : TRl) (rg : TRg) (ln : TLn) (sl : TSl) (pd : TPd) (ct : TCt) (sg : TSg) (cd : IA) (ln9 : Int) (pl : Int) (le : Int) (ro : Int) (co : Int) (nu : Int) (hs : THs) (hln : 0 ≤ ln9 ∧ ln9 ≤ 60) (hcd : ∀ k, 0 ≤ k → k < ln9 → 0 ≤ cd k ∧ cd k ≤ 126) (hov : OV pl le ro co nu) : cM l yX3_read wz_X3_read rm_X3_read D τ (tyH γ) [.ref (α 8)] (wH α γ rl rg ln sl pd ct sg (cd, ln9, pl, le, ro, co, nu) hs) (zQi (fun r w => ∃ (p2 : Int), ∃ (l2 : Int), ∃ (r2 : Int), ∃ (c2 : Int), ∃ (n2 : Int), ∃ (v : Int), ((v, p2, l2, r2, c2, n2) = O_run cd ln9 0 (0, le, ro, co, nu)) ∧ (0 ≤ v ∧ v ≤ ln9) ∧ (OV p2 l2 r2 c2 n2) ∧ r = zI v ∧ wH α γ rl rg ln sl pd ct sg (cd, ln9, p2, l2, r2, c2, n2) hs = w)) := by
  refine z_ofM (cc := cX3_read) (maxL := 2) (ret := (some .int)) (by decide +kernel) rfl (Nat.le_of_ble_eq_true rfl) ?_
  intro pg e s m args below meth c hC hr hlk hnm hK hP A hD hG hA hS ls hl Q hQ
  have hx := hC.1
  have hb := hC.2.1
  have hml := hC.2.2.1
  have hown := hC.2.2.2.1
  have hts := hC.2.2.2.2
  have hB : ∀ w ∈ W0, w ∈ wz_X3_read := fun _ h => List.mem_cons_of_mem _ h
  have hW0 : ∀ w ∈ W0, w.before args s = true := fun w h => hts w (hB w h)
  have hl : lv_has ls 2 [(0, .ref (α 8))] := hl
  refine lv_aload_n hx hb dX3_read_0 rfl (lv_at hl 0 rfl) ?_
  refine lv_iconst (v := zI 0) hx hb dX3_read_1 rfl ?_
  refine va_put (D := D) (ci := 3) (v := .int (zI 0)) (ty := .int) (C := RX3) (T := TX3) (N := 7) hx hb hts (fun w h => List.mem_cons_of_mem _ (wx_X3 w h)) tyX3 tyX3_ok nmX3 hown hK hP hD hS 8 rfl rfl 2 (by decide) (hW0 _ wf_X3_19) (fun _ h9 => h9) rfl (by decide +kernel) rfl rfl (Nat.le_of_ble_eq_true rfl) dX3_read_2 (fun H locs hP hD hS => ?_)
  have hP : va_P D vwCl (wH α γ rl rg ln sl pd ct sg (cd, ln9, 0, le, ro, co, nu) hs) H := hP
  have hD : va_D A (wH α γ rl rg ln sl pd ct sg (cd, ln9, 0, le, ro, co, nu) hs) := hD
  refine lv_iconst (v := zI 0) hx hb dX3_read_5 rfl ?_
  refine lv_istore_n (lv' := [(1, .int (zI 0)), (0, .ref (α 8))]) hx hb dX3_read_6 rfl hl (by decide) rfl (fun ls hl => ?_)
  suffices HL_7 : ∀ (n_7 : Nat), ∀ (p3 : Int) (l3 : Int) (r3 : Int) (c3 : Int) (n3 : Int) (i : Int) (H : Heap) (locs : List Loc) (hP : va_P D vwCl (wH α γ rl rg ln sl pd ct sg (cd, ln9, p3, l3, r3, c3, n3) hs) H) (hD : va_D A (wH α γ rl rg ln sl pd ct sg (cd, ln9, p3, l3, r3, c3, n3) hs)) (hS : va_S A s.heap H locs) (ls : Array Slot) (hl : lv_has ls 2 [(1, .int (zI i)), (0, .ref (α 8))]) (hi : 0 ≤ i ∧ i ≤ ln9) (hv3 : OV p3 l3 r3 c3 n3) (hrun : O_run cd ln9 i (p3, l3, r3, c3, n3) = O_run cd ln9 0 (0, le, ro, co, nu)) (hm : (ln9 - i).toNat < n_7), W pg l e rm_X3_read s m args below meth c H locs 0 0 Q (F0 m 7 ls []) from HL_7 _ 0 le ro co nu 0 _ _ hP hD hS _ (lv_sub hl [0, 1] rfl) (by first | assumption | rfl | omega) (by exact OV_0 hov) (by rfl) (Nat.lt_succ_self _)
  intro n_7
  induction n_7 with
  | zero => intro p3 l3 r3 c3 n3 i H locs hP hD hS ls hl hi hv3 hrun hm; exact absurd hm (Nat.not_lt_zero _)
  | succ n_7 ih_7 =>
    intro p3 l3 r3 c3 n3 i H locs hP hD hS ls hl hi hv3 hrun hm
    refine lv_iload_n hx hb dX3_read_7 rfl (lv_at hl 0 rfl) ?_
    refine lv_aload_n hx hb dX3_read_8 rfl (lv_at hl 1 rfl) ?_
    refine va_get (D := D) (ci := 3) (v := .int (zI ln9)) (C := RX3) (T := TX3) (N := 7) hx hb hts (fun w h => List.mem_cons_of_mem _ (wx_X3 w h)) hown hK hP 8 rfl rfl 1 (by decide) (hW0 _ wf_X3_15) (fun _ h9 => h9) rfl dX3_read_9 ?_
    refine z_icge (tgt := 44) hx hb ⟨by omega, by omega⟩ ⟨by omega, by omega⟩ dX3_read_12 (by decide) (fun c_12 => ?_) (fun c_12 => ?_)
    · refine lv_aload_n hx hb dX3_read_44 rfl (lv_at hl 1 rfl) ?_
      refine va_get (D := D) (ci := 3) (v := .int (zI ln9)) (C := RX3) (T := TX3) (N := 7) hx hb hts (fun w h => List.mem_cons_of_mem _ (wx_X3 w h)) hown hK hP 8 rfl rfl 1 (by decide) (hW0 _ wf_X3_15) (fun _ h9 => h9) rfl dX3_read_45 ?_
      exact z_iret hC hr hlk hQ hP hD hS ⟨p3, l3, r3, c3, n3, ln9, (by rw [← hrun, show ln9 = i by omega]; exact (O_run_no (fun h9 => absurd h9 (by omega))).symm), (by omega), (by exact hv3), rfl, rfl⟩ dX3_read_48
    · refine lv_aload_n hx hb dX3_read_15 rfl (lv_at hl 1 rfl) ?_
      refine lv_aload_n hx hb dX3_read_16 rfl (lv_at hl 1 rfl) ?_
      refine lv_iload_n hx hb dX3_read_17 rfl (lv_at hl 0 rfl) ?_
      refine z_calli hP hD hS hA (va_runV (As := [.int (zI i)]) (rest := [.ref (α 8)]) hC (c_X3_code l D τ α γ rl rg ln sl pd ct sg cd ln9 p3 l3 r3 c3 n3 hs i (by first | assumption | rfl | omega) (by first | assumption | rfl | omega) (by first | assumption | rfl | omega) _) (cwV 1 hts (gV hB wl_X3_34 wn_X3_code ws_X3_code wi_X3 wc_X3_code) rfl rfl rfl hd_X3_code ⟨Nat.le_of_ble_eq_true rfl, Nat.le_of_ble_eq_true rfl⟩) (zp_V hK hP hD hS hA hG (ci := 3) (q0 := 8) rfl rfl rfl) rfl rfl hl.1 rfl (lv_room (Nat.le_of_ble_eq_true rfl)) dX3_read_18 ⟨Nat.le_of_ble_eq_true rfl, Nat.le_of_ble_eq_true rfl⟩) (fun r w1 H locs hq9 hP hD hS => ?_)
      obtain ⟨v18_1, hv18_0, hv18_1, rfl, rfl⟩ := hq9
      have hP : va_P D vwCl (wH α γ rl rg ln sl pd ct sg (cd, ln9, p3, l3, r3, c3, n3) hs) H := hP
      have hD : va_D A (wH α γ rl rg ln sl pd ct sg (cd, ln9, p3, l3, r3, c3, n3) hs) := hD
      refine z_calli hP hD hS hA (va_runV (As := [.int (zI v18_1)]) (rest := []) hC (c_X3_fits l D τ α γ rl rg ln sl pd ct sg cd ln9 p3 l3 r3 c3 n3 hs v18_1 (by first | assumption | rfl | omega) (by exact hv3) _) (cwV 1 hts (gV hB wl_X3_38 wn_X3_fits ws_X3_fits wi_X3 wc_X3_fits) rfl rfl rfl hd_X3_fits ⟨Nat.le_of_ble_eq_true rfl, Nat.le_of_ble_eq_true rfl⟩) (zp_V hK hP hD hS hA hG (ci := 3) (q0 := 8) rfl rfl rfl) rfl rfl hl.1 rfl (lv_room (Nat.le_of_ble_eq_true rfl)) dX3_read_21 ⟨Nat.le_of_ble_eq_true rfl, Nat.le_of_ble_eq_true rfl⟩) (fun r w1 H locs hq9 hP hD hS => ?_)
      obtain ⟨v21_2, hv21_0, rfl, rfl⟩ := hq9
      have hP : va_P D vwCl (wH α γ rl rg ln sl pd ct sg (cd, ln9, p3, l3, r3, c3, n3) hs) H := hP
      have hD : va_D A (wH α γ rl rg ln sl pd ct sg (cd, ln9, p3, l3, r3, c3, n3) hs) := hD
      refine z_ifneB (tgt := 29) hx hb dX3_read_24 (by decide) (fun c_24 => ?_) (fun c_24 => ?_)
      · have hb_24 := hv21_0.mp c_24
        have hfi : O_fits p3 l3 n3 (cd i) := hv18_0 ▸ hb_24
        refine lv_aload_n hx hb dX3_read_29 rfl (lv_at hl 1 rfl) ?_
        refine lv_aload_n hx hb dX3_read_30 rfl (lv_at hl 1 rfl) ?_
        refine lv_iload_n hx hb dX3_read_31 rfl (lv_at hl 0 rfl) ?_
        refine z_calli hP hD hS hA (va_runV (As := [.int (zI i)]) (rest := [.ref (α 8)]) hC (c_X3_code l D τ α γ rl rg ln sl pd ct sg cd ln9 p3 l3 r3 c3 n3 hs i (by first | assumption | rfl | omega) (by first | assumption | rfl | omega) (by first | assumption | rfl | omega) _) (cwV 1 hts (gV hB wl_X3_34 wn_X3_code ws_X3_code wi_X3 wc_X3_code) rfl rfl rfl hd_X3_code ⟨Nat.le_of_ble_eq_true rfl, Nat.le_of_ble_eq_true rfl⟩) (zp_V hK hP hD hS hA hG (ci := 3) (q0 := 8) rfl rfl rfl) rfl rfl hl.1 rfl (lv_room (Nat.le_of_ble_eq_true rfl)) dX3_read_32 ⟨Nat.le_of_ble_eq_true rfl, Nat.le_of_ble_eq_true rfl⟩) (fun r w1 H locs hq9 hP hD hS => ?_)
        obtain ⟨v32_3, hv32_0, hv32_1, rfl, rfl⟩ := hq9
        have hP : va_P D vwCl (wH α γ rl rg ln sl pd ct sg (cd, ln9, p3, l3, r3, c3, n3) hs) H := hP
        have hD : va_D A (wH α γ rl rg ln sl pd ct sg (cd, ln9, p3, l3, r3, c3, n3) hs) := hD
        refine z_callv hP hD hS hA (va_runV (As := [.int (zI v32_3)]) (rest := []) hC (c_X3_step l D τ α γ rl rg ln sl pd ct sg cd ln9 p3 l3 r3 c3 n3 hs v32_3 (by exact hv32_1) (by exact hv3.1) _) (cwV 1 hts (gV hB wl_X3_42 wn_X3_step ws_X3_step wi_X3 wc_X3_step) rfl rfl rfl hd_X3_step ⟨Nat.le_of_ble_eq_true rfl, Nat.le_of_ble_eq_true rfl⟩) (zp_V hK hP hD hS hA hG (ci := 3) (q0 := 8) rfl rfl rfl) rfl rfl hl.1 rfl (lv_room (Nat.le_of_ble_eq_true rfl)) dX3_read_35 ⟨Nat.le_of_ble_eq_true rfl, Nat.le_of_ble_eq_true rfl⟩) (fun w1 H locs hq9 hP hD hS => ?_)
        obtain ⟨p35_4, l35_5, r35_6, c35_7, n35_8, hv35_0, rfl⟩ := hq9
        have hP : va_P D vwCl (wH α γ rl rg ln sl pd ct sg (cd, ln9, p35_4, l35_5, r35_6, c35_7, n35_8) hs) H := hP
        have hD : va_D A (wH α γ rl rg ln sl pd ct sg (cd, ln9, p35_4, l35_5, r35_6, c35_7, n35_8) hs) := hD
        have he5 := hv35_0.symm
        rw [hv32_0] at he5
        have hv5 := OV_step hv3 hfi
        rw [he5] at hv5
        refine z_iinc (k := 0) (v := i + 1) (lv' := [(1, .int (zI (i + 1))), (0, .ref (α 8))]) hx hb dX3_read_38 hl rfl rfl (by decide) rfl (fun ls hl => ?_)
        refine lv_goto (tgt := 7) hx hb dX3_read_41 (by decide) ?_
        exact ih_7 p35_4 l35_5 r35_6 c35_7 n35_8 (i + 1) _ _ hP hD hS _ (lv_sub hl [0, 1] rfl) (by first | assumption | rfl | omega) (by exact hv5) (by rw [← hrun, O_run_up (by omega) hfi, he5]) (by omega)
      · have hb_24 := zb_neg hv21_0 c_24
        refine lv_iload_n hx hb dX3_read_27 rfl (lv_at hl 0 rfl) ?_
        exact z_iret hC hr hlk hQ hP hD hS ⟨p3, l3, r3, c3, n3, i, (by rw [← hrun]; exact (O_run_no (fun _ h9 => hb_24 (by rw [hv18_0]; exact h9))).symm), (by omega), (by exact hv3), rfl, rfl⟩ dX3_read_28

abbrev wz_X3_areWhole : List Cond := .code yX3_areWhole cX3_areWhole 1 (some .boolean) :: W0
abbrev rm_X3_areWhole : Room := { frames := 3, cells := 0, slots := 0, locals := 64 }
theorem hd_X3_areWhole : yX3_areWhole.cls = RX3 ∧ yX3_areWhole.cls ≠ "java/lang/invoke/MethodHandle" ∧ yX3_areWhole.cls ≠ "java/lang/invoke/VarHandle" ∧ (parseMethodDescriptor yX3_areWhole.desc).map (fun d => d.parameters.length) = some 0 := by decide +kernel
set_option maxHeartbeats 4000000 in
set_option maxRecDepth 100000 in
theorem c_X3_areWhole (l : Launch) (D : va_G) (τ : Nat → Nat) (α : Nat → Nat) (γ : Nat → ClassId) (rl : TRl) (rg : TRg) (ln : TLn) (sl : TSl) (pd : TPd) (ct : TCt) (sg : TSg) (cd : IA) (ln9 : Int) (pl : Int) (le : Int) (ro : Int) (co : Int) (nu : Int) (hs : THs) (hln : 0 ≤ ln9 ∧ ln9 ≤ 60) (hcd : ∀ k, 0 ≤ k → k < ln9 → 0 ≤ cd k ∧ cd k ≤ 126) (hov : OV pl le ro co nu) : cM l yX3_areWhole wz_X3_areWhole rm_X3_areWhole D τ (tyH γ) [.ref (α 8)] (wH α γ rl rg ln sl pd ct sg (cd, ln9, pl, le, ro, co, nu) hs) (zQi (fun r w => ∃ (p2 : Int), ∃ (l2 : Int), ∃ (r2 : Int), ∃ (c2 : Int), ∃ (n2 : Int), ∃ (v : Bool), (v = true ↔ ((O_run cd ln9 0 (0, le, ro, co, nu)).1 = ln9 ∧ 5 ≤ (O_run cd ln9 0 (0, le, ro, co, nu)).2.1)) ∧ ((p2, l2, r2, c2, n2) = (O_run cd ln9 0 (0, le, ro, co, nu)).2) ∧ (OV p2 l2 r2 c2 n2) ∧ r = bI v ∧ wH α γ rl rg ln sl pd ct sg (cd, ln9, p2, l2, r2, c2, n2) hs = w)) := by
  refine z_ofM (cc := cX3_areWhole) (maxL := 1) (ret := (some .boolean)) (by decide +kernel) rfl (Nat.le_of_ble_eq_true rfl) ?_
  intro pg e s m args below meth c hC hr hlk hnm hK hP A hD hG hA hS ls hl Q hQ
  have hx := hC.1
  have hb := hC.2.1
  have hml := hC.2.2.1
  have hown := hC.2.2.2.1
  have hts := hC.2.2.2.2
  have hB : ∀ w ∈ W0, w ∈ wz_X3_areWhole := fun _ h => List.mem_cons_of_mem _ h
  have hW0 : ∀ w ∈ W0, w.before args s = true := fun w h => hts w (hB w h)
  have hl : lv_has ls 1 [(0, .ref (α 8))] := hl
  refine lv_aload_n hx hb dX3_areWhole_0 rfl (lv_at hl 0 rfl) ?_
  refine z_calli hP hD hS hA (va_runV (As := []) (rest := []) hC (c_X3_read l D τ α γ rl rg ln sl pd ct sg cd ln9 pl le ro co nu hs (by first | assumption | rfl | omega) (by first | assumption | rfl | omega) (by first | assumption | rfl | omega) _) (cwV 0 hts (gV hB wl_X3_46 wn_X3_read ws_X3_read wi_X3 wc_X3_read) rfl rfl rfl hd_X3_read ⟨Nat.le_of_ble_eq_true rfl, Nat.le_of_ble_eq_true rfl⟩) (zp_V hK hP hD hS hA hG (ci := 3) (q0 := 8) rfl rfl rfl) rfl rfl hl.1 rfl (lv_room (Nat.le_of_ble_eq_true rfl)) dX3_areWhole_1 ⟨Nat.le_of_ble_eq_true rfl, Nat.le_of_ble_eq_true rfl⟩) (fun r w1 H locs hq9 hP hD hS => ?_)
  obtain ⟨p1_1, l1_2, r1_3, c1_4, n1_5, v1_6, hv1_0, hv1_1, hv1_2, rfl, rfl⟩ := hq9
  have hP : va_P D vwCl (wH α γ rl rg ln sl pd ct sg (cd, ln9, p1_1, l1_2, r1_3, c1_4, n1_5) hs) H := hP
  have hD : va_D A (wH α γ rl rg ln sl pd ct sg (cd, ln9, p1_1, l1_2, r1_3, c1_4, n1_5) hs) := hD
  have hq1 := hv1_2.1
  refine lv_aload_n hx hb dX3_areWhole_4 rfl (lv_at hl 0 rfl) ?_
  refine va_get (D := D) (ci := 3) (v := .int (zI ln9)) (C := RX3) (T := TX3) (N := 7) hx hb hts (fun w h => List.mem_cons_of_mem _ (wx_X3 w h)) hown hK hP 8 rfl rfl 1 (by decide) (hW0 _ wf_X3_15) (fun _ h9 => h9) rfl dX3_areWhole_5 ?_
  refine z_icne (tgt := 23) hx hb ⟨by omega, by omega⟩ ⟨by omega, by omega⟩ dX3_areWhole_8 (by decide) (fun c_8 => ?_) (fun c_8 => ?_)
  · refine lv_iconst (v := zI 0) hx hb dX3_areWhole_23 rfl ?_
    refine W.eq (g2 := F0 m 24 ls [.int (bI false)]) rfl ?_
    exact z_zret hC hr hlk hQ hP hD hS ⟨p1_1, l1_2, r1_3, c1_4, n1_5, false, (by rw [← hv1_0]; first | exact zb_T ⟨by assumption, by omega⟩ | exact zb_F (fun h9 => (by have z1 := h9.1; have z2 := h9.2; simp only at z1 z2; omega))), (by rw [← hv1_0]), (by exact hv1_2), rfl, rfl⟩ dX3_areWhole_24
  · refine lv_aload_n hx hb dX3_areWhole_11 rfl (lv_at hl 0 rfl) ?_
    refine va_get (D := D) (ci := 3) (v := .int (zI p1_1)) (C := RX3) (T := TX3) (N := 7) hx hb hts (fun w h => List.mem_cons_of_mem _ (wx_X3 w h)) hown hK hP 8 rfl rfl 2 (by decide) (hW0 _ wf_X3_19) (fun _ h9 => h9) rfl dX3_areWhole_12 ?_
    refine lv_iconst (v := zI 5) hx hb dX3_areWhole_15 rfl ?_
    refine z_iclt (tgt := 23) hx hb ⟨by omega, by omega⟩ ⟨by omega, by omega⟩ dX3_areWhole_16 (by decide) (fun c_16 => ?_) (fun c_16 => ?_)
    · refine lv_iconst (v := zI 0) hx hb dX3_areWhole_23 rfl ?_
      refine W.eq (g2 := F0 m 24 ls [.int (bI false)]) rfl ?_
      exact z_zret hC hr hlk hQ hP hD hS ⟨p1_1, l1_2, r1_3, c1_4, n1_5, false, (by rw [← hv1_0]; first | exact zb_T ⟨by assumption, by omega⟩ | exact zb_F (fun h9 => (by have z1 := h9.1; have z2 := h9.2; simp only at z1 z2; omega))), (by rw [← hv1_0]), (by exact hv1_2), rfl, rfl⟩ dX3_areWhole_24
    · refine lv_iconst (v := zI 1) hx hb dX3_areWhole_19 rfl ?_
      refine lv_goto (tgt := 24) hx hb dX3_areWhole_20 (by decide) ?_
      refine W.eq (g2 := F0 m 24 ls [.int (bI true)]) rfl ?_
      exact z_zret hC hr hlk hQ hP hD hS ⟨p1_1, l1_2, r1_3, c1_4, n1_5, true, (by rw [← hv1_0]; first | exact zb_T ⟨by assumption, by omega⟩ | exact zb_F (fun h9 => (by have z1 := h9.1; have z2 := h9.2; simp only at z1 z2; omega))), (by rw [← hv1_0]), (by exact hv1_2), rfl, rfl⟩ dX3_areWhole_24

abbrev wz_X3_carryOut : List Cond := .code yX3_carryOut cX3_carryOut 2 none :: W0
abbrev rm_X3_carryOut : Room := { frames := 4, cells := 0, slots := 0, locals := 88 }
theorem hd_X3_carryOut : yX3_carryOut.cls = RX3 ∧ yX3_carryOut.cls ≠ "java/lang/invoke/MethodHandle" ∧ yX3_carryOut.cls ≠ "java/lang/invoke/VarHandle" ∧ (parseMethodDescriptor yX3_carryOut.desc).map (fun d => d.parameters.length) = some 1 := by decide +kernel
set_option maxHeartbeats 4000000 in
set_option maxRecDepth 100000 in
theorem c_X3_carryOut (l : Launch) (D : va_G) (τ : Nat → Nat) (α : Nat → Nat) (γ : Nat → ClassId) (h : IA) (old : IA) (ch : IA) (rg : TRg) (ln : TLn) (sl : TSl) (pd : TPd) (ct : TCt) (sg : TSg) (cd : IA) (ln9 : Int) (pl : Int) (le : Int) (ro : Int) (co : Int) (nu : Int) (hs : THs) (hh : ∀ k, 0 ≤ k → k < 49 → 0 ≤ h k ∧ h k ≤ 99) (hov : OV pl le ro co nu) (h5 : 5 ≤ pl) : cM l yX3_carryOut wz_X3_carryOut rm_X3_carryOut D τ (tyH γ) [.ref (α 8), .ref (α 1)] (wH α γ (h, old, ch) rg ln sl pd ct sg (cd, ln9, pl, le, ro, co, nu) hs) (zQv (fun w => ∃ (h2 : IA), ∃ (o2 : IA), (h2 = O_carry le ro co nu h) ∧ (∀ k, 0 ≤ k → k < 49 → 0 ≤ h2 k ∧ h2 k ≤ 99) ∧ wH α γ (h2, o2, ch) rg ln sl pd ct sg (cd, ln9, pl, le, ro, co, nu) hs = w)) := by
  refine z_ofM (cc := cX3_carryOut) (maxL := 2) (ret := none) (by decide +kernel) rfl (Nat.le_of_ble_eq_true rfl) ?_
  intro pg e s m args below meth c hC hr hlk hnm hK hP A hD hG hA hS ls hl Q hQ
  have hx := hC.1
  have hb := hC.2.1
  have hml := hC.2.2.1
  have hown := hC.2.2.2.1
  have hts := hC.2.2.2.2
  have hB : ∀ w ∈ W0, w ∈ wz_X3_carryOut := fun _ h => List.mem_cons_of_mem _ h
  have hW0 : ∀ w ∈ W0, w.before args s = true := fun w h => hts w (hB w h)
  have hl : lv_has ls 2 [(0, .ref (α 8)), (1, .ref (α 1))] := hl
  unfold OV at hov
  refine lv_aload_n hx hb dX3_carryOut_0 rfl (lv_at hl 0 rfl) ?_
  refine va_get (D := D) (ci := 3) (v := .int (zI le)) (C := RX3) (T := TX3) (N := 7) hx hb hts (fun w h => List.mem_cons_of_mem _ (wx_X3 w h)) hown hK hP 8 rfl rfl 3 (by decide) (hW0 _ wf_X3_22) (fun _ h9 => h9) rfl dX3_carryOut_1 ?_
  by_cases c_4_100 : le = 100
  · refine z_look (off := 81) (tgt := 85) hx hb ⟨by omega, by omega⟩ dX3_carryOut_4 (by decide) (by rw [c_4_100]; rfl) (by decide) ?_
    refine lv_aload_n hx hb dX3_carryOut_85 rfl (lv_at hl 1 rfl) ?_
    refine lv_aload_n hx hb dX3_carryOut_86 rfl (lv_at hl 0 rfl) ?_
    refine va_get (D := D) (ci := 3) (v := .int (zI ro)) (C := RX3) (T := TX3) (N := 7) hx hb hts (fun w h => List.mem_cons_of_mem _ (wx_X3 w h)) hown hK hP 8 rfl rfl 4 (by decide) (hW0 _ wf_X3_25) (fun _ h9 => h9) rfl dX3_carryOut_87 ?_
    refine lv_aload_n hx hb dX3_carryOut_90 rfl (lv_at hl 0 rfl) ?_
    refine va_get (D := D) (ci := 3) (v := .int (zI co)) (C := RX3) (T := TX3) (N := 7) hx hb hts (fun w h => List.mem_cons_of_mem _ (wx_X3 w h)) hown hK hP 8 rfl rfl 5 (by decide) (hW0 _ wf_X3_28) (fun _ h9 => h9) rfl dX3_carryOut_91 ?_
    refine z_calli hP hD hS hA (va_runSN (As := [.int (zI ro), .int (zI co)]) (rest := [.ref (α 1)]) hC (c_X9_pointAt l D τ _ _ ro co (by first | assumption | rfl | omega) (by first | assumption | rfl | omega) _) ⟨va_cnB 2 hts (gC hB wc_X9_pointAt) rfl rfl rfl (hG.2.2.2.2.2.2.2 _ (List.mem_of_getElem? (i := 3) rfl)) (hW0 _ wi_X9) hd_X9_pointAt.2 ⟨Nat.le_of_ble_eq_true rfl, Nat.le_of_ble_eq_true rfl⟩, (hW0 _ wt_X9_pointAt), trivial⟩ (zp_S hK hP hD hS hA hG) rfl rfl hl.1 rfl (lv_room (Nat.le_of_ble_eq_true rfl)) dX3_carryOut_94 ⟨Nat.le_of_ble_eq_true rfl, Nat.le_of_ble_eq_true rfl⟩) (fun r w1 H locs hq9 hP hD hS => ?_)
    obtain ⟨v94_1, hv94_0, hv94_1, rfl, rfl⟩ := hq9
    have e94 := hv94_0
    rw [S_pointAt_in (by omega) (by omega)] at e94
    refine lv_aload_n hx hb dX3_carryOut_97 rfl (lv_at hl 0 rfl) ?_
    refine va_get (D := D) (ci := 3) (v := .int (zI nu)) (C := RX3) (T := TX3) (N := 7) hx hb hts (fun w h => List.mem_cons_of_mem _ (wx_X3 w h)) hown hK hP 8 rfl rfl 6 (by decide) (hW0 _ wf_X3_31) (fun _ h9 => h9) rfl dX3_carryOut_98 ?_
    refine z_ineg hx hb dX3_carryOut_101 ?_
    refine z_calli hP hD hS hA (va_runV (As := [.int (zI v94_1), .int (zI (-nu))]) (rest := []) hC (c_X6_heapUp l D τ α γ h old ch rg ln sl pd ct sg (cd, ln9, pl, le, ro, co, nu) hs v94_1 (-nu) (by first | assumption | rfl | omega) (by first | assumption | rfl | omega) (by first | assumption | rfl | omega) _) (cwV 2 hts (gV hB wl_X3_64 wn_X6_heapUp ws_X6_heapUp wi_X6 wc_X6_heapUp) rfl rfl rfl hd_X6_heapUp ⟨Nat.le_of_ble_eq_true rfl, Nat.le_of_ble_eq_true rfl⟩) (zp_V hK hP hD hS hA hG (ci := 6) (q0 := 1) rfl rfl rfl) rfl rfl hl.1 rfl (lv_room (Nat.le_of_ble_eq_true rfl)) dX3_carryOut_102 ⟨Nat.le_of_ble_eq_true rfl, Nat.le_of_ble_eq_true rfl⟩) (fun r w1 H locs hq9 hP hD hS => ?_)
    obtain ⟨h102_2, o102_3, v102_4, hv102_0, hv102_1, hv102_2, rfl, rfl⟩ := hq9
    have hP : va_P D vwCl (wH α γ (h102_2, o102_3, ch) rg ln sl pd ct sg (cd, ln9, pl, le, ro, co, nu) hs) H := hP
    have hD : va_D A (wH α γ (h102_2, o102_3, ch) rg ln sl pd ct sg (cd, ln9, pl, le, ro, co, nu) hs) := hD
    refine lv_pop hx hb dX3_carryOut_105 rfl ?_
    refine lv_goto (tgt := 114) hx hb dX3_carryOut_106 (by decide) ?_
    exact z_vret hC hr hlk hQ hP hD hS ⟨h102_2, o102_3, (by unfold O_carry; first | (rw [if_pos (by omega), ← e49]; exact hv56_0) | (rw [if_neg (by omega), if_pos (by omega), ← e71]; exact hv78_0) | (rw [if_neg (by omega), if_neg (by omega), if_pos (by omega), ← e94]; exact hv102_0) | (rw [if_neg (by omega), if_neg (by omega), if_neg (by omega)]; exact hv110_0)), (by first | (rw [hv56_0]; exact S_put_b hh) | (rw [hv78_0]; exact zmix_b hh (fun _ => S_heapv_b)) | (rw [hv102_0]; exact zmix_b hh (fun _ => S_heapv_b)) | (rw [hv110_0]; exact zmix_b hh (fun _ => clip_b _))), rfl⟩ dX3_carryOut_114
  by_cases c_4_104 : le = 104
  · refine z_look (off := 58) (tgt := 62) hx hb ⟨by omega, by omega⟩ dX3_carryOut_4 (by decide) (by rw [c_4_104]; rfl) (by decide) ?_
    refine lv_aload_n hx hb dX3_carryOut_62 rfl (lv_at hl 1 rfl) ?_
    refine lv_aload_n hx hb dX3_carryOut_63 rfl (lv_at hl 0 rfl) ?_
    refine va_get (D := D) (ci := 3) (v := .int (zI ro)) (C := RX3) (T := TX3) (N := 7) hx hb hts (fun w h => List.mem_cons_of_mem _ (wx_X3 w h)) hown hK hP 8 rfl rfl 4 (by decide) (hW0 _ wf_X3_25) (fun _ h9 => h9) rfl dX3_carryOut_64 ?_
    refine lv_aload_n hx hb dX3_carryOut_67 rfl (lv_at hl 0 rfl) ?_
    refine va_get (D := D) (ci := 3) (v := .int (zI co)) (C := RX3) (T := TX3) (N := 7) hx hb hts (fun w h => List.mem_cons_of_mem _ (wx_X3 w h)) hown hK hP 8 rfl rfl 5 (by decide) (hW0 _ wf_X3_28) (fun _ h9 => h9) rfl dX3_carryOut_68 ?_
    refine z_calli hP hD hS hA (va_runSN (As := [.int (zI ro), .int (zI co)]) (rest := [.ref (α 1)]) hC (c_X9_pointAt l D τ _ _ ro co (by first | assumption | rfl | omega) (by first | assumption | rfl | omega) _) ⟨va_cnB 2 hts (gC hB wc_X9_pointAt) rfl rfl rfl (hG.2.2.2.2.2.2.2 _ (List.mem_of_getElem? (i := 3) rfl)) (hW0 _ wi_X9) hd_X9_pointAt.2 ⟨Nat.le_of_ble_eq_true rfl, Nat.le_of_ble_eq_true rfl⟩, (hW0 _ wt_X9_pointAt), trivial⟩ (zp_S hK hP hD hS hA hG) rfl rfl hl.1 rfl (lv_room (Nat.le_of_ble_eq_true rfl)) dX3_carryOut_71 ⟨Nat.le_of_ble_eq_true rfl, Nat.le_of_ble_eq_true rfl⟩) (fun r w1 H locs hq9 hP hD hS => ?_)
    obtain ⟨v71_5, hv71_0, hv71_1, rfl, rfl⟩ := hq9
    have e71 := hv71_0
    rw [S_pointAt_in (by omega) (by omega)] at e71
    refine lv_aload_n hx hb dX3_carryOut_74 rfl (lv_at hl 0 rfl) ?_
    refine va_get (D := D) (ci := 3) (v := .int (zI nu)) (C := RX3) (T := TX3) (N := 7) hx hb hts (fun w h => List.mem_cons_of_mem _ (wx_X3 w h)) hown hK hP 8 rfl rfl 6 (by decide) (hW0 _ wf_X3_31) (fun _ h9 => h9) rfl dX3_carryOut_75 ?_
    refine z_calli hP hD hS hA (va_runV (As := [.int (zI v71_5), .int (zI nu)]) (rest := []) hC (c_X6_heapUp l D τ α γ h old ch rg ln sl pd ct sg (cd, ln9, pl, le, ro, co, nu) hs v71_5 nu (by first | assumption | rfl | omega) (by first | assumption | rfl | omega) (by first | assumption | rfl | omega) _) (cwV 2 hts (gV hB wl_X3_64 wn_X6_heapUp ws_X6_heapUp wi_X6 wc_X6_heapUp) rfl rfl rfl hd_X6_heapUp ⟨Nat.le_of_ble_eq_true rfl, Nat.le_of_ble_eq_true rfl⟩) (zp_V hK hP hD hS hA hG (ci := 6) (q0 := 1) rfl rfl rfl) rfl rfl hl.1 rfl (lv_room (Nat.le_of_ble_eq_true rfl)) dX3_carryOut_78 ⟨Nat.le_of_ble_eq_true rfl, Nat.le_of_ble_eq_true rfl⟩) (fun r w1 H locs hq9 hP hD hS => ?_)
    obtain ⟨h78_6, o78_7, v78_8, hv78_0, hv78_1, hv78_2, rfl, rfl⟩ := hq9
    have hP : va_P D vwCl (wH α γ (h78_6, o78_7, ch) rg ln sl pd ct sg (cd, ln9, pl, le, ro, co, nu) hs) H := hP
    have hD : va_D A (wH α γ (h78_6, o78_7, ch) rg ln sl pd ct sg (cd, ln9, pl, le, ro, co, nu) hs) := hD
    refine lv_pop hx hb dX3_carryOut_81 rfl ?_
    refine lv_goto (tgt := 114) hx hb dX3_carryOut_82 (by decide) ?_
    exact z_vret hC hr hlk hQ hP hD hS ⟨h78_6, o78_7, (by unfold O_carry; first | (rw [if_pos (by omega), ← e49]; exact hv56_0) | (rw [if_neg (by omega), if_pos (by omega), ← e71]; exact hv78_0) | (rw [if_neg (by omega), if_neg (by omega), if_pos (by omega), ← e94]; exact hv102_0) | (rw [if_neg (by omega), if_neg (by omega), if_neg (by omega)]; exact hv110_0)), (by first | (rw [hv56_0]; exact S_put_b hh) | (rw [hv78_0]; exact zmix_b hh (fun _ => S_heapv_b)) | (rw [hv102_0]; exact zmix_b hh (fun _ => S_heapv_b)) | (rw [hv110_0]; exact zmix_b hh (fun _ => clip_b _))), rfl⟩ dX3_carryOut_114
  by_cases c_4_115 : le = 115
  · refine z_look (off := 36) (tgt := 40) hx hb ⟨by omega, by omega⟩ dX3_carryOut_4 (by decide) (by rw [c_4_115]; rfl) (by decide) ?_
    refine lv_aload_n hx hb dX3_carryOut_40 rfl (lv_at hl 1 rfl) ?_
    refine lv_aload_n hx hb dX3_carryOut_41 rfl (lv_at hl 0 rfl) ?_
    refine va_get (D := D) (ci := 3) (v := .int (zI ro)) (C := RX3) (T := TX3) (N := 7) hx hb hts (fun w h => List.mem_cons_of_mem _ (wx_X3 w h)) hown hK hP 8 rfl rfl 4 (by decide) (hW0 _ wf_X3_25) (fun _ h9 => h9) rfl dX3_carryOut_42 ?_
    refine lv_aload_n hx hb dX3_carryOut_45 rfl (lv_at hl 0 rfl) ?_
    refine va_get (D := D) (ci := 3) (v := .int (zI co)) (C := RX3) (T := TX3) (N := 7) hx hb hts (fun w h => List.mem_cons_of_mem _ (wx_X3 w h)) hown hK hP 8 rfl rfl 5 (by decide) (hW0 _ wf_X3_28) (fun _ h9 => h9) rfl dX3_carryOut_46 ?_
    refine z_calli hP hD hS hA (va_runSN (As := [.int (zI ro), .int (zI co)]) (rest := [.ref (α 1)]) hC (c_X9_pointAt l D τ _ _ ro co (by first | assumption | rfl | omega) (by first | assumption | rfl | omega) _) ⟨va_cnB 2 hts (gC hB wc_X9_pointAt) rfl rfl rfl (hG.2.2.2.2.2.2.2 _ (List.mem_of_getElem? (i := 3) rfl)) (hW0 _ wi_X9) hd_X9_pointAt.2 ⟨Nat.le_of_ble_eq_true rfl, Nat.le_of_ble_eq_true rfl⟩, (hW0 _ wt_X9_pointAt), trivial⟩ (zp_S hK hP hD hS hA hG) rfl rfl hl.1 rfl (lv_room (Nat.le_of_ble_eq_true rfl)) dX3_carryOut_49 ⟨Nat.le_of_ble_eq_true rfl, Nat.le_of_ble_eq_true rfl⟩) (fun r w1 H locs hq9 hP hD hS => ?_)
    obtain ⟨v49_9, hv49_0, hv49_1, rfl, rfl⟩ := hq9
    have e49 := hv49_0
    rw [S_pointAt_in (by omega) (by omega)] at e49
    refine lv_aload_n hx hb dX3_carryOut_52 rfl (lv_at hl 0 rfl) ?_
    refine va_get (D := D) (ci := 3) (v := .int (zI nu)) (C := RX3) (T := TX3) (N := 7) hx hb hts (fun w h => List.mem_cons_of_mem _ (wx_X3 w h)) hown hK hP 8 rfl rfl 6 (by decide) (hW0 _ wf_X3_31) (fun _ h9 => h9) rfl dX3_carryOut_53 ?_
    refine z_callv hP hD hS hA (va_runV (As := [.int (zI v49_9), .int (zI nu)]) (rest := []) hC (c_X6_put l D τ α γ h old ch rg ln sl pd ct sg (cd, ln9, pl, le, ro, co, nu) hs v49_9 nu (by first | assumption | rfl | omega) (by first | assumption | rfl | omega) _) (cwV 2 hts (gV hB wl_X3_58 wn_X6_put ws_X6_put wi_X6 wc_X6_put) rfl rfl rfl hd_X6_put ⟨Nat.le_of_ble_eq_true rfl, Nat.le_of_ble_eq_true rfl⟩) (zp_V hK hP hD hS hA hG (ci := 6) (q0 := 1) rfl rfl rfl) rfl rfl hl.1 rfl (lv_room (Nat.le_of_ble_eq_true rfl)) dX3_carryOut_56 ⟨Nat.le_of_ble_eq_true rfl, Nat.le_of_ble_eq_true rfl⟩) (fun w1 H locs hq9 hP hD hS => ?_)
    obtain ⟨h56_10, hv56_0, rfl⟩ := hq9
    have hP : va_P D vwCl (wH α γ (h56_10, old, ch) rg ln sl pd ct sg (cd, ln9, pl, le, ro, co, nu) hs) H := hP
    have hD : va_D A (wH α γ (h56_10, old, ch) rg ln sl pd ct sg (cd, ln9, pl, le, ro, co, nu) hs) := hD
    refine lv_goto (tgt := 114) hx hb dX3_carryOut_59 (by decide) ?_
    exact z_vret hC hr hlk hQ hP hD hS ⟨h56_10, old, (by unfold O_carry; first | (rw [if_pos (by omega), ← e49]; exact hv56_0) | (rw [if_neg (by omega), if_pos (by omega), ← e71]; exact hv78_0) | (rw [if_neg (by omega), if_neg (by omega), if_pos (by omega), ← e94]; exact hv102_0) | (rw [if_neg (by omega), if_neg (by omega), if_neg (by omega)]; exact hv110_0)), (by first | (rw [hv56_0]; exact S_put_b hh) | (rw [hv78_0]; exact zmix_b hh (fun _ => S_heapv_b)) | (rw [hv102_0]; exact zmix_b hh (fun _ => S_heapv_b)) | (rw [hv110_0]; exact zmix_b hh (fun _ => clip_b _))), rfl⟩ dX3_carryOut_114
  refine z_look (off := 105) (tgt := 109) hx hb ⟨by omega, by omega⟩ dX3_carryOut_4 (by decide) ((z_osw c_4_100).trans ((z_osw c_4_104).trans ((z_osw c_4_115).trans (rfl)))) (by decide) ?_
  refine lv_aload_n hx hb dX3_carryOut_109 rfl (lv_at hl 1 rfl) ?_
  refine z_calli hP hD hS hA (va_runV (As := []) (rest := []) hC (c_X6_smoothOut l D τ α γ h old ch rg ln sl pd ct sg (cd, ln9, pl, le, ro, co, nu) hs (by first | assumption | rfl | omega) _) (cwV 0 hts (gV hB wl_X3_67 wn_X6_smoothOut ws_X6_smoothOut wi_X6 wc_X6_smoothOut) rfl rfl rfl hd_X6_smoothOut ⟨Nat.le_of_ble_eq_true rfl, Nat.le_of_ble_eq_true rfl⟩) (zp_V hK hP hD hS hA hG (ci := 6) (q0 := 1) rfl rfl rfl) rfl rfl hl.1 rfl (lv_room (Nat.le_of_ble_eq_true rfl)) dX3_carryOut_110 ⟨Nat.le_of_ble_eq_true rfl, Nat.le_of_ble_eq_true rfl⟩) (fun r w1 H locs hq9 hP hD hS => ?_)
  obtain ⟨h110_11, o110_12, v110_13, hv110_0, hv110_1, hv110_2, rfl, rfl⟩ := hq9
  have hP : va_P D vwCl (wH α γ (h110_11, o110_12, ch) rg ln sl pd ct sg (cd, ln9, pl, le, ro, co, nu) hs) H := hP
  have hD : va_D A (wH α γ (h110_11, o110_12, ch) rg ln sl pd ct sg (cd, ln9, pl, le, ro, co, nu) hs) := hD
  refine lv_pop hx hb dX3_carryOut_113 rfl ?_
  exact z_vret hC hr hlk hQ hP hD hS ⟨h110_11, o110_12, (by unfold O_carry; first | (rw [if_pos (by omega), ← e49]; exact hv56_0) | (rw [if_neg (by omega), if_pos (by omega), ← e71]; exact hv78_0) | (rw [if_neg (by omega), if_neg (by omega), if_pos (by omega), ← e94]; exact hv102_0) | (rw [if_neg (by omega), if_neg (by omega), if_neg (by omega)]; exact hv110_0)), (by first | (rw [hv56_0]; exact S_put_b hh) | (rw [hv78_0]; exact zmix_b hh (fun _ => S_heapv_b)) | (rw [hv102_0]; exact zmix_b hh (fun _ => S_heapv_b)) | (rw [hv110_0]; exact zmix_b hh (fun _ => clip_b _))), rfl⟩ dX3_carryOut_114

abbrev wz_X3_drawOn : List Cond := .code yX3_drawOn cX3_drawOn 4 (some .int) :: W0
abbrev rm_X3_drawOn : Room := { frames := 5, cells := 0, slots := 0, locals := 109 }
theorem hd_X3_drawOn : yX3_drawOn.cls = RX3 ∧ yX3_drawOn.cls ≠ "java/lang/invoke/MethodHandle" ∧ yX3_drawOn.cls ≠ "java/lang/invoke/VarHandle" ∧ (parseMethodDescriptor yX3_drawOn.desc).map (fun d => d.parameters.length) = some 1 := by decide +kernel
set_option maxHeartbeats 4000000 in
set_option maxRecDepth 100000 in
theorem c_X3_drawOn (l : Launch) (D : va_G) (τ : Nat → Nat) (α : Nat → Nat) (γ : Nat → ClassId) (h : IA) (old : IA) (ch : IA) (rg : TRg) (ln : TLn) (sl : TSl) (pd : TPd) (ct : TCt) (sg : TSg) (cd : IA) (ln9 : Int) (pl : Int) (le : Int) (ro : Int) (co : Int) (nu : Int) (hs : THs) (e2 : OS) (hh : ∀ k, 0 ≤ k → k < 49 → 0 ≤ h k ∧ h k ≤ 99) (hln : 0 ≤ ln9 ∧ ln9 ≤ 60) (hcd : ∀ k, 0 ≤ k → k < ln9 → 0 ≤ cd k ∧ cd k ≤ 126) (hov : OV pl le ro co nu) (h5 : 5 ≤ e2.1) (hr0 : O_run cd ln9 0 (0, le, ro, co, nu) = (ln9, e2)) : cM l yX3_drawOn wz_X3_drawOn rm_X3_drawOn D τ (tyH γ) [.ref (α 8), .ref (α 1)] (wH α γ (h, old, ch) rg ln sl pd ct sg (cd, ln9, pl, le, ro, co, nu) hs) (zQi (fun r w => ∃ (p2 : Int), ∃ (l2 : Int), ∃ (r2 : Int), ∃ (c2 : Int), ∃ (n2 : Int), ∃ (h2 : IA), ∃ (o2 : IA), ∃ (v : Int), ((h2, v) = O_draw cd ln9 0 (0, le, ro, co, nu) h 0) ∧ (0 ≤ v ∧ v ≤ 61) ∧ (OV p2 l2 r2 c2 n2) ∧ (∀ k, 0 ≤ k → k < 49 → 0 ≤ h2 k ∧ h2 k ≤ 99) ∧ r = zI v ∧ wH α γ (h2, o2, ch) rg ln sl pd ct sg (cd, ln9, p2, l2, r2, c2, n2) hs = w)) := by
  refine z_ofM (cc := cX3_drawOn) (maxL := 4) (ret := (some .int)) (by decide +kernel) rfl (Nat.le_of_ble_eq_true rfl) ?_
  intro pg e s m args below meth c hC hr hlk hnm hK hP A hD hG hA hS ls hl Q hQ
  have hx := hC.1
  have hb := hC.2.1
  have hml := hC.2.2.1
  have hown := hC.2.2.2.1
  have hts := hC.2.2.2.2
  have hB : ∀ w ∈ W0, w ∈ wz_X3_drawOn := fun _ h => List.mem_cons_of_mem _ h
  have hW0 : ∀ w ∈ W0, w.before args s = true := fun w h => hts w (hB w h)
  have hl : lv_has ls 4 [(0, .ref (α 8)), (1, .ref (α 1))] := hl
  refine lv_iconst (v := zI 0) hx hb dX3_drawOn_0 rfl ?_
  refine lv_istore_n (lv' := [(2, .int (zI 0)), (0, .ref (α 8)), (1, .ref (α 1))]) hx hb dX3_drawOn_1 rfl hl (by decide) rfl (fun ls hl => ?_)
  refine lv_aload_n hx hb dX3_drawOn_2 rfl (lv_at hl 1 rfl) ?_
  refine lv_iconst (v := zI 0) hx hb dX3_drawOn_3 rfl ?_
  refine va_put (D := D) (ci := 3) (v := .int (zI 0)) (ty := .int) (C := RX3) (T := TX3) (N := 7) hx hb hts (fun w h => List.mem_cons_of_mem _ (wx_X3 w h)) tyX3 tyX3_ok nmX3 hown hK hP hD hS 8 rfl rfl 2 (by decide) (hW0 _ wf_X3_19) (fun _ h9 => h9) rfl (by decide +kernel) rfl rfl (Nat.le_of_ble_eq_true rfl) dX3_drawOn_4 (fun H locs hP hD hS => ?_)
  have hP : va_P D vwCl (wH α γ (h, old, ch) rg ln sl pd ct sg (cd, ln9, 0, le, ro, co, nu) hs) H := hP
  have hD : va_D A (wH α γ (h, old, ch) rg ln sl pd ct sg (cd, ln9, 0, le, ro, co, nu) hs) := hD
  refine lv_iconst (v := zI 0) hx hb dX3_drawOn_7 rfl ?_
  refine lv_istore_n (lv' := [(3, .int (zI 0)), (2, .int (zI 0)), (0, .ref (α 8)), (1, .ref (α 1))]) hx hb dX3_drawOn_8 rfl hl (by decide) rfl (fun ls hl => ?_)
  suffices HL_9 : ∀ (n_9 : Nat), ∀ (p3 : Int) (l3 : Int) (r3 : Int) (c3 : Int) (n3 : Int) (h1 : IA) (o1 : IA) (g : Int) (i : Int) (H : Heap) (locs : List Loc) (hP : va_P D vwCl (wH α γ (h1, o1, ch) rg ln sl pd ct sg (cd, ln9, p3, l3, r3, c3, n3) hs) H) (hD : va_D A (wH α γ (h1, o1, ch) rg ln sl pd ct sg (cd, ln9, p3, l3, r3, c3, n3) hs)) (hS : va_S A s.heap H locs) (ls : Array Slot) (hl : lv_has ls 4 [(2, .int (zI g)), (3, .int (zI i)), (0, .ref (α 8)), (1, .ref (α 1))]) (hi : 0 ≤ i ∧ i ≤ ln9) (hv3 : OV p3 l3 r3 c3 n3) (hrun : O_run cd ln9 i (p3, l3, r3, c3, n3) = (ln9, e2)) (hg : 0 ≤ g ∧ g ≤ i) (hd3 : O_draw cd ln9 i (p3, l3, r3, c3, n3) h1 g = O_draw cd ln9 0 (0, le, ro, co, nu) h 0) (hh1 : ∀ k, 0 ≤ k → k < 49 → 0 ≤ h1 k ∧ h1 k ≤ 99) (hm : (ln9 - i).toNat < n_9), W pg l e rm_X3_drawOn s m args below meth c H locs 0 0 Q (F0 m 9 ls []) from HL_9 _ 0 le ro co nu h old 0 0 _ _ hP hD hS _ (lv_sub hl [1, 0, 2, 3] rfl) (by first | assumption | rfl | omega) (by exact OV_0 hov) (by exact hr0) (by first | assumption | rfl | omega) (by rfl) (by exact hh) (Nat.lt_succ_self _)
  intro n_9
  induction n_9 with
  | zero => intro p3 l3 r3 c3 n3 h1 o1 g i H locs hP hD hS ls hl hi hv3 hrun hg hd3 hh1 hm; exact absurd hm (Nat.not_lt_zero _)
  | succ n_9 ih_9 =>
    intro p3 l3 r3 c3 n3 h1 o1 g i H locs hP hD hS ls hl hi hv3 hrun hg hd3 hh1 hm
    refine lv_iload_n hx hb dX3_drawOn_9 rfl (lv_at hl 1 rfl) ?_
    refine lv_aload_n hx hb dX3_drawOn_10 rfl (lv_at hl 2 rfl) ?_
    refine va_get (D := D) (ci := 3) (v := .int (zI ln9)) (C := RX3) (T := TX3) (N := 7) hx hb hts (fun w h => List.mem_cons_of_mem _ (wx_X3 w h)) hown hK hP 8 rfl rfl 1 (by decide) (hW0 _ wf_X3_15) (fun _ h9 => h9) rfl dX3_drawOn_11 ?_
    refine z_icge (tgt := 50) hx hb ⟨by omega, by omega⟩ ⟨by omega, by omega⟩ dX3_drawOn_14 (by decide) (fun c_14 => ?_) (fun c_14 => ?_)
    · have hpe : 5 ≤ p3 := by have z1 := hrun; rw [O_run_no (fun h9 => absurd h9 (by omega))] at z1; have z2 := (Prod.mk.inj z1).2; rw [← z2] at h5; exact h5
      refine lv_aload_n hx hb dX3_drawOn_50 rfl (lv_at hl 2 rfl) ?_
      refine lv_aload_n hx hb dX3_drawOn_51 rfl (lv_at hl 3 rfl) ?_
      refine z_callv hP hD hS hA (va_runV (As := [.ref (α 1)]) (rest := []) hC (c_X3_carryOut l D τ α γ h1 o1 ch rg ln sl pd ct sg cd ln9 p3 l3 r3 c3 n3 hs (by exact hh1) (by exact hv3) (by exact hpe) _) (cwV 1 hts (gV hB wl_X3_50 wn_X3_carryOut ws_X3_carryOut wi_X3 wc_X3_carryOut) rfl rfl rfl hd_X3_carryOut ⟨Nat.le_of_ble_eq_true rfl, Nat.le_of_ble_eq_true rfl⟩) (zp_V hK hP hD hS hA hG (ci := 3) (q0 := 8) rfl rfl rfl) rfl rfl hl.1 rfl (lv_room (Nat.le_of_ble_eq_true rfl)) dX3_drawOn_52 ⟨Nat.le_of_ble_eq_true rfl, Nat.le_of_ble_eq_true rfl⟩) (fun w1 H locs hq9 hP hD hS => ?_)
      obtain ⟨h52_1, o52_2, hv52_0, hv52_1, rfl⟩ := hq9
      have hP : va_P D vwCl (wH α γ (h52_1, o52_2, ch) rg ln sl pd ct sg (cd, ln9, p3, l3, r3, c3, n3) hs) H := hP
      have hD : va_D A (wH α γ (h52_1, o52_2, ch) rg ln sl pd ct sg (cd, ln9, p3, l3, r3, c3, n3) hs) := hD
      refine lv_iload_n hx hb dX3_drawOn_55 rfl (lv_at hl 0 rfl) ?_
      refine lv_iconst (v := zI 1) hx hb dX3_drawOn_56 rfl ?_
      refine z_iadd hx hb dX3_drawOn_57 ?_
      exact z_iret hC hr hlk hQ hP hD hS ⟨p3, l3, r3, c3, n3, h52_1, o52_2, g + 1, (by rw [← hd3, O_draw_e (by omega), hv52_0]), (by omega), (by exact hv3), (by exact hv52_1), rfl, rfl⟩ dX3_drawOn_58
    · refine lv_aload_n hx hb dX3_drawOn_17 rfl (lv_at hl 2 rfl) ?_
      refine lv_iload_n hx hb dX3_drawOn_18 rfl (lv_at hl 1 rfl) ?_
      refine z_calli hP hD hS hA (va_runV (As := [.int (zI i)]) (rest := []) hC (c_X3_code l D τ α γ (h1, o1, ch) rg ln sl pd ct sg cd ln9 p3 l3 r3 c3 n3 hs i (by first | assumption | rfl | omega) (by first | assumption | rfl | omega) (by first | assumption | rfl | omega) _) (cwV 1 hts (gV hB wl_X3_34 wn_X3_code ws_X3_code wi_X3 wc_X3_code) rfl rfl rfl hd_X3_code ⟨Nat.le_of_ble_eq_true rfl, Nat.le_of_ble_eq_true rfl⟩) (zp_V hK hP hD hS hA hG (ci := 3) (q0 := 8) rfl rfl rfl) rfl rfl hl.1 rfl (lv_room (Nat.le_of_ble_eq_true rfl)) dX3_drawOn_19 ⟨Nat.le_of_ble_eq_true rfl, Nat.le_of_ble_eq_true rfl⟩) (fun r w1 H locs hq9 hP hD hS => ?_)
      obtain ⟨v19_3, hv19_0, hv19_1, rfl, rfl⟩ := hq9
      have hP : va_P D vwCl (wH α γ (h1, o1, ch) rg ln sl pd ct sg (cd, ln9, p3, l3, r3, c3, n3) hs) H := hP
      have hD : va_D A (wH α γ (h1, o1, ch) rg ln sl pd ct sg (cd, ln9, p3, l3, r3, c3, n3) hs) := hD
      have hfi : O_fits p3 l3 n3 (cd i) := O_run_fit (by omega) hrun
      refine lv_bipush (v := zI 59) hx hb dX3_drawOn_22 (zI_b8 (by decide)) ?_
      refine z_icne (tgt := 35) hx hb ⟨by omega, by omega⟩ ⟨by omega, by omega⟩ dX3_drawOn_24 (by decide) (fun c_24 => ?_) (fun c_24 => ?_)
      · refine lv_aload_n hx hb dX3_drawOn_35 rfl (lv_at hl 2 rfl) ?_
        refine lv_aload_n hx hb dX3_drawOn_36 rfl (lv_at hl 2 rfl) ?_
        refine lv_iload_n hx hb dX3_drawOn_37 rfl (lv_at hl 1 rfl) ?_
        refine z_calli hP hD hS hA (va_runV (As := [.int (zI i)]) (rest := [.ref (α 8)]) hC (c_X3_code l D τ α γ (h1, o1, ch) rg ln sl pd ct sg cd ln9 p3 l3 r3 c3 n3 hs i (by first | assumption | rfl | omega) (by first | assumption | rfl | omega) (by first | assumption | rfl | omega) _) (cwV 1 hts (gV hB wl_X3_34 wn_X3_code ws_X3_code wi_X3 wc_X3_code) rfl rfl rfl hd_X3_code ⟨Nat.le_of_ble_eq_true rfl, Nat.le_of_ble_eq_true rfl⟩) (zp_V hK hP hD hS hA hG (ci := 3) (q0 := 8) rfl rfl rfl) rfl rfl hl.1 rfl (lv_room (Nat.le_of_ble_eq_true rfl)) dX3_drawOn_38 ⟨Nat.le_of_ble_eq_true rfl, Nat.le_of_ble_eq_true rfl⟩) (fun r w1 H locs hq9 hP hD hS => ?_)
        obtain ⟨v38_4, hv38_0, hv38_1, rfl, rfl⟩ := hq9
        have hP : va_P D vwCl (wH α γ (h1, o1, ch) rg ln sl pd ct sg (cd, ln9, p3, l3, r3, c3, n3) hs) H := hP
        have hD : va_D A (wH α γ (h1, o1, ch) rg ln sl pd ct sg (cd, ln9, p3, l3, r3, c3, n3) hs) := hD
        refine z_callv hP hD hS hA (va_runV (As := [.int (zI v38_4)]) (rest := []) hC (c_X3_step l D τ α γ (h1, o1, ch) rg ln sl pd ct sg cd ln9 p3 l3 r3 c3 n3 hs v38_4 (by first | assumption | rfl | omega) (by exact hv3.1) _) (cwV 1 hts (gV hB wl_X3_42 wn_X3_step ws_X3_step wi_X3 wc_X3_step) rfl rfl rfl hd_X3_step ⟨Nat.le_of_ble_eq_true rfl, Nat.le_of_ble_eq_true rfl⟩) (zp_V hK hP hD hS hA hG (ci := 3) (q0 := 8) rfl rfl rfl) rfl rfl hl.1 rfl (lv_room (Nat.le_of_ble_eq_true rfl)) dX3_drawOn_41 ⟨Nat.le_of_ble_eq_true rfl, Nat.le_of_ble_eq_true rfl⟩) (fun w1 H locs hq9 hP hD hS => ?_)
        obtain ⟨p41_5, l41_6, r41_7, c41_8, n41_9, hv41_0, rfl⟩ := hq9
        have hP : va_P D vwCl (wH α γ (h1, o1, ch) rg ln sl pd ct sg (cd, ln9, p41_5, l41_6, r41_7, c41_8, n41_9) hs) H := hP
        have hD : va_D A (wH α γ (h1, o1, ch) rg ln sl pd ct sg (cd, ln9, p41_5, l41_6, r41_7, c41_8, n41_9) hs) := hD
        have he5 := hv41_0.symm
        rw [hv38_0] at he5
        have hv5 := OV_step hv3 hfi
        rw [he5] at hv5
        refine z_iinc (k := 1) (v := i + 1) (lv' := [(3, .int (zI (i + 1))), (2, .int (zI g)), (0, .ref (α 8)), (1, .ref (α 1))]) hx hb dX3_drawOn_44 hl rfl rfl (by decide) rfl (fun ls hl => ?_)
        refine lv_goto (tgt := 9) hx hb dX3_drawOn_47 (by decide) ?_
        exact ih_9 p41_5 l41_6 r41_7 c41_8 n41_9 h1 o1 g (i + 1) _ _ hP hD hS _ (lv_sub hl [1, 0, 2, 3] rfl) (by first | assumption | rfl | omega) (by exact hv5) (by rw [← he5, ← O_run_up (by omega) hfi]; exact hrun) (by first | assumption | rfl | omega) (by rw [← hd3]; first | (rw [O_draw_t (i := i) (by omega) (by omega), he5, hv29_0]; done) | (rw [O_draw_f (i := i) (by omega) (by omega), he5]; done)) (by first | exact hv29_1 | exact hh1) (by omega)
      · have h59 := O_fits_59 (show O_fits p3 l3 n3 59 from (show cd i = 59 by omega) ▸ hfi)
        have hpp := hv3.1.1
        refine lv_aload_n hx hb dX3_drawOn_27 rfl (lv_at hl 2 rfl) ?_
        refine lv_aload_n hx hb dX3_drawOn_28 rfl (lv_at hl 3 rfl) ?_
        refine z_callv hP hD hS hA (va_runV (As := [.ref (α 1)]) (rest := []) hC (c_X3_carryOut l D τ α γ h1 o1 ch rg ln sl pd ct sg cd ln9 p3 l3 r3 c3 n3 hs (by exact hh1) (by exact hv3) (by omega) _) (cwV 1 hts (gV hB wl_X3_50 wn_X3_carryOut ws_X3_carryOut wi_X3 wc_X3_carryOut) rfl rfl rfl hd_X3_carryOut ⟨Nat.le_of_ble_eq_true rfl, Nat.le_of_ble_eq_true rfl⟩) (zp_V hK hP hD hS hA hG (ci := 3) (q0 := 8) rfl rfl rfl) rfl rfl hl.1 rfl (lv_room (Nat.le_of_ble_eq_true rfl)) dX3_drawOn_29 ⟨Nat.le_of_ble_eq_true rfl, Nat.le_of_ble_eq_true rfl⟩) (fun w1 H locs hq9 hP hD hS => ?_)
        obtain ⟨h29_10, o29_11, hv29_0, hv29_1, rfl⟩ := hq9
        have hP : va_P D vwCl (wH α γ (h29_10, o29_11, ch) rg ln sl pd ct sg (cd, ln9, p3, l3, r3, c3, n3) hs) H := hP
        have hD : va_D A (wH α γ (h29_10, o29_11, ch) rg ln sl pd ct sg (cd, ln9, p3, l3, r3, c3, n3) hs) := hD
        refine z_iinc (k := 0) (v := g + 1) (lv' := [(2, .int (zI (g + 1))), (3, .int (zI i)), (0, .ref (α 8)), (1, .ref (α 1))]) hx hb dX3_drawOn_32 hl rfl rfl (by decide) rfl (fun ls hl => ?_)
        refine lv_aload_n hx hb dX3_drawOn_35 rfl (lv_at hl 2 rfl) ?_
        refine lv_aload_n hx hb dX3_drawOn_36 rfl (lv_at hl 2 rfl) ?_
        refine lv_iload_n hx hb dX3_drawOn_37 rfl (lv_at hl 1 rfl) ?_
        refine z_calli hP hD hS hA (va_runV (As := [.int (zI i)]) (rest := [.ref (α 8)]) hC (c_X3_code l D τ α γ (h29_10, o29_11, ch) rg ln sl pd ct sg cd ln9 p3 l3 r3 c3 n3 hs i (by first | assumption | rfl | omega) (by first | assumption | rfl | omega) (by first | assumption | rfl | omega) _) (cwV 1 hts (gV hB wl_X3_34 wn_X3_code ws_X3_code wi_X3 wc_X3_code) rfl rfl rfl hd_X3_code ⟨Nat.le_of_ble_eq_true rfl, Nat.le_of_ble_eq_true rfl⟩) (zp_V hK hP hD hS hA hG (ci := 3) (q0 := 8) rfl rfl rfl) rfl rfl hl.1 rfl (lv_room (Nat.le_of_ble_eq_true rfl)) dX3_drawOn_38 ⟨Nat.le_of_ble_eq_true rfl, Nat.le_of_ble_eq_true rfl⟩) (fun r w1 H locs hq9 hP hD hS => ?_)
        obtain ⟨v38_12, hv38_0, hv38_1, rfl, rfl⟩ := hq9
        have hP : va_P D vwCl (wH α γ (h29_10, o29_11, ch) rg ln sl pd ct sg (cd, ln9, p3, l3, r3, c3, n3) hs) H := hP
        have hD : va_D A (wH α γ (h29_10, o29_11, ch) rg ln sl pd ct sg (cd, ln9, p3, l3, r3, c3, n3) hs) := hD
        refine z_callv hP hD hS hA (va_runV (As := [.int (zI v38_12)]) (rest := []) hC (c_X3_step l D τ α γ (h29_10, o29_11, ch) rg ln sl pd ct sg cd ln9 p3 l3 r3 c3 n3 hs v38_12 (by first | assumption | rfl | omega) (by exact hv3.1) _) (cwV 1 hts (gV hB wl_X3_42 wn_X3_step ws_X3_step wi_X3 wc_X3_step) rfl rfl rfl hd_X3_step ⟨Nat.le_of_ble_eq_true rfl, Nat.le_of_ble_eq_true rfl⟩) (zp_V hK hP hD hS hA hG (ci := 3) (q0 := 8) rfl rfl rfl) rfl rfl hl.1 rfl (lv_room (Nat.le_of_ble_eq_true rfl)) dX3_drawOn_41 ⟨Nat.le_of_ble_eq_true rfl, Nat.le_of_ble_eq_true rfl⟩) (fun w1 H locs hq9 hP hD hS => ?_)
        obtain ⟨p41_13, l41_14, r41_15, c41_16, n41_17, hv41_0, rfl⟩ := hq9
        have hP : va_P D vwCl (wH α γ (h29_10, o29_11, ch) rg ln sl pd ct sg (cd, ln9, p41_13, l41_14, r41_15, c41_16, n41_17) hs) H := hP
        have hD : va_D A (wH α γ (h29_10, o29_11, ch) rg ln sl pd ct sg (cd, ln9, p41_13, l41_14, r41_15, c41_16, n41_17) hs) := hD
        have he5 := hv41_0.symm
        rw [hv38_0] at he5
        have hv5 := OV_step hv3 hfi
        rw [he5] at hv5
        refine z_iinc (k := 1) (v := i + 1) (lv' := [(3, .int (zI (i + 1))), (2, .int (zI (g + 1))), (0, .ref (α 8)), (1, .ref (α 1))]) hx hb dX3_drawOn_44 hl rfl rfl (by decide) rfl (fun ls hl => ?_)
        refine lv_goto (tgt := 9) hx hb dX3_drawOn_47 (by decide) ?_
        exact ih_9 p41_13 l41_14 r41_15 c41_16 n41_17 h29_10 o29_11 (g + 1) (i + 1) _ _ hP hD hS _ (lv_sub hl [1, 0, 2, 3] rfl) (by first | assumption | rfl | omega) (by exact hv5) (by rw [← he5, ← O_run_up (by omega) hfi]; exact hrun) (by first | assumption | rfl | omega) (by rw [← hd3]; first | (rw [O_draw_t (i := i) (by omega) (by omega), he5, hv29_0]; done) | (rw [O_draw_f (i := i) (by omega) (by omega), he5]; done)) (by first | exact hv29_1 | exact hh1) (by omega)

