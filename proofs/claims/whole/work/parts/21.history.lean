abbrev wz_X6_writeTo : List Cond := .code yX6_writeTo cX6_writeTo 4 none :: W0
abbrev rm_X6_writeTo : Room := { frames := 1, cells := 0, slots := 0, locals := 32 }
theorem hd_X6_writeTo : yX6_writeTo.cls = RX6 ∧ yX6_writeTo.cls ≠ "java/lang/invoke/MethodHandle" ∧ yX6_writeTo.cls ≠ "java/lang/invoke/VarHandle" ∧ (parseMethodDescriptor yX6_writeTo.desc).map (fun d => d.parameters.length) = some 2 := by decide +kernel
set_option maxHeartbeats 4000000 in
set_option maxRecDepth 100000 in
theorem c_X6_writeTo__sv (l : Launch) (D : va_G) (τ : Nat → Nat) (α : Nat → Nat) (γ : Nat → ClassId) (h : IA) (old : IA) (ch : IA) (rg : TRg) (ln : TLn) (sl : TSl) (pd : TPd) (ct : TCt) (sg : TSg) (od : TOd) (sv : IA) (sl9 : IA) (tk : BA) (ct9 : Int) (k : Int) (hk : 0 ≤ k ∧ k ≤ 5) : cM l yX6_writeTo wz_X6_writeTo rm_X6_writeTo D τ (tyH γ) [.ref (α 1), .ref (α 29), .int (zI k)] (wH α γ (h, old, ch) rg ln sl pd ct sg od (sv, sl9, tk, ct9)) (zQv (fun w => ∃ (s2 : IA), (s2 = zcpy h sv 0 (49 * k) 49) ∧ wH α γ (h, old, ch) rg ln sl pd ct sg od (s2, sl9, tk, ct9) = w)) := by
  refine z_ofM (cc := cX6_writeTo) (maxL := 4) (ret := none) (by decide +kernel) rfl (Nat.le_of_ble_eq_true rfl) ?_
  intro pg e s m args below meth c hC hr hlk hnm hK hP A hD hG hA hS ls hl Q hQ
  have hx := hC.1
  have hb := hC.2.1
  have hml := hC.2.2.1
  have hown := hC.2.2.2.1
  have hts := hC.2.2.2.2
  have hB : ∀ w ∈ W0, w ∈ wz_X6_writeTo := fun _ h => List.mem_cons_of_mem _ h
  have hW0 : ∀ w ∈ W0, w.before args s = true := fun w h => hts w (hB w h)
  have hl : lv_has ls 4 [(0, .ref (α 1)), (1, .ref (α 29)), (2, .int (zI k))] := hl
  refine lv_iload_n hx hb dX6_writeTo_0 rfl (lv_at hl 2 rfl) ?_
  refine lv_bipush (v := zI 49) hx hb dX6_writeTo_1 (zI_b8 (by decide)) ?_
  refine z_imul hx hb dX6_writeTo_3 ?_
  refine lv_istore_n (lv' := [(3, .int (zI (k * 49))), (0, .ref (α 1)), (1, .ref (α 29)), (2, .int (zI k))]) hx hb dX6_writeTo_4 rfl hl (by decide) rfl (fun ls hl => ?_)
  refine lv_iload_n hx hb dX6_writeTo_5 rfl (lv_at hl 3 rfl) ?_
  refine z_iflt (tgt := 34) hx hb ⟨by omega, by omega⟩ dX6_writeTo_6 (by decide) (fun c_6 => ?_) (fun c_6 => ?_)
  · exact absurd c_6 (by omega)
  · refine lv_iload_n hx hb dX6_writeTo_9 rfl (lv_at hl 0 rfl) ?_
    refine z_iflt (tgt := 34) hx hb ⟨by omega, by omega⟩ dX6_writeTo_10 (by decide) (fun c_10 => ?_) (fun c_10 => ?_)
    · exact absurd c_10 (by omega)
    · refine lv_iload_n hx hb dX6_writeTo_13 rfl (lv_at hl 0 rfl) ?_
      refine lv_aload_n hx hb dX6_writeTo_14 rfl (lv_at hl 2 rfl) ?_
      refine va_alen (v := zI 294) hx hb hK hP 29 19 rfl rfl rfl dX6_writeTo_15 ?_
      refine lv_bipush (v := zI 49) hx hb dX6_writeTo_16 (zI_b8 (by decide)) ?_
      refine z_isub hx hb dX6_writeTo_18 ?_
      refine z_icgt (tgt := 34) hx hb ⟨by omega, by omega⟩ ⟨by omega, by omega⟩ dX6_writeTo_19 (by decide) (fun c_19 => ?_) (fun c_19 => ?_)
      · exact absurd c_19 (by omega)
      · refine lv_aload_n hx hb dX6_writeTo_22 rfl (lv_at hl 1 rfl) ?_
        refine va_get (D := D) (ci := 6) (v := .ref (α 10)) (C := RX6) (T := TX6) (N := 3) hx hb hts (fun w h => List.mem_cons_of_mem _ (wx_X6 w h)) hown hK hP 1 rfl rfl 0 (by decide) (hW0 _ wf_X6_9) (fun _ h9 => h9) rfl dX6_writeTo_23 ?_
        refine lv_iconst (v := zI 0) hx hb dX6_writeTo_26 rfl ?_
        refine lv_aload_n hx hb dX6_writeTo_27 rfl (lv_at hl 2 rfl) ?_
        refine lv_iload_n hx hb dX6_writeTo_28 rfl (lv_at hl 0 rfl) ?_
        refine lv_bipush (v := zI 49) hx hb dX6_writeTo_29 (zI_b8 (by decide)) ?_
        refine z_copyi hx hb (hml.trans hl.1.symm) hown (hW0 _ wl_X6_69) (hW0 _ wna_arraycopyName) (hW0 _ wt_arraycopyName) (hW0 _ wi_System) hK hP hD hS 10 29 0 19 rfl rfl rfl rfl ⟨by omega, by omega, by omega, by omega, by omega⟩ (Nat.le_of_ble_eq_true rfl) (Nat.le_of_ble_eq_true rfl) dX6_writeTo_31 (fun H locs hP hD hS => ?_)
        have hP : va_P D vwCl (wH α γ (h, old, ch) rg ln sl pd ct sg od (zcpy h sv 0 (k * 49) 49, sl9, tk, ct9)) H := hP
        have hD : va_D A (wH α γ (h, old, ch) rg ln sl pd ct sg od (zcpy h sv 0 (k * 49) 49, sl9, tk, ct9)) := hD
        exact z_vret hC hr hlk hQ hP hD hS ⟨zcpy h sv 0 (k * 49) 49, (by rw [Int.mul_comm]), rfl⟩ dX6_writeTo_34

abbrev wz_X6_readFrom : List Cond := .code yX6_readFrom cX6_readFrom 4 none :: W0
abbrev rm_X6_readFrom : Room := { frames := 1, cells := 0, slots := 0, locals := 32 }
theorem hd_X6_readFrom : yX6_readFrom.cls = RX6 ∧ yX6_readFrom.cls ≠ "java/lang/invoke/MethodHandle" ∧ yX6_readFrom.cls ≠ "java/lang/invoke/VarHandle" ∧ (parseMethodDescriptor yX6_readFrom.desc).map (fun d => d.parameters.length) = some 2 := by decide +kernel
set_option maxHeartbeats 4000000 in
set_option maxRecDepth 100000 in
theorem c_X6_readFrom__sv (l : Launch) (D : va_G) (τ : Nat → Nat) (α : Nat → Nat) (γ : Nat → ClassId) (h : IA) (old : IA) (ch : IA) (rg : TRg) (ln : TLn) (sl : TSl) (pd : TPd) (ct : TCt) (sg : TSg) (od : TOd) (sv : IA) (sl9 : IA) (tk : BA) (ct9 : Int) (k : Int) (hk : 0 ≤ k ∧ k ≤ 5) : cM l yX6_readFrom wz_X6_readFrom rm_X6_readFrom D τ (tyH γ) [.ref (α 1), .ref (α 29), .int (zI k)] (wH α γ (h, old, ch) rg ln sl pd ct sg od (sv, sl9, tk, ct9)) (zQv (fun w => ∃ (h2 : IA), (h2 = zcpy sv h (49 * k) 0 49) ∧ wH α γ (h2, old, ch) rg ln sl pd ct sg od (sv, sl9, tk, ct9) = w)) := by
  refine z_ofM (cc := cX6_readFrom) (maxL := 4) (ret := none) (by decide +kernel) rfl (Nat.le_of_ble_eq_true rfl) ?_
  intro pg e s m args below meth c hC hr hlk hnm hK hP A hD hG hA hS ls hl Q hQ
  have hx := hC.1
  have hb := hC.2.1
  have hml := hC.2.2.1
  have hown := hC.2.2.2.1
  have hts := hC.2.2.2.2
  have hB : ∀ w ∈ W0, w ∈ wz_X6_readFrom := fun _ h => List.mem_cons_of_mem _ h
  have hW0 : ∀ w ∈ W0, w.before args s = true := fun w h => hts w (hB w h)
  have hl : lv_has ls 4 [(0, .ref (α 1)), (1, .ref (α 29)), (2, .int (zI k))] := hl
  refine lv_iload_n hx hb dX6_readFrom_0 rfl (lv_at hl 2 rfl) ?_
  refine lv_bipush (v := zI 49) hx hb dX6_readFrom_1 (zI_b8 (by decide)) ?_
  refine z_imul hx hb dX6_readFrom_3 ?_
  refine lv_istore_n (lv' := [(3, .int (zI (k * 49))), (0, .ref (α 1)), (1, .ref (α 29)), (2, .int (zI k))]) hx hb dX6_readFrom_4 rfl hl (by decide) rfl (fun ls hl => ?_)
  refine lv_iload_n hx hb dX6_readFrom_5 rfl (lv_at hl 3 rfl) ?_
  refine z_iflt (tgt := 34) hx hb ⟨by omega, by omega⟩ dX6_readFrom_6 (by decide) (fun c_6 => ?_) (fun c_6 => ?_)
  · exact absurd c_6 (by omega)
  · refine lv_iload_n hx hb dX6_readFrom_9 rfl (lv_at hl 0 rfl) ?_
    refine z_iflt (tgt := 34) hx hb ⟨by omega, by omega⟩ dX6_readFrom_10 (by decide) (fun c_10 => ?_) (fun c_10 => ?_)
    · exact absurd c_10 (by omega)
    · refine lv_iload_n hx hb dX6_readFrom_13 rfl (lv_at hl 0 rfl) ?_
      refine lv_aload_n hx hb dX6_readFrom_14 rfl (lv_at hl 2 rfl) ?_
      refine va_alen (v := zI 294) hx hb hK hP 29 19 rfl rfl rfl dX6_readFrom_15 ?_
      refine lv_bipush (v := zI 49) hx hb dX6_readFrom_16 (zI_b8 (by decide)) ?_
      refine z_isub hx hb dX6_readFrom_18 ?_
      refine z_icgt (tgt := 34) hx hb ⟨by omega, by omega⟩ ⟨by omega, by omega⟩ dX6_readFrom_19 (by decide) (fun c_19 => ?_) (fun c_19 => ?_)
      · exact absurd c_19 (by omega)
      · refine lv_aload_n hx hb dX6_readFrom_22 rfl (lv_at hl 2 rfl) ?_
        refine lv_iload_n hx hb dX6_readFrom_23 rfl (lv_at hl 0 rfl) ?_
        refine lv_aload_n hx hb dX6_readFrom_24 rfl (lv_at hl 1 rfl) ?_
        refine va_get (D := D) (ci := 6) (v := .ref (α 10)) (C := RX6) (T := TX6) (N := 3) hx hb hts (fun w h => List.mem_cons_of_mem _ (wx_X6 w h)) hown hK hP 1 rfl rfl 0 (by decide) (hW0 _ wf_X6_9) (fun _ h9 => h9) rfl dX6_readFrom_25 ?_
        refine lv_iconst (v := zI 0) hx hb dX6_readFrom_28 rfl ?_
        refine lv_bipush (v := zI 49) hx hb dX6_readFrom_29 (zI_b8 (by decide)) ?_
        refine z_copyi hx hb (hml.trans hl.1.symm) hown (hW0 _ wl_X6_69) (hW0 _ wna_arraycopyName) (hW0 _ wt_arraycopyName) (hW0 _ wi_System) hK hP hD hS 29 10 19 0 rfl rfl rfl rfl ⟨by omega, by omega, by omega, by omega, by omega⟩ (Nat.le_of_ble_eq_true rfl) (Nat.le_of_ble_eq_true rfl) dX6_readFrom_31 (fun H locs hP hD hS => ?_)
        have hP : va_P D vwCl (wH α γ (zcpy sv h (k * 49) 0 49, old, ch) rg ln sl pd ct sg od (sv, sl9, tk, ct9)) H := hP
        have hD : va_D A (wH α γ (zcpy sv h (k * 49) 0 49, old, ch) rg ln sl pd ct sg od (sv, sl9, tk, ct9)) := hD
        exact z_vret hC hr hlk hQ hP hD hS ⟨zcpy sv h (k * 49) 0 49, (by rw [Int.mul_comm]), rfl⟩ dX6_readFrom_34

set_option maxHeartbeats 4000000 in
set_option maxRecDepth 100000 in
theorem c_X6_writeTo__sl (l : Launch) (D : va_G) (τ : Nat → Nat) (α : Nat → Nat) (γ : Nat → ClassId) (h : IA) (old : IA) (ch : IA) (rg : TRg) (ln : TLn) (sl : TSl) (pd : TPd) (ct : TCt) (sg : TSg) (od : TOd) (sv : IA) (sl9 : IA) (tk : BA) (ct9 : Int) (k : Int) (hk : 0 ≤ k ∧ k ≤ 1) : cM l yX6_writeTo wz_X6_writeTo rm_X6_writeTo D τ (tyH γ) [.ref (α 1), .ref (α 30), .int (zI k)] (wH α γ (h, old, ch) rg ln sl pd ct sg od (sv, sl9, tk, ct9)) (zQv (fun w => ∃ (s2 : IA), (s2 = zcpy h sl9 0 (49 * k) 49) ∧ wH α γ (h, old, ch) rg ln sl pd ct sg od (sv, s2, tk, ct9) = w)) := by
  refine z_ofM (cc := cX6_writeTo) (maxL := 4) (ret := none) (by decide +kernel) rfl (Nat.le_of_ble_eq_true rfl) ?_
  intro pg e s m args below meth c hC hr hlk hnm hK hP A hD hG hA hS ls hl Q hQ
  have hx := hC.1
  have hb := hC.2.1
  have hml := hC.2.2.1
  have hown := hC.2.2.2.1
  have hts := hC.2.2.2.2
  have hB : ∀ w ∈ W0, w ∈ wz_X6_writeTo := fun _ h => List.mem_cons_of_mem _ h
  have hW0 : ∀ w ∈ W0, w.before args s = true := fun w h => hts w (hB w h)
  have hl : lv_has ls 4 [(0, .ref (α 1)), (1, .ref (α 30)), (2, .int (zI k))] := hl
  refine lv_iload_n hx hb dX6_writeTo_0 rfl (lv_at hl 2 rfl) ?_
  refine lv_bipush (v := zI 49) hx hb dX6_writeTo_1 (zI_b8 (by decide)) ?_
  refine z_imul hx hb dX6_writeTo_3 ?_
  refine lv_istore_n (lv' := [(3, .int (zI (k * 49))), (0, .ref (α 1)), (1, .ref (α 30)), (2, .int (zI k))]) hx hb dX6_writeTo_4 rfl hl (by decide) rfl (fun ls hl => ?_)
  refine lv_iload_n hx hb dX6_writeTo_5 rfl (lv_at hl 3 rfl) ?_
  refine z_iflt (tgt := 34) hx hb ⟨by omega, by omega⟩ dX6_writeTo_6 (by decide) (fun c_6 => ?_) (fun c_6 => ?_)
  · exact absurd c_6 (by omega)
  · refine lv_iload_n hx hb dX6_writeTo_9 rfl (lv_at hl 0 rfl) ?_
    refine z_iflt (tgt := 34) hx hb ⟨by omega, by omega⟩ dX6_writeTo_10 (by decide) (fun c_10 => ?_) (fun c_10 => ?_)
    · exact absurd c_10 (by omega)
    · refine lv_iload_n hx hb dX6_writeTo_13 rfl (lv_at hl 0 rfl) ?_
      refine lv_aload_n hx hb dX6_writeTo_14 rfl (lv_at hl 2 rfl) ?_
      refine va_alen (v := zI 98) hx hb hK hP 30 20 rfl rfl rfl dX6_writeTo_15 ?_
      refine lv_bipush (v := zI 49) hx hb dX6_writeTo_16 (zI_b8 (by decide)) ?_
      refine z_isub hx hb dX6_writeTo_18 ?_
      refine z_icgt (tgt := 34) hx hb ⟨by omega, by omega⟩ ⟨by omega, by omega⟩ dX6_writeTo_19 (by decide) (fun c_19 => ?_) (fun c_19 => ?_)
      · exact absurd c_19 (by omega)
      · refine lv_aload_n hx hb dX6_writeTo_22 rfl (lv_at hl 1 rfl) ?_
        refine va_get (D := D) (ci := 6) (v := .ref (α 10)) (C := RX6) (T := TX6) (N := 3) hx hb hts (fun w h => List.mem_cons_of_mem _ (wx_X6 w h)) hown hK hP 1 rfl rfl 0 (by decide) (hW0 _ wf_X6_9) (fun _ h9 => h9) rfl dX6_writeTo_23 ?_
        refine lv_iconst (v := zI 0) hx hb dX6_writeTo_26 rfl ?_
        refine lv_aload_n hx hb dX6_writeTo_27 rfl (lv_at hl 2 rfl) ?_
        refine lv_iload_n hx hb dX6_writeTo_28 rfl (lv_at hl 0 rfl) ?_
        refine lv_bipush (v := zI 49) hx hb dX6_writeTo_29 (zI_b8 (by decide)) ?_
        refine z_copyi hx hb (hml.trans hl.1.symm) hown (hW0 _ wl_X6_69) (hW0 _ wna_arraycopyName) (hW0 _ wt_arraycopyName) (hW0 _ wi_System) hK hP hD hS 10 30 0 20 rfl rfl rfl rfl ⟨by omega, by omega, by omega, by omega, by omega⟩ (Nat.le_of_ble_eq_true rfl) (Nat.le_of_ble_eq_true rfl) dX6_writeTo_31 (fun H locs hP hD hS => ?_)
        have hP : va_P D vwCl (wH α γ (h, old, ch) rg ln sl pd ct sg od (sv, zcpy h sl9 0 (k * 49) 49, tk, ct9)) H := hP
        have hD : va_D A (wH α γ (h, old, ch) rg ln sl pd ct sg od (sv, zcpy h sl9 0 (k * 49) 49, tk, ct9)) := hD
        exact z_vret hC hr hlk hQ hP hD hS ⟨zcpy h sl9 0 (k * 49) 49, (by rw [Int.mul_comm]), rfl⟩ dX6_writeTo_34

set_option maxHeartbeats 4000000 in
set_option maxRecDepth 100000 in
theorem c_X6_readFrom__sl (l : Launch) (D : va_G) (τ : Nat → Nat) (α : Nat → Nat) (γ : Nat → ClassId) (h : IA) (old : IA) (ch : IA) (rg : TRg) (ln : TLn) (sl : TSl) (pd : TPd) (ct : TCt) (sg : TSg) (od : TOd) (sv : IA) (sl9 : IA) (tk : BA) (ct9 : Int) (k : Int) (hk : 0 ≤ k ∧ k ≤ 1) : cM l yX6_readFrom wz_X6_readFrom rm_X6_readFrom D τ (tyH γ) [.ref (α 1), .ref (α 30), .int (zI k)] (wH α γ (h, old, ch) rg ln sl pd ct sg od (sv, sl9, tk, ct9)) (zQv (fun w => ∃ (h2 : IA), (h2 = zcpy sl9 h (49 * k) 0 49) ∧ wH α γ (h2, old, ch) rg ln sl pd ct sg od (sv, sl9, tk, ct9) = w)) := by
  refine z_ofM (cc := cX6_readFrom) (maxL := 4) (ret := none) (by decide +kernel) rfl (Nat.le_of_ble_eq_true rfl) ?_
  intro pg e s m args below meth c hC hr hlk hnm hK hP A hD hG hA hS ls hl Q hQ
  have hx := hC.1
  have hb := hC.2.1
  have hml := hC.2.2.1
  have hown := hC.2.2.2.1
  have hts := hC.2.2.2.2
  have hB : ∀ w ∈ W0, w ∈ wz_X6_readFrom := fun _ h => List.mem_cons_of_mem _ h
  have hW0 : ∀ w ∈ W0, w.before args s = true := fun w h => hts w (hB w h)
  have hl : lv_has ls 4 [(0, .ref (α 1)), (1, .ref (α 30)), (2, .int (zI k))] := hl
  refine lv_iload_n hx hb dX6_readFrom_0 rfl (lv_at hl 2 rfl) ?_
  refine lv_bipush (v := zI 49) hx hb dX6_readFrom_1 (zI_b8 (by decide)) ?_
  refine z_imul hx hb dX6_readFrom_3 ?_
  refine lv_istore_n (lv' := [(3, .int (zI (k * 49))), (0, .ref (α 1)), (1, .ref (α 30)), (2, .int (zI k))]) hx hb dX6_readFrom_4 rfl hl (by decide) rfl (fun ls hl => ?_)
  refine lv_iload_n hx hb dX6_readFrom_5 rfl (lv_at hl 3 rfl) ?_
  refine z_iflt (tgt := 34) hx hb ⟨by omega, by omega⟩ dX6_readFrom_6 (by decide) (fun c_6 => ?_) (fun c_6 => ?_)
  · exact absurd c_6 (by omega)
  · refine lv_iload_n hx hb dX6_readFrom_9 rfl (lv_at hl 0 rfl) ?_
    refine z_iflt (tgt := 34) hx hb ⟨by omega, by omega⟩ dX6_readFrom_10 (by decide) (fun c_10 => ?_) (fun c_10 => ?_)
    · exact absurd c_10 (by omega)
    · refine lv_iload_n hx hb dX6_readFrom_13 rfl (lv_at hl 0 rfl) ?_
      refine lv_aload_n hx hb dX6_readFrom_14 rfl (lv_at hl 2 rfl) ?_
      refine va_alen (v := zI 98) hx hb hK hP 30 20 rfl rfl rfl dX6_readFrom_15 ?_
      refine lv_bipush (v := zI 49) hx hb dX6_readFrom_16 (zI_b8 (by decide)) ?_
      refine z_isub hx hb dX6_readFrom_18 ?_
      refine z_icgt (tgt := 34) hx hb ⟨by omega, by omega⟩ ⟨by omega, by omega⟩ dX6_readFrom_19 (by decide) (fun c_19 => ?_) (fun c_19 => ?_)
      · exact absurd c_19 (by omega)
      · refine lv_aload_n hx hb dX6_readFrom_22 rfl (lv_at hl 2 rfl) ?_
        refine lv_iload_n hx hb dX6_readFrom_23 rfl (lv_at hl 0 rfl) ?_
        refine lv_aload_n hx hb dX6_readFrom_24 rfl (lv_at hl 1 rfl) ?_
        refine va_get (D := D) (ci := 6) (v := .ref (α 10)) (C := RX6) (T := TX6) (N := 3) hx hb hts (fun w h => List.mem_cons_of_mem _ (wx_X6 w h)) hown hK hP 1 rfl rfl 0 (by decide) (hW0 _ wf_X6_9) (fun _ h9 => h9) rfl dX6_readFrom_25 ?_
        refine lv_iconst (v := zI 0) hx hb dX6_readFrom_28 rfl ?_
        refine lv_bipush (v := zI 49) hx hb dX6_readFrom_29 (zI_b8 (by decide)) ?_
        refine z_copyi hx hb (hml.trans hl.1.symm) hown (hW0 _ wl_X6_69) (hW0 _ wna_arraycopyName) (hW0 _ wt_arraycopyName) (hW0 _ wi_System) hK hP hD hS 30 10 20 0 rfl rfl rfl rfl ⟨by omega, by omega, by omega, by omega, by omega⟩ (Nat.le_of_ble_eq_true rfl) (Nat.le_of_ble_eq_true rfl) dX6_readFrom_31 (fun H locs hP hD hS => ?_)
        have hP : va_P D vwCl (wH α γ (zcpy sl9 h (k * 49) 0 49, old, ch) rg ln sl pd ct sg od (sv, sl9, tk, ct9)) H := hP
        have hD : va_D A (wH α γ (zcpy sl9 h (k * 49) 0 49, old, ch) rg ln sl pd ct sg od (sv, sl9, tk, ct9)) := hD
        exact z_vret hC hr hlk hQ hP hD hS ⟨zcpy sl9 h (k * 49) 0 49, (by rw [Int.mul_comm]), rfl⟩ dX6_readFrom_34

abbrev wz_X1_save : List Cond := .code yX1_save cX1_save 2 none :: W0
abbrev rm_X1_save : Room := { frames := 2, cells := 0, slots := 0, locals := 55 }
theorem hd_X1_save : yX1_save.cls = RX1 ∧ yX1_save.cls ≠ "java/lang/invoke/MethodHandle" ∧ yX1_save.cls ≠ "java/lang/invoke/VarHandle" ∧ (parseMethodDescriptor yX1_save.desc).map (fun d => d.parameters.length) = some 1 := by decide +kernel
set_option maxHeartbeats 4000000 in
set_option maxRecDepth 100000 in
theorem c_X1_save (l : Launch) (D : va_G) (τ : Nat → Nat) (α : Nat → Nat) (γ : Nat → ClassId) (h : IA) (old : IA) (ch : IA) (rg : TRg) (ln : TLn) (sl : TSl) (pd : TPd) (ct : TCt) (sg : TSg) (od : TOd) (sv : IA) (sl9 : IA) (tk : BA) (ct9 : Int) (hct : 0 ≤ ct9 ∧ ct9 ≤ 6) : cM l yX1_save wz_X1_save rm_X1_save D τ (tyH γ) [.ref (α 9), .ref (α 1)] (wH α γ (h, old, ch) rg ln sl pd ct sg od (sv, sl9, tk, ct9)) (zQv (fun w => ∃ (s2 : IA), ∃ (c2 : Int), (s2 = S_sv sv h ct9) ∧ (c2 = S_svC ct9) ∧ wH α γ (h, old, ch) rg ln sl pd ct sg od (s2, sl9, tk, c2) = w)) := by
  refine z_ofM (cc := cX1_save) (maxL := 2) (ret := none) (by decide +kernel) rfl (Nat.le_of_ble_eq_true rfl) ?_
  intro pg e s m args below meth c hC hr hlk hnm hK hP A hD hG hA hS ls hl Q hQ
  have hx := hC.1
  have hb := hC.2.1
  have hml := hC.2.2.1
  have hown := hC.2.2.2.1
  have hts := hC.2.2.2.2
  have hB : ∀ w ∈ W0, w ∈ wz_X1_save := fun _ h => List.mem_cons_of_mem _ h
  have hW0 : ∀ w ∈ W0, w.before args s = true := fun w h => hts w (hB w h)
  have hl : lv_has ls 2 [(0, .ref (α 9)), (1, .ref (α 1))] := hl
  refine lv_aload_n hx hb dX1_save_0 rfl (lv_at hl 0 rfl) ?_
  refine va_get (D := D) (ci := 1) (v := .int (zI ct9)) (C := RX1) (T := TX1) (N := 4) hx hb hts (fun w h => List.mem_cons_of_mem _ (wx_X1 w h)) hown hK hP 9 rfl rfl 3 (by decide) (hW0 _ wf_X1_22) (fun _ h9 => h9) rfl dX1_save_1 ?_
  refine lv_bipush (v := zI 6) hx hb dX1_save_4 (zI_b8 (by decide)) ?_
  refine z_iclt (tgt := 31) hx hb ⟨by omega, by omega⟩ ⟨by omega, by omega⟩ dX1_save_6 (by decide) (fun c_6 => ?_) (fun c_6 => ?_)
  · refine lv_aload_n hx hb dX1_save_31 rfl (lv_at hl 1 rfl) ?_
    refine lv_aload_n hx hb dX1_save_32 rfl (lv_at hl 0 rfl) ?_
    refine va_get (D := D) (ci := 1) (v := .ref (α 29)) (C := RX1) (T := TX1) (N := 4) hx hb hts (fun w h => List.mem_cons_of_mem _ (wx_X1 w h)) hown hK hP 9 rfl rfl 0 (by decide) (hW0 _ wf_X1_9) (fun _ h9 => h9) rfl dX1_save_33 ?_
    refine lv_aload_n hx hb dX1_save_36 rfl (lv_at hl 0 rfl) ?_
    refine va_get (D := D) (ci := 1) (v := .int (zI ct9)) (C := RX1) (T := TX1) (N := 4) hx hb hts (fun w h => List.mem_cons_of_mem _ (wx_X1 w h)) hown hK hP 9 rfl rfl 3 (by decide) (hW0 _ wf_X1_22) (fun _ h9 => h9) rfl dX1_save_37 ?_
    refine z_callv hP hD hS hA (va_runV (As := [.ref (α 29), .int (zI ct9)]) (rest := []) hC (c_X6_writeTo__sv l D τ α γ h old ch rg ln sl pd ct sg od sv sl9 tk ct9 ct9 (by first | assumption | rfl | omega) _) (cwV 2 hts (gV hB wl_X1_32 wn_X6_writeTo ws_X6_writeTo wi_X6 wc_X6_writeTo) rfl rfl rfl hd_X6_writeTo ⟨Nat.le_of_ble_eq_true rfl, Nat.le_of_ble_eq_true rfl⟩) (zp_V hK hP hD hS hA hG (ci := 6) (q0 := 1) rfl rfl rfl) rfl rfl hl.1 rfl (lv_room (Nat.le_of_ble_eq_true rfl)) dX1_save_40 ⟨Nat.le_of_ble_eq_true rfl, Nat.le_of_ble_eq_true rfl⟩) (fun w1 H locs hq9 hP hD hS => ?_)
    obtain ⟨s40_1, hv40_0, rfl⟩ := hq9
    have hP : va_P D vwCl (wH α γ (h, old, ch) rg ln sl pd ct sg od (s40_1, sl9, tk, ct9)) H := hP
    have hD : va_D A (wH α γ (h, old, ch) rg ln sl pd ct sg od (s40_1, sl9, tk, ct9)) := hD
    refine lv_aload_n hx hb dX1_save_43 rfl (lv_at hl 0 rfl) ?_
    refine lv_dup hx hb dX1_save_44 rfl ?_
    refine va_get (D := D) (ci := 1) (v := .int (zI ct9)) (C := RX1) (T := TX1) (N := 4) hx hb hts (fun w h => List.mem_cons_of_mem _ (wx_X1 w h)) hown hK hP 9 rfl rfl 3 (by decide) (hW0 _ wf_X1_22) (fun _ h9 => h9) rfl dX1_save_45 ?_
    refine lv_iconst (v := zI 1) hx hb dX1_save_48 rfl ?_
    refine z_iadd hx hb dX1_save_49 ?_
    refine va_put (D := D) (ci := 1) (v := .int (zI (ct9 + 1))) (ty := .int) (C := RX1) (T := TX1) (N := 4) hx hb hts (fun w h => List.mem_cons_of_mem _ (wx_X1 w h)) tyX1 tyX1_ok nmX1 hown hK hP hD hS 9 rfl rfl 3 (by decide) (hW0 _ wf_X1_22) (fun _ h9 => h9) rfl (by decide +kernel) rfl rfl (Nat.le_of_ble_eq_true rfl) dX1_save_50 (fun H locs hP hD hS => ?_)
    have hP : va_P D vwCl (wH α γ (h, old, ch) rg ln sl pd ct sg od (s40_1, sl9, tk, ct9 + 1)) H := hP
    have hD : va_D A (wH α γ (h, old, ch) rg ln sl pd ct sg od (s40_1, sl9, tk, ct9 + 1)) := hD
    exact z_vret hC hr hlk hQ hP hD hS ⟨s40_1, ct9 + 1, (by rw [hv40_0]; unfold S_sv; first | (rw [if_neg (by omega)]; done) | (rw [if_pos (by omega)]; rfl)), (by unfold S_svC; first | (rw [if_neg (by omega)]; done) | (rw [if_pos (by omega)]; rfl)), rfl⟩ dX1_save_53
  · refine lv_aload_n hx hb dX1_save_9 rfl (lv_at hl 0 rfl) ?_
    refine va_get (D := D) (ci := 1) (v := .ref (α 29)) (C := RX1) (T := TX1) (N := 4) hx hb hts (fun w h => List.mem_cons_of_mem _ (wx_X1 w h)) hown hK hP 9 rfl rfl 0 (by decide) (hW0 _ wf_X1_9) (fun _ h9 => h9) rfl dX1_save_10 ?_
    refine lv_bipush (v := zI 49) hx hb dX1_save_13 (zI_b8 (by decide)) ?_
    refine lv_aload_n hx hb dX1_save_15 rfl (lv_at hl 0 rfl) ?_
    refine va_get (D := D) (ci := 1) (v := .ref (α 29)) (C := RX1) (T := TX1) (N := 4) hx hb hts (fun w h => List.mem_cons_of_mem _ (wx_X1 w h)) hown hK hP 9 rfl rfl 0 (by decide) (hW0 _ wf_X1_9) (fun _ h9 => h9) rfl dX1_save_16 ?_
    refine lv_iconst (v := zI 0) hx hb dX1_save_19 rfl ?_
    refine lv_sipush (v := zI 245) hx hb dX1_save_20 (zI_b16 (by decide)) ?_
    refine z_copyi hx hb (hml.trans hl.1.symm) hown (hW0 _ wl_X1_26) (hW0 _ wna_arraycopyName) (hW0 _ wt_arraycopyName) (hW0 _ wi_System) hK hP hD hS 29 29 19 19 rfl rfl rfl rfl ⟨by omega, by omega, by omega, by omega, by omega⟩ (Nat.le_of_ble_eq_true rfl) (Nat.le_of_ble_eq_true rfl) dX1_save_23 (fun H locs hP hD hS => ?_)
    have hP : va_P D vwCl (wH α γ (h, old, ch) rg ln sl pd ct sg od (zcpy sv sv 49 0 245, sl9, tk, ct9)) H := hP
    have hD : va_D A (wH α γ (h, old, ch) rg ln sl pd ct sg od (zcpy sv sv 49 0 245, sl9, tk, ct9)) := hD
    refine lv_aload_n hx hb dX1_save_26 rfl (lv_at hl 0 rfl) ?_
    refine lv_iconst (v := zI 5) hx hb dX1_save_27 rfl ?_
    refine va_put (D := D) (ci := 1) (v := .int (zI 5)) (ty := .int) (C := RX1) (T := TX1) (N := 4) hx hb hts (fun w h => List.mem_cons_of_mem _ (wx_X1 w h)) tyX1 tyX1_ok nmX1 hown hK hP hD hS 9 rfl rfl 3 (by decide) (hW0 _ wf_X1_22) (fun _ h9 => h9) rfl (by decide +kernel) rfl rfl (Nat.le_of_ble_eq_true rfl) dX1_save_28 (fun H locs hP hD hS => ?_)
    have hP : va_P D vwCl (wH α γ (h, old, ch) rg ln sl pd ct sg od (zcpy sv sv 49 0 245, sl9, tk, 5)) H := hP
    have hD : va_D A (wH α γ (h, old, ch) rg ln sl pd ct sg od (zcpy sv sv 49 0 245, sl9, tk, 5)) := hD
    refine lv_aload_n hx hb dX1_save_31 rfl (lv_at hl 1 rfl) ?_
    refine lv_aload_n hx hb dX1_save_32 rfl (lv_at hl 0 rfl) ?_
    refine va_get (D := D) (ci := 1) (v := .ref (α 29)) (C := RX1) (T := TX1) (N := 4) hx hb hts (fun w h => List.mem_cons_of_mem _ (wx_X1 w h)) hown hK hP 9 rfl rfl 0 (by decide) (hW0 _ wf_X1_9) (fun _ h9 => h9) rfl dX1_save_33 ?_
    refine lv_aload_n hx hb dX1_save_36 rfl (lv_at hl 0 rfl) ?_
    refine va_get (D := D) (ci := 1) (v := .int (zI 5)) (C := RX1) (T := TX1) (N := 4) hx hb hts (fun w h => List.mem_cons_of_mem _ (wx_X1 w h)) hown hK hP 9 rfl rfl 3 (by decide) (hW0 _ wf_X1_22) (fun _ h9 => h9) rfl dX1_save_37 ?_
    refine z_callv hP hD hS hA (va_runV (As := [.ref (α 29), .int (zI 5)]) (rest := []) hC (c_X6_writeTo__sv l D τ α γ h old ch rg ln sl pd ct sg od (zcpy sv sv 49 0 245) sl9 tk 5 5 (by first | assumption | rfl | omega) _) (cwV 2 hts (gV hB wl_X1_32 wn_X6_writeTo ws_X6_writeTo wi_X6 wc_X6_writeTo) rfl rfl rfl hd_X6_writeTo ⟨Nat.le_of_ble_eq_true rfl, Nat.le_of_ble_eq_true rfl⟩) (zp_V hK hP hD hS hA hG (ci := 6) (q0 := 1) rfl rfl rfl) rfl rfl hl.1 rfl (lv_room (Nat.le_of_ble_eq_true rfl)) dX1_save_40 ⟨Nat.le_of_ble_eq_true rfl, Nat.le_of_ble_eq_true rfl⟩) (fun w1 H locs hq9 hP hD hS => ?_)
    obtain ⟨s40_2, hv40_0, rfl⟩ := hq9
    have hP : va_P D vwCl (wH α γ (h, old, ch) rg ln sl pd ct sg od (s40_2, sl9, tk, 5)) H := hP
    have hD : va_D A (wH α γ (h, old, ch) rg ln sl pd ct sg od (s40_2, sl9, tk, 5)) := hD
    refine lv_aload_n hx hb dX1_save_43 rfl (lv_at hl 0 rfl) ?_
    refine lv_dup hx hb dX1_save_44 rfl ?_
    refine va_get (D := D) (ci := 1) (v := .int (zI 5)) (C := RX1) (T := TX1) (N := 4) hx hb hts (fun w h => List.mem_cons_of_mem _ (wx_X1 w h)) hown hK hP 9 rfl rfl 3 (by decide) (hW0 _ wf_X1_22) (fun _ h9 => h9) rfl dX1_save_45 ?_
    refine lv_iconst (v := zI 1) hx hb dX1_save_48 rfl ?_
    refine z_iadd hx hb dX1_save_49 ?_
    refine va_put (D := D) (ci := 1) (v := .int (zI (5 + 1))) (ty := .int) (C := RX1) (T := TX1) (N := 4) hx hb hts (fun w h => List.mem_cons_of_mem _ (wx_X1 w h)) tyX1 tyX1_ok nmX1 hown hK hP hD hS 9 rfl rfl 3 (by decide) (hW0 _ wf_X1_22) (fun _ h9 => h9) rfl (by decide +kernel) rfl rfl (Nat.le_of_ble_eq_true rfl) dX1_save_50 (fun H locs hP hD hS => ?_)
    have hP : va_P D vwCl (wH α γ (h, old, ch) rg ln sl pd ct sg od (s40_2, sl9, tk, 5 + 1)) H := hP
    have hD : va_D A (wH α γ (h, old, ch) rg ln sl pd ct sg od (s40_2, sl9, tk, 5 + 1)) := hD
    exact z_vret hC hr hlk hQ hP hD hS ⟨s40_2, 5 + 1, (by rw [hv40_0]; unfold S_sv; first | (rw [if_neg (by omega)]; done) | (rw [if_pos (by omega)]; rfl)), (by unfold S_svC; first | (rw [if_neg (by omega)]; done) | (rw [if_pos (by omega)]; rfl)), rfl⟩ dX1_save_53

abbrev wz_X1_takeBack : List Cond := .code yX1_takeBack cX1_takeBack 2 none :: W0
abbrev rm_X1_takeBack : Room := { frames := 2, cells := 0, slots := 0, locals := 55 }
theorem hd_X1_takeBack : yX1_takeBack.cls = RX1 ∧ yX1_takeBack.cls ≠ "java/lang/invoke/MethodHandle" ∧ yX1_takeBack.cls ≠ "java/lang/invoke/VarHandle" ∧ (parseMethodDescriptor yX1_takeBack.desc).map (fun d => d.parameters.length) = some 1 := by decide +kernel
set_option maxHeartbeats 4000000 in
set_option maxRecDepth 100000 in
theorem c_X1_takeBack (l : Launch) (D : va_G) (τ : Nat → Nat) (α : Nat → Nat) (γ : Nat → ClassId) (h : IA) (old : IA) (ch : IA) (rg : TRg) (ln : TLn) (sl : TSl) (pd : TPd) (ct : TCt) (sg : TSg) (od : TOd) (sv : IA) (sl9 : IA) (tk : BA) (ct9 : Int) (hct : 0 ≤ ct9 ∧ ct9 ≤ 6) : cM l yX1_takeBack wz_X1_takeBack rm_X1_takeBack D τ (tyH γ) [.ref (α 9), .ref (α 1)] (wH α γ (h, old, ch) rg ln sl pd ct sg od (sv, sl9, tk, ct9)) (zQv (fun w => ∃ (h2 : IA), ∃ (c2 : Int), (c2 = (if 0 < ct9 then ct9 - 1 else ct9)) ∧ (h2 = (if 0 < ct9 then zcpy sv h (49 * (ct9 - 1)) 0 49 else h)) ∧ wH α γ (h2, old, ch) rg ln sl pd ct sg od (sv, sl9, tk, c2) = w)) := by
  refine z_ofM (cc := cX1_takeBack) (maxL := 2) (ret := none) (by decide +kernel) rfl (Nat.le_of_ble_eq_true rfl) ?_
  intro pg e s m args below meth c hC hr hlk hnm hK hP A hD hG hA hS ls hl Q hQ
  have hx := hC.1
  have hb := hC.2.1
  have hml := hC.2.2.1
  have hown := hC.2.2.2.1
  have hts := hC.2.2.2.2
  have hB : ∀ w ∈ W0, w ∈ wz_X1_takeBack := fun _ h => List.mem_cons_of_mem _ h
  have hW0 : ∀ w ∈ W0, w.before args s = true := fun w h => hts w (hB w h)
  have hl : lv_has ls 2 [(0, .ref (α 9)), (1, .ref (α 1))] := hl
  refine lv_aload_n hx hb dX1_takeBack_0 rfl (lv_at hl 0 rfl) ?_
  refine va_get (D := D) (ci := 1) (v := .int (zI ct9)) (C := RX1) (T := TX1) (N := 4) hx hb hts (fun w h => List.mem_cons_of_mem _ (wx_X1 w h)) hown hK hP 9 rfl rfl 3 (by decide) (hW0 _ wf_X1_22) (fun _ h9 => h9) rfl dX1_takeBack_1 ?_
  refine z_ifle (tgt := 29) hx hb ⟨by omega, by omega⟩ dX1_takeBack_4 (by decide) (fun c_4 => ?_) (fun c_4 => ?_)
  · exact z_vret hC hr hlk hQ hP hD hS ⟨h, ct9, (by first | (rw [if_neg (by omega)]; done) | (rw [if_pos (by omega)]; done)), (by first | (rw [if_neg (by omega)]; done) | (rw [hv26_0, if_pos (by omega)])), rfl⟩ dX1_takeBack_29
  · refine lv_aload_n hx hb dX1_takeBack_7 rfl (lv_at hl 0 rfl) ?_
    refine lv_dup hx hb dX1_takeBack_8 rfl ?_
    refine va_get (D := D) (ci := 1) (v := .int (zI ct9)) (C := RX1) (T := TX1) (N := 4) hx hb hts (fun w h => List.mem_cons_of_mem _ (wx_X1 w h)) hown hK hP 9 rfl rfl 3 (by decide) (hW0 _ wf_X1_22) (fun _ h9 => h9) rfl dX1_takeBack_9 ?_
    refine lv_iconst (v := zI 1) hx hb dX1_takeBack_12 rfl ?_
    refine z_isub hx hb dX1_takeBack_13 ?_
    refine va_put (D := D) (ci := 1) (v := .int (zI (ct9 - 1))) (ty := .int) (C := RX1) (T := TX1) (N := 4) hx hb hts (fun w h => List.mem_cons_of_mem _ (wx_X1 w h)) tyX1 tyX1_ok nmX1 hown hK hP hD hS 9 rfl rfl 3 (by decide) (hW0 _ wf_X1_22) (fun _ h9 => h9) rfl (by decide +kernel) rfl rfl (Nat.le_of_ble_eq_true rfl) dX1_takeBack_14 (fun H locs hP hD hS => ?_)
    have hP : va_P D vwCl (wH α γ (h, old, ch) rg ln sl pd ct sg od (sv, sl9, tk, ct9 - 1)) H := hP
    have hD : va_D A (wH α γ (h, old, ch) rg ln sl pd ct sg od (sv, sl9, tk, ct9 - 1)) := hD
    refine lv_aload_n hx hb dX1_takeBack_17 rfl (lv_at hl 1 rfl) ?_
    refine lv_aload_n hx hb dX1_takeBack_18 rfl (lv_at hl 0 rfl) ?_
    refine va_get (D := D) (ci := 1) (v := .ref (α 29)) (C := RX1) (T := TX1) (N := 4) hx hb hts (fun w h => List.mem_cons_of_mem _ (wx_X1 w h)) hown hK hP 9 rfl rfl 0 (by decide) (hW0 _ wf_X1_9) (fun _ h9 => h9) rfl dX1_takeBack_19 ?_
    refine lv_aload_n hx hb dX1_takeBack_22 rfl (lv_at hl 0 rfl) ?_
    refine va_get (D := D) (ci := 1) (v := .int (zI (ct9 - 1))) (C := RX1) (T := TX1) (N := 4) hx hb hts (fun w h => List.mem_cons_of_mem _ (wx_X1 w h)) hown hK hP 9 rfl rfl 3 (by decide) (hW0 _ wf_X1_22) (fun _ h9 => h9) rfl dX1_takeBack_23 ?_
    refine z_callv hP hD hS hA (va_runV (As := [.ref (α 29), .int (zI (ct9 - 1))]) (rest := []) hC (c_X6_readFrom__sv l D τ α γ h old ch rg ln sl pd ct sg od sv sl9 tk (ct9 - 1) (ct9 - 1) (by first | assumption | rfl | omega) _) (cwV 2 hts (gV hB wl_X1_38 wn_X6_readFrom ws_X6_readFrom wi_X6 wc_X6_readFrom) rfl rfl rfl hd_X6_readFrom ⟨Nat.le_of_ble_eq_true rfl, Nat.le_of_ble_eq_true rfl⟩) (zp_V hK hP hD hS hA hG (ci := 6) (q0 := 1) rfl rfl rfl) rfl rfl hl.1 rfl (lv_room (Nat.le_of_ble_eq_true rfl)) dX1_takeBack_26 ⟨Nat.le_of_ble_eq_true rfl, Nat.le_of_ble_eq_true rfl⟩) (fun w1 H locs hq9 hP hD hS => ?_)
    obtain ⟨h26_1, hv26_0, rfl⟩ := hq9
    have hP : va_P D vwCl (wH α γ (h26_1, old, ch) rg ln sl pd ct sg od (sv, sl9, tk, ct9 - 1)) H := hP
    have hD : va_D A (wH α γ (h26_1, old, ch) rg ln sl pd ct sg od (sv, sl9, tk, ct9 - 1)) := hD
    exact z_vret hC hr hlk hQ hP hD hS ⟨h26_1, ct9 - 1, (by first | (rw [if_neg (by omega)]; done) | (rw [if_pos (by omega)]; done)), (by first | (rw [if_neg (by omega)]; done) | (rw [hv26_0, if_pos (by omega)])), rfl⟩ dX1_takeBack_29

abbrev wz_X1_size : List Cond := .code yX1_size cX1_size 1 (some .int) :: W0
abbrev rm_X1_size : Room := { frames := 0, cells := 0, slots := 0, locals := 0 }
theorem hd_X1_size : yX1_size.cls = RX1 ∧ yX1_size.cls ≠ "java/lang/invoke/MethodHandle" ∧ yX1_size.cls ≠ "java/lang/invoke/VarHandle" ∧ (parseMethodDescriptor yX1_size.desc).map (fun d => d.parameters.length) = some 0 := by decide +kernel
set_option maxHeartbeats 4000000 in
set_option maxRecDepth 100000 in
theorem c_X1_size (l : Launch) (D : va_G) (τ : Nat → Nat) (α : Nat → Nat) (γ : Nat → ClassId) (rl : TRl) (rg : TRg) (ln : TLn) (sl : TSl) (pd : TPd) (ct : TCt) (sg : TSg) (od : TOd) (sv : IA) (sl9 : IA) (tk : BA) (ct9 : Int) : cM l yX1_size wz_X1_size rm_X1_size D τ (tyH γ) [.ref (α 9)] (wH α γ rl rg ln sl pd ct sg od (sv, sl9, tk, ct9)) (zQi (fun r w => ∃ (v : Int), (v = ct9) ∧ r = zI v ∧ wH α γ rl rg ln sl pd ct sg od (sv, sl9, tk, ct9) = w)) := by
  refine z_ofM (cc := cX1_size) (maxL := 1) (ret := (some .int)) (by decide +kernel) rfl (Nat.le_of_ble_eq_true rfl) ?_
  intro pg e s m args below meth c hC hr hlk hnm hK hP A hD hG hA hS ls hl Q hQ
  have hx := hC.1
  have hb := hC.2.1
  have hml := hC.2.2.1
  have hown := hC.2.2.2.1
  have hts := hC.2.2.2.2
  have hB : ∀ w ∈ W0, w ∈ wz_X1_size := fun _ h => List.mem_cons_of_mem _ h
  have hW0 : ∀ w ∈ W0, w.before args s = true := fun w h => hts w (hB w h)
  have hl : lv_has ls 1 [(0, .ref (α 9))] := hl
  refine lv_aload_n hx hb dX1_size_0 rfl (lv_at hl 0 rfl) ?_
  refine va_get (D := D) (ci := 1) (v := .int (zI ct9)) (C := RX1) (T := TX1) (N := 4) hx hb hts (fun w h => List.mem_cons_of_mem _ (wx_X1 w h)) hown hK hP 9 rfl rfl 3 (by decide) (hW0 _ wf_X1_22) (fun _ h9 => h9) rfl dX1_size_1 ?_
  exact z_iret hC hr hlk hQ hP hD hS ⟨ct9, (by first | assumption | rfl | omega), rfl, rfl⟩ dX1_size_4

abbrev wz_X1_take : List Cond := .code yX1_take cX1_take 3 none :: W0
abbrev rm_X1_take : Room := { frames := 2, cells := 0, slots := 0, locals := 55 }
theorem hd_X1_take : yX1_take.cls = RX1 ∧ yX1_take.cls ≠ "java/lang/invoke/MethodHandle" ∧ yX1_take.cls ≠ "java/lang/invoke/VarHandle" ∧ (parseMethodDescriptor yX1_take.desc).map (fun d => d.parameters.length) = some 2 := by decide +kernel
set_option maxHeartbeats 4000000 in
set_option maxRecDepth 100000 in
theorem c_X1_take (l : Launch) (D : va_G) (τ : Nat → Nat) (α : Nat → Nat) (γ : Nat → ClassId) (h : IA) (old : IA) (ch : IA) (rg : TRg) (ln : TLn) (sl : TSl) (pd : TPd) (ct : TCt) (sg : TSg) (od : TOd) (sv : IA) (sl9 : IA) (tk : BA) (ct9 : Int) (k : Int) (hk : 0 ≤ k ∧ k < 2) : cM l yX1_take wz_X1_take rm_X1_take D τ (tyH γ) [.ref (α 9), .int (zI k), .ref (α 1)] (wH α γ (h, old, ch) rg ln sl pd ct sg od (sv, sl9, tk, ct9)) (zQv (fun w => ∃ (s2 : IA), ∃ (t2 : BA), (s2 = zcpy h sl9 0 (49 * k) 49) ∧ (t2 = bu tk k true) ∧ wH α γ (h, old, ch) rg ln sl pd ct sg od (sv, s2, t2, ct9) = w)) := by
  refine z_ofM (cc := cX1_take) (maxL := 3) (ret := none) (by decide +kernel) rfl (Nat.le_of_ble_eq_true rfl) ?_
  intro pg e s m args below meth c hC hr hlk hnm hK hP A hD hG hA hS ls hl Q hQ
  have hx := hC.1
  have hb := hC.2.1
  have hml := hC.2.2.1
  have hown := hC.2.2.2.1
  have hts := hC.2.2.2.2
  have hB : ∀ w ∈ W0, w ∈ wz_X1_take := fun _ h => List.mem_cons_of_mem _ h
  have hW0 : ∀ w ∈ W0, w.before args s = true := fun w h => hts w (hB w h)
  have hl : lv_has ls 3 [(0, .ref (α 9)), (1, .int (zI k)), (2, .ref (α 1))] := hl
  refine lv_iload_n hx hb dX1_take_0 rfl (lv_at hl 1 rfl) ?_
  refine z_iflt (tgt := 25) hx hb ⟨by omega, by omega⟩ dX1_take_1 (by decide) (fun c_1 => ?_) (fun c_1 => ?_)
  · exact absurd c_1 (by omega)
  · refine lv_iload_n hx hb dX1_take_4 rfl (lv_at hl 1 rfl) ?_
    refine lv_iconst (v := zI 2) hx hb dX1_take_5 rfl ?_
    refine z_icge (tgt := 25) hx hb ⟨by omega, by omega⟩ ⟨by omega, by omega⟩ dX1_take_6 (by decide) (fun c_6 => ?_) (fun c_6 => ?_)
    · exact absurd c_6 (by omega)
    · refine lv_aload_n hx hb dX1_take_9 rfl (lv_at hl 2 rfl) ?_
      refine lv_aload_n hx hb dX1_take_10 rfl (lv_at hl 0 rfl) ?_
      refine va_get (D := D) (ci := 1) (v := .ref (α 30)) (C := RX1) (T := TX1) (N := 4) hx hb hts (fun w h => List.mem_cons_of_mem _ (wx_X1 w h)) hown hK hP 9 rfl rfl 1 (by decide) (hW0 _ wf_X1_15) (fun _ h9 => h9) rfl dX1_take_11 ?_
      refine lv_iload_n hx hb dX1_take_14 rfl (lv_at hl 1 rfl) ?_
      refine z_callv hP hD hS hA (va_runV (As := [.ref (α 30), .int (zI k)]) (rest := []) hC (c_X6_writeTo__sl l D τ α γ h old ch rg ln sl pd ct sg od sv sl9 tk ct9 k (by first | assumption | rfl | omega) _) (cwV 2 hts (gV hB wl_X1_32 wn_X6_writeTo ws_X6_writeTo wi_X6 wc_X6_writeTo) rfl rfl rfl hd_X6_writeTo ⟨Nat.le_of_ble_eq_true rfl, Nat.le_of_ble_eq_true rfl⟩) (zp_V hK hP hD hS hA hG (ci := 6) (q0 := 1) rfl rfl rfl) rfl rfl hl.1 rfl (lv_room (Nat.le_of_ble_eq_true rfl)) dX1_take_15 ⟨Nat.le_of_ble_eq_true rfl, Nat.le_of_ble_eq_true rfl⟩) (fun w1 H locs hq9 hP hD hS => ?_)
      obtain ⟨s15_1, hv15_0, rfl⟩ := hq9
      have hP : va_P D vwCl (wH α γ (h, old, ch) rg ln sl pd ct sg od (sv, s15_1, tk, ct9)) H := hP
      have hD : va_D A (wH α γ (h, old, ch) rg ln sl pd ct sg od (sv, s15_1, tk, ct9)) := hD
      refine lv_aload_n hx hb dX1_take_18 rfl (lv_at hl 0 rfl) ?_
      refine va_get (D := D) (ci := 1) (v := .ref (α 31)) (C := RX1) (T := TX1) (N := 4) hx hb hts (fun w h => List.mem_cons_of_mem _ (wx_X1 w h)) hown hK hP 9 rfl rfl 2 (by decide) (hW0 _ wf_X1_18) (fun _ h9 => h9) rfl dX1_take_19 ?_
      refine lv_iload_n hx hb dX1_take_22 rfl (lv_at hl 1 rfl) ?_
      refine lv_iconst (v := zI 1) hx hb dX1_take_23 rfl ?_
      refine z_zast (f := tk) (v := true) hx hb hK hP hD hS 31 21 rfl rfl ⟨⟨by omega, by omega⟩, by decide⟩ dX1_take_24 (fun H locs hP hD hS => ?_)
      have hP : va_P D vwCl (wH α γ (h, old, ch) rg ln sl pd ct sg od (sv, s15_1, bu tk k true, ct9)) H := hP
      have hD : va_D A (wH α γ (h, old, ch) rg ln sl pd ct sg od (sv, s15_1, bu tk k true, ct9)) := hD
      exact z_vret hC hr hlk hQ hP hD hS ⟨s15_1, bu tk k true, (by first | assumption | rfl | omega), (by first | assumption | rfl | omega), rfl⟩ dX1_take_25

abbrev wz_X1_isTaken : List Cond := .code yX1_isTaken cX1_isTaken 2 (some .boolean) :: W0
abbrev rm_X1_isTaken : Room := { frames := 0, cells := 0, slots := 0, locals := 0 }
theorem hd_X1_isTaken : yX1_isTaken.cls = RX1 ∧ yX1_isTaken.cls ≠ "java/lang/invoke/MethodHandle" ∧ yX1_isTaken.cls ≠ "java/lang/invoke/VarHandle" ∧ (parseMethodDescriptor yX1_isTaken.desc).map (fun d => d.parameters.length) = some 1 := by decide +kernel
set_option maxHeartbeats 4000000 in
set_option maxRecDepth 100000 in
theorem c_X1_isTaken (l : Launch) (D : va_G) (τ : Nat → Nat) (α : Nat → Nat) (γ : Nat → ClassId) (rl : TRl) (rg : TRg) (ln : TLn) (sl : TSl) (pd : TPd) (ct : TCt) (sg : TSg) (od : TOd) (sv : IA) (sl9 : IA) (tk : BA) (ct9 : Int) (k : Int) (hk : 0 ≤ k ∧ k < 2) : cM l yX1_isTaken wz_X1_isTaken rm_X1_isTaken D τ (tyH γ) [.ref (α 9), .int (zI k)] (wH α γ rl rg ln sl pd ct sg od (sv, sl9, tk, ct9)) (zQi (fun r w => ∃ (v : Bool), (v = tk k) ∧ r = bI v ∧ wH α γ rl rg ln sl pd ct sg od (sv, sl9, tk, ct9) = w)) := by
  refine z_ofM (cc := cX1_isTaken) (maxL := 2) (ret := (some .boolean)) (by decide +kernel) rfl (Nat.le_of_ble_eq_true rfl) ?_
  intro pg e s m args below meth c hC hr hlk hnm hK hP A hD hG hA hS ls hl Q hQ
  have hx := hC.1
  have hb := hC.2.1
  have hml := hC.2.2.1
  have hown := hC.2.2.2.1
  have hts := hC.2.2.2.2
  have hB : ∀ w ∈ W0, w ∈ wz_X1_isTaken := fun _ h => List.mem_cons_of_mem _ h
  have hW0 : ∀ w ∈ W0, w.before args s = true := fun w h => hts w (hB w h)
  have hl : lv_has ls 2 [(0, .ref (α 9)), (1, .int (zI k))] := hl
  refine lv_iload_n hx hb dX1_isTaken_0 rfl (lv_at hl 1 rfl) ?_
  refine z_iflt (tgt := 22) hx hb ⟨by omega, by omega⟩ dX1_isTaken_1 (by decide) (fun c_1 => ?_) (fun c_1 => ?_)
  · exact absurd c_1 (by omega)
  · refine lv_iload_n hx hb dX1_isTaken_4 rfl (lv_at hl 1 rfl) ?_
    refine lv_iconst (v := zI 2) hx hb dX1_isTaken_5 rfl ?_
    refine z_icge (tgt := 22) hx hb ⟨by omega, by omega⟩ ⟨by omega, by omega⟩ dX1_isTaken_6 (by decide) (fun c_6 => ?_) (fun c_6 => ?_)
    · exact absurd c_6 (by omega)
    · refine lv_aload_n hx hb dX1_isTaken_9 rfl (lv_at hl 0 rfl) ?_
      refine va_get (D := D) (ci := 1) (v := .ref (α 31)) (C := RX1) (T := TX1) (N := 4) hx hb hts (fun w h => List.mem_cons_of_mem _ (wx_X1 w h)) hown hK hP 9 rfl rfl 2 (by decide) (hW0 _ wf_X1_18) (fun _ h9 => h9) rfl dX1_isTaken_10 ?_
      refine lv_iload_n hx hb dX1_isTaken_13 rfl (lv_at hl 1 rfl) ?_
      refine z_zald (f := tk) hx hb hK hP 31 21 rfl rfl ⟨⟨by omega, by omega⟩, by decide⟩ dX1_isTaken_14 ?_
      refine z_ifeqB (tgt := 22) hx hb dX1_isTaken_15 (by decide) (fun c_15 => ?_) (fun c_15 => ?_)
      · refine lv_iconst (v := zI 0) hx hb dX1_isTaken_22 rfl ?_
        refine W.eq (g2 := F0 m 23 ls [.int (bI false)]) rfl ?_
        exact z_zret hC hr hlk hQ hP hD hS ⟨false, (by exact c_15.symm), rfl, rfl⟩ dX1_isTaken_23
      · refine lv_iconst (v := zI 1) hx hb dX1_isTaken_18 rfl ?_
        refine lv_goto (tgt := 23) hx hb dX1_isTaken_19 (by decide) ?_
        refine W.eq (g2 := F0 m 23 ls [.int (bI true)]) rfl ?_
        exact z_zret hC hr hlk hQ hP hD hS ⟨true, (by exact c_15.symm), rfl, rfl⟩ dX1_isTaken_23

abbrev wz_X1_restore : List Cond := .code yX1_restore cX1_restore 3 none :: W0
abbrev rm_X1_restore : Room := { frames := 2, cells := 0, slots := 0, locals := 55 }
theorem hd_X1_restore : yX1_restore.cls = RX1 ∧ yX1_restore.cls ≠ "java/lang/invoke/MethodHandle" ∧ yX1_restore.cls ≠ "java/lang/invoke/VarHandle" ∧ (parseMethodDescriptor yX1_restore.desc).map (fun d => d.parameters.length) = some 2 := by decide +kernel
set_option maxHeartbeats 4000000 in
set_option maxRecDepth 100000 in
theorem c_X1_restore (l : Launch) (D : va_G) (τ : Nat → Nat) (α : Nat → Nat) (γ : Nat → ClassId) (h : IA) (old : IA) (ch : IA) (rg : TRg) (ln : TLn) (sl : TSl) (pd : TPd) (ct : TCt) (sg : TSg) (od : TOd) (sv : IA) (sl9 : IA) (tk : BA) (ct9 : Int) (k : Int) (hk : 0 ≤ k ∧ k < 2) (ht : tk k = true) : cM l yX1_restore wz_X1_restore rm_X1_restore D τ (tyH γ) [.ref (α 9), .int (zI k), .ref (α 1)] (wH α γ (h, old, ch) rg ln sl pd ct sg od (sv, sl9, tk, ct9)) (zQv (fun w => ∃ (h2 : IA), (h2 = zcpy sl9 h (49 * k) 0 49) ∧ wH α γ (h2, old, ch) rg ln sl pd ct sg od (sv, sl9, tk, ct9) = w)) := by
  refine z_ofM (cc := cX1_restore) (maxL := 3) (ret := none) (by decide +kernel) rfl (Nat.le_of_ble_eq_true rfl) ?_
  intro pg e s m args below meth c hC hr hlk hnm hK hP A hD hG hA hS ls hl Q hQ
  have hx := hC.1
  have hb := hC.2.1
  have hml := hC.2.2.1
  have hown := hC.2.2.2.1
  have hts := hC.2.2.2.2
  have hB : ∀ w ∈ W0, w ∈ wz_X1_restore := fun _ h => List.mem_cons_of_mem _ h
  have hW0 : ∀ w ∈ W0, w.before args s = true := fun w h => hts w (hB w h)
  have hl : lv_has ls 3 [(0, .ref (α 9)), (1, .int (zI k)), (2, .ref (α 1))] := hl
  refine lv_aload_n hx hb dX1_restore_0 rfl (lv_at hl 0 rfl) ?_
  refine lv_iload_n hx hb dX1_restore_1 rfl (lv_at hl 1 rfl) ?_
  refine z_calli hP hD hS hA (va_runV (As := [.int (zI k)]) (rest := []) hC (c_X1_isTaken l D τ α γ (h, old, ch) rg ln sl pd ct sg od sv sl9 tk ct9 k (by first | assumption | rfl | omega) _) (cwV 1 hts (gV hB wl_X1_41 wn_X1_isTaken ws_X1_isTaken wi_X1 wc_X1_isTaken) rfl rfl rfl hd_X1_isTaken ⟨Nat.le_of_ble_eq_true rfl, Nat.le_of_ble_eq_true rfl⟩) (zp_V hK hP hD hS hA hG (ci := 1) (q0 := 9) rfl rfl rfl) rfl rfl hl.1 rfl (lv_room (Nat.le_of_ble_eq_true rfl)) dX1_restore_2 ⟨Nat.le_of_ble_eq_true rfl, Nat.le_of_ble_eq_true rfl⟩) (fun r w1 H locs hq9 hP hD hS => ?_)
  obtain ⟨v2_1, hv2_0, rfl, rfl⟩ := hq9
  have hP : va_P D vwCl (wH α γ (h, old, ch) rg ln sl pd ct sg od (sv, sl9, tk, ct9)) H := hP
  have hD : va_D A (wH α γ (h, old, ch) rg ln sl pd ct sg od (sv, sl9, tk, ct9)) := hD
  refine z_ifeqB (tgt := 17) hx hb dX1_restore_5 (by decide) (fun c_5 => ?_) (fun c_5 => ?_)
  · exact absurd (hv2_0.symm.trans c_5) (by rw [ht]; decide)
  · refine lv_aload_n hx hb dX1_restore_8 rfl (lv_at hl 2 rfl) ?_
    refine lv_aload_n hx hb dX1_restore_9 rfl (lv_at hl 0 rfl) ?_
    refine va_get (D := D) (ci := 1) (v := .ref (α 30)) (C := RX1) (T := TX1) (N := 4) hx hb hts (fun w h => List.mem_cons_of_mem _ (wx_X1 w h)) hown hK hP 9 rfl rfl 1 (by decide) (hW0 _ wf_X1_15) (fun _ h9 => h9) rfl dX1_restore_10 ?_
    refine lv_iload_n hx hb dX1_restore_13 rfl (lv_at hl 1 rfl) ?_
    refine z_callv hP hD hS hA (va_runV (As := [.ref (α 30), .int (zI k)]) (rest := []) hC (c_X6_readFrom__sl l D τ α γ h old ch rg ln sl pd ct sg od sv sl9 tk ct9 k (by first | assumption | rfl | omega) _) (cwV 2 hts (gV hB wl_X1_38 wn_X6_readFrom ws_X6_readFrom wi_X6 wc_X6_readFrom) rfl rfl rfl hd_X6_readFrom ⟨Nat.le_of_ble_eq_true rfl, Nat.le_of_ble_eq_true rfl⟩) (zp_V hK hP hD hS hA hG (ci := 6) (q0 := 1) rfl rfl rfl) rfl rfl hl.1 rfl (lv_room (Nat.le_of_ble_eq_true rfl)) dX1_restore_14 ⟨Nat.le_of_ble_eq_true rfl, Nat.le_of_ble_eq_true rfl⟩) (fun w1 H locs hq9 hP hD hS => ?_)
    obtain ⟨h14_2, hv14_0, rfl⟩ := hq9
    have hP : va_P D vwCl (wH α γ (h14_2, old, ch) rg ln sl pd ct sg od (sv, sl9, tk, ct9)) H := hP
    have hD : va_D A (wH α γ (h14_2, old, ch) rg ln sl pd ct sg od (sv, sl9, tk, ct9)) := hD
    exact z_vret hC hr hlk hQ hP hD hS ⟨h14_2, (by first | assumption | rfl | omega), rfl⟩ dX1_restore_17

