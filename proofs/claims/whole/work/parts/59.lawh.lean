abbrev wz_L_set : List Cond := .codeWith yL_set cL_set 6 (some .int) [(0, 12, 15, 13), (0, 12, 19, 15)] :: W0
abbrev rm_L_set : Room := { frames := 8, cells := 2, slots := 12, locals := 137 }
theorem hd_L_set : yL_set.cls = RL ∧ yL_set.cls ≠ "java/lang/invoke/MethodHandle" ∧ yL_set.cls ≠ "java/lang/invoke/VarHandle" ∧ (parseMethodDescriptor yL_set.desc).map (fun d => d.parameters.length) = some 5 := by decide +kernel
set_option maxHeartbeats 4000000 in
set_option maxRecDepth 100000 in
theorem c_L_set (l : Launch) (D : va_G) (τ : Nat → Nat) (α : Nat → Nat) (γ : Nat → ClassId) (h : IA) (old : IA) (ch : IA) (rg : TRg) (ln : TLn) (sl : TSl) (pd : TPd) (ct : TCt) (sg : TSg) (od : TOd) (sv : IA) (sl9 : IA) (tk : BA) (ct9 : Int) (r9 : Int) (c9 : Int) (g9 : Int) (hr9 : -2147483648 ≤ r9 ∧ r9 < 2147483648) (hc9 : -2147483648 ≤ c9 ∧ c9 < 2147483648) (hg9 : -2147483648 ≤ g9 ∧ g9 < 2147483648) (hh : ∀ k, 0 ≤ k → k < 49 → 0 ≤ h k ∧ h k ≤ 99) (hct : 0 ≤ ct9 ∧ ct9 ≤ 6) (hst : l.stackTraces = false) (cL : ClassId) (o : Nat) (fo : Nat → Int64) : cMX l yL_set wz_L_set rm_L_set D τ ((cL, .long) :: tyH γ) [.ref (α 0), .int (zI r9), .int (zI c9), .int (zI g9), .ref o] (oC cL o fo ++ wH α γ (h, old, ch) rg ln sl pd ct sg od (sv, sl9, tk, ct9)) (zQi (fun r w => (∃ (h2 : IA), ∃ (s2 : IA), ∃ (c2 : Int), ∃ (v : Int), ∃ (go : Nat → Int64), (S_tset r9 c9 g9 = 0) ∧ (v = h (7 * r9 + c9)) ∧ (h2 = zu h (7 * r9 + c9) g9) ∧ (s2 = S_sv sv h ct9) ∧ (c2 = S_svC ct9) ∧ go 0 = (zI v).toInt64 ∧ r = zI 0 ∧ oC cL o go ++ wH α γ (h2, old, ch) rg ln sl pd ct sg od (s2, sl9, tk, c2) = w) ∨ ((S_tset r9 c9 g9 = 1) ∧ r = zI 1 ∧ oC cL o fo ++ wH α γ (h, old, ch) rg ln sl pd ct sg od (sv, sl9, tk, ct9) = w) ∨ ((S_tset r9 c9 g9 = 2) ∧ r = zI 2 ∧ oC cL o fo ++ wH α γ (h, old, ch) rg ln sl pd ct sg od (sv, sl9, tk, ct9) = w))) := by
  refine z_ofL (cc := cL_set) (maxL := 6) (ret := (some .int)) (tb := [(0, 12, 15, 13), (0, 12, 19, 15)]) (by decide +kernel) rfl (Nat.le_of_ble_eq_true rfl) ?_
  intro pg e s m args below meth c hC hr hlk hT hK hP A hD hG hA hS hGX ls hl Q hQ
  have hx := hC.1
  have hb := hC.2.1
  have hml := hC.2.2.1
  have hown := hC.2.2.2.1
  have hts := hC.2.2.2.2
  have hB : ∀ w ∈ W0, w ∈ wz_L_set := fun _ h => List.mem_cons_of_mem _ h
  have hW0 : ∀ w ∈ W0, w.before args s = true := fun w h => hts w (hB w h)
  have hl : lv_has ls 6 [(0, .ref (α 0)), (1, .int (zI r9)), (2, .int (zI c9)), (3, .int (zI g9)), (4, .ref o)] := hl
  refine lv_aload hx hb dL_set_0 (lv_at hl 4 rfl) ?_
  refine lv_iconst (v := zI 0) hx hb dL_set_2 rfl ?_
  refine lv_aload_n hx hb dL_set_3 rfl (lv_at hl 0 rfl) ?_
  refine lv_iload_n hx hb dL_set_4 rfl (lv_at hl 1 rfl) ?_
  refine lv_iload_n hx hb dL_set_5 rfl (lv_at hl 2 rfl) ?_
  refine lv_iload_n hx hb dL_set_6 rfl (lv_at hl 3 rfl) ?_
  have hPc : va_P D vwCl (wH α γ (h, old, ch) rg ln sl pd ct sg od (sv, sl9, tk, ct9)) s.heap := zPc hP
  have hDc := zDc hD
  have hKc := hK.sub (tys' := tyH γ) [1, 2, 3, 4, 5, 6, 7, 8, 9, 10, 11, 12, 13, 14, 15, 16, 17, 18, 19, 20, 21, 22] rfl
  refine zfx_calli (wr := oC cL o fo) hP hD hS hA (vx_runV (As := [.int (zI r9), .int (zI c9), .int (zI g9)]) (rest := [.int (zI 0), .ref o]) hC (c_X9_set l D τ α γ h old ch rg ln sl pd ct sg od sv sl9 tk ct9 r9 c9 g9 hr9 hc9 hg9 hh hct hst _) (cwV 3 hts (gV hB wl_L_7 wn_X9_set ws_X9_set wi_X9 wc_X9_set) rfl rfl rfl hd_X9_set ⟨Nat.le_of_ble_eq_true rfl, Nat.le_of_ble_eq_true rfl⟩) (zpX_V hKc hPc hDc hS hA hG hGX (ci := 9) (q0 := 0) rfl rfl rfl) rfl rfl hl.1 rfl (lv_room (Nat.le_of_ble_eq_true rfl)) dL_set_7 ⟨Nat.le_of_ble_eq_true rfl, Nat.le_of_ble_eq_true rfl⟩) (fun E w1 H locs ce q9 hq9 hP hD hS hce hcv hcl => ?_) (fun r w1 H locs hq9 hP hD hS => ?_)
  · rcases hq9 with hq9 | hq9
    · skip
      obtain ⟨rfl, hx9, rfl⟩ := hq9
      refine vx_catch hown [] ⟨0, 12, 15, 13⟩ [⟨0, 12, 19, 15⟩] hT (fun z hz => nomatch hz) (by decide) (by decide) (hW0 _ wk_L_13) (va_Nw.use rfl (hGX.2.1 "java/lang/IndexOutOfBoundsException" (by decide +kernel))) hce hcv hcl ?_
      refine lv_astore (lv' := [(5, .ref q9), (0, .ref (α 0)), (1, .int (zI r9)), (2, .int (zI c9)), (3, .int (zI g9)), (4, .ref o)]) hx hb dL_set_15 hl (by decide) rfl (fun ls hl => ?_)
      refine lv_iconst (v := zI 1) hx hb dL_set_17 rfl ?_
      exact z_iret hC hr hlk hQ hP hD hS (Or.inr (Or.inl ⟨hx9, rfl, rfl⟩)) dL_set_18
    · skip
      obtain ⟨rfl, hx9, rfl⟩ := hq9
      refine vx_catch hown [⟨0, 12, 15, 13⟩] ⟨0, 12, 19, 15⟩ [] hT (fun z hz => by cases List.mem_singleton.mp hz; exact Or.inr ⟨by decide, "java/lang/IndexOutOfBoundsException", (hW0 _ wk_L_13), hGX.2.2 ("java/lang/IllegalArgumentException", "java/lang/IndexOutOfBoundsException") (by decide +kernel)⟩) (by decide) (by decide) (hW0 _ wk_L_15) (va_Nw.use rfl (hGX.2.1 "java/lang/IllegalArgumentException" (by decide +kernel))) hce hcv hcl ?_
      refine lv_astore (lv' := [(5, .ref q9), (0, .ref (α 0)), (1, .int (zI r9)), (2, .int (zI c9)), (3, .int (zI g9)), (4, .ref o)]) hx hb dL_set_19 hl (by decide) rfl (fun ls hl => ?_)
      refine lv_iconst (v := zI 2) hx hb dL_set_21 rfl ?_
      exact z_iret hC hr hlk hQ hP hD hS (Or.inr (Or.inr ⟨hx9, rfl, rfl⟩)) dL_set_22
  · skip
    obtain ⟨h2y, s2y, c2y, vy, hf0, hf1, hf2, hf3, hf4, rfl, rfl⟩ := hq9
    refine lv_i2l (v := (zI vy).toInt64) hx hb dL_set_10 rfl ?_
    refine zo_last hx hb hK hP hD hS dL_set_11 (fun H locs go hgo hP hD hS => ?_)
    refine lv_goto (tgt := 23) hx hb dL_set_12 (by decide) ?_
    refine lv_iconst (v := zI 0) hx hb dL_set_23 rfl ?_
    exact z_iret hC hr hlk hQ hP hD hS (Or.inl ⟨h2y, s2y, c2y, vy, go, hf0, hf1, hf2, hf3, hf4, hgo, rfl, rfl⟩) dL_set_24

abbrev wz_L_heap : List Cond := .codeWith yL_heap cL_heap 6 (some .int) [(0, 12, 15, 13), (0, 12, 19, 15)] :: W0
abbrev rm_L_heap : Room := { frames := 8, cells := 2, slots := 12, locals := 136 }
theorem hd_L_heap : yL_heap.cls = RL ∧ yL_heap.cls ≠ "java/lang/invoke/MethodHandle" ∧ yL_heap.cls ≠ "java/lang/invoke/VarHandle" ∧ (parseMethodDescriptor yL_heap.desc).map (fun d => d.parameters.length) = some 5 := by decide +kernel
set_option maxHeartbeats 4000000 in
set_option maxRecDepth 100000 in
theorem c_L_heap (l : Launch) (D : va_G) (τ : Nat → Nat) (α : Nat → Nat) (γ : Nat → ClassId) (h : IA) (old : IA) (ch : IA) (rg : TRg) (ln : TLn) (sl : TSl) (pd : TPd) (ct : TCt) (sg : TSg) (od : TOd) (sv : IA) (sl9 : IA) (tk : BA) (ct9 : Int) (r9 : Int) (c9 : Int) (a : Int) (hr9 : -2147483648 ≤ r9 ∧ r9 < 2147483648) (hc9 : -2147483648 ≤ c9 ∧ c9 < 2147483648) (ham : -2147483648 ≤ a ∧ a < 2147483648) (hh : ∀ k, 0 ≤ k → k < 49 → 0 ≤ h k ∧ h k ≤ 99) (hct : 0 ≤ ct9 ∧ ct9 ≤ 6) (hst : l.stackTraces = false) (cL : ClassId) (o : Nat) (fo : Nat → Int64) : cMX l yL_heap wz_L_heap rm_L_heap D τ ((cL, .long) :: tyH γ) [.ref (α 0), .int (zI r9), .int (zI c9), .int (zI a), .ref o] (oC cL o fo ++ wH α γ (h, old, ch) rg ln sl pd ct sg od (sv, sl9, tk, ct9)) (zQi (fun r w => (∃ (h2 : IA), ∃ (o2 : IA), ∃ (s2 : IA), ∃ (c2 : Int), ∃ (v : Int), ∃ (go : Nat → Int64), (S_theap r9 c9 a = 0) ∧ (v = S_diff (S_heap h (7 * r9 + c9) a) h) ∧ (h2 = S_heap h (7 * r9 + c9) a) ∧ (s2 = S_sv sv h ct9) ∧ (c2 = S_svC ct9) ∧ go 0 = (zI v).toInt64 ∧ r = zI 0 ∧ oC cL o go ++ wH α γ (h2, o2, ch) rg ln sl pd ct sg od (s2, sl9, tk, c2) = w) ∨ ((S_theap r9 c9 a = 1) ∧ r = zI 1 ∧ oC cL o fo ++ wH α γ (h, old, ch) rg ln sl pd ct sg od (sv, sl9, tk, ct9) = w) ∨ ((S_theap r9 c9 a = 2) ∧ r = zI 2 ∧ oC cL o fo ++ wH α γ (h, old, ch) rg ln sl pd ct sg od (sv, sl9, tk, ct9) = w))) := by
  refine z_ofL (cc := cL_heap) (maxL := 6) (ret := (some .int)) (tb := [(0, 12, 15, 13), (0, 12, 19, 15)]) (by decide +kernel) rfl (Nat.le_of_ble_eq_true rfl) ?_
  intro pg e s m args below meth c hC hr hlk hT hK hP A hD hG hA hS hGX ls hl Q hQ
  have hx := hC.1
  have hb := hC.2.1
  have hml := hC.2.2.1
  have hown := hC.2.2.2.1
  have hts := hC.2.2.2.2
  have hB : ∀ w ∈ W0, w ∈ wz_L_heap := fun _ h => List.mem_cons_of_mem _ h
  have hW0 : ∀ w ∈ W0, w.before args s = true := fun w h => hts w (hB w h)
  have hl : lv_has ls 6 [(0, .ref (α 0)), (1, .int (zI r9)), (2, .int (zI c9)), (3, .int (zI a)), (4, .ref o)] := hl
  refine lv_aload hx hb dL_heap_0 (lv_at hl 4 rfl) ?_
  refine lv_iconst (v := zI 0) hx hb dL_heap_2 rfl ?_
  refine lv_aload_n hx hb dL_heap_3 rfl (lv_at hl 0 rfl) ?_
  refine lv_iload_n hx hb dL_heap_4 rfl (lv_at hl 1 rfl) ?_
  refine lv_iload_n hx hb dL_heap_5 rfl (lv_at hl 2 rfl) ?_
  refine lv_iload_n hx hb dL_heap_6 rfl (lv_at hl 3 rfl) ?_
  have hPc : va_P D vwCl (wH α γ (h, old, ch) rg ln sl pd ct sg od (sv, sl9, tk, ct9)) s.heap := zPc hP
  have hDc := zDc hD
  have hKc := hK.sub (tys' := tyH γ) [1, 2, 3, 4, 5, 6, 7, 8, 9, 10, 11, 12, 13, 14, 15, 16, 17, 18, 19, 20, 21, 22] rfl
  refine zfx_calli (wr := oC cL o fo) hP hD hS hA (vx_runV (As := [.int (zI r9), .int (zI c9), .int (zI a)]) (rest := [.int (zI 0), .ref o]) hC (c_X9_heap l D τ α γ h old ch rg ln sl pd ct sg od sv sl9 tk ct9 r9 c9 a hr9 hc9 ham hh hct hst _) (cwV 3 hts (gV hB wl_L_17 wn_X9_heap ws_X9_heap wi_X9 wc_X9_heap) rfl rfl rfl hd_X9_heap ⟨Nat.le_of_ble_eq_true rfl, Nat.le_of_ble_eq_true rfl⟩) (zpX_V hKc hPc hDc hS hA hG hGX (ci := 9) (q0 := 0) rfl rfl rfl) rfl rfl hl.1 rfl (lv_room (Nat.le_of_ble_eq_true rfl)) dL_heap_7 ⟨Nat.le_of_ble_eq_true rfl, Nat.le_of_ble_eq_true rfl⟩) (fun E w1 H locs ce q9 hq9 hP hD hS hce hcv hcl => ?_) (fun r w1 H locs hq9 hP hD hS => ?_)
  · rcases hq9 with hq9 | hq9
    · skip
      obtain ⟨rfl, hx9, rfl⟩ := hq9
      refine vx_catch hown [] ⟨0, 12, 15, 13⟩ [⟨0, 12, 19, 15⟩] hT (fun z hz => nomatch hz) (by decide) (by decide) (hW0 _ wk_L_13) (va_Nw.use rfl (hGX.2.1 "java/lang/IndexOutOfBoundsException" (by decide +kernel))) hce hcv hcl ?_
      refine lv_astore (lv' := [(5, .ref q9), (0, .ref (α 0)), (1, .int (zI r9)), (2, .int (zI c9)), (3, .int (zI a)), (4, .ref o)]) hx hb dL_heap_15 hl (by decide) rfl (fun ls hl => ?_)
      refine lv_iconst (v := zI 1) hx hb dL_heap_17 rfl ?_
      exact z_iret hC hr hlk hQ hP hD hS (Or.inr (Or.inl ⟨hx9, rfl, rfl⟩)) dL_heap_18
    · skip
      obtain ⟨rfl, hx9, rfl⟩ := hq9
      refine vx_catch hown [⟨0, 12, 15, 13⟩] ⟨0, 12, 19, 15⟩ [] hT (fun z hz => by cases List.mem_singleton.mp hz; exact Or.inr ⟨by decide, "java/lang/IndexOutOfBoundsException", (hW0 _ wk_L_13), hGX.2.2 ("java/lang/IllegalArgumentException", "java/lang/IndexOutOfBoundsException") (by decide +kernel)⟩) (by decide) (by decide) (hW0 _ wk_L_15) (va_Nw.use rfl (hGX.2.1 "java/lang/IllegalArgumentException" (by decide +kernel))) hce hcv hcl ?_
      refine lv_astore (lv' := [(5, .ref q9), (0, .ref (α 0)), (1, .int (zI r9)), (2, .int (zI c9)), (3, .int (zI a)), (4, .ref o)]) hx hb dL_heap_19 hl (by decide) rfl (fun ls hl => ?_)
      refine lv_iconst (v := zI 2) hx hb dL_heap_21 rfl ?_
      exact z_iret hC hr hlk hQ hP hD hS (Or.inr (Or.inr ⟨hx9, rfl, rfl⟩)) dL_heap_22
  · skip
    obtain ⟨h2y, o2y, s2y, c2y, vy, hf0, hf1, hf2, hf3, hf4, rfl, rfl⟩ := hq9
    refine lv_i2l (v := (zI vy).toInt64) hx hb dL_heap_10 rfl ?_
    refine zo_last hx hb hK hP hD hS dL_heap_11 (fun H locs go hgo hP hD hS => ?_)
    refine lv_goto (tgt := 23) hx hb dL_heap_12 (by decide) ?_
    refine lv_iconst (v := zI 0) hx hb dL_heap_23 rfl ?_
    exact z_iret hC hr hlk hQ hP hD hS (Or.inl ⟨h2y, o2y, s2y, c2y, vy, go, hf0, hf1, hf2, hf3, hf4, hgo, rfl, rfl⟩) dL_heap_24

abbrev wz_L_wash : List Cond := .codeWith yL_wash cL_wash 4 (some .int) [(0, 9, 12, 15)] :: W0
abbrev rm_L_wash : Room := { frames := 7, cells := 1, slots := 6, locals := 113 }
theorem hd_L_wash : yL_wash.cls = RL ∧ yL_wash.cls ≠ "java/lang/invoke/MethodHandle" ∧ yL_wash.cls ≠ "java/lang/invoke/VarHandle" ∧ (parseMethodDescriptor yL_wash.desc).map (fun d => d.parameters.length) = some 3 := by decide +kernel
set_option maxHeartbeats 4000000 in
set_option maxRecDepth 100000 in
theorem c_L_wash (l : Launch) (D : va_G) (τ : Nat → Nat) (α : Nat → Nat) (γ : Nat → ClassId) (h : IA) (old : IA) (ch : IA) (rg : TRg) (ln : TLn) (nx : IA) (dr : IA) (qu : IA) (pd : TPd) (ct : TCt) (sg : TSg) (od : TOd) (sv : IA) (sl9 : IA) (tk : BA) (ct9 : Int) (n9 : Int) (hn9 : -2147483648 ≤ n9 ∧ n9 < 2147483648) (hh : ∀ k, 0 ≤ k → k < 49 → 0 ≤ h k ∧ h k ≤ 99) (hct : 0 ≤ ct9 ∧ ct9 ≤ 6) (hst : l.stackTraces = false) (cL : ClassId) (o : Nat) (fo : Nat → Int64) : cMX l yL_wash wz_L_wash rm_L_wash D τ ((cL, .long) :: tyH γ) [.ref (α 0), .int (zI n9), .ref o] (oC cL o fo ++ wH α γ (h, old, ch) rg ln (nx, dr, qu) pd ct sg od (sv, sl9, tk, ct9)) (zQi (fun r w => (∃ (h2 : IA), ∃ (ch2 : IA), ∃ (s2 : IA), ∃ (c2 : Int), ∃ (n2 : IA), ∃ (d2 : IA), ∃ (v : Int), ∃ (go : Nat → Int64), (S_twash n9 = 0) ∧ (v = S_given h n9) ∧ (h2 = S_wash h n9) ∧ (s2 = S_sv sv h ct9) ∧ (c2 = S_svC ct9) ∧ go 0 = (zI v).toInt64 ∧ r = zI 0 ∧ oC cL o go ++ wH α γ (h2, old, ch2) rg ln (n2, d2, qu) pd ct sg od (s2, sl9, tk, c2) = w) ∨ ((S_twash n9 = 1) ∧ r = zI 1 ∧ oC cL o fo ++ wH α γ (h, old, ch) rg ln (nx, dr, qu) pd ct sg od (sv, sl9, tk, ct9) = w))) := by
  refine z_ofL (cc := cL_wash) (maxL := 4) (ret := (some .int)) (tb := [(0, 9, 12, 15)]) (by decide +kernel) rfl (Nat.le_of_ble_eq_true rfl) ?_
  intro pg e s m args below meth c hC hr hlk hT hK hP A hD hG hA hS hGX ls hl Q hQ
  have hx := hC.1
  have hb := hC.2.1
  have hml := hC.2.2.1
  have hown := hC.2.2.2.1
  have hts := hC.2.2.2.2
  have hB : ∀ w ∈ W0, w ∈ wz_L_wash := fun _ h => List.mem_cons_of_mem _ h
  have hW0 : ∀ w ∈ W0, w.before args s = true := fun w h => hts w (hB w h)
  have hl : lv_has ls 4 [(0, .ref (α 0)), (1, .int (zI n9)), (2, .ref o)] := hl
  refine lv_aload_n hx hb dL_wash_0 rfl (lv_at hl 2 rfl) ?_
  refine lv_iconst (v := zI 0) hx hb dL_wash_1 rfl ?_
  refine lv_aload_n hx hb dL_wash_2 rfl (lv_at hl 0 rfl) ?_
  refine lv_iload_n hx hb dL_wash_3 rfl (lv_at hl 1 rfl) ?_
  have hPc : va_P D vwCl (wH α γ (h, old, ch) rg ln (nx, dr, qu) pd ct sg od (sv, sl9, tk, ct9)) s.heap := zPc hP
  have hDc := zDc hD
  have hKc := hK.sub (tys' := tyH γ) [1, 2, 3, 4, 5, 6, 7, 8, 9, 10, 11, 12, 13, 14, 15, 16, 17, 18, 19, 20, 21, 22] rfl
  refine zfx_calli (wr := oC cL o fo) hP hD hS hA (vx_runV (As := [.int (zI n9)]) (rest := [.int (zI 0), .ref o]) hC (c_X9_wash l D τ α γ h old ch rg ln nx dr qu pd ct sg od sv sl9 tk ct9 n9 hn9 hh hct hst _) (cwV 1 hts (gV hB wl_L_20 wn_X9_wash ws_X9_wash wi_X9 wc_X9_wash) rfl rfl rfl hd_X9_wash ⟨Nat.le_of_ble_eq_true rfl, Nat.le_of_ble_eq_true rfl⟩) (zpX_V hKc hPc hDc hS hA hG hGX (ci := 9) (q0 := 0) rfl rfl rfl) rfl rfl hl.1 rfl (lv_room (Nat.le_of_ble_eq_true rfl)) dL_wash_4 ⟨Nat.le_of_ble_eq_true rfl, Nat.le_of_ble_eq_true rfl⟩) (fun E w1 H locs ce q9 hq9 hP hD hS hce hcv hcl => ?_) (fun r w1 H locs hq9 hP hD hS => ?_)
  · skip
    obtain ⟨rfl, hx9, rfl⟩ := hq9
    refine vx_catch hown [] ⟨0, 9, 12, 15⟩ [] hT (fun z hz => nomatch hz) (by decide) (by decide) (hW0 _ wk_L_15) (va_Nw.use rfl (hGX.2.1 "java/lang/IllegalArgumentException" (by decide +kernel))) hce hcv hcl ?_
    refine lv_astore_n (lv' := [(3, .ref q9), (0, .ref (α 0)), (1, .int (zI n9)), (2, .ref o)]) hx hb dL_wash_12 rfl hl (by decide) rfl (fun ls hl => ?_)
    refine lv_iconst (v := zI 1) hx hb dL_wash_13 rfl ?_
    exact z_iret hC hr hlk hQ hP hD hS (Or.inr ⟨hx9, rfl, rfl⟩) dL_wash_14
  · skip
    obtain ⟨h2y, ch2y, s2y, c2y, n2y, d2y, vy, hf0, hf1, hf2, hf3, hf4, rfl, rfl⟩ := hq9
    refine lv_i2l (v := (zI vy).toInt64) hx hb dL_wash_7 rfl ?_
    refine zo_last hx hb hK hP hD hS dL_wash_8 (fun H locs go hgo hP hD hS => ?_)
    refine lv_goto (tgt := 15) hx hb dL_wash_9 (by decide) ?_
    refine lv_iconst (v := zI 0) hx hb dL_wash_15 rfl ?_
    exact z_iret hC hr hlk hQ hP hD hS (Or.inl ⟨h2y, ch2y, s2y, c2y, n2y, d2y, vy, go, hf0, hf1, hf2, hf3, hf4, hgo, rfl, rfl⟩) dL_wash_16

abbrev wz_L_append : List Cond := .codeWith yL_append cL_append 4 (some .int) [(0, 9, 12, 15), (0, 9, 15, 27)] :: W0
abbrev rm_L_append : Room := { frames := 7, cells := 1, slots := 6, locals := 111 }
theorem hd_L_append : yL_append.cls = RL ∧ yL_append.cls ≠ "java/lang/invoke/MethodHandle" ∧ yL_append.cls ≠ "java/lang/invoke/VarHandle" ∧ (parseMethodDescriptor yL_append.desc).map (fun d => d.parameters.length) = some 3 := by decide +kernel
set_option maxHeartbeats 4000000 in
set_option maxRecDepth 100000 in
theorem c_L_append (l : Launch) (D : va_G) (τ : Nat → Nat) (α : Nat → Nat) (γ : Nat → ClassId) (rl : TRl) (rg : TRg) (ln : TLn) (sl : TSl) (pd : TPd) (ct : TCt) (sg : TSg) (cd : IA) (ln9 : Int) (pl : Int) (le : Int) (ro : Int) (co : Int) (nu : Int) (hs : THs) (a : Int) (ha : -2147483648 ≤ a ∧ a < 2147483648) (hln : 0 ≤ ln9 ∧ ln9 ≤ 60) (hst : l.stackTraces = false) (cL : ClassId) (o : Nat) (fo : Nat → Int64) : cMX l yL_append wz_L_append rm_L_append D τ ((cL, .long) :: tyH γ) [.ref (α 0), .int (zI a), .ref o] (oC cL o fo ++ wH α γ rl rg ln sl pd ct sg (cd, ln9, pl, le, ro, co, nu) hs) (zQi (fun r w => (∃ (f2 : IA), ∃ (n2 : Int), ∃ (v : Int), ∃ (go : Nat → Int64), (S_tapp a ln9 = 0) ∧ (v = ln9 + 1) ∧ (f2 = zu cd ln9 a) ∧ (n2 = ln9 + 1) ∧ go 0 = (zI v).toInt64 ∧ r = zI 0 ∧ oC cL o go ++ wH α γ rl rg ln sl pd ct sg (f2, n2, pl, le, ro, co, nu) hs = w) ∨ ((S_tapp a ln9 = 1) ∧ r = zI 1 ∧ oC cL o fo ++ wH α γ rl rg ln sl pd ct sg (cd, ln9, pl, le, ro, co, nu) hs = w) ∨ ((S_tapp a ln9 = 2) ∧ r = zI 2 ∧ oC cL o fo ++ wH α γ rl rg ln sl pd ct sg (cd, ln9, pl, le, ro, co, nu) hs = w))) := by
  refine z_ofL (cc := cL_append) (maxL := 4) (ret := (some .int)) (tb := [(0, 9, 12, 15), (0, 9, 15, 27)]) (by decide +kernel) rfl (Nat.le_of_ble_eq_true rfl) ?_
  intro pg e s m args below meth c hC hr hlk hT hK hP A hD hG hA hS hGX ls hl Q hQ
  have hx := hC.1
  have hb := hC.2.1
  have hml := hC.2.2.1
  have hown := hC.2.2.2.1
  have hts := hC.2.2.2.2
  have hB : ∀ w ∈ W0, w ∈ wz_L_append := fun _ h => List.mem_cons_of_mem _ h
  have hW0 : ∀ w ∈ W0, w.before args s = true := fun w h => hts w (hB w h)
  have hl : lv_has ls 4 [(0, .ref (α 0)), (1, .int (zI a)), (2, .ref o)] := hl
  refine lv_aload_n hx hb dL_append_0 rfl (lv_at hl 2 rfl) ?_
  refine lv_iconst (v := zI 0) hx hb dL_append_1 rfl ?_
  refine lv_aload_n hx hb dL_append_2 rfl (lv_at hl 0 rfl) ?_
  refine lv_iload_n hx hb dL_append_3 rfl (lv_at hl 1 rfl) ?_
  have hPc : va_P D vwCl (wH α γ rl rg ln sl pd ct sg (cd, ln9, pl, le, ro, co, nu) hs) s.heap := zPc hP
  have hDc := zDc hD
  have hKc := hK.sub (tys' := tyH γ) [1, 2, 3, 4, 5, 6, 7, 8, 9, 10, 11, 12, 13, 14, 15, 16, 17, 18, 19, 20, 21, 22] rfl
  refine zfx_calli (wr := oC cL o fo) hP hD hS hA (vx_runV (As := [.int (zI a)]) (rest := [.int (zI 0), .ref o]) hC (c_X9_append l D τ α γ rl rg ln sl pd ct sg cd ln9 pl le ro co nu hs a ha hln hst _) (cwV 1 hts (gV hB wl_L_24 wn_X9_append ws_X9_append wi_X9 wc_X9_append) rfl rfl rfl hd_X9_append ⟨Nat.le_of_ble_eq_true rfl, Nat.le_of_ble_eq_true rfl⟩) (zpX_V hKc hPc hDc hS hA hG hGX (ci := 9) (q0 := 0) rfl rfl rfl) rfl rfl hl.1 rfl (lv_room (Nat.le_of_ble_eq_true rfl)) dL_append_4 ⟨Nat.le_of_ble_eq_true rfl, Nat.le_of_ble_eq_true rfl⟩) (fun E w1 H locs ce q9 hq9 hP hD hS hce hcv hcl => ?_) (fun r w1 H locs hq9 hP hD hS => ?_)
  · rcases hq9 with hq9 | hq9
    · skip
      obtain ⟨rfl, hx9, rfl⟩ := hq9
      refine vx_catch hown [] ⟨0, 9, 12, 15⟩ [⟨0, 9, 15, 27⟩] hT (fun z hz => nomatch hz) (by decide) (by decide) (hW0 _ wk_L_15) (va_Nw.use rfl (hGX.2.1 "java/lang/IllegalArgumentException" (by decide +kernel))) hce hcv hcl ?_
      refine lv_astore_n (lv' := [(3, .ref q9), (0, .ref (α 0)), (1, .int (zI a)), (2, .ref o)]) hx hb dL_append_12 rfl hl (by decide) rfl (fun ls hl => ?_)
      refine lv_iconst (v := zI 1) hx hb dL_append_13 rfl ?_
      exact z_iret hC hr hlk hQ hP hD hS (Or.inr (Or.inl ⟨hx9, rfl, rfl⟩)) dL_append_14
    · skip
      obtain ⟨rfl, hx9, rfl⟩ := hq9
      refine vx_catch hown [⟨0, 9, 12, 15⟩] ⟨0, 9, 15, 27⟩ [] hT (fun z hz => by cases List.mem_singleton.mp hz; exact Or.inr ⟨by decide, "java/lang/IllegalArgumentException", (hW0 _ wk_L_15), hGX.2.2 ("java/lang/IllegalStateException", "java/lang/IllegalArgumentException") (by decide +kernel)⟩) (by decide) (by decide) (hW0 _ wk_L_27) (va_Nw.use rfl (hGX.2.1 "java/lang/IllegalStateException" (by decide +kernel))) hce hcv hcl ?_
      refine lv_astore_n (lv' := [(3, .ref q9), (0, .ref (α 0)), (1, .int (zI a)), (2, .ref o)]) hx hb dL_append_15 rfl hl (by decide) rfl (fun ls hl => ?_)
      refine lv_iconst (v := zI 2) hx hb dL_append_16 rfl ?_
      exact z_iret hC hr hlk hQ hP hD hS (Or.inr (Or.inr ⟨hx9, rfl, rfl⟩)) dL_append_17
  · skip
    obtain ⟨f2y, n2y, vy, hf0, hf1, hf2, hf3, rfl, rfl⟩ := hq9
    refine lv_i2l (v := (zI vy).toInt64) hx hb dL_append_7 rfl ?_
    refine zo_last hx hb hK hP hD hS dL_append_8 (fun H locs go hgo hP hD hS => ?_)
    refine lv_goto (tgt := 18) hx hb dL_append_9 (by decide) ?_
    refine lv_iconst (v := zI 0) hx hb dL_append_18 rfl ?_
    exact z_iret hC hr hlk hQ hP hD hS (Or.inl ⟨f2y, n2y, vy, go, hf0, hf1, hf2, hf3, hgo, rfl, rfl⟩) dL_append_19

abbrev wz_L_draw : List Cond := .codeWith yL_draw cL_draw 3 (some .int) [(0, 8, 11, 15)] :: W0
abbrev rm_L_draw : Room := { frames := 7, cells := 1, slots := 6, locals := 153 }
theorem hd_L_draw : yL_draw.cls = RL ∧ yL_draw.cls ≠ "java/lang/invoke/MethodHandle" ∧ yL_draw.cls ≠ "java/lang/invoke/VarHandle" ∧ (parseMethodDescriptor yL_draw.desc).map (fun d => d.parameters.length) = some 2 := by decide +kernel
set_option maxHeartbeats 4000000 in
set_option maxRecDepth 100000 in
theorem c_L_draw (l : Launch) (D : va_G) (τ : Nat → Nat) (α : Nat → Nat) (γ : Nat → ClassId) (h : IA) (old : IA) (ch : IA) (rg : TRg) (ln : TLn) (sl : TSl) (pd : TPd) (ct : TCt) (sg : TSg) (cd : IA) (ln9 : Int) (pl : Int) (le : Int) (ro : Int) (co : Int) (nu : Int) (sv : IA) (sl9 : IA) (tk : BA) (ct9 : Int) (hh : ∀ k, 0 ≤ k → k < 49 → 0 ≤ h k ∧ h k ≤ 99) (hct : 0 ≤ ct9 ∧ ct9 ≤ 6) (hln : 0 ≤ ln9 ∧ ln9 ≤ 60) (hcd : ∀ k, 0 ≤ k → k < ln9 → 0 ≤ cd k ∧ cd k ≤ 126) (hov : OV pl le ro co nu) (hst : l.stackTraces = false) (cL : ClassId) (o : Nat) (fo : Nat → Int64) : cMX l yL_draw wz_L_draw rm_L_draw D τ ((cL, .long) :: tyH γ) [.ref (α 0), .ref o] (oC cL o fo ++ wH α γ (h, old, ch) rg ln sl pd ct sg (cd, ln9, pl, le, ro, co, nu) (sv, sl9, tk, ct9)) (zQi (fun r w => (∃ (p2 : Int), ∃ (l2 : Int), ∃ (r2 : Int), ∃ (c2 : Int), ∃ (n2 : Int), ∃ (h2 : IA), ∃ (o2 : IA), ∃ (s2 : IA), ∃ (k2 : Int), ∃ (v : Int), ∃ (go : Nat → Int64), (O_td cd ln9 = 0) ∧ ((h2, v) = O_draw cd ln9 0 OS0 h 0) ∧ (s2 = S_sv sv h ct9) ∧ (k2 = S_svC ct9) ∧ (OV p2 l2 r2 c2 n2) ∧ (∀ k, 0 ≤ k → k < 49 → 0 ≤ h2 k ∧ h2 k ≤ 99) ∧ (0 ≤ v ∧ v ≤ 61) ∧ go 0 = (zI v).toInt64 ∧ r = zI 0 ∧ oC cL o go ++ wH α γ (h2, o2, ch) rg ln sl pd ct sg (cd, 0, p2, l2, r2, c2, n2) (s2, sl9, tk, k2) = w) ∨ (∃ (p2 : Int), ∃ (l2 : Int), ∃ (r2 : Int), ∃ (c2 : Int), ∃ (n2 : Int), (O_td cd ln9 = 1 ∧ OV p2 l2 r2 c2 n2) ∧ r = zI 1 ∧ oC cL o fo ++ wH α γ (h, old, ch) rg ln sl pd ct sg (cd, ln9, p2, l2, r2, c2, n2) (sv, sl9, tk, ct9) = w))) := by
  refine z_ofL (cc := cL_draw) (maxL := 3) (ret := (some .int)) (tb := [(0, 8, 11, 15)]) (by decide +kernel) rfl (Nat.le_of_ble_eq_true rfl) ?_
  intro pg e s m args below meth c hC hr hlk hT hK hP A hD hG hA hS hGX ls hl Q hQ
  have hx := hC.1
  have hb := hC.2.1
  have hml := hC.2.2.1
  have hown := hC.2.2.2.1
  have hts := hC.2.2.2.2
  have hB : ∀ w ∈ W0, w ∈ wz_L_draw := fun _ h => List.mem_cons_of_mem _ h
  have hW0 : ∀ w ∈ W0, w.before args s = true := fun w h => hts w (hB w h)
  have hl : lv_has ls 3 [(0, .ref (α 0)), (1, .ref o)] := hl
  refine lv_aload_n hx hb dL_draw_0 rfl (lv_at hl 1 rfl) ?_
  refine lv_iconst (v := zI 0) hx hb dL_draw_1 rfl ?_
  refine lv_aload_n hx hb dL_draw_2 rfl (lv_at hl 0 rfl) ?_
  have hPc : va_P D vwCl (wH α γ (h, old, ch) rg ln sl pd ct sg (cd, ln9, pl, le, ro, co, nu) (sv, sl9, tk, ct9)) s.heap := zPc hP
  have hDc := zDc hD
  have hKc := hK.sub (tys' := tyH γ) [1, 2, 3, 4, 5, 6, 7, 8, 9, 10, 11, 12, 13, 14, 15, 16, 17, 18, 19, 20, 21, 22] rfl
  refine zfx_calli (wr := oC cL o fo) hP hD hS hA (vx_runV (As := []) (rest := [.int (zI 0), .ref o]) hC (c_X9_draw l D τ α γ h old ch rg ln sl pd ct sg cd ln9 pl le ro co nu sv sl9 tk ct9 hh hct hln hcd hov hst _) (cwV 0 hts (gV hB wl_L_29 wn_X9_draw ws_X9_draw wi_X9 wc_X9_draw) rfl rfl rfl hd_X9_draw ⟨Nat.le_of_ble_eq_true rfl, Nat.le_of_ble_eq_true rfl⟩) (zpX_V hKc hPc hDc hS hA hG hGX (ci := 9) (q0 := 0) rfl rfl rfl) rfl rfl hl.1 rfl (lv_room (Nat.le_of_ble_eq_true rfl)) dL_draw_3 ⟨Nat.le_of_ble_eq_true rfl, Nat.le_of_ble_eq_true rfl⟩) (fun E w1 H locs ce q9 hq9 hP hD hS hce hcv hcl => ?_) (fun r w1 H locs hq9 hP hD hS => ?_)
  · skip
    obtain ⟨p2x, l2x, r2x, c2x, n2x, rfl, hx9, rfl⟩ := hq9
    refine vx_catch hown [] ⟨0, 8, 11, 15⟩ [] hT (fun z hz => nomatch hz) (by decide) (by decide) (hW0 _ wk_L_15) (va_Nw.use rfl (hGX.2.1 "java/lang/IllegalArgumentException" (by decide +kernel))) hce hcv hcl ?_
    refine lv_astore_n (lv' := [(2, .ref q9), (0, .ref (α 0)), (1, .ref o)]) hx hb dL_draw_11 rfl hl (by decide) rfl (fun ls hl => ?_)
    refine lv_iconst (v := zI 1) hx hb dL_draw_12 rfl ?_
    exact z_iret hC hr hlk hQ hP hD hS (Or.inr ⟨p2x, l2x, r2x, c2x, n2x, hx9, rfl, rfl⟩) dL_draw_13
  · skip
    obtain ⟨p2y, l2y, r2y, c2y, n2y, h2y, o2y, s2y, k2y, vy, hf0, hf1, hf2, hf3, hf4, hf5, hf6, rfl, rfl⟩ := hq9
    refine lv_i2l (v := (zI vy).toInt64) hx hb dL_draw_6 rfl ?_
    refine zo_last hx hb hK hP hD hS dL_draw_7 (fun H locs go hgo hP hD hS => ?_)
    refine lv_goto (tgt := 14) hx hb dL_draw_8 (by decide) ?_
    refine lv_iconst (v := zI 0) hx hb dL_draw_14 rfl ?_
    exact z_iret hC hr hlk hQ hP hD hS (Or.inl ⟨p2y, l2y, r2y, c2y, n2y, h2y, o2y, s2y, k2y, vy, go, hf0, hf1, hf2, hf3, hf4, hf5, hf6, hgo, rfl, rfl⟩) dL_draw_15

abbrev wz_L_keep : List Cond := .codeWith yL_keep cL_keep 3 (some .int) [(0, 5, 8, 15)] :: W0
abbrev rm_L_keep : Room := { frames := 8, cells := 1, slots := 6, locals := 131 }
theorem hd_L_keep : yL_keep.cls = RL ∧ yL_keep.cls ≠ "java/lang/invoke/MethodHandle" ∧ yL_keep.cls ≠ "java/lang/invoke/VarHandle" ∧ (parseMethodDescriptor yL_keep.desc).map (fun d => d.parameters.length) = some 2 := by decide +kernel
set_option maxHeartbeats 4000000 in
set_option maxRecDepth 100000 in
theorem c_L_keep (l : Launch) (D : va_G) (τ : Nat → Nat) (α : Nat → Nat) (γ : Nat → ClassId) (h : IA) (old : IA) (ch : IA) (rg : TRg) (ln : TLn) (sl : TSl) (pd : TPd) (ct : TCt) (sg : TSg) (od : TOd) (sv : IA) (sl9 : IA) (tk : BA) (ct9 : Int) (k9 : Int) (hk9 : -2147483648 ≤ k9 ∧ k9 < 2147483648) (hst : l.stackTraces = false) : cMX l yL_keep wz_L_keep rm_L_keep D τ (tyH γ) [.ref (α 0), .int (zI k9)] (wH α γ (h, old, ch) rg ln sl pd ct sg od (sv, sl9, tk, ct9)) (zQi (fun r w => (∃ (s2 : IA), ∃ (t2 : BA), (S_tslot k9 = 0) ∧ (s2 = zcpy h sl9 0 (49 * k9) 49) ∧ (t2 = bu tk k9 true) ∧ r = zI 0 ∧ wH α γ (h, old, ch) rg ln sl pd ct sg od (sv, s2, t2, ct9) = w) ∨ ((S_tslot k9 = 1) ∧ r = zI 1 ∧ wH α γ (h, old, ch) rg ln sl pd ct sg od (sv, sl9, tk, ct9) = w))) := by
  refine z_ofL (cc := cL_keep) (maxL := 3) (ret := (some .int)) (tb := [(0, 5, 8, 15)]) (by decide +kernel) rfl (Nat.le_of_ble_eq_true rfl) ?_
  intro pg e s m args below meth c hC hr hlk hT hK hP A hD hG hA hS hGX ls hl Q hQ
  have hx := hC.1
  have hb := hC.2.1
  have hml := hC.2.2.1
  have hown := hC.2.2.2.1
  have hts := hC.2.2.2.2
  have hB : ∀ w ∈ W0, w ∈ wz_L_keep := fun _ h => List.mem_cons_of_mem _ h
  have hW0 : ∀ w ∈ W0, w.before args s = true := fun w h => hts w (hB w h)
  have hl : lv_has ls 3 [(0, .ref (α 0)), (1, .int (zI k9))] := hl
  refine lv_aload_n hx hb dL_keep_0 rfl (lv_at hl 0 rfl) ?_
  refine lv_iload_n hx hb dL_keep_1 rfl (lv_at hl 1 rfl) ?_
  have hPc := hP
  have hDc := hD
  have hKc := hK
  refine zx_callv hP hD hS hA (vx_runV (As := [.int (zI k9)]) (rest := []) hC (c_X9_keep l D τ α γ h old ch rg ln sl pd ct sg od sv sl9 tk ct9 k9 hk9 hst _) (cwV 1 hts (gV hB wl_L_33 wn_X9_keep ws_X9_keep wi_X9 wc_X9_keep) rfl rfl rfl hd_X9_keep ⟨Nat.le_of_ble_eq_true rfl, Nat.le_of_ble_eq_true rfl⟩) (zpX_V hKc hPc hDc hS hA hG hGX (ci := 9) (q0 := 0) rfl rfl rfl) rfl rfl hl.1 rfl (lv_room (Nat.le_of_ble_eq_true rfl)) dL_keep_2 ⟨Nat.le_of_ble_eq_true rfl, Nat.le_of_ble_eq_true rfl⟩) (fun E w1 H locs ce q9 hq9 hP hD hS hce hcv hcl => ?_) (fun w1 H locs hq9 hP hD hS => ?_)
  · skip
    obtain ⟨rfl, hx9, rfl⟩ := hq9
    refine vx_catch hown [] ⟨0, 5, 8, 15⟩ [] hT (fun z hz => nomatch hz) (by decide) (by decide) (hW0 _ wk_L_15) (va_Nw.use rfl (hGX.2.1 "java/lang/IllegalArgumentException" (by decide +kernel))) hce hcv hcl ?_
    refine lv_astore_n (lv' := [(2, .ref q9), (0, .ref (α 0)), (1, .int (zI k9))]) hx hb dL_keep_8 rfl hl (by decide) rfl (fun ls hl => ?_)
    refine lv_iconst (v := zI 1) hx hb dL_keep_9 rfl ?_
    exact z_iret hC hr hlk hQ hP hD hS (Or.inr ⟨hx9, rfl, rfl⟩) dL_keep_10
  · skip
    obtain ⟨s2y, t2y, hf0, hf1, hf2, rfl⟩ := hq9
    refine lv_goto (tgt := 11) hx hb dL_keep_5 (by decide) ?_
    refine lv_iconst (v := zI 0) hx hb dL_keep_11 rfl ?_
    exact z_iret hC hr hlk hQ hP hD hS (Or.inl ⟨s2y, t2y, hf0, hf1, hf2, rfl, rfl⟩) dL_keep_12

abbrev wz_L_goBack : List Cond := .codeWith yL_goBack cL_goBack 3 (some .int) [(0, 5, 8, 15), (0, 5, 11, 27)] :: W0
abbrev rm_L_goBack : Room := { frames := 8, cells := 2, slots := 12, locals := 131 }
theorem hd_L_goBack : yL_goBack.cls = RL ∧ yL_goBack.cls ≠ "java/lang/invoke/MethodHandle" ∧ yL_goBack.cls ≠ "java/lang/invoke/VarHandle" ∧ (parseMethodDescriptor yL_goBack.desc).map (fun d => d.parameters.length) = some 2 := by decide +kernel
set_option maxHeartbeats 4000000 in
set_option maxRecDepth 100000 in
theorem c_L_goBack (l : Launch) (D : va_G) (τ : Nat → Nat) (α : Nat → Nat) (γ : Nat → ClassId) (h : IA) (old : IA) (ch : IA) (rg : TRg) (ln : TLn) (sl : TSl) (pd : TPd) (ct : TCt) (sg : TSg) (od : TOd) (sv : IA) (sl9 : IA) (tk : BA) (ct9 : Int) (k9 : Int) (hk9 : -2147483648 ≤ k9 ∧ k9 < 2147483648) (hct : 0 ≤ ct9 ∧ ct9 ≤ 6) (hst : l.stackTraces = false) : cMX l yL_goBack wz_L_goBack rm_L_goBack D τ (tyH γ) [.ref (α 0), .int (zI k9)] (wH α γ (h, old, ch) rg ln sl pd ct sg od (sv, sl9, tk, ct9)) (zQi (fun r w => (∃ (h2 : IA), ∃ (s2 : IA), ∃ (c2 : Int), (S_tback k9 tk = 0) ∧ (h2 = zcpy sl9 h (49 * k9) 0 49) ∧ (s2 = S_sv sv h ct9) ∧ (c2 = S_svC ct9) ∧ r = zI 0 ∧ wH α γ (h2, old, ch) rg ln sl pd ct sg od (s2, sl9, tk, c2) = w) ∨ ((S_tback k9 tk = 1) ∧ r = zI 1 ∧ wH α γ (h, old, ch) rg ln sl pd ct sg od (sv, sl9, tk, ct9) = w) ∨ ((S_tback k9 tk = 2) ∧ r = zI 2 ∧ wH α γ (h, old, ch) rg ln sl pd ct sg od (sv, sl9, tk, ct9) = w))) := by
  refine z_ofL (cc := cL_goBack) (maxL := 3) (ret := (some .int)) (tb := [(0, 5, 8, 15), (0, 5, 11, 27)]) (by decide +kernel) rfl (Nat.le_of_ble_eq_true rfl) ?_
  intro pg e s m args below meth c hC hr hlk hT hK hP A hD hG hA hS hGX ls hl Q hQ
  have hx := hC.1
  have hb := hC.2.1
  have hml := hC.2.2.1
  have hown := hC.2.2.2.1
  have hts := hC.2.2.2.2
  have hB : ∀ w ∈ W0, w ∈ wz_L_goBack := fun _ h => List.mem_cons_of_mem _ h
  have hW0 : ∀ w ∈ W0, w.before args s = true := fun w h => hts w (hB w h)
  have hl : lv_has ls 3 [(0, .ref (α 0)), (1, .int (zI k9))] := hl
  refine lv_aload_n hx hb dL_goBack_0 rfl (lv_at hl 0 rfl) ?_
  refine lv_iload_n hx hb dL_goBack_1 rfl (lv_at hl 1 rfl) ?_
  have hPc := hP
  have hDc := hD
  have hKc := hK
  refine zx_callv hP hD hS hA (vx_runV (As := [.int (zI k9)]) (rest := []) hC (c_X9_goBack l D τ α γ h old ch rg ln sl pd ct sg od sv sl9 tk ct9 k9 hk9 hct hst _) (cwV 1 hts (gV hB wl_L_37 wn_X9_goBack ws_X9_goBack wi_X9 wc_X9_goBack) rfl rfl rfl hd_X9_goBack ⟨Nat.le_of_ble_eq_true rfl, Nat.le_of_ble_eq_true rfl⟩) (zpX_V hKc hPc hDc hS hA hG hGX (ci := 9) (q0 := 0) rfl rfl rfl) rfl rfl hl.1 rfl (lv_room (Nat.le_of_ble_eq_true rfl)) dL_goBack_2 ⟨Nat.le_of_ble_eq_true rfl, Nat.le_of_ble_eq_true rfl⟩) (fun E w1 H locs ce q9 hq9 hP hD hS hce hcv hcl => ?_) (fun w1 H locs hq9 hP hD hS => ?_)
  · rcases hq9 with hq9 | hq9
    · skip
      obtain ⟨rfl, hx9, rfl⟩ := hq9
      refine vx_catch hown [] ⟨0, 5, 8, 15⟩ [⟨0, 5, 11, 27⟩] hT (fun z hz => nomatch hz) (by decide) (by decide) (hW0 _ wk_L_15) (va_Nw.use rfl (hGX.2.1 "java/lang/IllegalArgumentException" (by decide +kernel))) hce hcv hcl ?_
      refine lv_astore_n (lv' := [(2, .ref q9), (0, .ref (α 0)), (1, .int (zI k9))]) hx hb dL_goBack_8 rfl hl (by decide) rfl (fun ls hl => ?_)
      refine lv_iconst (v := zI 1) hx hb dL_goBack_9 rfl ?_
      exact z_iret hC hr hlk hQ hP hD hS (Or.inr (Or.inl ⟨hx9, rfl, rfl⟩)) dL_goBack_10
    · skip
      obtain ⟨rfl, hx9, rfl⟩ := hq9
      refine vx_catch hown [⟨0, 5, 8, 15⟩] ⟨0, 5, 11, 27⟩ [] hT (fun z hz => by cases List.mem_singleton.mp hz; exact Or.inr ⟨by decide, "java/lang/IllegalArgumentException", (hW0 _ wk_L_15), hGX.2.2 ("java/lang/IllegalStateException", "java/lang/IllegalArgumentException") (by decide +kernel)⟩) (by decide) (by decide) (hW0 _ wk_L_27) (va_Nw.use rfl (hGX.2.1 "java/lang/IllegalStateException" (by decide +kernel))) hce hcv hcl ?_
      refine lv_astore_n (lv' := [(2, .ref q9), (0, .ref (α 0)), (1, .int (zI k9))]) hx hb dL_goBack_11 rfl hl (by decide) rfl (fun ls hl => ?_)
      refine lv_iconst (v := zI 2) hx hb dL_goBack_12 rfl ?_
      exact z_iret hC hr hlk hQ hP hD hS (Or.inr (Or.inr ⟨hx9, rfl, rfl⟩)) dL_goBack_13
  · skip
    obtain ⟨h2y, s2y, c2y, hf0, hf1, hf2, hf3, rfl⟩ := hq9
    refine lv_goto (tgt := 14) hx hb dL_goBack_5 (by decide) ?_
    refine lv_iconst (v := zI 0) hx hb dL_goBack_14 rfl ?_
    exact z_iret hC hr hlk hQ hP hD hS (Or.inl ⟨h2y, s2y, c2y, hf0, hf1, hf2, hf3, rfl, rfl⟩) dL_goBack_15

abbrev wz_L_undo : List Cond := .codeWith yL_undo cL_undo 2 (some .int) [(0, 4, 7, 27)] :: W0
abbrev rm_L_undo : Room := { frames := 7, cells := 1, slots := 6, locals := 110 }
theorem hd_L_undo : yL_undo.cls = RL ∧ yL_undo.cls ≠ "java/lang/invoke/MethodHandle" ∧ yL_undo.cls ≠ "java/lang/invoke/VarHandle" ∧ (parseMethodDescriptor yL_undo.desc).map (fun d => d.parameters.length) = some 1 := by decide +kernel
set_option maxHeartbeats 4000000 in
set_option maxRecDepth 100000 in
theorem c_L_undo (l : Launch) (D : va_G) (τ : Nat → Nat) (α : Nat → Nat) (γ : Nat → ClassId) (h : IA) (old : IA) (ch : IA) (rg : TRg) (ln : TLn) (sl : TSl) (pd : TPd) (ct : TCt) (sg : TSg) (od : TOd) (sv : IA) (sl9 : IA) (tk : BA) (ct9 : Int) (hct : 0 ≤ ct9 ∧ ct9 ≤ 6) (hst : l.stackTraces = false) : cMX l yL_undo wz_L_undo rm_L_undo D τ (tyH γ) [.ref (α 0)] (wH α γ (h, old, ch) rg ln sl pd ct sg od (sv, sl9, tk, ct9)) (zQi (fun r w => (∃ (h2 : IA), ∃ (c2 : Int), (S_tundo ct9 = 0) ∧ (h2 = zcpy sv h (49 * (ct9 - 1)) 0 49) ∧ (c2 = ct9 - 1) ∧ r = zI 0 ∧ wH α γ (h2, old, ch) rg ln sl pd ct sg od (sv, sl9, tk, c2) = w) ∨ ((S_tundo ct9 = 1) ∧ r = zI 1 ∧ wH α γ (h, old, ch) rg ln sl pd ct sg od (sv, sl9, tk, ct9) = w))) := by
  refine z_ofL (cc := cL_undo) (maxL := 2) (ret := (some .int)) (tb := [(0, 4, 7, 27)]) (by decide +kernel) rfl (Nat.le_of_ble_eq_true rfl) ?_
  intro pg e s m args below meth c hC hr hlk hT hK hP A hD hG hA hS hGX ls hl Q hQ
  have hx := hC.1
  have hb := hC.2.1
  have hml := hC.2.2.1
  have hown := hC.2.2.2.1
  have hts := hC.2.2.2.2
  have hB : ∀ w ∈ W0, w ∈ wz_L_undo := fun _ h => List.mem_cons_of_mem _ h
  have hW0 : ∀ w ∈ W0, w.before args s = true := fun w h => hts w (hB w h)
  have hl : lv_has ls 2 [(0, .ref (α 0))] := hl
  refine lv_aload_n hx hb dL_undo_0 rfl (lv_at hl 0 rfl) ?_
  have hPc := hP
  have hDc := hD
  have hKc := hK
  refine zx_callv hP hD hS hA (vx_runV (As := []) (rest := []) hC (c_X9_undo l D τ α γ h old ch rg ln sl pd ct sg od sv sl9 tk ct9 hct hst _) (cwV 0 hts (gV hB wl_L_40 wn_X9_undo ws_X9_undo wi_X9 wc_X9_undo) rfl rfl rfl hd_X9_undo ⟨Nat.le_of_ble_eq_true rfl, Nat.le_of_ble_eq_true rfl⟩) (zpX_V hKc hPc hDc hS hA hG hGX (ci := 9) (q0 := 0) rfl rfl rfl) rfl rfl hl.1 rfl (lv_room (Nat.le_of_ble_eq_true rfl)) dL_undo_1 ⟨Nat.le_of_ble_eq_true rfl, Nat.le_of_ble_eq_true rfl⟩) (fun E w1 H locs ce q9 hq9 hP hD hS hce hcv hcl => ?_) (fun w1 H locs hq9 hP hD hS => ?_)
  · skip
    obtain ⟨rfl, hx9, rfl⟩ := hq9
    refine vx_catch hown [] ⟨0, 4, 7, 27⟩ [] hT (fun z hz => nomatch hz) (by decide) (by decide) (hW0 _ wk_L_27) (va_Nw.use rfl (hGX.2.1 "java/lang/IllegalStateException" (by decide +kernel))) hce hcv hcl ?_
    refine lv_astore_n (lv' := [(1, .ref q9), (0, .ref (α 0))]) hx hb dL_undo_7 rfl hl (by decide) rfl (fun ls hl => ?_)
    refine lv_iconst (v := zI 1) hx hb dL_undo_8 rfl ?_
    exact z_iret hC hr hlk hQ hP hD hS (Or.inr ⟨hx9, rfl, rfl⟩) dL_undo_9
  · skip
    obtain ⟨h2y, c2y, hf0, hf1, hf2, rfl⟩ := hq9
    refine lv_goto (tgt := 10) hx hb dL_undo_4 (by decide) ?_
    refine lv_iconst (v := zI 0) hx hb dL_undo_10 rfl ?_
    exact z_iret hC hr hlk hQ hP hD hS (Or.inl ⟨h2y, c2y, hf0, hf1, hf2, rfl, rfl⟩) dL_undo_11

abbrev wz_L_heightOf : List Cond := .codeWith yL_heightOf cL_heightOf 5 (some .int) [(0, 10, 13, 13)] :: W0
abbrev rm_L_heightOf : Room := { frames := 8, cells := 1, slots := 6, locals := 134 }
theorem hd_L_heightOf : yL_heightOf.cls = RL ∧ yL_heightOf.cls ≠ "java/lang/invoke/MethodHandle" ∧ yL_heightOf.cls ≠ "java/lang/invoke/VarHandle" ∧ (parseMethodDescriptor yL_heightOf.desc).map (fun d => d.parameters.length) = some 4 := by decide +kernel
set_option maxHeartbeats 4000000 in
set_option maxRecDepth 100000 in
theorem c_L_heightOf (l : Launch) (D : va_G) (τ : Nat → Nat) (α : Nat → Nat) (γ : Nat → ClassId) (h : IA) (old : IA) (ch : IA) (rg : TRg) (ln : TLn) (sl : TSl) (pd : TPd) (ct : TCt) (sg : TSg) (od : TOd) (hs : THs) (r9 : Int) (c9 : Int) (hr9 : -2147483648 ≤ r9 ∧ r9 < 2147483648) (hc9 : -2147483648 ≤ c9 ∧ c9 < 2147483648) (hh : ∀ k, 0 ≤ k → k < 49 → 0 ≤ h k ∧ h k ≤ 99) (hst : l.stackTraces = false) (cL : ClassId) (o : Nat) (fo : Nat → Int64) : cMX l yL_heightOf wz_L_heightOf rm_L_heightOf D τ ((cL, .long) :: tyH γ) [.ref (α 0), .int (zI r9), .int (zI c9), .ref o] (oC cL o fo ++ wH α γ (h, old, ch) rg ln sl pd ct sg od hs) (zQi (fun r w => (∃ (v : Int), ∃ (go : Nat → Int64), (S_tpt r9 c9 = 0) ∧ (v = h (7 * r9 + c9)) ∧ go 0 = (zI v).toInt64 ∧ r = zI 0 ∧ oC cL o go ++ wH α γ (h, old, ch) rg ln sl pd ct sg od hs = w) ∨ ((S_tpt r9 c9 = 1) ∧ r = zI 1 ∧ oC cL o fo ++ wH α γ (h, old, ch) rg ln sl pd ct sg od hs = w))) := by
  refine z_ofL (cc := cL_heightOf) (maxL := 5) (ret := (some .int)) (tb := [(0, 10, 13, 13)]) (by decide +kernel) rfl (Nat.le_of_ble_eq_true rfl) ?_
  intro pg e s m args below meth c hC hr hlk hT hK hP A hD hG hA hS hGX ls hl Q hQ
  have hx := hC.1
  have hb := hC.2.1
  have hml := hC.2.2.1
  have hown := hC.2.2.2.1
  have hts := hC.2.2.2.2
  have hB : ∀ w ∈ W0, w ∈ wz_L_heightOf := fun _ h => List.mem_cons_of_mem _ h
  have hW0 : ∀ w ∈ W0, w.before args s = true := fun w h => hts w (hB w h)
  have hl : lv_has ls 5 [(0, .ref (α 0)), (1, .int (zI r9)), (2, .int (zI c9)), (3, .ref o)] := hl
  refine lv_aload_n hx hb dL_heightOf_0 rfl (lv_at hl 3 rfl) ?_
  refine lv_iconst (v := zI 0) hx hb dL_heightOf_1 rfl ?_
  refine lv_aload_n hx hb dL_heightOf_2 rfl (lv_at hl 0 rfl) ?_
  refine lv_iload_n hx hb dL_heightOf_3 rfl (lv_at hl 1 rfl) ?_
  refine lv_iload_n hx hb dL_heightOf_4 rfl (lv_at hl 2 rfl) ?_
  have hPc : va_P D vwCl (wH α γ (h, old, ch) rg ln sl pd ct sg od hs) s.heap := zPc hP
  have hDc := zDc hD
  have hKc := hK.sub (tys' := tyH γ) [1, 2, 3, 4, 5, 6, 7, 8, 9, 10, 11, 12, 13, 14, 15, 16, 17, 18, 19, 20, 21, 22] rfl
  refine zfx_calli (wr := oC cL o fo) hP hD hS hA (vx_runV (As := [.int (zI r9), .int (zI c9)]) (rest := [.int (zI 0), .ref o]) hC (c_X9_heightOf l D τ α γ h old ch rg ln sl pd ct sg od hs r9 c9 hr9 hc9 hh hst _) (cwV 2 hts (gV hB wl_L_43 wn_X9_heightOf ws_X9_heightOf wi_X9 wc_X9_heightOf) rfl rfl rfl hd_X9_heightOf ⟨Nat.le_of_ble_eq_true rfl, Nat.le_of_ble_eq_true rfl⟩) (zpX_V hKc hPc hDc hS hA hG hGX (ci := 9) (q0 := 0) rfl rfl rfl) rfl rfl hl.1 rfl (lv_room (Nat.le_of_ble_eq_true rfl)) dL_heightOf_5 ⟨Nat.le_of_ble_eq_true rfl, Nat.le_of_ble_eq_true rfl⟩) (fun E w1 H locs ce q9 hq9 hP hD hS hce hcv hcl => ?_) (fun r w1 H locs hq9 hP hD hS => ?_)
  · skip
    obtain ⟨rfl, hx9, rfl⟩ := hq9
    refine vx_catch hown [] ⟨0, 10, 13, 13⟩ [] hT (fun z hz => nomatch hz) (by decide) (by decide) (hW0 _ wk_L_13) (va_Nw.use rfl (hGX.2.1 "java/lang/IndexOutOfBoundsException" (by decide +kernel))) hce hcv hcl ?_
    refine lv_astore (lv' := [(4, .ref q9), (0, .ref (α 0)), (1, .int (zI r9)), (2, .int (zI c9)), (3, .ref o)]) hx hb dL_heightOf_13 hl (by decide) rfl (fun ls hl => ?_)
    refine lv_iconst (v := zI 1) hx hb dL_heightOf_15 rfl ?_
    exact z_iret hC hr hlk hQ hP hD hS (Or.inr ⟨hx9, rfl, rfl⟩) dL_heightOf_16
  · skip
    obtain ⟨vy, hf0, hf1, rfl, rfl⟩ := hq9
    refine lv_i2l (v := (zI vy).toInt64) hx hb dL_heightOf_8 rfl ?_
    refine zo_last hx hb hK hP hD hS dL_heightOf_9 (fun H locs go hgo hP hD hS => ?_)
    refine lv_goto (tgt := 17) hx hb dL_heightOf_10 (by decide) ?_
    refine lv_iconst (v := zI 0) hx hb dL_heightOf_17 rfl ?_
    exact z_iret hC hr hlk hQ hP hD hS (Or.inl ⟨vy, go, hf0, hf1, hgo, rfl, rfl⟩) dL_heightOf_18

abbrev wz_L_pointsAbove : List Cond := .codeWith yL_pointsAbove cL_pointsAbove 4 (some .int) [(0, 9, 12, 15)] :: W0
abbrev rm_L_pointsAbove : Room := { frames := 8, cells := 1, slots := 6, locals := 133 }
theorem hd_L_pointsAbove : yL_pointsAbove.cls = RL ∧ yL_pointsAbove.cls ≠ "java/lang/invoke/MethodHandle" ∧ yL_pointsAbove.cls ≠ "java/lang/invoke/VarHandle" ∧ (parseMethodDescriptor yL_pointsAbove.desc).map (fun d => d.parameters.length) = some 3 := by decide +kernel
set_option maxHeartbeats 4000000 in
set_option maxRecDepth 100000 in
theorem c_L_pointsAbove (l : Launch) (D : va_G) (τ : Nat → Nat) (α : Nat → Nat) (γ : Nat → ClassId) (h : IA) (old : IA) (ch : IA) (rg : TRg) (ln : TLn) (sl : TSl) (pd : TPd) (ct : TCt) (sg : TSg) (od : TOd) (hs : THs) (lv9 : Int) (hlv : -2147483648 ≤ lv9 ∧ lv9 < 2147483648) (hh : ∀ k, 0 ≤ k → k < 49 → 0 ≤ h k ∧ h k ≤ 99) (hst : l.stackTraces = false) (cL : ClassId) (o : Nat) (fo : Nat → Int64) : cMX l yL_pointsAbove wz_L_pointsAbove rm_L_pointsAbove D τ ((cL, .long) :: tyH γ) [.ref (α 0), .int (zI lv9), .ref o] (oC cL o fo ++ wH α γ (h, old, ch) rg ln sl pd ct sg od hs) (zQi (fun r w => (∃ (v : Int), ∃ (go : Nat → Int64), (S_tlev lv9 = 0) ∧ (v = zC (S_hi h lv9) 49) ∧ (0 ≤ v ∧ v ≤ 49) ∧ go 0 = (zI v).toInt64 ∧ r = zI 0 ∧ oC cL o go ++ wH α γ (h, old, ch) rg ln sl pd ct sg od hs = w) ∨ ((S_tlev lv9 = 1) ∧ r = zI 1 ∧ oC cL o fo ++ wH α γ (h, old, ch) rg ln sl pd ct sg od hs = w))) := by
  refine z_ofL (cc := cL_pointsAbove) (maxL := 4) (ret := (some .int)) (tb := [(0, 9, 12, 15)]) (by decide +kernel) rfl (Nat.le_of_ble_eq_true rfl) ?_
  intro pg e s m args below meth c hC hr hlk hT hK hP A hD hG hA hS hGX ls hl Q hQ
  have hx := hC.1
  have hb := hC.2.1
  have hml := hC.2.2.1
  have hown := hC.2.2.2.1
  have hts := hC.2.2.2.2
  have hB : ∀ w ∈ W0, w ∈ wz_L_pointsAbove := fun _ h => List.mem_cons_of_mem _ h
  have hW0 : ∀ w ∈ W0, w.before args s = true := fun w h => hts w (hB w h)
  have hl : lv_has ls 4 [(0, .ref (α 0)), (1, .int (zI lv9)), (2, .ref o)] := hl
  refine lv_aload_n hx hb dL_pointsAbove_0 rfl (lv_at hl 2 rfl) ?_
  refine lv_iconst (v := zI 0) hx hb dL_pointsAbove_1 rfl ?_
  refine lv_aload_n hx hb dL_pointsAbove_2 rfl (lv_at hl 0 rfl) ?_
  refine lv_iload_n hx hb dL_pointsAbove_3 rfl (lv_at hl 1 rfl) ?_
  have hPc : va_P D vwCl (wH α γ (h, old, ch) rg ln sl pd ct sg od hs) s.heap := zPc hP
  have hDc := zDc hD
  have hKc := hK.sub (tys' := tyH γ) [1, 2, 3, 4, 5, 6, 7, 8, 9, 10, 11, 12, 13, 14, 15, 16, 17, 18, 19, 20, 21, 22] rfl
  refine zfx_calli (wr := oC cL o fo) hP hD hS hA (vx_runV (As := [.int (zI lv9)]) (rest := [.int (zI 0), .ref o]) hC (c_X9_pointsAbove l D τ α γ h old ch rg ln sl pd ct sg od hs lv9 hlv hh hst _) (cwV 1 hts (gV hB wl_L_47 wn_X9_pointsAbove ws_X9_pointsAbove wi_X9 wc_X9_pointsAbove) rfl rfl rfl hd_X9_pointsAbove ⟨Nat.le_of_ble_eq_true rfl, Nat.le_of_ble_eq_true rfl⟩) (zpX_V hKc hPc hDc hS hA hG hGX (ci := 9) (q0 := 0) rfl rfl rfl) rfl rfl hl.1 rfl (lv_room (Nat.le_of_ble_eq_true rfl)) dL_pointsAbove_4 ⟨Nat.le_of_ble_eq_true rfl, Nat.le_of_ble_eq_true rfl⟩) (fun E w1 H locs ce q9 hq9 hP hD hS hce hcv hcl => ?_) (fun r w1 H locs hq9 hP hD hS => ?_)
  · skip
    obtain ⟨rfl, hx9, rfl⟩ := hq9
    refine vx_catch hown [] ⟨0, 9, 12, 15⟩ [] hT (fun z hz => nomatch hz) (by decide) (by decide) (hW0 _ wk_L_15) (va_Nw.use rfl (hGX.2.1 "java/lang/IllegalArgumentException" (by decide +kernel))) hce hcv hcl ?_
    refine lv_astore_n (lv' := [(3, .ref q9), (0, .ref (α 0)), (1, .int (zI lv9)), (2, .ref o)]) hx hb dL_pointsAbove_12 rfl hl (by decide) rfl (fun ls hl => ?_)
    refine lv_iconst (v := zI 1) hx hb dL_pointsAbove_13 rfl ?_
    exact z_iret hC hr hlk hQ hP hD hS (Or.inr ⟨hx9, rfl, rfl⟩) dL_pointsAbove_14
  · skip
    obtain ⟨vy, hf0, hf1, hf2, rfl, rfl⟩ := hq9
    refine lv_i2l (v := (zI vy).toInt64) hx hb dL_pointsAbove_7 rfl ?_
    refine zo_last hx hb hK hP hD hS dL_pointsAbove_8 (fun H locs go hgo hP hD hS => ?_)
    refine lv_goto (tgt := 15) hx hb dL_pointsAbove_9 (by decide) ?_
    refine lv_iconst (v := zI 0) hx hb dL_pointsAbove_15 rfl ?_
    exact z_iret hC hr hlk hQ hP hD hS (Or.inl ⟨vy, go, hf0, hf1, hf2, hgo, rfl, rfl⟩) dL_pointsAbove_16

abbrev wz_L_bulkAbove : List Cond := .codeWith yL_bulkAbove cL_bulkAbove 4 (some .int) [(0, 9, 12, 15)] :: W0
abbrev rm_L_bulkAbove : Room := { frames := 8, cells := 1, slots := 6, locals := 133 }
theorem hd_L_bulkAbove : yL_bulkAbove.cls = RL ∧ yL_bulkAbove.cls ≠ "java/lang/invoke/MethodHandle" ∧ yL_bulkAbove.cls ≠ "java/lang/invoke/VarHandle" ∧ (parseMethodDescriptor yL_bulkAbove.desc).map (fun d => d.parameters.length) = some 3 := by decide +kernel
set_option maxHeartbeats 4000000 in
set_option maxRecDepth 100000 in
theorem c_L_bulkAbove (l : Launch) (D : va_G) (τ : Nat → Nat) (α : Nat → Nat) (γ : Nat → ClassId) (h : IA) (old : IA) (ch : IA) (rg : TRg) (ln : TLn) (sl : TSl) (pd : TPd) (ct : TCt) (sg : TSg) (od : TOd) (hs : THs) (lv9 : Int) (hlv : -2147483648 ≤ lv9 ∧ lv9 < 2147483648) (hh : ∀ k, 0 ≤ k → k < 49 → 0 ≤ h k ∧ h k ≤ 99) (hst : l.stackTraces = false) (cL : ClassId) (o : Nat) (fo : Nat → Int64) : cMX l yL_bulkAbove wz_L_bulkAbove rm_L_bulkAbove D τ ((cL, .long) :: tyH γ) [.ref (α 0), .int (zI lv9), .ref o] (oC cL o fo ++ wH α γ (h, old, ch) rg ln sl pd ct sg od hs) (zQi (fun r w => (∃ (v : Int), ∃ (go : Nat → Int64), (S_tlev lv9 = 0) ∧ (v = S_sab h lv9) ∧ (0 ≤ v ∧ v ≤ 4851) ∧ go 0 = (zI v).toInt64 ∧ r = zI 0 ∧ oC cL o go ++ wH α γ (h, old, ch) rg ln sl pd ct sg od hs = w) ∨ ((S_tlev lv9 = 1) ∧ r = zI 1 ∧ oC cL o fo ++ wH α γ (h, old, ch) rg ln sl pd ct sg od hs = w))) := by
  refine z_ofL (cc := cL_bulkAbove) (maxL := 4) (ret := (some .int)) (tb := [(0, 9, 12, 15)]) (by decide +kernel) rfl (Nat.le_of_ble_eq_true rfl) ?_
  intro pg e s m args below meth c hC hr hlk hT hK hP A hD hG hA hS hGX ls hl Q hQ
  have hx := hC.1
  have hb := hC.2.1
  have hml := hC.2.2.1
  have hown := hC.2.2.2.1
  have hts := hC.2.2.2.2
  have hB : ∀ w ∈ W0, w ∈ wz_L_bulkAbove := fun _ h => List.mem_cons_of_mem _ h
  have hW0 : ∀ w ∈ W0, w.before args s = true := fun w h => hts w (hB w h)
  have hl : lv_has ls 4 [(0, .ref (α 0)), (1, .int (zI lv9)), (2, .ref o)] := hl
  refine lv_aload_n hx hb dL_bulkAbove_0 rfl (lv_at hl 2 rfl) ?_
  refine lv_iconst (v := zI 0) hx hb dL_bulkAbove_1 rfl ?_
  refine lv_aload_n hx hb dL_bulkAbove_2 rfl (lv_at hl 0 rfl) ?_
  refine lv_iload_n hx hb dL_bulkAbove_3 rfl (lv_at hl 1 rfl) ?_
  have hPc : va_P D vwCl (wH α γ (h, old, ch) rg ln sl pd ct sg od hs) s.heap := zPc hP
  have hDc := zDc hD
  have hKc := hK.sub (tys' := tyH γ) [1, 2, 3, 4, 5, 6, 7, 8, 9, 10, 11, 12, 13, 14, 15, 16, 17, 18, 19, 20, 21, 22] rfl
  refine zfx_calli (wr := oC cL o fo) hP hD hS hA (vx_runV (As := [.int (zI lv9)]) (rest := [.int (zI 0), .ref o]) hC (c_X9_bulkAbove l D τ α γ h old ch rg ln sl pd ct sg od hs lv9 hlv hh hst _) (cwV 1 hts (gV hB wl_L_50 wn_X9_bulkAbove ws_X9_bulkAbove wi_X9 wc_X9_bulkAbove) rfl rfl rfl hd_X9_bulkAbove ⟨Nat.le_of_ble_eq_true rfl, Nat.le_of_ble_eq_true rfl⟩) (zpX_V hKc hPc hDc hS hA hG hGX (ci := 9) (q0 := 0) rfl rfl rfl) rfl rfl hl.1 rfl (lv_room (Nat.le_of_ble_eq_true rfl)) dL_bulkAbove_4 ⟨Nat.le_of_ble_eq_true rfl, Nat.le_of_ble_eq_true rfl⟩) (fun E w1 H locs ce q9 hq9 hP hD hS hce hcv hcl => ?_) (fun r w1 H locs hq9 hP hD hS => ?_)
  · skip
    obtain ⟨rfl, hx9, rfl⟩ := hq9
    refine vx_catch hown [] ⟨0, 9, 12, 15⟩ [] hT (fun z hz => nomatch hz) (by decide) (by decide) (hW0 _ wk_L_15) (va_Nw.use rfl (hGX.2.1 "java/lang/IllegalArgumentException" (by decide +kernel))) hce hcv hcl ?_
    refine lv_astore_n (lv' := [(3, .ref q9), (0, .ref (α 0)), (1, .int (zI lv9)), (2, .ref o)]) hx hb dL_bulkAbove_12 rfl hl (by decide) rfl (fun ls hl => ?_)
    refine lv_iconst (v := zI 1) hx hb dL_bulkAbove_13 rfl ?_
    exact z_iret hC hr hlk hQ hP hD hS (Or.inr ⟨hx9, rfl, rfl⟩) dL_bulkAbove_14
  · skip
    obtain ⟨vy, hf0, hf1, hf2, rfl, rfl⟩ := hq9
    refine lv_i2l (v := (zI vy).toInt64) hx hb dL_bulkAbove_7 rfl ?_
    refine zo_last hx hb hK hP hD hS dL_bulkAbove_8 (fun H locs go hgo hP hD hS => ?_)
    refine lv_goto (tgt := 15) hx hb dL_bulkAbove_9 (by decide) ?_
    refine lv_iconst (v := zI 0) hx hb dL_bulkAbove_15 rfl ?_
    exact z_iret hC hr hlk hQ hP hD hS (Or.inl ⟨vy, go, hf0, hf1, hf2, hgo, rfl, rfl⟩) dL_bulkAbove_16

abbrev wz_L_crossingsByEdges : List Cond := .codeWith yL_crossingsByEdges cL_crossingsByEdges 4 (some .int) [(0, 9, 12, 15)] :: W0
abbrev rm_L_crossingsByEdges : Room := { frames := 8, cells := 1, slots := 6, locals := 136 }
theorem hd_L_crossingsByEdges : yL_crossingsByEdges.cls = RL ∧ yL_crossingsByEdges.cls ≠ "java/lang/invoke/MethodHandle" ∧ yL_crossingsByEdges.cls ≠ "java/lang/invoke/VarHandle" ∧ (parseMethodDescriptor yL_crossingsByEdges.desc).map (fun d => d.parameters.length) = some 3 := by decide +kernel
set_option maxHeartbeats 4000000 in
set_option maxRecDepth 100000 in
theorem c_L_crossingsByEdges (l : Launch) (D : va_G) (τ : Nat → Nat) (α : Nat → Nat) (γ : Nat → ClassId) (h : IA) (old : IA) (ch : IA) (rg : TRg) (ln : TLn) (sl : TSl) (pd : TPd) (ct : TCt) (sg : TSg) (od : TOd) (hs : THs) (lv9 : Int) (hlv : -2147483648 ≤ lv9 ∧ lv9 < 2147483648) (hh : ∀ k, 0 ≤ k → k < 49 → 0 ≤ h k ∧ h k ≤ 99) (hst : l.stackTraces = false) (cL : ClassId) (o : Nat) (fo : Nat → Int64) : cMX l yL_crossingsByEdges wz_L_crossingsByEdges rm_L_crossingsByEdges D τ ((cL, .long) :: tyH γ) [.ref (α 0), .int (zI lv9), .ref o] (oC cL o fo ++ wH α γ (h, old, ch) rg ln sl pd ct sg od hs) (zQi (fun r w => (∃ (v : Int), ∃ (go : Nat → Int64), (S_tlev lv9 = 0) ∧ (v = S_ncross (S_hi h lv9)) ∧ (0 ≤ v ∧ v ≤ 84) ∧ go 0 = (zI v).toInt64 ∧ r = zI 0 ∧ oC cL o go ++ wH α γ (h, old, ch) rg ln sl pd ct sg od hs = w) ∨ ((S_tlev lv9 = 1) ∧ r = zI 1 ∧ oC cL o fo ++ wH α γ (h, old, ch) rg ln sl pd ct sg od hs = w))) := by
  refine z_ofL (cc := cL_crossingsByEdges) (maxL := 4) (ret := (some .int)) (tb := [(0, 9, 12, 15)]) (by decide +kernel) rfl (Nat.le_of_ble_eq_true rfl) ?_
  intro pg e s m args below meth c hC hr hlk hT hK hP A hD hG hA hS hGX ls hl Q hQ
  have hx := hC.1
  have hb := hC.2.1
  have hml := hC.2.2.1
  have hown := hC.2.2.2.1
  have hts := hC.2.2.2.2
  have hB : ∀ w ∈ W0, w ∈ wz_L_crossingsByEdges := fun _ h => List.mem_cons_of_mem _ h
  have hW0 : ∀ w ∈ W0, w.before args s = true := fun w h => hts w (hB w h)
  have hl : lv_has ls 4 [(0, .ref (α 0)), (1, .int (zI lv9)), (2, .ref o)] := hl
  refine lv_aload_n hx hb dL_crossingsByEdges_0 rfl (lv_at hl 2 rfl) ?_
  refine lv_iconst (v := zI 0) hx hb dL_crossingsByEdges_1 rfl ?_
  refine lv_aload_n hx hb dL_crossingsByEdges_2 rfl (lv_at hl 0 rfl) ?_
  refine lv_iload_n hx hb dL_crossingsByEdges_3 rfl (lv_at hl 1 rfl) ?_
  have hPc : va_P D vwCl (wH α γ (h, old, ch) rg ln sl pd ct sg od hs) s.heap := zPc hP
  have hDc := zDc hD
  have hKc := hK.sub (tys' := tyH γ) [1, 2, 3, 4, 5, 6, 7, 8, 9, 10, 11, 12, 13, 14, 15, 16, 17, 18, 19, 20, 21, 22] rfl
  refine zfx_calli (wr := oC cL o fo) hP hD hS hA (vx_runV (As := [.int (zI lv9)]) (rest := [.int (zI 0), .ref o]) hC (c_X9_crossingsByEdges l D τ α γ h old ch rg ln sl pd ct sg od hs lv9 hlv hh hst _) (cwV 1 hts (gV hB wl_L_53 wn_X9_crossingsByEdges ws_X9_crossingsByEdges wi_X9 wc_X9_crossingsByEdges) rfl rfl rfl hd_X9_crossingsByEdges ⟨Nat.le_of_ble_eq_true rfl, Nat.le_of_ble_eq_true rfl⟩) (zpX_V hKc hPc hDc hS hA hG hGX (ci := 9) (q0 := 0) rfl rfl rfl) rfl rfl hl.1 rfl (lv_room (Nat.le_of_ble_eq_true rfl)) dL_crossingsByEdges_4 ⟨Nat.le_of_ble_eq_true rfl, Nat.le_of_ble_eq_true rfl⟩) (fun E w1 H locs ce q9 hq9 hP hD hS hce hcv hcl => ?_) (fun r w1 H locs hq9 hP hD hS => ?_)
  · skip
    obtain ⟨rfl, hx9, rfl⟩ := hq9
    refine vx_catch hown [] ⟨0, 9, 12, 15⟩ [] hT (fun z hz => nomatch hz) (by decide) (by decide) (hW0 _ wk_L_15) (va_Nw.use rfl (hGX.2.1 "java/lang/IllegalArgumentException" (by decide +kernel))) hce hcv hcl ?_
    refine lv_astore_n (lv' := [(3, .ref q9), (0, .ref (α 0)), (1, .int (zI lv9)), (2, .ref o)]) hx hb dL_crossingsByEdges_12 rfl hl (by decide) rfl (fun ls hl => ?_)
    refine lv_iconst (v := zI 1) hx hb dL_crossingsByEdges_13 rfl ?_
    exact z_iret hC hr hlk hQ hP hD hS (Or.inr ⟨hx9, rfl, rfl⟩) dL_crossingsByEdges_14
  · skip
    obtain ⟨vy, hf0, hf1, hf2, rfl, rfl⟩ := hq9
    refine lv_i2l (v := (zI vy).toInt64) hx hb dL_crossingsByEdges_7 rfl ?_
    refine zo_last hx hb hK hP hD hS dL_crossingsByEdges_8 (fun H locs go hgo hP hD hS => ?_)
    refine lv_goto (tgt := 15) hx hb dL_crossingsByEdges_9 (by decide) ?_
    refine lv_iconst (v := zI 0) hx hb dL_crossingsByEdges_15 rfl ?_
    exact z_iret hC hr hlk hQ hP hD hS (Or.inl ⟨vy, go, hf0, hf1, hf2, hgo, rfl, rfl⟩) dL_crossingsByEdges_16

abbrev wz_L_crossingsByPieces : List Cond := .codeWith yL_crossingsByPieces cL_crossingsByPieces 4 (some .int) [(0, 9, 12, 15)] :: W0
abbrev rm_L_crossingsByPieces : Room := { frames := 8, cells := 1, slots := 6, locals := 162 }
theorem hd_L_crossingsByPieces : yL_crossingsByPieces.cls = RL ∧ yL_crossingsByPieces.cls ≠ "java/lang/invoke/MethodHandle" ∧ yL_crossingsByPieces.cls ≠ "java/lang/invoke/VarHandle" ∧ (parseMethodDescriptor yL_crossingsByPieces.desc).map (fun d => d.parameters.length) = some 3 := by decide +kernel
set_option maxHeartbeats 4000000 in
set_option maxRecDepth 100000 in
theorem c_L_crossingsByPieces (l : Launch) (D : va_G) (τ : Nat → Nat) (α : Nat → Nat) (γ : Nat → ClassId) (h : IA) (old : IA) (ch : IA) (rg : TRg) (hi8 : BA) (fe : IA) (se : IA) (gn : BA) (fp : IA) (sp : IA) (np : Int) (tot : Int) (clo : Int) (lon : Int) (sl : TSl) (pd : TPd) (ct : TCt) (sg : TSg) (od : TOd) (hs : THs) (lv9 : Int) (hlv : -2147483648 ≤ lv9 ∧ lv9 < 2147483648) (hh : ∀ k, 0 ≤ k → k < 49 → 0 ≤ h k ∧ h k ≤ 99) (hst : l.stackTraces = false) (cL : ClassId) (o : Nat) (fo : Nat → Int64) : cMX l yL_crossingsByPieces wz_L_crossingsByPieces rm_L_crossingsByPieces D τ ((cL, .long) :: tyH γ) [.ref (α 0), .int (zI lv9), .ref o] (oC cL o fo ++ wH α γ (h, old, ch) rg (hi8, fe, se, gn, fp, sp, np, tot, clo, lon) sl pd ct sg od hs) (zQi (fun r w => (∃ (m2 : BA), ∃ (f2 : IA), ∃ (s2 : IA), ∃ (p2 : IA), ∃ (q2 : IA), ∃ (n2 : Int), ∃ (v : Int), ∃ (go : Nat → Int64), (S_tlev lv9 = 0) ∧ (v = S_ncross (S_hi h lv9)) ∧ go 0 = (zI v).toInt64 ∧ r = zI 0 ∧ oC cL o go ++ wH α γ (h, old, ch) rg (m2, f2, s2, gn, p2, q2, n2, tot, clo, lon) sl pd ct sg od hs = w) ∨ ((S_tlev lv9 = 1) ∧ r = zI 1 ∧ oC cL o fo ++ wH α γ (h, old, ch) rg (hi8, fe, se, gn, fp, sp, np, tot, clo, lon) sl pd ct sg od hs = w))) := by
  refine z_ofL (cc := cL_crossingsByPieces) (maxL := 4) (ret := (some .int)) (tb := [(0, 9, 12, 15)]) (by decide +kernel) rfl (Nat.le_of_ble_eq_true rfl) ?_
  intro pg e s m args below meth c hC hr hlk hT hK hP A hD hG hA hS hGX ls hl Q hQ
  have hx := hC.1
  have hb := hC.2.1
  have hml := hC.2.2.1
  have hown := hC.2.2.2.1
  have hts := hC.2.2.2.2
  have hB : ∀ w ∈ W0, w ∈ wz_L_crossingsByPieces := fun _ h => List.mem_cons_of_mem _ h
  have hW0 : ∀ w ∈ W0, w.before args s = true := fun w h => hts w (hB w h)
  have hl : lv_has ls 4 [(0, .ref (α 0)), (1, .int (zI lv9)), (2, .ref o)] := hl
  refine lv_aload_n hx hb dL_crossingsByPieces_0 rfl (lv_at hl 2 rfl) ?_
  refine lv_iconst (v := zI 0) hx hb dL_crossingsByPieces_1 rfl ?_
  refine lv_aload_n hx hb dL_crossingsByPieces_2 rfl (lv_at hl 0 rfl) ?_
  refine lv_iload_n hx hb dL_crossingsByPieces_3 rfl (lv_at hl 1 rfl) ?_
  have hPc : va_P D vwCl (wH α γ (h, old, ch) rg (hi8, fe, se, gn, fp, sp, np, tot, clo, lon) sl pd ct sg od hs) s.heap := zPc hP
  have hDc := zDc hD
  have hKc := hK.sub (tys' := tyH γ) [1, 2, 3, 4, 5, 6, 7, 8, 9, 10, 11, 12, 13, 14, 15, 16, 17, 18, 19, 20, 21, 22] rfl
  refine zfx_calli (wr := oC cL o fo) hP hD hS hA (vx_runV (As := [.int (zI lv9)]) (rest := [.int (zI 0), .ref o]) hC (c_X9_crossingsByPieces l D τ α γ h old ch rg hi8 fe se gn fp sp np tot clo lon sl pd ct sg od hs lv9 hlv hh hst _) (cwV 1 hts (gV hB wl_L_56 wn_X9_crossingsByPieces ws_X9_crossingsByPieces wi_X9 wc_X9_crossingsByPieces) rfl rfl rfl hd_X9_crossingsByPieces ⟨Nat.le_of_ble_eq_true rfl, Nat.le_of_ble_eq_true rfl⟩) (zpX_V hKc hPc hDc hS hA hG hGX (ci := 9) (q0 := 0) rfl rfl rfl) rfl rfl hl.1 rfl (lv_room (Nat.le_of_ble_eq_true rfl)) dL_crossingsByPieces_4 ⟨Nat.le_of_ble_eq_true rfl, Nat.le_of_ble_eq_true rfl⟩) (fun E w1 H locs ce q9 hq9 hP hD hS hce hcv hcl => ?_) (fun r w1 H locs hq9 hP hD hS => ?_)
  · skip
    obtain ⟨rfl, hx9, rfl⟩ := hq9
    refine vx_catch hown [] ⟨0, 9, 12, 15⟩ [] hT (fun z hz => nomatch hz) (by decide) (by decide) (hW0 _ wk_L_15) (va_Nw.use rfl (hGX.2.1 "java/lang/IllegalArgumentException" (by decide +kernel))) hce hcv hcl ?_
    refine lv_astore_n (lv' := [(3, .ref q9), (0, .ref (α 0)), (1, .int (zI lv9)), (2, .ref o)]) hx hb dL_crossingsByPieces_12 rfl hl (by decide) rfl (fun ls hl => ?_)
    refine lv_iconst (v := zI 1) hx hb dL_crossingsByPieces_13 rfl ?_
    exact z_iret hC hr hlk hQ hP hD hS (Or.inr ⟨hx9, rfl, rfl⟩) dL_crossingsByPieces_14
  · skip
    obtain ⟨m2y, f2y, s2y, p2y, q2y, n2y, vy, hf0, hf1, rfl, rfl⟩ := hq9
    refine lv_i2l (v := (zI vy).toInt64) hx hb dL_crossingsByPieces_7 rfl ?_
    refine zo_last hx hb hK hP hD hS dL_crossingsByPieces_8 (fun H locs go hgo hP hD hS => ?_)
    refine lv_goto (tgt := 15) hx hb dL_crossingsByPieces_9 (by decide) ?_
    refine lv_iconst (v := zI 0) hx hb dL_crossingsByPieces_15 rfl ?_
    exact z_iret hC hr hlk hQ hP hD hS (Or.inl ⟨m2y, f2y, s2y, p2y, q2y, n2y, vy, go, hf0, hf1, hgo, rfl, rfl⟩) dL_crossingsByPieces_16

abbrev wz_L_piecesIn : List Cond := .codeWith yL_piecesIn cL_piecesIn 6 (some .int) [(0, 12, 15, 13), (0, 12, 19, 15)] :: W0
abbrev rm_L_piecesIn : Room := { frames := 8, cells := 1, slots := 6, locals := 164 }
theorem hd_L_piecesIn : yL_piecesIn.cls = RL ∧ yL_piecesIn.cls ≠ "java/lang/invoke/MethodHandle" ∧ yL_piecesIn.cls ≠ "java/lang/invoke/VarHandle" ∧ (parseMethodDescriptor yL_piecesIn.desc).map (fun d => d.parameters.length) = some 5 := by decide +kernel
set_option maxHeartbeats 4000000 in
set_option maxRecDepth 100000 in
theorem c_L_piecesIn (l : Launch) (D : va_G) (τ : Nat → Nat) (α : Nat → Nat) (γ : Nat → ClassId) (h : IA) (old : IA) (ch : IA) (rg : TRg) (hi8 : BA) (fe : IA) (se : IA) (gn : BA) (fp : IA) (sp : IA) (np : Int) (tot : Int) (clo : Int) (lon : Int) (sl : TSl) (pd : TPd) (ct : TCt) (sg : TSg) (od : TOd) (hs : THs) (r9 : Int) (c9 : Int) (lv9 : Int) (hr9 : -2147483648 ≤ r9 ∧ r9 < 2147483648) (hc9 : -2147483648 ≤ c9 ∧ c9 < 2147483648) (hlv : -2147483648 ≤ lv9 ∧ lv9 < 2147483648) (hh : ∀ k, 0 ≤ k → k < 49 → 0 ≤ h k ∧ h k ≤ 99) (hst : l.stackTraces = false) (cL : ClassId) (o : Nat) (fo : Nat → Int64) : cMX l yL_piecesIn wz_L_piecesIn rm_L_piecesIn D τ ((cL, .long) :: tyH γ) [.ref (α 0), .int (zI r9), .int (zI c9), .int (zI lv9), .ref o] (oC cL o fo ++ wH α γ (h, old, ch) rg (hi8, fe, se, gn, fp, sp, np, tot, clo, lon) sl pd ct sg od hs) (zQi (fun r w => (∃ (m2 : BA), ∃ (f2 : IA), ∃ (s2 : IA), ∃ (p2 : IA), ∃ (q2 : IA), ∃ (n2 : Int), ∃ (v : Int), ∃ (go : Nat → Int64), (S_tpie r9 c9 lv9 = 0) ∧ (v = S_pie h r9 c9 lv9) ∧ go 0 = (zI v).toInt64 ∧ r = zI 0 ∧ oC cL o go ++ wH α γ (h, old, ch) rg (m2, f2, s2, gn, p2, q2, n2, tot, clo, lon) sl pd ct sg od hs = w) ∨ ((S_tpie r9 c9 lv9 = 1) ∧ r = zI 1 ∧ oC cL o fo ++ wH α γ (h, old, ch) rg (hi8, fe, se, gn, fp, sp, np, tot, clo, lon) sl pd ct sg od hs = w) ∨ ((S_tpie r9 c9 lv9 = 2) ∧ r = zI 2 ∧ oC cL o fo ++ wH α γ (h, old, ch) rg (hi8, fe, se, gn, fp, sp, np, tot, clo, lon) sl pd ct sg od hs = w))) := by
  refine z_ofL (cc := cL_piecesIn) (maxL := 6) (ret := (some .int)) (tb := [(0, 12, 15, 13), (0, 12, 19, 15)]) (by decide +kernel) rfl (Nat.le_of_ble_eq_true rfl) ?_
  intro pg e s m args below meth c hC hr hlk hT hK hP A hD hG hA hS hGX ls hl Q hQ
  have hx := hC.1
  have hb := hC.2.1
  have hml := hC.2.2.1
  have hown := hC.2.2.2.1
  have hts := hC.2.2.2.2
  have hB : ∀ w ∈ W0, w ∈ wz_L_piecesIn := fun _ h => List.mem_cons_of_mem _ h
  have hW0 : ∀ w ∈ W0, w.before args s = true := fun w h => hts w (hB w h)
  have hl : lv_has ls 6 [(0, .ref (α 0)), (1, .int (zI r9)), (2, .int (zI c9)), (3, .int (zI lv9)), (4, .ref o)] := hl
  refine lv_aload hx hb dL_piecesIn_0 (lv_at hl 4 rfl) ?_
  refine lv_iconst (v := zI 0) hx hb dL_piecesIn_2 rfl ?_
  refine lv_aload_n hx hb dL_piecesIn_3 rfl (lv_at hl 0 rfl) ?_
  refine lv_iload_n hx hb dL_piecesIn_4 rfl (lv_at hl 1 rfl) ?_
  refine lv_iload_n hx hb dL_piecesIn_5 rfl (lv_at hl 2 rfl) ?_
  refine lv_iload_n hx hb dL_piecesIn_6 rfl (lv_at hl 3 rfl) ?_
  have hPc : va_P D vwCl (wH α γ (h, old, ch) rg (hi8, fe, se, gn, fp, sp, np, tot, clo, lon) sl pd ct sg od hs) s.heap := zPc hP
  have hDc := zDc hD
  have hKc := hK.sub (tys' := tyH γ) [1, 2, 3, 4, 5, 6, 7, 8, 9, 10, 11, 12, 13, 14, 15, 16, 17, 18, 19, 20, 21, 22] rfl
  refine zfx_calli (wr := oC cL o fo) hP hD hS hA (vx_runV (As := [.int (zI r9), .int (zI c9), .int (zI lv9)]) (rest := [.int (zI 0), .ref o]) hC (c_X9_piecesIn l D τ α γ h old ch rg hi8 fe se gn fp sp np tot clo lon sl pd ct sg od hs r9 c9 lv9 hr9 hc9 hlv hh hst _) (cwV 3 hts (gV hB wl_L_59 wn_X9_piecesIn ws_X9_piecesIn wi_X9 wc_X9_piecesIn) rfl rfl rfl hd_X9_piecesIn ⟨Nat.le_of_ble_eq_true rfl, Nat.le_of_ble_eq_true rfl⟩) (zpX_V hKc hPc hDc hS hA hG hGX (ci := 9) (q0 := 0) rfl rfl rfl) rfl rfl hl.1 rfl (lv_room (Nat.le_of_ble_eq_true rfl)) dL_piecesIn_7 ⟨Nat.le_of_ble_eq_true rfl, Nat.le_of_ble_eq_true rfl⟩) (fun E w1 H locs ce q9 hq9 hP hD hS hce hcv hcl => ?_) (fun r w1 H locs hq9 hP hD hS => ?_)
  · rcases hq9 with hq9 | hq9
    · skip
      obtain ⟨rfl, hx9, rfl⟩ := hq9
      refine vx_catch hown [] ⟨0, 12, 15, 13⟩ [⟨0, 12, 19, 15⟩] hT (fun z hz => nomatch hz) (by decide) (by decide) (hW0 _ wk_L_13) (va_Nw.use rfl (hGX.2.1 "java/lang/IndexOutOfBoundsException" (by decide +kernel))) hce hcv hcl ?_
      refine lv_astore (lv' := [(5, .ref q9), (0, .ref (α 0)), (1, .int (zI r9)), (2, .int (zI c9)), (3, .int (zI lv9)), (4, .ref o)]) hx hb dL_piecesIn_15 hl (by decide) rfl (fun ls hl => ?_)
      refine lv_iconst (v := zI 1) hx hb dL_piecesIn_17 rfl ?_
      exact z_iret hC hr hlk hQ hP hD hS (Or.inr (Or.inl ⟨hx9, rfl, rfl⟩)) dL_piecesIn_18
    · skip
      obtain ⟨rfl, hx9, rfl⟩ := hq9
      refine vx_catch hown [⟨0, 12, 15, 13⟩] ⟨0, 12, 19, 15⟩ [] hT (fun z hz => by cases List.mem_singleton.mp hz; exact Or.inr ⟨by decide, "java/lang/IndexOutOfBoundsException", (hW0 _ wk_L_13), hGX.2.2 ("java/lang/IllegalArgumentException", "java/lang/IndexOutOfBoundsException") (by decide +kernel)⟩) (by decide) (by decide) (hW0 _ wk_L_15) (va_Nw.use rfl (hGX.2.1 "java/lang/IllegalArgumentException" (by decide +kernel))) hce hcv hcl ?_
      refine lv_astore (lv' := [(5, .ref q9), (0, .ref (α 0)), (1, .int (zI r9)), (2, .int (zI c9)), (3, .int (zI lv9)), (4, .ref o)]) hx hb dL_piecesIn_19 hl (by decide) rfl (fun ls hl => ?_)
      refine lv_iconst (v := zI 2) hx hb dL_piecesIn_21 rfl ?_
      exact z_iret hC hr hlk hQ hP hD hS (Or.inr (Or.inr ⟨hx9, rfl, rfl⟩)) dL_piecesIn_22
  · skip
    obtain ⟨m2y, f2y, s2y, p2y, q2y, n2y, vy, hf0, hf1, rfl, rfl⟩ := hq9
    refine lv_i2l (v := (zI vy).toInt64) hx hb dL_piecesIn_10 rfl ?_
    refine zo_last hx hb hK hP hD hS dL_piecesIn_11 (fun H locs go hgo hP hD hS => ?_)
    refine lv_goto (tgt := 23) hx hb dL_piecesIn_12 (by decide) ?_
    refine lv_iconst (v := zI 0) hx hb dL_piecesIn_23 rfl ?_
    exact z_iret hC hr hlk hQ hP hD hS (Or.inl ⟨m2y, f2y, s2y, p2y, q2y, n2y, vy, go, hf0, hf1, hgo, rfl, rfl⟩) dL_piecesIn_24

abbrev wz_L_linesByTracing : List Cond := .codeWith yL_linesByTracing cL_linesByTracing 4 (some .int) [(0, 9, 12, 15)] :: W0
abbrev rm_L_linesByTracing : Room := { frames := 8, cells := 1, slots := 6, locals := 162 }
theorem hd_L_linesByTracing : yL_linesByTracing.cls = RL ∧ yL_linesByTracing.cls ≠ "java/lang/invoke/MethodHandle" ∧ yL_linesByTracing.cls ≠ "java/lang/invoke/VarHandle" ∧ (parseMethodDescriptor yL_linesByTracing.desc).map (fun d => d.parameters.length) = some 3 := by decide +kernel
set_option maxHeartbeats 4000000 in
set_option maxRecDepth 100000 in
theorem c_L_linesByTracing (l : Launch) (D : va_G) (τ : Nat → Nat) (α : Nat → Nat) (γ : Nat → ClassId) (h : IA) (old : IA) (ch : IA) (rg : TRg) (hi8 : BA) (fe : IA) (se : IA) (gn : BA) (fp : IA) (sp : IA) (np : Int) (tot : Int) (clo : Int) (lon : Int) (sl : TSl) (pd : TPd) (ct : TCt) (sg : TSg) (od : TOd) (hs : THs) (lv9 : Int) (hlv : -2147483648 ≤ lv9 ∧ lv9 < 2147483648) (hh : ∀ k, 0 ≤ k → k < 49 → 0 ≤ h k ∧ h k ≤ 99) (hst : l.stackTraces = false) (cL : ClassId) (o : Nat) (fo : Nat → Int64) : cMX l yL_linesByTracing wz_L_linesByTracing rm_L_linesByTracing D τ ((cL, .long) :: tyH γ) [.ref (α 0), .int (zI lv9), .ref o] (oC cL o fo ++ wH α γ (h, old, ch) rg (hi8, fe, se, gn, fp, sp, np, tot, clo, lon) sl pd ct sg od hs) (zQi (fun r w => (∃ (m2 : BA), ∃ (f2 : IA), ∃ (s2 : IA), ∃ (p2 : IA), ∃ (q2 : IA), ∃ (n2 : Int), ∃ (gn2 : BA), ∃ (t2 : Int), ∃ (c2 : Int), ∃ (l2 : Int), ∃ (v : Int), ∃ (go : Nat → Int64), (S_tlev lv9 = 0) ∧ (v = S_nlines (S_hi h lv9)) ∧ go 0 = (zI v).toInt64 ∧ r = zI 0 ∧ oC cL o go ++ wH α γ (h, old, ch) rg (m2, f2, s2, gn2, p2, q2, n2, t2, c2, l2) sl pd ct sg od hs = w) ∨ ((S_tlev lv9 = 1) ∧ r = zI 1 ∧ oC cL o fo ++ wH α γ (h, old, ch) rg (hi8, fe, se, gn, fp, sp, np, tot, clo, lon) sl pd ct sg od hs = w))) := by
  refine z_ofL (cc := cL_linesByTracing) (maxL := 4) (ret := (some .int)) (tb := [(0, 9, 12, 15)]) (by decide +kernel) rfl (Nat.le_of_ble_eq_true rfl) ?_
  intro pg e s m args below meth c hC hr hlk hT hK hP A hD hG hA hS hGX ls hl Q hQ
  have hx := hC.1
  have hb := hC.2.1
  have hml := hC.2.2.1
  have hown := hC.2.2.2.1
  have hts := hC.2.2.2.2
  have hB : ∀ w ∈ W0, w ∈ wz_L_linesByTracing := fun _ h => List.mem_cons_of_mem _ h
  have hW0 : ∀ w ∈ W0, w.before args s = true := fun w h => hts w (hB w h)
  have hl : lv_has ls 4 [(0, .ref (α 0)), (1, .int (zI lv9)), (2, .ref o)] := hl
  refine lv_aload_n hx hb dL_linesByTracing_0 rfl (lv_at hl 2 rfl) ?_
  refine lv_iconst (v := zI 0) hx hb dL_linesByTracing_1 rfl ?_
  refine lv_aload_n hx hb dL_linesByTracing_2 rfl (lv_at hl 0 rfl) ?_
  refine lv_iload_n hx hb dL_linesByTracing_3 rfl (lv_at hl 1 rfl) ?_
  have hPc : va_P D vwCl (wH α γ (h, old, ch) rg (hi8, fe, se, gn, fp, sp, np, tot, clo, lon) sl pd ct sg od hs) s.heap := zPc hP
  have hDc := zDc hD
  have hKc := hK.sub (tys' := tyH γ) [1, 2, 3, 4, 5, 6, 7, 8, 9, 10, 11, 12, 13, 14, 15, 16, 17, 18, 19, 20, 21, 22] rfl
  refine zfx_calli (wr := oC cL o fo) hP hD hS hA (vx_runV (As := [.int (zI lv9)]) (rest := [.int (zI 0), .ref o]) hC (c_X9_linesByTracing l D τ α γ h old ch rg hi8 fe se gn fp sp np tot clo lon sl pd ct sg od hs lv9 hlv hh hst _) (cwV 1 hts (gV hB wl_L_62 wn_X9_linesByTracing ws_X9_linesByTracing wi_X9 wc_X9_linesByTracing) rfl rfl rfl hd_X9_linesByTracing ⟨Nat.le_of_ble_eq_true rfl, Nat.le_of_ble_eq_true rfl⟩) (zpX_V hKc hPc hDc hS hA hG hGX (ci := 9) (q0 := 0) rfl rfl rfl) rfl rfl hl.1 rfl (lv_room (Nat.le_of_ble_eq_true rfl)) dL_linesByTracing_4 ⟨Nat.le_of_ble_eq_true rfl, Nat.le_of_ble_eq_true rfl⟩) (fun E w1 H locs ce q9 hq9 hP hD hS hce hcv hcl => ?_) (fun r w1 H locs hq9 hP hD hS => ?_)
  · skip
    obtain ⟨rfl, hx9, rfl⟩ := hq9
    refine vx_catch hown [] ⟨0, 9, 12, 15⟩ [] hT (fun z hz => nomatch hz) (by decide) (by decide) (hW0 _ wk_L_15) (va_Nw.use rfl (hGX.2.1 "java/lang/IllegalArgumentException" (by decide +kernel))) hce hcv hcl ?_
    refine lv_astore_n (lv' := [(3, .ref q9), (0, .ref (α 0)), (1, .int (zI lv9)), (2, .ref o)]) hx hb dL_linesByTracing_12 rfl hl (by decide) rfl (fun ls hl => ?_)
    refine lv_iconst (v := zI 1) hx hb dL_linesByTracing_13 rfl ?_
    exact z_iret hC hr hlk hQ hP hD hS (Or.inr ⟨hx9, rfl, rfl⟩) dL_linesByTracing_14
  · skip
    obtain ⟨m2y, f2y, s2y, p2y, q2y, n2y, gn2y, t2y, c2y, l2y, vy, hf0, hf1, rfl, rfl⟩ := hq9
    refine lv_i2l (v := (zI vy).toInt64) hx hb dL_linesByTracing_7 rfl ?_
    refine zo_last hx hb hK hP hD hS dL_linesByTracing_8 (fun H locs go hgo hP hD hS => ?_)
    refine lv_goto (tgt := 15) hx hb dL_linesByTracing_9 (by decide) ?_
    refine lv_iconst (v := zI 0) hx hb dL_linesByTracing_15 rfl ?_
    exact z_iret hC hr hlk hQ hP hD hS (Or.inl ⟨m2y, f2y, s2y, p2y, q2y, n2y, gn2y, t2y, c2y, l2y, vy, go, hf0, hf1, hgo, rfl, rfl⟩) dL_linesByTracing_16

abbrev wz_L_linesByRegions : List Cond := .codeWith yL_linesByRegions cL_linesByRegions 4 (some .int) [(0, 9, 12, 15)] :: W0
abbrev rm_L_linesByRegions : Room := { frames := 8, cells := 1, slots := 6, locals := 134 }
theorem hd_L_linesByRegions : yL_linesByRegions.cls = RL ∧ yL_linesByRegions.cls ≠ "java/lang/invoke/MethodHandle" ∧ yL_linesByRegions.cls ≠ "java/lang/invoke/VarHandle" ∧ (parseMethodDescriptor yL_linesByRegions.desc).map (fun d => d.parameters.length) = some 3 := by decide +kernel
set_option maxHeartbeats 4000000 in
set_option maxRecDepth 100000 in
theorem c_L_linesByRegions (l : Launch) (D : va_G) (τ : Nat → Nat) (α : Nat → Nat) (γ : Nat → ClassId) (h : IA) (old : IA) (ch : IA) (wt : BA) (qu5 : IA) (ln : TLn) (sl : TSl) (pd : TPd) (ct : TCt) (sg : TSg) (od : TOd) (hs : THs) (lv9 : Int) (hlv : -2147483648 ≤ lv9 ∧ lv9 < 2147483648) (hh : ∀ k, 0 ≤ k → k < 49 → 0 ≤ h k ∧ h k ≤ 99) (hst : l.stackTraces = false) (cL : ClassId) (o : Nat) (fo : Nat → Int64) : cMX l yL_linesByRegions wz_L_linesByRegions rm_L_linesByRegions D τ ((cL, .long) :: tyH γ) [.ref (α 0), .int (zI lv9), .ref o] (oC cL o fo ++ wH α γ (h, old, ch) (wt, qu5) ln sl pd ct sg od hs) (zQi (fun r w => (∃ (w2 : BA), ∃ (q2 : IA), ∃ (v : Int), ∃ (go : Nat → Int64), (S_tlev lv9 = 0) ∧ (v = S_nlines (S_hi h lv9)) ∧ go 0 = (zI v).toInt64 ∧ r = zI 0 ∧ oC cL o go ++ wH α γ (h, old, ch) (w2, q2) ln sl pd ct sg od hs = w) ∨ ((S_tlev lv9 = 1) ∧ r = zI 1 ∧ oC cL o fo ++ wH α γ (h, old, ch) (wt, qu5) ln sl pd ct sg od hs = w))) := by
  refine z_ofL (cc := cL_linesByRegions) (maxL := 4) (ret := (some .int)) (tb := [(0, 9, 12, 15)]) (by decide +kernel) rfl (Nat.le_of_ble_eq_true rfl) ?_
  intro pg e s m args below meth c hC hr hlk hT hK hP A hD hG hA hS hGX ls hl Q hQ
  have hx := hC.1
  have hb := hC.2.1
  have hml := hC.2.2.1
  have hown := hC.2.2.2.1
  have hts := hC.2.2.2.2
  have hB : ∀ w ∈ W0, w ∈ wz_L_linesByRegions := fun _ h => List.mem_cons_of_mem _ h
  have hW0 : ∀ w ∈ W0, w.before args s = true := fun w h => hts w (hB w h)
  have hl : lv_has ls 4 [(0, .ref (α 0)), (1, .int (zI lv9)), (2, .ref o)] := hl
  refine lv_aload_n hx hb dL_linesByRegions_0 rfl (lv_at hl 2 rfl) ?_
  refine lv_iconst (v := zI 0) hx hb dL_linesByRegions_1 rfl ?_
  refine lv_aload_n hx hb dL_linesByRegions_2 rfl (lv_at hl 0 rfl) ?_
  refine lv_iload_n hx hb dL_linesByRegions_3 rfl (lv_at hl 1 rfl) ?_
  have hPc : va_P D vwCl (wH α γ (h, old, ch) (wt, qu5) ln sl pd ct sg od hs) s.heap := zPc hP
  have hDc := zDc hD
  have hKc := hK.sub (tys' := tyH γ) [1, 2, 3, 4, 5, 6, 7, 8, 9, 10, 11, 12, 13, 14, 15, 16, 17, 18, 19, 20, 21, 22] rfl
  refine zfx_calli (wr := oC cL o fo) hP hD hS hA (vx_runV (As := [.int (zI lv9)]) (rest := [.int (zI 0), .ref o]) hC (c_X9_linesByRegions l D τ α γ h old ch wt qu5 ln sl pd ct sg od hs lv9 hlv hh hst _) (cwV 1 hts (gV hB wl_L_65 wn_X9_linesByRegions ws_X9_linesByRegions wi_X9 wc_X9_linesByRegions) rfl rfl rfl hd_X9_linesByRegions ⟨Nat.le_of_ble_eq_true rfl, Nat.le_of_ble_eq_true rfl⟩) (zpX_V hKc hPc hDc hS hA hG hGX (ci := 9) (q0 := 0) rfl rfl rfl) rfl rfl hl.1 rfl (lv_room (Nat.le_of_ble_eq_true rfl)) dL_linesByRegions_4 ⟨Nat.le_of_ble_eq_true rfl, Nat.le_of_ble_eq_true rfl⟩) (fun E w1 H locs ce q9 hq9 hP hD hS hce hcv hcl => ?_) (fun r w1 H locs hq9 hP hD hS => ?_)
  · skip
    obtain ⟨rfl, hx9, rfl⟩ := hq9
    refine vx_catch hown [] ⟨0, 9, 12, 15⟩ [] hT (fun z hz => nomatch hz) (by decide) (by decide) (hW0 _ wk_L_15) (va_Nw.use rfl (hGX.2.1 "java/lang/IllegalArgumentException" (by decide +kernel))) hce hcv hcl ?_
    refine lv_astore_n (lv' := [(3, .ref q9), (0, .ref (α 0)), (1, .int (zI lv9)), (2, .ref o)]) hx hb dL_linesByRegions_12 rfl hl (by decide) rfl (fun ls hl => ?_)
    refine lv_iconst (v := zI 1) hx hb dL_linesByRegions_13 rfl ?_
    exact z_iret hC hr hlk hQ hP hD hS (Or.inr ⟨hx9, rfl, rfl⟩) dL_linesByRegions_14
  · skip
    obtain ⟨w2y, q2y, vy, hf0, hf1, rfl, rfl⟩ := hq9
    refine lv_i2l (v := (zI vy).toInt64) hx hb dL_linesByRegions_7 rfl ?_
    refine zo_last hx hb hK hP hD hS dL_linesByRegions_8 (fun H locs go hgo hP hD hS => ?_)
    refine lv_goto (tgt := 15) hx hb dL_linesByRegions_9 (by decide) ?_
    refine lv_iconst (v := zI 0) hx hb dL_linesByRegions_15 rfl ?_
    exact z_iret hC hr hlk hQ hP hD hS (Or.inl ⟨w2y, q2y, vy, go, hf0, hf1, hgo, rfl, rfl⟩) dL_linesByRegions_16

abbrev wz_L_closedLines : List Cond := .codeWith yL_closedLines cL_closedLines 4 (some .int) [(0, 9, 12, 15)] :: W0
abbrev rm_L_closedLines : Room := { frames := 8, cells := 1, slots := 6, locals := 162 }
theorem hd_L_closedLines : yL_closedLines.cls = RL ∧ yL_closedLines.cls ≠ "java/lang/invoke/MethodHandle" ∧ yL_closedLines.cls ≠ "java/lang/invoke/VarHandle" ∧ (parseMethodDescriptor yL_closedLines.desc).map (fun d => d.parameters.length) = some 3 := by decide +kernel
set_option maxHeartbeats 4000000 in
set_option maxRecDepth 100000 in
theorem c_L_closedLines (l : Launch) (D : va_G) (τ : Nat → Nat) (α : Nat → Nat) (γ : Nat → ClassId) (h : IA) (old : IA) (ch : IA) (rg : TRg) (hi8 : BA) (fe : IA) (se : IA) (gn : BA) (fp : IA) (sp : IA) (np : Int) (tot : Int) (clo : Int) (lon : Int) (sl : TSl) (pd : TPd) (ct : TCt) (sg : TSg) (od : TOd) (hs : THs) (lv9 : Int) (hlv : -2147483648 ≤ lv9 ∧ lv9 < 2147483648) (hh : ∀ k, 0 ≤ k → k < 49 → 0 ≤ h k ∧ h k ≤ 99) (hst : l.stackTraces = false) (cL : ClassId) (o : Nat) (fo : Nat → Int64) : cMX l yL_closedLines wz_L_closedLines rm_L_closedLines D τ ((cL, .long) :: tyH γ) [.ref (α 0), .int (zI lv9), .ref o] (oC cL o fo ++ wH α γ (h, old, ch) rg (hi8, fe, se, gn, fp, sp, np, tot, clo, lon) sl pd ct sg od hs) (zQi (fun r w => (∃ (m2 : BA), ∃ (f2 : IA), ∃ (s2 : IA), ∃ (p2 : IA), ∃ (q2 : IA), ∃ (n2 : Int), ∃ (gn2 : BA), ∃ (t2 : Int), ∃ (c2 : Int), ∃ (l2 : Int), ∃ (v : Int), ∃ (go : Nat → Int64), (S_tlev lv9 = 0) ∧ (v = S_nclosed (S_hi h lv9)) ∧ go 0 = (zI v).toInt64 ∧ r = zI 0 ∧ oC cL o go ++ wH α γ (h, old, ch) rg (m2, f2, s2, gn2, p2, q2, n2, t2, c2, l2) sl pd ct sg od hs = w) ∨ ((S_tlev lv9 = 1) ∧ r = zI 1 ∧ oC cL o fo ++ wH α γ (h, old, ch) rg (hi8, fe, se, gn, fp, sp, np, tot, clo, lon) sl pd ct sg od hs = w))) := by
  refine z_ofL (cc := cL_closedLines) (maxL := 4) (ret := (some .int)) (tb := [(0, 9, 12, 15)]) (by decide +kernel) rfl (Nat.le_of_ble_eq_true rfl) ?_
  intro pg e s m args below meth c hC hr hlk hT hK hP A hD hG hA hS hGX ls hl Q hQ
  have hx := hC.1
  have hb := hC.2.1
  have hml := hC.2.2.1
  have hown := hC.2.2.2.1
  have hts := hC.2.2.2.2
  have hB : ∀ w ∈ W0, w ∈ wz_L_closedLines := fun _ h => List.mem_cons_of_mem _ h
  have hW0 : ∀ w ∈ W0, w.before args s = true := fun w h => hts w (hB w h)
  have hl : lv_has ls 4 [(0, .ref (α 0)), (1, .int (zI lv9)), (2, .ref o)] := hl
  refine lv_aload_n hx hb dL_closedLines_0 rfl (lv_at hl 2 rfl) ?_
  refine lv_iconst (v := zI 0) hx hb dL_closedLines_1 rfl ?_
  refine lv_aload_n hx hb dL_closedLines_2 rfl (lv_at hl 0 rfl) ?_
  refine lv_iload_n hx hb dL_closedLines_3 rfl (lv_at hl 1 rfl) ?_
  have hPc : va_P D vwCl (wH α γ (h, old, ch) rg (hi8, fe, se, gn, fp, sp, np, tot, clo, lon) sl pd ct sg od hs) s.heap := zPc hP
  have hDc := zDc hD
  have hKc := hK.sub (tys' := tyH γ) [1, 2, 3, 4, 5, 6, 7, 8, 9, 10, 11, 12, 13, 14, 15, 16, 17, 18, 19, 20, 21, 22] rfl
  refine zfx_calli (wr := oC cL o fo) hP hD hS hA (vx_runV (As := [.int (zI lv9)]) (rest := [.int (zI 0), .ref o]) hC (c_X9_closedLines l D τ α γ h old ch rg hi8 fe se gn fp sp np tot clo lon sl pd ct sg od hs lv9 hlv hh hst _) (cwV 1 hts (gV hB wl_L_68 wn_X9_closedLines ws_X9_closedLines wi_X9 wc_X9_closedLines) rfl rfl rfl hd_X9_closedLines ⟨Nat.le_of_ble_eq_true rfl, Nat.le_of_ble_eq_true rfl⟩) (zpX_V hKc hPc hDc hS hA hG hGX (ci := 9) (q0 := 0) rfl rfl rfl) rfl rfl hl.1 rfl (lv_room (Nat.le_of_ble_eq_true rfl)) dL_closedLines_4 ⟨Nat.le_of_ble_eq_true rfl, Nat.le_of_ble_eq_true rfl⟩) (fun E w1 H locs ce q9 hq9 hP hD hS hce hcv hcl => ?_) (fun r w1 H locs hq9 hP hD hS => ?_)
  · skip
    obtain ⟨rfl, hx9, rfl⟩ := hq9
    refine vx_catch hown [] ⟨0, 9, 12, 15⟩ [] hT (fun z hz => nomatch hz) (by decide) (by decide) (hW0 _ wk_L_15) (va_Nw.use rfl (hGX.2.1 "java/lang/IllegalArgumentException" (by decide +kernel))) hce hcv hcl ?_
    refine lv_astore_n (lv' := [(3, .ref q9), (0, .ref (α 0)), (1, .int (zI lv9)), (2, .ref o)]) hx hb dL_closedLines_12 rfl hl (by decide) rfl (fun ls hl => ?_)
    refine lv_iconst (v := zI 1) hx hb dL_closedLines_13 rfl ?_
    exact z_iret hC hr hlk hQ hP hD hS (Or.inr ⟨hx9, rfl, rfl⟩) dL_closedLines_14
  · skip
    obtain ⟨m2y, f2y, s2y, p2y, q2y, n2y, gn2y, t2y, c2y, l2y, vy, hf0, hf1, rfl, rfl⟩ := hq9
    refine lv_i2l (v := (zI vy).toInt64) hx hb dL_closedLines_7 rfl ?_
    refine zo_last hx hb hK hP hD hS dL_closedLines_8 (fun H locs go hgo hP hD hS => ?_)
    refine lv_goto (tgt := 15) hx hb dL_closedLines_9 (by decide) ?_
    refine lv_iconst (v := zI 0) hx hb dL_closedLines_15 rfl ?_
    exact z_iret hC hr hlk hQ hP hD hS (Or.inl ⟨m2y, f2y, s2y, p2y, q2y, n2y, gn2y, t2y, c2y, l2y, vy, go, hf0, hf1, hgo, rfl, rfl⟩) dL_closedLines_16

abbrev wz_L_longestLine : List Cond := .codeWith yL_longestLine cL_longestLine 4 (some .int) [(0, 9, 12, 15)] :: W0
abbrev rm_L_longestLine : Room := { frames := 8, cells := 1, slots := 6, locals := 162 }
theorem hd_L_longestLine : yL_longestLine.cls = RL ∧ yL_longestLine.cls ≠ "java/lang/invoke/MethodHandle" ∧ yL_longestLine.cls ≠ "java/lang/invoke/VarHandle" ∧ (parseMethodDescriptor yL_longestLine.desc).map (fun d => d.parameters.length) = some 3 := by decide +kernel
set_option maxHeartbeats 4000000 in
set_option maxRecDepth 100000 in
theorem c_L_longestLine (l : Launch) (D : va_G) (τ : Nat → Nat) (α : Nat → Nat) (γ : Nat → ClassId) (h : IA) (old : IA) (ch : IA) (rg : TRg) (hi8 : BA) (fe : IA) (se : IA) (gn : BA) (fp : IA) (sp : IA) (np : Int) (tot : Int) (clo : Int) (lon : Int) (sl : TSl) (pd : TPd) (ct : TCt) (sg : TSg) (od : TOd) (hs : THs) (lv9 : Int) (hlv : -2147483648 ≤ lv9 ∧ lv9 < 2147483648) (hh : ∀ k, 0 ≤ k → k < 49 → 0 ≤ h k ∧ h k ≤ 99) (hst : l.stackTraces = false) (cL : ClassId) (o : Nat) (fo : Nat → Int64) : cMX l yL_longestLine wz_L_longestLine rm_L_longestLine D τ ((cL, .long) :: tyH γ) [.ref (α 0), .int (zI lv9), .ref o] (oC cL o fo ++ wH α γ (h, old, ch) rg (hi8, fe, se, gn, fp, sp, np, tot, clo, lon) sl pd ct sg od hs) (zQi (fun r w => (∃ (m2 : BA), ∃ (f2 : IA), ∃ (s2 : IA), ∃ (p2 : IA), ∃ (q2 : IA), ∃ (n2 : Int), ∃ (gn2 : BA), ∃ (t2 : Int), ∃ (c2 : Int), ∃ (l2 : Int), ∃ (v : Int), ∃ (go : Nat → Int64), (S_tlev lv9 = 0) ∧ (v = S_long (S_hi h lv9)) ∧ go 0 = (zI v).toInt64 ∧ r = zI 0 ∧ oC cL o go ++ wH α γ (h, old, ch) rg (m2, f2, s2, gn2, p2, q2, n2, t2, c2, l2) sl pd ct sg od hs = w) ∨ ((S_tlev lv9 = 1) ∧ r = zI 1 ∧ oC cL o fo ++ wH α γ (h, old, ch) rg (hi8, fe, se, gn, fp, sp, np, tot, clo, lon) sl pd ct sg od hs = w))) := by
  refine z_ofL (cc := cL_longestLine) (maxL := 4) (ret := (some .int)) (tb := [(0, 9, 12, 15)]) (by decide +kernel) rfl (Nat.le_of_ble_eq_true rfl) ?_
  intro pg e s m args below meth c hC hr hlk hT hK hP A hD hG hA hS hGX ls hl Q hQ
  have hx := hC.1
  have hb := hC.2.1
  have hml := hC.2.2.1
  have hown := hC.2.2.2.1
  have hts := hC.2.2.2.2
  have hB : ∀ w ∈ W0, w ∈ wz_L_longestLine := fun _ h => List.mem_cons_of_mem _ h
  have hW0 : ∀ w ∈ W0, w.before args s = true := fun w h => hts w (hB w h)
  have hl : lv_has ls 4 [(0, .ref (α 0)), (1, .int (zI lv9)), (2, .ref o)] := hl
  refine lv_aload_n hx hb dL_longestLine_0 rfl (lv_at hl 2 rfl) ?_
  refine lv_iconst (v := zI 0) hx hb dL_longestLine_1 rfl ?_
  refine lv_aload_n hx hb dL_longestLine_2 rfl (lv_at hl 0 rfl) ?_
  refine lv_iload_n hx hb dL_longestLine_3 rfl (lv_at hl 1 rfl) ?_
  have hPc : va_P D vwCl (wH α γ (h, old, ch) rg (hi8, fe, se, gn, fp, sp, np, tot, clo, lon) sl pd ct sg od hs) s.heap := zPc hP
  have hDc := zDc hD
  have hKc := hK.sub (tys' := tyH γ) [1, 2, 3, 4, 5, 6, 7, 8, 9, 10, 11, 12, 13, 14, 15, 16, 17, 18, 19, 20, 21, 22] rfl
  refine zfx_calli (wr := oC cL o fo) hP hD hS hA (vx_runV (As := [.int (zI lv9)]) (rest := [.int (zI 0), .ref o]) hC (c_X9_longestLine l D τ α γ h old ch rg hi8 fe se gn fp sp np tot clo lon sl pd ct sg od hs lv9 hlv hh hst _) (cwV 1 hts (gV hB wl_L_71 wn_X9_longestLine ws_X9_longestLine wi_X9 wc_X9_longestLine) rfl rfl rfl hd_X9_longestLine ⟨Nat.le_of_ble_eq_true rfl, Nat.le_of_ble_eq_true rfl⟩) (zpX_V hKc hPc hDc hS hA hG hGX (ci := 9) (q0 := 0) rfl rfl rfl) rfl rfl hl.1 rfl (lv_room (Nat.le_of_ble_eq_true rfl)) dL_longestLine_4 ⟨Nat.le_of_ble_eq_true rfl, Nat.le_of_ble_eq_true rfl⟩) (fun E w1 H locs ce q9 hq9 hP hD hS hce hcv hcl => ?_) (fun r w1 H locs hq9 hP hD hS => ?_)
  · skip
    obtain ⟨rfl, hx9, rfl⟩ := hq9
    refine vx_catch hown [] ⟨0, 9, 12, 15⟩ [] hT (fun z hz => nomatch hz) (by decide) (by decide) (hW0 _ wk_L_15) (va_Nw.use rfl (hGX.2.1 "java/lang/IllegalArgumentException" (by decide +kernel))) hce hcv hcl ?_
    refine lv_astore_n (lv' := [(3, .ref q9), (0, .ref (α 0)), (1, .int (zI lv9)), (2, .ref o)]) hx hb dL_longestLine_12 rfl hl (by decide) rfl (fun ls hl => ?_)
    refine lv_iconst (v := zI 1) hx hb dL_longestLine_13 rfl ?_
    exact z_iret hC hr hlk hQ hP hD hS (Or.inr ⟨hx9, rfl, rfl⟩) dL_longestLine_14
  · skip
    obtain ⟨m2y, f2y, s2y, p2y, q2y, n2y, gn2y, t2y, c2y, l2y, vy, hf0, hf1, rfl, rfl⟩ := hq9
    refine lv_i2l (v := (zI vy).toInt64) hx hb dL_longestLine_7 rfl ?_
    refine zo_last hx hb hK hP hD hS dL_longestLine_8 (fun H locs go hgo hP hD hS => ?_)
    refine lv_goto (tgt := 15) hx hb dL_longestLine_9 (by decide) ?_
    refine lv_iconst (v := zI 0) hx hb dL_longestLine_15 rfl ?_
    exact z_iret hC hr hlk hQ hP hD hS (Or.inl ⟨m2y, f2y, s2y, p2y, q2y, n2y, gn2y, t2y, c2y, l2y, vy, go, hf0, hf1, hgo, rfl, rfl⟩) dL_longestLine_16

abbrev wz_L_hills : List Cond := .codeWith yL_hills cL_hills 4 (some .int) [(0, 9, 12, 15)] :: W0
abbrev rm_L_hills : Room := { frames := 8, cells := 1, slots := 6, locals := 134 }
theorem hd_L_hills : yL_hills.cls = RL ∧ yL_hills.cls ≠ "java/lang/invoke/MethodHandle" ∧ yL_hills.cls ≠ "java/lang/invoke/VarHandle" ∧ (parseMethodDescriptor yL_hills.desc).map (fun d => d.parameters.length) = some 3 := by decide +kernel
set_option maxHeartbeats 4000000 in
set_option maxRecDepth 100000 in
theorem c_L_hills (l : Launch) (D : va_G) (τ : Nat → Nat) (α : Nat → Nat) (γ : Nat → ClassId) (h : IA) (old : IA) (ch : IA) (wt : BA) (qu5 : IA) (ln : TLn) (sl : TSl) (pd : TPd) (ct : TCt) (sg : TSg) (od : TOd) (hs : THs) (lv9 : Int) (hlv : -2147483648 ≤ lv9 ∧ lv9 < 2147483648) (hh : ∀ k, 0 ≤ k → k < 49 → 0 ≤ h k ∧ h k ≤ 99) (hst : l.stackTraces = false) (cL : ClassId) (o : Nat) (fo : Nat → Int64) : cMX l yL_hills wz_L_hills rm_L_hills D τ ((cL, .long) :: tyH γ) [.ref (α 0), .int (zI lv9), .ref o] (oC cL o fo ++ wH α γ (h, old, ch) (wt, qu5) ln sl pd ct sg od hs) (zQi (fun r w => (∃ (w2 : BA), ∃ (q2 : IA), ∃ (v : Int), ∃ (go : Nat → Int64), (S_tlev lv9 = 0) ∧ (v = S_comps 4 (S_hi h lv9)) ∧ go 0 = (zI v).toInt64 ∧ r = zI 0 ∧ oC cL o go ++ wH α γ (h, old, ch) (w2, q2) ln sl pd ct sg od hs = w) ∨ ((S_tlev lv9 = 1) ∧ r = zI 1 ∧ oC cL o fo ++ wH α γ (h, old, ch) (wt, qu5) ln sl pd ct sg od hs = w))) := by
  refine z_ofL (cc := cL_hills) (maxL := 4) (ret := (some .int)) (tb := [(0, 9, 12, 15)]) (by decide +kernel) rfl (Nat.le_of_ble_eq_true rfl) ?_
  intro pg e s m args below meth c hC hr hlk hT hK hP A hD hG hA hS hGX ls hl Q hQ
  have hx := hC.1
  have hb := hC.2.1
  have hml := hC.2.2.1
  have hown := hC.2.2.2.1
  have hts := hC.2.2.2.2
  have hB : ∀ w ∈ W0, w ∈ wz_L_hills := fun _ h => List.mem_cons_of_mem _ h
  have hW0 : ∀ w ∈ W0, w.before args s = true := fun w h => hts w (hB w h)
  have hl : lv_has ls 4 [(0, .ref (α 0)), (1, .int (zI lv9)), (2, .ref o)] := hl
  refine lv_aload_n hx hb dL_hills_0 rfl (lv_at hl 2 rfl) ?_
  refine lv_iconst (v := zI 0) hx hb dL_hills_1 rfl ?_
  refine lv_aload_n hx hb dL_hills_2 rfl (lv_at hl 0 rfl) ?_
  refine lv_iload_n hx hb dL_hills_3 rfl (lv_at hl 1 rfl) ?_
  have hPc : va_P D vwCl (wH α γ (h, old, ch) (wt, qu5) ln sl pd ct sg od hs) s.heap := zPc hP
  have hDc := zDc hD
  have hKc := hK.sub (tys' := tyH γ) [1, 2, 3, 4, 5, 6, 7, 8, 9, 10, 11, 12, 13, 14, 15, 16, 17, 18, 19, 20, 21, 22] rfl
  refine zfx_calli (wr := oC cL o fo) hP hD hS hA (vx_runV (As := [.int (zI lv9)]) (rest := [.int (zI 0), .ref o]) hC (c_X9_hills l D τ α γ h old ch wt qu5 ln sl pd ct sg od hs lv9 hlv hh hst _) (cwV 1 hts (gV hB wl_L_74 wn_X9_hills ws_X9_hills wi_X9 wc_X9_hills) rfl rfl rfl hd_X9_hills ⟨Nat.le_of_ble_eq_true rfl, Nat.le_of_ble_eq_true rfl⟩) (zpX_V hKc hPc hDc hS hA hG hGX (ci := 9) (q0 := 0) rfl rfl rfl) rfl rfl hl.1 rfl (lv_room (Nat.le_of_ble_eq_true rfl)) dL_hills_4 ⟨Nat.le_of_ble_eq_true rfl, Nat.le_of_ble_eq_true rfl⟩) (fun E w1 H locs ce q9 hq9 hP hD hS hce hcv hcl => ?_) (fun r w1 H locs hq9 hP hD hS => ?_)
  · skip
    obtain ⟨rfl, hx9, rfl⟩ := hq9
    refine vx_catch hown [] ⟨0, 9, 12, 15⟩ [] hT (fun z hz => nomatch hz) (by decide) (by decide) (hW0 _ wk_L_15) (va_Nw.use rfl (hGX.2.1 "java/lang/IllegalArgumentException" (by decide +kernel))) hce hcv hcl ?_
    refine lv_astore_n (lv' := [(3, .ref q9), (0, .ref (α 0)), (1, .int (zI lv9)), (2, .ref o)]) hx hb dL_hills_12 rfl hl (by decide) rfl (fun ls hl => ?_)
    refine lv_iconst (v := zI 1) hx hb dL_hills_13 rfl ?_
    exact z_iret hC hr hlk hQ hP hD hS (Or.inr ⟨hx9, rfl, rfl⟩) dL_hills_14
  · skip
    obtain ⟨w2y, q2y, vy, hf0, hf1, rfl, rfl⟩ := hq9
    refine lv_i2l (v := (zI vy).toInt64) hx hb dL_hills_7 rfl ?_
    refine zo_last hx hb hK hP hD hS dL_hills_8 (fun H locs go hgo hP hD hS => ?_)
    refine lv_goto (tgt := 15) hx hb dL_hills_9 (by decide) ?_
    refine lv_iconst (v := zI 0) hx hb dL_hills_15 rfl ?_
    exact z_iret hC hr hlk hQ hP hD hS (Or.inl ⟨w2y, q2y, vy, go, hf0, hf1, hgo, rfl, rfl⟩) dL_hills_16

abbrev wz_L_hollows : List Cond := .codeWith yL_hollows cL_hollows 4 (some .int) [(0, 9, 12, 15)] :: W0
abbrev rm_L_hollows : Room := { frames := 8, cells := 1, slots := 6, locals := 134 }
theorem hd_L_hollows : yL_hollows.cls = RL ∧ yL_hollows.cls ≠ "java/lang/invoke/MethodHandle" ∧ yL_hollows.cls ≠ "java/lang/invoke/VarHandle" ∧ (parseMethodDescriptor yL_hollows.desc).map (fun d => d.parameters.length) = some 3 := by decide +kernel
set_option maxHeartbeats 4000000 in
set_option maxRecDepth 100000 in
theorem c_L_hollows (l : Launch) (D : va_G) (τ : Nat → Nat) (α : Nat → Nat) (γ : Nat → ClassId) (h : IA) (old : IA) (ch : IA) (wt : BA) (qu5 : IA) (ln : TLn) (sl : TSl) (pd : TPd) (ct : TCt) (sg : TSg) (od : TOd) (hs : THs) (lv9 : Int) (hlv : -2147483648 ≤ lv9 ∧ lv9 < 2147483648) (hh : ∀ k, 0 ≤ k → k < 49 → 0 ≤ h k ∧ h k ≤ 99) (hst : l.stackTraces = false) (cL : ClassId) (o : Nat) (fo : Nat → Int64) : cMX l yL_hollows wz_L_hollows rm_L_hollows D τ ((cL, .long) :: tyH γ) [.ref (α 0), .int (zI lv9), .ref o] (oC cL o fo ++ wH α γ (h, old, ch) (wt, qu5) ln sl pd ct sg od hs) (zQi (fun r w => (∃ (w2 : BA), ∃ (q2 : IA), ∃ (v : Int), ∃ (go : Nat → Int64), (S_tlev lv9 = 0) ∧ (v = S_comps 8 (fun k => !S_hi h lv9 k)) ∧ go 0 = (zI v).toInt64 ∧ r = zI 0 ∧ oC cL o go ++ wH α γ (h, old, ch) (w2, q2) ln sl pd ct sg od hs = w) ∨ ((S_tlev lv9 = 1) ∧ r = zI 1 ∧ oC cL o fo ++ wH α γ (h, old, ch) (wt, qu5) ln sl pd ct sg od hs = w))) := by
  refine z_ofL (cc := cL_hollows) (maxL := 4) (ret := (some .int)) (tb := [(0, 9, 12, 15)]) (by decide +kernel) rfl (Nat.le_of_ble_eq_true rfl) ?_
  intro pg e s m args below meth c hC hr hlk hT hK hP A hD hG hA hS hGX ls hl Q hQ
  have hx := hC.1
  have hb := hC.2.1
  have hml := hC.2.2.1
  have hown := hC.2.2.2.1
  have hts := hC.2.2.2.2
  have hB : ∀ w ∈ W0, w ∈ wz_L_hollows := fun _ h => List.mem_cons_of_mem _ h
  have hW0 : ∀ w ∈ W0, w.before args s = true := fun w h => hts w (hB w h)
  have hl : lv_has ls 4 [(0, .ref (α 0)), (1, .int (zI lv9)), (2, .ref o)] := hl
  refine lv_aload_n hx hb dL_hollows_0 rfl (lv_at hl 2 rfl) ?_
  refine lv_iconst (v := zI 0) hx hb dL_hollows_1 rfl ?_
  refine lv_aload_n hx hb dL_hollows_2 rfl (lv_at hl 0 rfl) ?_
  refine lv_iload_n hx hb dL_hollows_3 rfl (lv_at hl 1 rfl) ?_
  have hPc : va_P D vwCl (wH α γ (h, old, ch) (wt, qu5) ln sl pd ct sg od hs) s.heap := zPc hP
  have hDc := zDc hD
  have hKc := hK.sub (tys' := tyH γ) [1, 2, 3, 4, 5, 6, 7, 8, 9, 10, 11, 12, 13, 14, 15, 16, 17, 18, 19, 20, 21, 22] rfl
  refine zfx_calli (wr := oC cL o fo) hP hD hS hA (vx_runV (As := [.int (zI lv9)]) (rest := [.int (zI 0), .ref o]) hC (c_X9_hollows l D τ α γ h old ch wt qu5 ln sl pd ct sg od hs lv9 hlv hh hst _) (cwV 1 hts (gV hB wl_L_77 wn_X9_hollows ws_X9_hollows wi_X9 wc_X9_hollows) rfl rfl rfl hd_X9_hollows ⟨Nat.le_of_ble_eq_true rfl, Nat.le_of_ble_eq_true rfl⟩) (zpX_V hKc hPc hDc hS hA hG hGX (ci := 9) (q0 := 0) rfl rfl rfl) rfl rfl hl.1 rfl (lv_room (Nat.le_of_ble_eq_true rfl)) dL_hollows_4 ⟨Nat.le_of_ble_eq_true rfl, Nat.le_of_ble_eq_true rfl⟩) (fun E w1 H locs ce q9 hq9 hP hD hS hce hcv hcl => ?_) (fun r w1 H locs hq9 hP hD hS => ?_)
  · skip
    obtain ⟨rfl, hx9, rfl⟩ := hq9
    refine vx_catch hown [] ⟨0, 9, 12, 15⟩ [] hT (fun z hz => nomatch hz) (by decide) (by decide) (hW0 _ wk_L_15) (va_Nw.use rfl (hGX.2.1 "java/lang/IllegalArgumentException" (by decide +kernel))) hce hcv hcl ?_
    refine lv_astore_n (lv' := [(3, .ref q9), (0, .ref (α 0)), (1, .int (zI lv9)), (2, .ref o)]) hx hb dL_hollows_12 rfl hl (by decide) rfl (fun ls hl => ?_)
    refine lv_iconst (v := zI 1) hx hb dL_hollows_13 rfl ?_
    exact z_iret hC hr hlk hQ hP hD hS (Or.inr ⟨hx9, rfl, rfl⟩) dL_hollows_14
  · skip
    obtain ⟨w2y, q2y, vy, hf0, hf1, rfl, rfl⟩ := hq9
    refine lv_i2l (v := (zI vy).toInt64) hx hb dL_hollows_7 rfl ?_
    refine zo_last hx hb hK hP hD hS dL_hollows_8 (fun H locs go hgo hP hD hS => ?_)
    refine lv_goto (tgt := 15) hx hb dL_hollows_9 (by decide) ?_
    refine lv_iconst (v := zI 0) hx hb dL_hollows_15 rfl ?_
    exact z_iret hC hr hlk hQ hP hD hS (Or.inl ⟨w2y, q2y, vy, go, hf0, hf1, hgo, rfl, rfl⟩) dL_hollows_16

abbrev wz_L_drainOf : List Cond := .codeWith yL_drainOf cL_drainOf 5 (some .int) [(0, 10, 13, 13), (0, 10, 17, 27)] :: W0
abbrev rm_L_drainOf : Room := { frames := 8, cells := 2, slots := 12, locals := 135 }
theorem hd_L_drainOf : yL_drainOf.cls = RL ∧ yL_drainOf.cls ≠ "java/lang/invoke/MethodHandle" ∧ yL_drainOf.cls ≠ "java/lang/invoke/VarHandle" ∧ (parseMethodDescriptor yL_drainOf.desc).map (fun d => d.parameters.length) = some 4 := by decide +kernel
set_option maxHeartbeats 4000000 in
set_option maxRecDepth 100000 in
theorem c_L_drainOf (l : Launch) (D : va_G) (τ : Nat → Nat) (α : Nat → Nat) (γ : Nat → ClassId) (h : IA) (old : IA) (ch : IA) (rg : TRg) (ln : TLn) (nx : IA) (dr : IA) (qu : IA) (pd : TPd) (ct : TCt) (sg : TSg) (od : TOd) (hs : THs) (r9 : Int) (c9 : Int) (hr9 : -2147483648 ≤ r9 ∧ r9 < 2147483648) (hc9 : -2147483648 ≤ c9 ∧ c9 < 2147483648) (hh : ∀ k, 0 ≤ k → k < 49 → 0 ≤ h k ∧ h k ≤ 99) (hst : l.stackTraces = false) (cL : ClassId) (o : Nat) (fo : Nat → Int64) : cMX l yL_drainOf wz_L_drainOf rm_L_drainOf D τ ((cL, .long) :: tyH γ) [.ref (α 0), .int (zI r9), .int (zI c9), .ref o] (oC cL o fo ++ wH α γ (h, old, ch) rg ln (nx, dr, qu) pd ct sg od hs) (zQi (fun r w => (∃ (n2 : IA), ∃ (d2 : IA), ∃ (v : Int), ∃ (go : Nat → Int64), (S_tdr h r9 c9 = 0) ∧ (v = S_next h (7 * r9 + c9)) ∧ go 0 = (zI v).toInt64 ∧ r = zI 0 ∧ oC cL o go ++ wH α γ (h, old, ch) rg ln (n2, d2, qu) pd ct sg od hs = w) ∨ ((S_tdr h r9 c9 = 1) ∧ r = zI 1 ∧ oC cL o fo ++ wH α γ (h, old, ch) rg ln (nx, dr, qu) pd ct sg od hs = w) ∨ (∃ (n2 : IA), ∃ (d2 : IA), (S_tdr h r9 c9 = 2) ∧ r = zI 2 ∧ oC cL o fo ++ wH α γ (h, old, ch) rg ln (n2, d2, qu) pd ct sg od hs = w))) := by
  refine z_ofL (cc := cL_drainOf) (maxL := 5) (ret := (some .int)) (tb := [(0, 10, 13, 13), (0, 10, 17, 27)]) (by decide +kernel) rfl (Nat.le_of_ble_eq_true rfl) ?_
  intro pg e s m args below meth c hC hr hlk hT hK hP A hD hG hA hS hGX ls hl Q hQ
  have hx := hC.1
  have hb := hC.2.1
  have hml := hC.2.2.1
  have hown := hC.2.2.2.1
  have hts := hC.2.2.2.2
  have hB : ∀ w ∈ W0, w ∈ wz_L_drainOf := fun _ h => List.mem_cons_of_mem _ h
  have hW0 : ∀ w ∈ W0, w.before args s = true := fun w h => hts w (hB w h)
  have hl : lv_has ls 5 [(0, .ref (α 0)), (1, .int (zI r9)), (2, .int (zI c9)), (3, .ref o)] := hl
  refine lv_aload_n hx hb dL_drainOf_0 rfl (lv_at hl 3 rfl) ?_
  refine lv_iconst (v := zI 0) hx hb dL_drainOf_1 rfl ?_
  refine lv_aload_n hx hb dL_drainOf_2 rfl (lv_at hl 0 rfl) ?_
  refine lv_iload_n hx hb dL_drainOf_3 rfl (lv_at hl 1 rfl) ?_
  refine lv_iload_n hx hb dL_drainOf_4 rfl (lv_at hl 2 rfl) ?_
  have hPc : va_P D vwCl (wH α γ (h, old, ch) rg ln (nx, dr, qu) pd ct sg od hs) s.heap := zPc hP
  have hDc := zDc hD
  have hKc := hK.sub (tys' := tyH γ) [1, 2, 3, 4, 5, 6, 7, 8, 9, 10, 11, 12, 13, 14, 15, 16, 17, 18, 19, 20, 21, 22] rfl
  refine zfx_calli (wr := oC cL o fo) hP hD hS hA (vx_runV (As := [.int (zI r9), .int (zI c9)]) (rest := [.int (zI 0), .ref o]) hC (c_X9_drainOf l D τ α γ h old ch rg ln nx dr qu pd ct sg od hs r9 c9 hr9 hc9 hh hst _) (cwV 2 hts (gV hB wl_L_80 wn_X9_drainOf ws_X9_drainOf wi_X9 wc_X9_drainOf) rfl rfl rfl hd_X9_drainOf ⟨Nat.le_of_ble_eq_true rfl, Nat.le_of_ble_eq_true rfl⟩) (zpX_V hKc hPc hDc hS hA hG hGX (ci := 9) (q0 := 0) rfl rfl rfl) rfl rfl hl.1 rfl (lv_room (Nat.le_of_ble_eq_true rfl)) dL_drainOf_5 ⟨Nat.le_of_ble_eq_true rfl, Nat.le_of_ble_eq_true rfl⟩) (fun E w1 H locs ce q9 hq9 hP hD hS hce hcv hcl => ?_) (fun r w1 H locs hq9 hP hD hS => ?_)
  · rcases hq9 with hq9 | hq9
    · skip
      obtain ⟨rfl, hx9, rfl⟩ := hq9
      refine vx_catch hown [] ⟨0, 10, 13, 13⟩ [⟨0, 10, 17, 27⟩] hT (fun z hz => nomatch hz) (by decide) (by decide) (hW0 _ wk_L_13) (va_Nw.use rfl (hGX.2.1 "java/lang/IndexOutOfBoundsException" (by decide +kernel))) hce hcv hcl ?_
      refine lv_astore (lv' := [(4, .ref q9), (0, .ref (α 0)), (1, .int (zI r9)), (2, .int (zI c9)), (3, .ref o)]) hx hb dL_drainOf_13 hl (by decide) rfl (fun ls hl => ?_)
      refine lv_iconst (v := zI 1) hx hb dL_drainOf_15 rfl ?_
      exact z_iret hC hr hlk hQ hP hD hS (Or.inr (Or.inl ⟨hx9, rfl, rfl⟩)) dL_drainOf_16
    · skip
      obtain ⟨n2x, d2x, rfl, hx9, rfl⟩ := hq9
      refine vx_catch hown [⟨0, 10, 13, 13⟩] ⟨0, 10, 17, 27⟩ [] hT (fun z hz => by cases List.mem_singleton.mp hz; exact Or.inr ⟨by decide, "java/lang/IndexOutOfBoundsException", (hW0 _ wk_L_13), hGX.2.2 ("java/lang/IllegalStateException", "java/lang/IndexOutOfBoundsException") (by decide +kernel)⟩) (by decide) (by decide) (hW0 _ wk_L_27) (va_Nw.use rfl (hGX.2.1 "java/lang/IllegalStateException" (by decide +kernel))) hce hcv hcl ?_
      refine lv_astore (lv' := [(4, .ref q9), (0, .ref (α 0)), (1, .int (zI r9)), (2, .int (zI c9)), (3, .ref o)]) hx hb dL_drainOf_17 hl (by decide) rfl (fun ls hl => ?_)
      refine lv_iconst (v := zI 2) hx hb dL_drainOf_19 rfl ?_
      exact z_iret hC hr hlk hQ hP hD hS (Or.inr (Or.inr ⟨n2x, d2x, hx9, rfl, rfl⟩)) dL_drainOf_20
  · skip
    obtain ⟨n2y, d2y, vy, hf0, hf1, rfl, rfl⟩ := hq9
    refine lv_i2l (v := (zI vy).toInt64) hx hb dL_drainOf_8 rfl ?_
    refine zo_last hx hb hK hP hD hS dL_drainOf_9 (fun H locs go hgo hP hD hS => ?_)
    refine lv_goto (tgt := 21) hx hb dL_drainOf_10 (by decide) ?_
    refine lv_iconst (v := zI 0) hx hb dL_drainOf_21 rfl ?_
    exact z_iret hC hr hlk hQ hP hD hS (Or.inl ⟨n2y, d2y, vy, go, hf0, hf1, hgo, rfl, rfl⟩) dL_drainOf_22

abbrev wz_L_isSink : List Cond := .codeWith yL_isSink cL_isSink 5 (some .int) [(0, 17, 20, 13)] :: W0
abbrev rm_L_isSink : Room := { frames := 8, cells := 1, slots := 6, locals := 135 }
theorem hd_L_isSink : yL_isSink.cls = RL ∧ yL_isSink.cls ≠ "java/lang/invoke/MethodHandle" ∧ yL_isSink.cls ≠ "java/lang/invoke/VarHandle" ∧ (parseMethodDescriptor yL_isSink.desc).map (fun d => d.parameters.length) = some 4 := by decide +kernel
set_option maxHeartbeats 4000000 in
set_option maxRecDepth 100000 in
theorem c_L_isSink (l : Launch) (D : va_G) (τ : Nat → Nat) (α : Nat → Nat) (γ : Nat → ClassId) (h : IA) (old : IA) (ch : IA) (rg : TRg) (ln : TLn) (nx : IA) (dr : IA) (qu : IA) (pd : TPd) (ct : TCt) (sg : TSg) (od : TOd) (hs : THs) (r9 : Int) (c9 : Int) (hr9 : -2147483648 ≤ r9 ∧ r9 < 2147483648) (hc9 : -2147483648 ≤ c9 ∧ c9 < 2147483648) (hh : ∀ k, 0 ≤ k → k < 49 → 0 ≤ h k ∧ h k ≤ 99) (hst : l.stackTraces = false) (cL : ClassId) (o : Nat) (fo : Nat → Int64) : cMX l yL_isSink wz_L_isSink rm_L_isSink D τ ((cL, .long) :: tyH γ) [.ref (α 0), .int (zI r9), .int (zI c9), .ref o] (oC cL o fo ++ wH α γ (h, old, ch) rg ln (nx, dr, qu) pd ct sg od hs) (zQi (fun r w => (∃ (n2 : IA), ∃ (d2 : IA), ∃ (v : Bool), ∃ (go : Nat → Int64), (S_tpt r9 c9 = 0) ∧ (v = true ↔ S_next h (7 * r9 + c9) = -1) ∧ go 0 = zL (z1 v) ∧ r = zI 0 ∧ oC cL o go ++ wH α γ (h, old, ch) rg ln (n2, d2, qu) pd ct sg od hs = w) ∨ ((S_tpt r9 c9 = 1) ∧ r = zI 1 ∧ oC cL o fo ++ wH α γ (h, old, ch) rg ln (nx, dr, qu) pd ct sg od hs = w))) := by
  refine z_ofL (cc := cL_isSink) (maxL := 5) (ret := (some .int)) (tb := [(0, 17, 20, 13)]) (by decide +kernel) rfl (Nat.le_of_ble_eq_true rfl) ?_
  intro pg e s m args below meth c hC hr hlk hT hK hP A hD hG hA hS hGX ls hl Q hQ
  have hx := hC.1
  have hb := hC.2.1
  have hml := hC.2.2.1
  have hown := hC.2.2.2.1
  have hts := hC.2.2.2.2
  have hB : ∀ w ∈ W0, w ∈ wz_L_isSink := fun _ h => List.mem_cons_of_mem _ h
  have hW0 : ∀ w ∈ W0, w.before args s = true := fun w h => hts w (hB w h)
  have hl : lv_has ls 5 [(0, .ref (α 0)), (1, .int (zI r9)), (2, .int (zI c9)), (3, .ref o)] := hl
  refine lv_aload_n hx hb dL_isSink_0 rfl (lv_at hl 3 rfl) ?_
  refine lv_iconst (v := zI 0) hx hb dL_isSink_1 rfl ?_
  refine lv_aload_n hx hb dL_isSink_2 rfl (lv_at hl 0 rfl) ?_
  refine lv_iload_n hx hb dL_isSink_3 rfl (lv_at hl 1 rfl) ?_
  refine lv_iload_n hx hb dL_isSink_4 rfl (lv_at hl 2 rfl) ?_
  have hPc : va_P D vwCl (wH α γ (h, old, ch) rg ln (nx, dr, qu) pd ct sg od hs) s.heap := zPc hP
  have hDc := zDc hD
  have hKc := hK.sub (tys' := tyH γ) [1, 2, 3, 4, 5, 6, 7, 8, 9, 10, 11, 12, 13, 14, 15, 16, 17, 18, 19, 20, 21, 22] rfl
  refine zfx_calli (wr := oC cL o fo) hP hD hS hA (vx_runV (As := [.int (zI r9), .int (zI c9)]) (rest := [.int (zI 0), .ref o]) hC (c_X9_isSink l D τ α γ h old ch rg ln nx dr qu pd ct sg od hs r9 c9 hr9 hc9 hh hst _) (cwV 2 hts (gV hB wl_L_83 wn_X9_isSink ws_X9_isSink wi_X9 wc_X9_isSink) rfl rfl rfl hd_X9_isSink ⟨Nat.le_of_ble_eq_true rfl, Nat.le_of_ble_eq_true rfl⟩) (zpX_V hKc hPc hDc hS hA hG hGX (ci := 9) (q0 := 0) rfl rfl rfl) rfl rfl hl.1 rfl (lv_room (Nat.le_of_ble_eq_true rfl)) dL_isSink_5 ⟨Nat.le_of_ble_eq_true rfl, Nat.le_of_ble_eq_true rfl⟩) (fun E w1 H locs ce q9 hq9 hP hD hS hce hcv hcl => ?_) (fun r w1 H locs hq9 hP hD hS => ?_)
  · skip
    obtain ⟨rfl, hx9, rfl⟩ := hq9
    refine vx_catch hown [] ⟨0, 17, 20, 13⟩ [] hT (fun z hz => nomatch hz) (by decide) (by decide) (hW0 _ wk_L_13) (va_Nw.use rfl (hGX.2.1 "java/lang/IndexOutOfBoundsException" (by decide +kernel))) hce hcv hcl ?_
    refine lv_astore (lv' := [(4, .ref q9), (0, .ref (α 0)), (1, .int (zI r9)), (2, .int (zI c9)), (3, .ref o)]) hx hb dL_isSink_20 hl (by decide) rfl (fun ls hl => ?_)
    refine lv_iconst (v := zI 1) hx hb dL_isSink_22 rfl ?_
    exact z_iret hC hr hlk hQ hP hD hS (Or.inr ⟨hx9, rfl, rfl⟩) dL_isSink_23
  · skip
    obtain ⟨n2y, d2y, vy, hf0, hf1, rfl, rfl⟩ := hq9
    refine z_ifeqB (tgt := 15) hx hb dL_isSink_8 (by decide) (fun c_8 => ?_) (fun c_8 => ?_)
    · subst c_8
      refine lv_lconst (v := zL 0) hx hb dL_isSink_15 rfl ?_
      refine zo_last hx hb hK hP hD hS dL_isSink_16 (fun H locs go hgo hP hD hS => ?_)
      refine lv_goto (tgt := 24) hx hb dL_isSink_17 (by decide) ?_
      refine lv_iconst (v := zI 0) hx hb dL_isSink_24 rfl ?_
      exact z_iret hC hr hlk hQ hP hD hS (Or.inl ⟨n2y, d2y, false, go, hf0, hf1, hgo, rfl, rfl⟩) dL_isSink_25
    · subst c_8
      refine lv_lconst (v := zL 1) hx hb dL_isSink_11 rfl ?_
      refine lv_goto (tgt := 16) hx hb dL_isSink_12 (by decide) ?_
      refine zo_last hx hb hK hP hD hS dL_isSink_16 (fun H locs go hgo hP hD hS => ?_)
      refine lv_goto (tgt := 24) hx hb dL_isSink_17 (by decide) ?_
      refine lv_iconst (v := zI 0) hx hb dL_isSink_24 rfl ?_
      exact z_iret hC hr hlk hQ hP hD hS (Or.inl ⟨n2y, d2y, true, go, hf0, hf1, hgo, rfl, rfl⟩) dL_isSink_25

abbrev wz_L_dropOf : List Cond := .codeWith yL_dropOf cL_dropOf 5 (some .int) [(0, 10, 13, 13)] :: W0
abbrev rm_L_dropOf : Room := { frames := 8, cells := 1, slots := 6, locals := 135 }
theorem hd_L_dropOf : yL_dropOf.cls = RL ∧ yL_dropOf.cls ≠ "java/lang/invoke/MethodHandle" ∧ yL_dropOf.cls ≠ "java/lang/invoke/VarHandle" ∧ (parseMethodDescriptor yL_dropOf.desc).map (fun d => d.parameters.length) = some 4 := by decide +kernel
set_option maxHeartbeats 4000000 in
set_option maxRecDepth 100000 in
theorem c_L_dropOf (l : Launch) (D : va_G) (τ : Nat → Nat) (α : Nat → Nat) (γ : Nat → ClassId) (h : IA) (old : IA) (ch : IA) (rg : TRg) (ln : TLn) (nx : IA) (dr : IA) (qu : IA) (pd : TPd) (ct : TCt) (sg : TSg) (od : TOd) (hs : THs) (r9 : Int) (c9 : Int) (hr9 : -2147483648 ≤ r9 ∧ r9 < 2147483648) (hc9 : -2147483648 ≤ c9 ∧ c9 < 2147483648) (hh : ∀ k, 0 ≤ k → k < 49 → 0 ≤ h k ∧ h k ≤ 99) (hst : l.stackTraces = false) (cL : ClassId) (o : Nat) (fo : Nat → Int64) : cMX l yL_dropOf wz_L_dropOf rm_L_dropOf D τ ((cL, .long) :: tyH γ) [.ref (α 0), .int (zI r9), .int (zI c9), .ref o] (oC cL o fo ++ wH α γ (h, old, ch) rg ln (nx, dr, qu) pd ct sg od hs) (zQi (fun r w => (∃ (n2 : IA), ∃ (d2 : IA), ∃ (v : Int), ∃ (go : Nat → Int64), (S_tpt r9 c9 = 0) ∧ (v = S_drop h (7 * r9 + c9)) ∧ go 0 = (zI v).toInt64 ∧ r = zI 0 ∧ oC cL o go ++ wH α γ (h, old, ch) rg ln (n2, d2, qu) pd ct sg od hs = w) ∨ ((S_tpt r9 c9 = 1) ∧ r = zI 1 ∧ oC cL o fo ++ wH α γ (h, old, ch) rg ln (nx, dr, qu) pd ct sg od hs = w))) := by
  refine z_ofL (cc := cL_dropOf) (maxL := 5) (ret := (some .int)) (tb := [(0, 10, 13, 13)]) (by decide +kernel) rfl (Nat.le_of_ble_eq_true rfl) ?_
  intro pg e s m args below meth c hC hr hlk hT hK hP A hD hG hA hS hGX ls hl Q hQ
  have hx := hC.1
  have hb := hC.2.1
  have hml := hC.2.2.1
  have hown := hC.2.2.2.1
  have hts := hC.2.2.2.2
  have hB : ∀ w ∈ W0, w ∈ wz_L_dropOf := fun _ h => List.mem_cons_of_mem _ h
  have hW0 : ∀ w ∈ W0, w.before args s = true := fun w h => hts w (hB w h)
  have hl : lv_has ls 5 [(0, .ref (α 0)), (1, .int (zI r9)), (2, .int (zI c9)), (3, .ref o)] := hl
  refine lv_aload_n hx hb dL_dropOf_0 rfl (lv_at hl 3 rfl) ?_
  refine lv_iconst (v := zI 0) hx hb dL_dropOf_1 rfl ?_
  refine lv_aload_n hx hb dL_dropOf_2 rfl (lv_at hl 0 rfl) ?_
  refine lv_iload_n hx hb dL_dropOf_3 rfl (lv_at hl 1 rfl) ?_
  refine lv_iload_n hx hb dL_dropOf_4 rfl (lv_at hl 2 rfl) ?_
  have hPc : va_P D vwCl (wH α γ (h, old, ch) rg ln (nx, dr, qu) pd ct sg od hs) s.heap := zPc hP
  have hDc := zDc hD
  have hKc := hK.sub (tys' := tyH γ) [1, 2, 3, 4, 5, 6, 7, 8, 9, 10, 11, 12, 13, 14, 15, 16, 17, 18, 19, 20, 21, 22] rfl
  refine zfx_calli (wr := oC cL o fo) hP hD hS hA (vx_runV (As := [.int (zI r9), .int (zI c9)]) (rest := [.int (zI 0), .ref o]) hC (c_X9_dropOf l D τ α γ h old ch rg ln nx dr qu pd ct sg od hs r9 c9 hr9 hc9 hh hst _) (cwV 2 hts (gV hB wl_L_87 wn_X9_dropOf ws_X9_dropOf wi_X9 wc_X9_dropOf) rfl rfl rfl hd_X9_dropOf ⟨Nat.le_of_ble_eq_true rfl, Nat.le_of_ble_eq_true rfl⟩) (zpX_V hKc hPc hDc hS hA hG hGX (ci := 9) (q0 := 0) rfl rfl rfl) rfl rfl hl.1 rfl (lv_room (Nat.le_of_ble_eq_true rfl)) dL_dropOf_5 ⟨Nat.le_of_ble_eq_true rfl, Nat.le_of_ble_eq_true rfl⟩) (fun E w1 H locs ce q9 hq9 hP hD hS hce hcv hcl => ?_) (fun r w1 H locs hq9 hP hD hS => ?_)
  · skip
    obtain ⟨rfl, hx9, rfl⟩ := hq9
    refine vx_catch hown [] ⟨0, 10, 13, 13⟩ [] hT (fun z hz => nomatch hz) (by decide) (by decide) (hW0 _ wk_L_13) (va_Nw.use rfl (hGX.2.1 "java/lang/IndexOutOfBoundsException" (by decide +kernel))) hce hcv hcl ?_
    refine lv_astore (lv' := [(4, .ref q9), (0, .ref (α 0)), (1, .int (zI r9)), (2, .int (zI c9)), (3, .ref o)]) hx hb dL_dropOf_13 hl (by decide) rfl (fun ls hl => ?_)
    refine lv_iconst (v := zI 1) hx hb dL_dropOf_15 rfl ?_
    exact z_iret hC hr hlk hQ hP hD hS (Or.inr ⟨hx9, rfl, rfl⟩) dL_dropOf_16
  · skip
    obtain ⟨n2y, d2y, vy, hf0, hf1, rfl, rfl⟩ := hq9
    refine lv_i2l (v := (zI vy).toInt64) hx hb dL_dropOf_8 rfl ?_
    refine zo_last hx hb hK hP hD hS dL_dropOf_9 (fun H locs go hgo hP hD hS => ?_)
    refine lv_goto (tgt := 17) hx hb dL_dropOf_10 (by decide) ?_
    refine lv_iconst (v := zI 0) hx hb dL_dropOf_17 rfl ?_
    exact z_iret hC hr hlk hQ hP hD hS (Or.inl ⟨n2y, d2y, vy, go, hf0, hf1, hgo, rfl, rfl⟩) dL_dropOf_18

abbrev wz_L_sinkOf : List Cond := .codeWith yL_sinkOf cL_sinkOf 5 (some .int) [(0, 10, 13, 13)] :: W0
abbrev rm_L_sinkOf : Room := { frames := 8, cells := 1, slots := 6, locals := 135 }
theorem hd_L_sinkOf : yL_sinkOf.cls = RL ∧ yL_sinkOf.cls ≠ "java/lang/invoke/MethodHandle" ∧ yL_sinkOf.cls ≠ "java/lang/invoke/VarHandle" ∧ (parseMethodDescriptor yL_sinkOf.desc).map (fun d => d.parameters.length) = some 4 := by decide +kernel
set_option maxHeartbeats 4000000 in
set_option maxRecDepth 100000 in
theorem c_L_sinkOf (l : Launch) (D : va_G) (τ : Nat → Nat) (α : Nat → Nat) (γ : Nat → ClassId) (h : IA) (old : IA) (ch : IA) (rg : TRg) (ln : TLn) (nx : IA) (dr : IA) (qu : IA) (pd : TPd) (ct : TCt) (sg : TSg) (od : TOd) (hs : THs) (r9 : Int) (c9 : Int) (hr9 : -2147483648 ≤ r9 ∧ r9 < 2147483648) (hc9 : -2147483648 ≤ c9 ∧ c9 < 2147483648) (hh : ∀ k, 0 ≤ k → k < 49 → 0 ≤ h k ∧ h k ≤ 99) (hst : l.stackTraces = false) (cL : ClassId) (o : Nat) (fo : Nat → Int64) : cMX l yL_sinkOf wz_L_sinkOf rm_L_sinkOf D τ ((cL, .long) :: tyH γ) [.ref (α 0), .int (zI r9), .int (zI c9), .ref o] (oC cL o fo ++ wH α γ (h, old, ch) rg ln (nx, dr, qu) pd ct sg od hs) (zQi (fun r w => (∃ (n2 : IA), ∃ (d2 : IA), ∃ (v : Int), ∃ (go : Nat → Int64), (S_tpt r9 c9 = 0) ∧ (v = S_sink h (7 * r9 + c9)) ∧ go 0 = (zI v).toInt64 ∧ r = zI 0 ∧ oC cL o go ++ wH α γ (h, old, ch) rg ln (n2, d2, qu) pd ct sg od hs = w) ∨ ((S_tpt r9 c9 = 1) ∧ r = zI 1 ∧ oC cL o fo ++ wH α γ (h, old, ch) rg ln (nx, dr, qu) pd ct sg od hs = w))) := by
  refine z_ofL (cc := cL_sinkOf) (maxL := 5) (ret := (some .int)) (tb := [(0, 10, 13, 13)]) (by decide +kernel) rfl (Nat.le_of_ble_eq_true rfl) ?_
  intro pg e s m args below meth c hC hr hlk hT hK hP A hD hG hA hS hGX ls hl Q hQ
  have hx := hC.1
  have hb := hC.2.1
  have hml := hC.2.2.1
  have hown := hC.2.2.2.1
  have hts := hC.2.2.2.2
  have hB : ∀ w ∈ W0, w ∈ wz_L_sinkOf := fun _ h => List.mem_cons_of_mem _ h
  have hW0 : ∀ w ∈ W0, w.before args s = true := fun w h => hts w (hB w h)
  have hl : lv_has ls 5 [(0, .ref (α 0)), (1, .int (zI r9)), (2, .int (zI c9)), (3, .ref o)] := hl
  refine lv_aload_n hx hb dL_sinkOf_0 rfl (lv_at hl 3 rfl) ?_
  refine lv_iconst (v := zI 0) hx hb dL_sinkOf_1 rfl ?_
  refine lv_aload_n hx hb dL_sinkOf_2 rfl (lv_at hl 0 rfl) ?_
  refine lv_iload_n hx hb dL_sinkOf_3 rfl (lv_at hl 1 rfl) ?_
  refine lv_iload_n hx hb dL_sinkOf_4 rfl (lv_at hl 2 rfl) ?_
  have hPc : va_P D vwCl (wH α γ (h, old, ch) rg ln (nx, dr, qu) pd ct sg od hs) s.heap := zPc hP
  have hDc := zDc hD
  have hKc := hK.sub (tys' := tyH γ) [1, 2, 3, 4, 5, 6, 7, 8, 9, 10, 11, 12, 13, 14, 15, 16, 17, 18, 19, 20, 21, 22] rfl
  refine zfx_calli (wr := oC cL o fo) hP hD hS hA (vx_runV (As := [.int (zI r9), .int (zI c9)]) (rest := [.int (zI 0), .ref o]) hC (c_X9_sinkOf l D τ α γ h old ch rg ln nx dr qu pd ct sg od hs r9 c9 hr9 hc9 hh hst _) (cwV 2 hts (gV hB wl_L_90 wn_X9_sinkOf ws_X9_sinkOf wi_X9 wc_X9_sinkOf) rfl rfl rfl hd_X9_sinkOf ⟨Nat.le_of_ble_eq_true rfl, Nat.le_of_ble_eq_true rfl⟩) (zpX_V hKc hPc hDc hS hA hG hGX (ci := 9) (q0 := 0) rfl rfl rfl) rfl rfl hl.1 rfl (lv_room (Nat.le_of_ble_eq_true rfl)) dL_sinkOf_5 ⟨Nat.le_of_ble_eq_true rfl, Nat.le_of_ble_eq_true rfl⟩) (fun E w1 H locs ce q9 hq9 hP hD hS hce hcv hcl => ?_) (fun r w1 H locs hq9 hP hD hS => ?_)
  · skip
    obtain ⟨rfl, hx9, rfl⟩ := hq9
    refine vx_catch hown [] ⟨0, 10, 13, 13⟩ [] hT (fun z hz => nomatch hz) (by decide) (by decide) (hW0 _ wk_L_13) (va_Nw.use rfl (hGX.2.1 "java/lang/IndexOutOfBoundsException" (by decide +kernel))) hce hcv hcl ?_
    refine lv_astore (lv' := [(4, .ref q9), (0, .ref (α 0)), (1, .int (zI r9)), (2, .int (zI c9)), (3, .ref o)]) hx hb dL_sinkOf_13 hl (by decide) rfl (fun ls hl => ?_)
    refine lv_iconst (v := zI 1) hx hb dL_sinkOf_15 rfl ?_
    exact z_iret hC hr hlk hQ hP hD hS (Or.inr ⟨hx9, rfl, rfl⟩) dL_sinkOf_16
  · skip
    obtain ⟨n2y, d2y, vy, hf0, hf1, rfl, rfl⟩ := hq9
    refine lv_i2l (v := (zI vy).toInt64) hx hb dL_sinkOf_8 rfl ?_
    refine zo_last hx hb hK hP hD hS dL_sinkOf_9 (fun H locs go hgo hP hD hS => ?_)
    refine lv_goto (tgt := 17) hx hb dL_sinkOf_10 (by decide) ?_
    refine lv_iconst (v := zI 0) hx hb dL_sinkOf_17 rfl ?_
    exact z_iret hC hr hlk hQ hP hD hS (Or.inl ⟨n2y, d2y, vy, go, hf0, hf1, hgo, rfl, rfl⟩) dL_sinkOf_18

abbrev wz_L_basinByFollowing : List Cond := .codeWith yL_basinByFollowing cL_basinByFollowing 5 (some .int) [(0, 10, 13, 13)] :: W0
abbrev rm_L_basinByFollowing : Room := { frames := 8, cells := 1, slots := 6, locals := 135 }
theorem hd_L_basinByFollowing : yL_basinByFollowing.cls = RL ∧ yL_basinByFollowing.cls ≠ "java/lang/invoke/MethodHandle" ∧ yL_basinByFollowing.cls ≠ "java/lang/invoke/VarHandle" ∧ (parseMethodDescriptor yL_basinByFollowing.desc).map (fun d => d.parameters.length) = some 4 := by decide +kernel
set_option maxHeartbeats 4000000 in
set_option maxRecDepth 100000 in
theorem c_L_basinByFollowing (l : Launch) (D : va_G) (τ : Nat → Nat) (α : Nat → Nat) (γ : Nat → ClassId) (h : IA) (old : IA) (ch : IA) (rg : TRg) (ln : TLn) (nx : IA) (dr : IA) (qu : IA) (pd : TPd) (ct : TCt) (sg : TSg) (od : TOd) (hs : THs) (r9 : Int) (c9 : Int) (hr9 : -2147483648 ≤ r9 ∧ r9 < 2147483648) (hc9 : -2147483648 ≤ c9 ∧ c9 < 2147483648) (hh : ∀ k, 0 ≤ k → k < 49 → 0 ≤ h k ∧ h k ≤ 99) (hst : l.stackTraces = false) (cL : ClassId) (o : Nat) (fo : Nat → Int64) : cMX l yL_basinByFollowing wz_L_basinByFollowing rm_L_basinByFollowing D τ ((cL, .long) :: tyH γ) [.ref (α 0), .int (zI r9), .int (zI c9), .ref o] (oC cL o fo ++ wH α γ (h, old, ch) rg ln (nx, dr, qu) pd ct sg od hs) (zQi (fun r w => (∃ (n2 : IA), ∃ (d2 : IA), ∃ (v : Int), ∃ (go : Nat → Int64), (S_tpt r9 c9 = 0) ∧ (v = S_basin h (7 * r9 + c9)) ∧ go 0 = (zI v).toInt64 ∧ r = zI 0 ∧ oC cL o go ++ wH α γ (h, old, ch) rg ln (n2, d2, qu) pd ct sg od hs = w) ∨ ((S_tpt r9 c9 = 1) ∧ r = zI 1 ∧ oC cL o fo ++ wH α γ (h, old, ch) rg ln (nx, dr, qu) pd ct sg od hs = w))) := by
  refine z_ofL (cc := cL_basinByFollowing) (maxL := 5) (ret := (some .int)) (tb := [(0, 10, 13, 13)]) (by decide +kernel) rfl (Nat.le_of_ble_eq_true rfl) ?_
  intro pg e s m args below meth c hC hr hlk hT hK hP A hD hG hA hS hGX ls hl Q hQ
  have hx := hC.1
  have hb := hC.2.1
  have hml := hC.2.2.1
  have hown := hC.2.2.2.1
  have hts := hC.2.2.2.2
  have hB : ∀ w ∈ W0, w ∈ wz_L_basinByFollowing := fun _ h => List.mem_cons_of_mem _ h
  have hW0 : ∀ w ∈ W0, w.before args s = true := fun w h => hts w (hB w h)
  have hl : lv_has ls 5 [(0, .ref (α 0)), (1, .int (zI r9)), (2, .int (zI c9)), (3, .ref o)] := hl
  refine lv_aload_n hx hb dL_basinByFollowing_0 rfl (lv_at hl 3 rfl) ?_
  refine lv_iconst (v := zI 0) hx hb dL_basinByFollowing_1 rfl ?_
  refine lv_aload_n hx hb dL_basinByFollowing_2 rfl (lv_at hl 0 rfl) ?_
  refine lv_iload_n hx hb dL_basinByFollowing_3 rfl (lv_at hl 1 rfl) ?_
  refine lv_iload_n hx hb dL_basinByFollowing_4 rfl (lv_at hl 2 rfl) ?_
  have hPc : va_P D vwCl (wH α γ (h, old, ch) rg ln (nx, dr, qu) pd ct sg od hs) s.heap := zPc hP
  have hDc := zDc hD
  have hKc := hK.sub (tys' := tyH γ) [1, 2, 3, 4, 5, 6, 7, 8, 9, 10, 11, 12, 13, 14, 15, 16, 17, 18, 19, 20, 21, 22] rfl
  refine zfx_calli (wr := oC cL o fo) hP hD hS hA (vx_runV (As := [.int (zI r9), .int (zI c9)]) (rest := [.int (zI 0), .ref o]) hC (c_X9_basinByFollowing l D τ α γ h old ch rg ln nx dr qu pd ct sg od hs r9 c9 hr9 hc9 hh hst _) (cwV 2 hts (gV hB wl_L_93 wn_X9_basinByFollowing ws_X9_basinByFollowing wi_X9 wc_X9_basinByFollowing) rfl rfl rfl hd_X9_basinByFollowing ⟨Nat.le_of_ble_eq_true rfl, Nat.le_of_ble_eq_true rfl⟩) (zpX_V hKc hPc hDc hS hA hG hGX (ci := 9) (q0 := 0) rfl rfl rfl) rfl rfl hl.1 rfl (lv_room (Nat.le_of_ble_eq_true rfl)) dL_basinByFollowing_5 ⟨Nat.le_of_ble_eq_true rfl, Nat.le_of_ble_eq_true rfl⟩) (fun E w1 H locs ce q9 hq9 hP hD hS hce hcv hcl => ?_) (fun r w1 H locs hq9 hP hD hS => ?_)
  · skip
    obtain ⟨rfl, hx9, rfl⟩ := hq9
    refine vx_catch hown [] ⟨0, 10, 13, 13⟩ [] hT (fun z hz => nomatch hz) (by decide) (by decide) (hW0 _ wk_L_13) (va_Nw.use rfl (hGX.2.1 "java/lang/IndexOutOfBoundsException" (by decide +kernel))) hce hcv hcl ?_
    refine lv_astore (lv' := [(4, .ref q9), (0, .ref (α 0)), (1, .int (zI r9)), (2, .int (zI c9)), (3, .ref o)]) hx hb dL_basinByFollowing_13 hl (by decide) rfl (fun ls hl => ?_)
    refine lv_iconst (v := zI 1) hx hb dL_basinByFollowing_15 rfl ?_
    exact z_iret hC hr hlk hQ hP hD hS (Or.inr ⟨hx9, rfl, rfl⟩) dL_basinByFollowing_16
  · skip
    obtain ⟨n2y, d2y, vy, hf0, hf1, rfl, rfl⟩ := hq9
    refine lv_i2l (v := (zI vy).toInt64) hx hb dL_basinByFollowing_8 rfl ?_
    refine zo_last hx hb hK hP hD hS dL_basinByFollowing_9 (fun H locs go hgo hP hD hS => ?_)
    refine lv_goto (tgt := 17) hx hb dL_basinByFollowing_10 (by decide) ?_
    refine lv_iconst (v := zI 0) hx hb dL_basinByFollowing_17 rfl ?_
    exact z_iret hC hr hlk hQ hP hD hS (Or.inl ⟨n2y, d2y, vy, go, hf0, hf1, hgo, rfl, rfl⟩) dL_basinByFollowing_18

abbrev wz_L_basinByGoingUp : List Cond := .codeWith yL_basinByGoingUp cL_basinByGoingUp 5 (some .int) [(0, 10, 13, 13)] :: W0
abbrev rm_L_basinByGoingUp : Room := { frames := 8, cells := 1, slots := 6, locals := 135 }
theorem hd_L_basinByGoingUp : yL_basinByGoingUp.cls = RL ∧ yL_basinByGoingUp.cls ≠ "java/lang/invoke/MethodHandle" ∧ yL_basinByGoingUp.cls ≠ "java/lang/invoke/VarHandle" ∧ (parseMethodDescriptor yL_basinByGoingUp.desc).map (fun d => d.parameters.length) = some 4 := by decide +kernel
set_option maxHeartbeats 4000000 in
set_option maxRecDepth 100000 in
theorem c_L_basinByGoingUp (l : Launch) (D : va_G) (τ : Nat → Nat) (α : Nat → Nat) (γ : Nat → ClassId) (h : IA) (old : IA) (ch : IA) (rg : TRg) (ln : TLn) (nx : IA) (dr : IA) (qu : IA) (pd : TPd) (ct : TCt) (sg : TSg) (od : TOd) (hs : THs) (r9 : Int) (c9 : Int) (hr9 : -2147483648 ≤ r9 ∧ r9 < 2147483648) (hc9 : -2147483648 ≤ c9 ∧ c9 < 2147483648) (hh : ∀ k, 0 ≤ k → k < 49 → 0 ≤ h k ∧ h k ≤ 99) (hst : l.stackTraces = false) (cL : ClassId) (o : Nat) (fo : Nat → Int64) : cMX l yL_basinByGoingUp wz_L_basinByGoingUp rm_L_basinByGoingUp D τ ((cL, .long) :: tyH γ) [.ref (α 0), .int (zI r9), .int (zI c9), .ref o] (oC cL o fo ++ wH α γ (h, old, ch) rg ln (nx, dr, qu) pd ct sg od hs) (zQi (fun r w => (∃ (n2 : IA), ∃ (d2 : IA), ∃ (q2 : IA), ∃ (v : Int), ∃ (go : Nat → Int64), (S_tpt r9 c9 = 0) ∧ (v = S_basin h (7 * r9 + c9)) ∧ go 0 = (zI v).toInt64 ∧ r = zI 0 ∧ oC cL o go ++ wH α γ (h, old, ch) rg ln (n2, d2, q2) pd ct sg od hs = w) ∨ ((S_tpt r9 c9 = 1) ∧ r = zI 1 ∧ oC cL o fo ++ wH α γ (h, old, ch) rg ln (nx, dr, qu) pd ct sg od hs = w))) := by
  refine z_ofL (cc := cL_basinByGoingUp) (maxL := 5) (ret := (some .int)) (tb := [(0, 10, 13, 13)]) (by decide +kernel) rfl (Nat.le_of_ble_eq_true rfl) ?_
  intro pg e s m args below meth c hC hr hlk hT hK hP A hD hG hA hS hGX ls hl Q hQ
  have hx := hC.1
  have hb := hC.2.1
  have hml := hC.2.2.1
  have hown := hC.2.2.2.1
  have hts := hC.2.2.2.2
  have hB : ∀ w ∈ W0, w ∈ wz_L_basinByGoingUp := fun _ h => List.mem_cons_of_mem _ h
  have hW0 : ∀ w ∈ W0, w.before args s = true := fun w h => hts w (hB w h)
  have hl : lv_has ls 5 [(0, .ref (α 0)), (1, .int (zI r9)), (2, .int (zI c9)), (3, .ref o)] := hl
  refine lv_aload_n hx hb dL_basinByGoingUp_0 rfl (lv_at hl 3 rfl) ?_
  refine lv_iconst (v := zI 0) hx hb dL_basinByGoingUp_1 rfl ?_
  refine lv_aload_n hx hb dL_basinByGoingUp_2 rfl (lv_at hl 0 rfl) ?_
  refine lv_iload_n hx hb dL_basinByGoingUp_3 rfl (lv_at hl 1 rfl) ?_
  refine lv_iload_n hx hb dL_basinByGoingUp_4 rfl (lv_at hl 2 rfl) ?_
  have hPc : va_P D vwCl (wH α γ (h, old, ch) rg ln (nx, dr, qu) pd ct sg od hs) s.heap := zPc hP
  have hDc := zDc hD
  have hKc := hK.sub (tys' := tyH γ) [1, 2, 3, 4, 5, 6, 7, 8, 9, 10, 11, 12, 13, 14, 15, 16, 17, 18, 19, 20, 21, 22] rfl
  refine zfx_calli (wr := oC cL o fo) hP hD hS hA (vx_runV (As := [.int (zI r9), .int (zI c9)]) (rest := [.int (zI 0), .ref o]) hC (c_X9_basinByGoingUp l D τ α γ h old ch rg ln nx dr qu pd ct sg od hs r9 c9 hr9 hc9 hh hst _) (cwV 2 hts (gV hB wl_L_96 wn_X9_basinByGoingUp ws_X9_basinByGoingUp wi_X9 wc_X9_basinByGoingUp) rfl rfl rfl hd_X9_basinByGoingUp ⟨Nat.le_of_ble_eq_true rfl, Nat.le_of_ble_eq_true rfl⟩) (zpX_V hKc hPc hDc hS hA hG hGX (ci := 9) (q0 := 0) rfl rfl rfl) rfl rfl hl.1 rfl (lv_room (Nat.le_of_ble_eq_true rfl)) dL_basinByGoingUp_5 ⟨Nat.le_of_ble_eq_true rfl, Nat.le_of_ble_eq_true rfl⟩) (fun E w1 H locs ce q9 hq9 hP hD hS hce hcv hcl => ?_) (fun r w1 H locs hq9 hP hD hS => ?_)
  · skip
    obtain ⟨rfl, hx9, rfl⟩ := hq9
    refine vx_catch hown [] ⟨0, 10, 13, 13⟩ [] hT (fun z hz => nomatch hz) (by decide) (by decide) (hW0 _ wk_L_13) (va_Nw.use rfl (hGX.2.1 "java/lang/IndexOutOfBoundsException" (by decide +kernel))) hce hcv hcl ?_
    refine lv_astore (lv' := [(4, .ref q9), (0, .ref (α 0)), (1, .int (zI r9)), (2, .int (zI c9)), (3, .ref o)]) hx hb dL_basinByGoingUp_13 hl (by decide) rfl (fun ls hl => ?_)
    refine lv_iconst (v := zI 1) hx hb dL_basinByGoingUp_15 rfl ?_
    exact z_iret hC hr hlk hQ hP hD hS (Or.inr ⟨hx9, rfl, rfl⟩) dL_basinByGoingUp_16
  · skip
    obtain ⟨n2y, d2y, q2y, vy, hf0, hf1, rfl, rfl⟩ := hq9
    refine lv_i2l (v := (zI vy).toInt64) hx hb dL_basinByGoingUp_8 rfl ?_
    refine zo_last hx hb hK hP hD hS dL_basinByGoingUp_9 (fun H locs go hgo hP hD hS => ?_)
    refine lv_goto (tgt := 17) hx hb dL_basinByGoingUp_10 (by decide) ?_
    refine lv_iconst (v := zI 0) hx hb dL_basinByGoingUp_17 rfl ?_
    exact z_iret hC hr hlk hQ hP hD hS (Or.inl ⟨n2y, d2y, q2y, vy, go, hf0, hf1, hgo, rfl, rfl⟩) dL_basinByGoingUp_18

abbrev wz_L_flowAt : List Cond := .codeWith yL_flowAt cL_flowAt 5 (some .int) [(0, 10, 13, 13)] :: W0
abbrev rm_L_flowAt : Room := { frames := 8, cells := 1, slots := 6, locals := 135 }
theorem hd_L_flowAt : yL_flowAt.cls = RL ∧ yL_flowAt.cls ≠ "java/lang/invoke/MethodHandle" ∧ yL_flowAt.cls ≠ "java/lang/invoke/VarHandle" ∧ (parseMethodDescriptor yL_flowAt.desc).map (fun d => d.parameters.length) = some 4 := by decide +kernel
set_option maxHeartbeats 4000000 in
set_option maxRecDepth 100000 in
theorem c_L_flowAt (l : Launch) (D : va_G) (τ : Nat → Nat) (α : Nat → Nat) (γ : Nat → ClassId) (h : IA) (old : IA) (ch : IA) (rg : TRg) (ln : TLn) (nx : IA) (dr : IA) (qu : IA) (pd : TPd) (ct : TCt) (sg : TSg) (od : TOd) (hs : THs) (r9 : Int) (c9 : Int) (hr9 : -2147483648 ≤ r9 ∧ r9 < 2147483648) (hc9 : -2147483648 ≤ c9 ∧ c9 < 2147483648) (hh : ∀ k, 0 ≤ k → k < 49 → 0 ≤ h k ∧ h k ≤ 99) (hst : l.stackTraces = false) (cL : ClassId) (o : Nat) (fo : Nat → Int64) : cMX l yL_flowAt wz_L_flowAt rm_L_flowAt D τ ((cL, .long) :: tyH γ) [.ref (α 0), .int (zI r9), .int (zI c9), .ref o] (oC cL o fo ++ wH α γ (h, old, ch) rg ln (nx, dr, qu) pd ct sg od hs) (zQi (fun r w => (∃ (n2 : IA), ∃ (d2 : IA), ∃ (q2 : IA), ∃ (v : Int), ∃ (go : Nat → Int64), (S_tpt r9 c9 = 0) ∧ (v = S_flow h (7 * r9 + c9)) ∧ go 0 = (zI v).toInt64 ∧ r = zI 0 ∧ oC cL o go ++ wH α γ (h, old, ch) rg ln (n2, d2, q2) pd ct sg od hs = w) ∨ ((S_tpt r9 c9 = 1) ∧ r = zI 1 ∧ oC cL o fo ++ wH α γ (h, old, ch) rg ln (nx, dr, qu) pd ct sg od hs = w))) := by
  refine z_ofL (cc := cL_flowAt) (maxL := 5) (ret := (some .int)) (tb := [(0, 10, 13, 13)]) (by decide +kernel) rfl (Nat.le_of_ble_eq_true rfl) ?_
  intro pg e s m args below meth c hC hr hlk hT hK hP A hD hG hA hS hGX ls hl Q hQ
  have hx := hC.1
  have hb := hC.2.1
  have hml := hC.2.2.1
  have hown := hC.2.2.2.1
  have hts := hC.2.2.2.2
  have hB : ∀ w ∈ W0, w ∈ wz_L_flowAt := fun _ h => List.mem_cons_of_mem _ h
  have hW0 : ∀ w ∈ W0, w.before args s = true := fun w h => hts w (hB w h)
  have hl : lv_has ls 5 [(0, .ref (α 0)), (1, .int (zI r9)), (2, .int (zI c9)), (3, .ref o)] := hl
  refine lv_aload_n hx hb dL_flowAt_0 rfl (lv_at hl 3 rfl) ?_
  refine lv_iconst (v := zI 0) hx hb dL_flowAt_1 rfl ?_
  refine lv_aload_n hx hb dL_flowAt_2 rfl (lv_at hl 0 rfl) ?_
  refine lv_iload_n hx hb dL_flowAt_3 rfl (lv_at hl 1 rfl) ?_
  refine lv_iload_n hx hb dL_flowAt_4 rfl (lv_at hl 2 rfl) ?_
  have hPc : va_P D vwCl (wH α γ (h, old, ch) rg ln (nx, dr, qu) pd ct sg od hs) s.heap := zPc hP
  have hDc := zDc hD
  have hKc := hK.sub (tys' := tyH γ) [1, 2, 3, 4, 5, 6, 7, 8, 9, 10, 11, 12, 13, 14, 15, 16, 17, 18, 19, 20, 21, 22] rfl
  refine zfx_calli (wr := oC cL o fo) hP hD hS hA (vx_runV (As := [.int (zI r9), .int (zI c9)]) (rest := [.int (zI 0), .ref o]) hC (c_X9_flowAt l D τ α γ h old ch rg ln nx dr qu pd ct sg od hs r9 c9 hr9 hc9 hh hst _) (cwV 2 hts (gV hB wl_L_99 wn_X9_flowAt ws_X9_flowAt wi_X9 wc_X9_flowAt) rfl rfl rfl hd_X9_flowAt ⟨Nat.le_of_ble_eq_true rfl, Nat.le_of_ble_eq_true rfl⟩) (zpX_V hKc hPc hDc hS hA hG hGX (ci := 9) (q0 := 0) rfl rfl rfl) rfl rfl hl.1 rfl (lv_room (Nat.le_of_ble_eq_true rfl)) dL_flowAt_5 ⟨Nat.le_of_ble_eq_true rfl, Nat.le_of_ble_eq_true rfl⟩) (fun E w1 H locs ce q9 hq9 hP hD hS hce hcv hcl => ?_) (fun r w1 H locs hq9 hP hD hS => ?_)
  · skip
    obtain ⟨rfl, hx9, rfl⟩ := hq9
    refine vx_catch hown [] ⟨0, 10, 13, 13⟩ [] hT (fun z hz => nomatch hz) (by decide) (by decide) (hW0 _ wk_L_13) (va_Nw.use rfl (hGX.2.1 "java/lang/IndexOutOfBoundsException" (by decide +kernel))) hce hcv hcl ?_
    refine lv_astore (lv' := [(4, .ref q9), (0, .ref (α 0)), (1, .int (zI r9)), (2, .int (zI c9)), (3, .ref o)]) hx hb dL_flowAt_13 hl (by decide) rfl (fun ls hl => ?_)
    refine lv_iconst (v := zI 1) hx hb dL_flowAt_15 rfl ?_
    exact z_iret hC hr hlk hQ hP hD hS (Or.inr ⟨hx9, rfl, rfl⟩) dL_flowAt_16
  · skip
    obtain ⟨n2y, d2y, q2y, vy, hf0, hf1, rfl, rfl⟩ := hq9
    refine lv_i2l (v := (zI vy).toInt64) hx hb dL_flowAt_8 rfl ?_
    refine zo_last hx hb hK hP hD hS dL_flowAt_9 (fun H locs go hgo hP hD hS => ?_)
    refine lv_goto (tgt := 17) hx hb dL_flowAt_10 (by decide) ?_
    refine lv_iconst (v := zI 0) hx hb dL_flowAt_17 rfl ?_
    exact z_iret hC hr hlk hQ hP hD hS (Or.inl ⟨n2y, d2y, q2y, vy, go, hf0, hf1, hgo, rfl, rfl⟩) dL_flowAt_18

abbrev wz_L_stepsToSink : List Cond := .codeWith yL_stepsToSink cL_stepsToSink 5 (some .int) [(0, 10, 13, 13)] :: W0
abbrev rm_L_stepsToSink : Room := { frames := 8, cells := 1, slots := 6, locals := 135 }
theorem hd_L_stepsToSink : yL_stepsToSink.cls = RL ∧ yL_stepsToSink.cls ≠ "java/lang/invoke/MethodHandle" ∧ yL_stepsToSink.cls ≠ "java/lang/invoke/VarHandle" ∧ (parseMethodDescriptor yL_stepsToSink.desc).map (fun d => d.parameters.length) = some 4 := by decide +kernel
set_option maxHeartbeats 4000000 in
set_option maxRecDepth 100000 in
theorem c_L_stepsToSink (l : Launch) (D : va_G) (τ : Nat → Nat) (α : Nat → Nat) (γ : Nat → ClassId) (h : IA) (old : IA) (ch : IA) (rg : TRg) (ln : TLn) (nx : IA) (dr : IA) (qu : IA) (pd : TPd) (ct : TCt) (sg : TSg) (od : TOd) (hs : THs) (r9 : Int) (c9 : Int) (hr9 : -2147483648 ≤ r9 ∧ r9 < 2147483648) (hc9 : -2147483648 ≤ c9 ∧ c9 < 2147483648) (hh : ∀ k, 0 ≤ k → k < 49 → 0 ≤ h k ∧ h k ≤ 99) (hst : l.stackTraces = false) (cL : ClassId) (o : Nat) (fo : Nat → Int64) : cMX l yL_stepsToSink wz_L_stepsToSink rm_L_stepsToSink D τ ((cL, .long) :: tyH γ) [.ref (α 0), .int (zI r9), .int (zI c9), .ref o] (oC cL o fo ++ wH α γ (h, old, ch) rg ln (nx, dr, qu) pd ct sg od hs) (zQi (fun r w => (∃ (n2 : IA), ∃ (d2 : IA), ∃ (v : Int), ∃ (go : Nat → Int64), (S_tpt r9 c9 = 0) ∧ (v = S_steps h (7 * r9 + c9)) ∧ go 0 = (zI v).toInt64 ∧ r = zI 0 ∧ oC cL o go ++ wH α γ (h, old, ch) rg ln (n2, d2, qu) pd ct sg od hs = w) ∨ ((S_tpt r9 c9 = 1) ∧ r = zI 1 ∧ oC cL o fo ++ wH α γ (h, old, ch) rg ln (nx, dr, qu) pd ct sg od hs = w))) := by
  refine z_ofL (cc := cL_stepsToSink) (maxL := 5) (ret := (some .int)) (tb := [(0, 10, 13, 13)]) (by decide +kernel) rfl (Nat.le_of_ble_eq_true rfl) ?_
  intro pg e s m args below meth c hC hr hlk hT hK hP A hD hG hA hS hGX ls hl Q hQ
  have hx := hC.1
  have hb := hC.2.1
  have hml := hC.2.2.1
  have hown := hC.2.2.2.1
  have hts := hC.2.2.2.2
  have hB : ∀ w ∈ W0, w ∈ wz_L_stepsToSink := fun _ h => List.mem_cons_of_mem _ h
  have hW0 : ∀ w ∈ W0, w.before args s = true := fun w h => hts w (hB w h)
  have hl : lv_has ls 5 [(0, .ref (α 0)), (1, .int (zI r9)), (2, .int (zI c9)), (3, .ref o)] := hl
  refine lv_aload_n hx hb dL_stepsToSink_0 rfl (lv_at hl 3 rfl) ?_
  refine lv_iconst (v := zI 0) hx hb dL_stepsToSink_1 rfl ?_
  refine lv_aload_n hx hb dL_stepsToSink_2 rfl (lv_at hl 0 rfl) ?_
  refine lv_iload_n hx hb dL_stepsToSink_3 rfl (lv_at hl 1 rfl) ?_
  refine lv_iload_n hx hb dL_stepsToSink_4 rfl (lv_at hl 2 rfl) ?_
  have hPc : va_P D vwCl (wH α γ (h, old, ch) rg ln (nx, dr, qu) pd ct sg od hs) s.heap := zPc hP
  have hDc := zDc hD
  have hKc := hK.sub (tys' := tyH γ) [1, 2, 3, 4, 5, 6, 7, 8, 9, 10, 11, 12, 13, 14, 15, 16, 17, 18, 19, 20, 21, 22] rfl
  refine zfx_calli (wr := oC cL o fo) hP hD hS hA (vx_runV (As := [.int (zI r9), .int (zI c9)]) (rest := [.int (zI 0), .ref o]) hC (c_X9_stepsToSink l D τ α γ h old ch rg ln nx dr qu pd ct sg od hs r9 c9 hr9 hc9 hh hst _) (cwV 2 hts (gV hB wl_L_102 wn_X9_stepsToSink ws_X9_stepsToSink wi_X9 wc_X9_stepsToSink) rfl rfl rfl hd_X9_stepsToSink ⟨Nat.le_of_ble_eq_true rfl, Nat.le_of_ble_eq_true rfl⟩) (zpX_V hKc hPc hDc hS hA hG hGX (ci := 9) (q0 := 0) rfl rfl rfl) rfl rfl hl.1 rfl (lv_room (Nat.le_of_ble_eq_true rfl)) dL_stepsToSink_5 ⟨Nat.le_of_ble_eq_true rfl, Nat.le_of_ble_eq_true rfl⟩) (fun E w1 H locs ce q9 hq9 hP hD hS hce hcv hcl => ?_) (fun r w1 H locs hq9 hP hD hS => ?_)
  · skip
    obtain ⟨rfl, hx9, rfl⟩ := hq9
    refine vx_catch hown [] ⟨0, 10, 13, 13⟩ [] hT (fun z hz => nomatch hz) (by decide) (by decide) (hW0 _ wk_L_13) (va_Nw.use rfl (hGX.2.1 "java/lang/IndexOutOfBoundsException" (by decide +kernel))) hce hcv hcl ?_
    refine lv_astore (lv' := [(4, .ref q9), (0, .ref (α 0)), (1, .int (zI r9)), (2, .int (zI c9)), (3, .ref o)]) hx hb dL_stepsToSink_13 hl (by decide) rfl (fun ls hl => ?_)
    refine lv_iconst (v := zI 1) hx hb dL_stepsToSink_15 rfl ?_
    exact z_iret hC hr hlk hQ hP hD hS (Or.inr ⟨hx9, rfl, rfl⟩) dL_stepsToSink_16
  · skip
    obtain ⟨n2y, d2y, vy, hf0, hf1, rfl, rfl⟩ := hq9
    refine lv_i2l (v := (zI vy).toInt64) hx hb dL_stepsToSink_8 rfl ?_
    refine zo_last hx hb hK hP hD hS dL_stepsToSink_9 (fun H locs go hgo hP hD hS => ?_)
    refine lv_goto (tgt := 17) hx hb dL_stepsToSink_10 (by decide) ?_
    refine lv_iconst (v := zI 0) hx hb dL_stepsToSink_17 rfl ?_
    exact z_iret hC hr hlk hQ hP hD hS (Or.inl ⟨n2y, d2y, vy, go, hf0, hf1, hgo, rfl, rfl⟩) dL_stepsToSink_18

abbrev wz_L_spillByWays : List Cond := .codeWith yL_spillByWays cL_spillByWays 5 (some .int) [(0, 10, 13, 13)] :: W0
abbrev rm_L_spillByWays : Room := { frames := 8, cells := 1, slots := 6, locals := 135 }
theorem hd_L_spillByWays : yL_spillByWays.cls = RL ∧ yL_spillByWays.cls ≠ "java/lang/invoke/MethodHandle" ∧ yL_spillByWays.cls ≠ "java/lang/invoke/VarHandle" ∧ (parseMethodDescriptor yL_spillByWays.desc).map (fun d => d.parameters.length) = some 4 := by decide +kernel
set_option maxHeartbeats 4000000 in
set_option maxRecDepth 100000 in
theorem c_L_spillByWays (l : Launch) (D : va_G) (τ : Nat → Nat) (α : Nat → Nat) (γ : Nat → ClassId) (h : IA) (old : IA) (ch : IA) (rg : TRg) (ln : TLn) (sl : TSl) (wy : IA) (lv : IA) (ct : TCt) (sg : TSg) (od : TOd) (hs : THs) (r9 : Int) (c9 : Int) (hr9 : -2147483648 ≤ r9 ∧ r9 < 2147483648) (hc9 : -2147483648 ≤ c9 ∧ c9 < 2147483648) (hh : ∀ k, 0 ≤ k → k < 49 → 0 ≤ h k ∧ h k ≤ 99) (hst : l.stackTraces = false) (cL : ClassId) (o : Nat) (fo : Nat → Int64) : cMX l yL_spillByWays wz_L_spillByWays rm_L_spillByWays D τ ((cL, .long) :: tyH γ) [.ref (α 0), .int (zI r9), .int (zI c9), .ref o] (oC cL o fo ++ wH α γ (h, old, ch) rg ln sl (wy, lv) ct sg od hs) (zQi (fun r w => (∃ (w2 : IA), ∃ (v : Int), ∃ (go : Nat → Int64), (S_tpt r9 c9 = 0) ∧ (v = S_spill h (7 * r9 + c9)) ∧ go 0 = (zI v).toInt64 ∧ r = zI 0 ∧ oC cL o go ++ wH α γ (h, old, ch) rg ln sl (w2, lv) ct sg od hs = w) ∨ ((S_tpt r9 c9 = 1) ∧ r = zI 1 ∧ oC cL o fo ++ wH α γ (h, old, ch) rg ln sl (wy, lv) ct sg od hs = w))) := by
  refine z_ofL (cc := cL_spillByWays) (maxL := 5) (ret := (some .int)) (tb := [(0, 10, 13, 13)]) (by decide +kernel) rfl (Nat.le_of_ble_eq_true rfl) ?_
  intro pg e s m args below meth c hC hr hlk hT hK hP A hD hG hA hS hGX ls hl Q hQ
  have hx := hC.1
  have hb := hC.2.1
  have hml := hC.2.2.1
  have hown := hC.2.2.2.1
  have hts := hC.2.2.2.2
  have hB : ∀ w ∈ W0, w ∈ wz_L_spillByWays := fun _ h => List.mem_cons_of_mem _ h
  have hW0 : ∀ w ∈ W0, w.before args s = true := fun w h => hts w (hB w h)
  have hl : lv_has ls 5 [(0, .ref (α 0)), (1, .int (zI r9)), (2, .int (zI c9)), (3, .ref o)] := hl
  refine lv_aload_n hx hb dL_spillByWays_0 rfl (lv_at hl 3 rfl) ?_
  refine lv_iconst (v := zI 0) hx hb dL_spillByWays_1 rfl ?_
  refine lv_aload_n hx hb dL_spillByWays_2 rfl (lv_at hl 0 rfl) ?_
  refine lv_iload_n hx hb dL_spillByWays_3 rfl (lv_at hl 1 rfl) ?_
  refine lv_iload_n hx hb dL_spillByWays_4 rfl (lv_at hl 2 rfl) ?_
  have hPc : va_P D vwCl (wH α γ (h, old, ch) rg ln sl (wy, lv) ct sg od hs) s.heap := zPc hP
  have hDc := zDc hD
  have hKc := hK.sub (tys' := tyH γ) [1, 2, 3, 4, 5, 6, 7, 8, 9, 10, 11, 12, 13, 14, 15, 16, 17, 18, 19, 20, 21, 22] rfl
  refine zfx_calli (wr := oC cL o fo) hP hD hS hA (vx_runV (As := [.int (zI r9), .int (zI c9)]) (rest := [.int (zI 0), .ref o]) hC (c_X9_spillByWays l D τ α γ h old ch rg ln sl wy lv ct sg od hs r9 c9 hr9 hc9 hh hst _) (cwV 2 hts (gV hB wl_L_105 wn_X9_spillByWays ws_X9_spillByWays wi_X9 wc_X9_spillByWays) rfl rfl rfl hd_X9_spillByWays ⟨Nat.le_of_ble_eq_true rfl, Nat.le_of_ble_eq_true rfl⟩) (zpX_V hKc hPc hDc hS hA hG hGX (ci := 9) (q0 := 0) rfl rfl rfl) rfl rfl hl.1 rfl (lv_room (Nat.le_of_ble_eq_true rfl)) dL_spillByWays_5 ⟨Nat.le_of_ble_eq_true rfl, Nat.le_of_ble_eq_true rfl⟩) (fun E w1 H locs ce q9 hq9 hP hD hS hce hcv hcl => ?_) (fun r w1 H locs hq9 hP hD hS => ?_)
  · skip
    obtain ⟨rfl, hx9, rfl⟩ := hq9
    refine vx_catch hown [] ⟨0, 10, 13, 13⟩ [] hT (fun z hz => nomatch hz) (by decide) (by decide) (hW0 _ wk_L_13) (va_Nw.use rfl (hGX.2.1 "java/lang/IndexOutOfBoundsException" (by decide +kernel))) hce hcv hcl ?_
    refine lv_astore (lv' := [(4, .ref q9), (0, .ref (α 0)), (1, .int (zI r9)), (2, .int (zI c9)), (3, .ref o)]) hx hb dL_spillByWays_13 hl (by decide) rfl (fun ls hl => ?_)
    refine lv_iconst (v := zI 1) hx hb dL_spillByWays_15 rfl ?_
    exact z_iret hC hr hlk hQ hP hD hS (Or.inr ⟨hx9, rfl, rfl⟩) dL_spillByWays_16
  · skip
    obtain ⟨w2y, vy, hf0, hf1, rfl, rfl⟩ := hq9
    refine lv_i2l (v := (zI vy).toInt64) hx hb dL_spillByWays_8 rfl ?_
    refine zo_last hx hb hK hP hD hS dL_spillByWays_9 (fun H locs go hgo hP hD hS => ?_)
    refine lv_goto (tgt := 17) hx hb dL_spillByWays_10 (by decide) ?_
    refine lv_iconst (v := zI 0) hx hb dL_spillByWays_17 rfl ?_
    exact z_iret hC hr hlk hQ hP hD hS (Or.inl ⟨w2y, vy, go, hf0, hf1, hgo, rfl, rfl⟩) dL_spillByWays_18

abbrev wz_L_spillByLevels : List Cond := .codeWith yL_spillByLevels cL_spillByLevels 5 (some .int) [(0, 10, 13, 13)] :: W0
abbrev rm_L_spillByLevels : Room := { frames := 8, cells := 1, slots := 6, locals := 138 }
theorem hd_L_spillByLevels : yL_spillByLevels.cls = RL ∧ yL_spillByLevels.cls ≠ "java/lang/invoke/MethodHandle" ∧ yL_spillByLevels.cls ≠ "java/lang/invoke/VarHandle" ∧ (parseMethodDescriptor yL_spillByLevels.desc).map (fun d => d.parameters.length) = some 4 := by decide +kernel
set_option maxHeartbeats 4000000 in
set_option maxRecDepth 100000 in
theorem c_L_spillByLevels (l : Launch) (D : va_G) (τ : Nat → Nat) (α : Nat → Nat) (γ : Nat → ClassId) (h : IA) (old : IA) (ch : IA) (wt : BA) (qu5 : IA) (ln : TLn) (sl : TSl) (wy : IA) (lv : IA) (ct : TCt) (sg : TSg) (od : TOd) (hs : THs) (r9 : Int) (c9 : Int) (hr9 : -2147483648 ≤ r9 ∧ r9 < 2147483648) (hc9 : -2147483648 ≤ c9 ∧ c9 < 2147483648) (hh : ∀ k, 0 ≤ k → k < 49 → 0 ≤ h k ∧ h k ≤ 99) (hst : l.stackTraces = false) (cL : ClassId) (o : Nat) (fo : Nat → Int64) : cMX l yL_spillByLevels wz_L_spillByLevels rm_L_spillByLevels D τ ((cL, .long) :: tyH γ) [.ref (α 0), .int (zI r9), .int (zI c9), .ref o] (oC cL o fo ++ wH α γ (h, old, ch) (wt, qu5) ln sl (wy, lv) ct sg od hs) (zQi (fun r w => (∃ (l2 : IA), ∃ (w2 : BA), ∃ (q2 : IA), ∃ (v : Int), ∃ (go : Nat → Int64), (S_tpt r9 c9 = 0) ∧ (v = S_spill h (7 * r9 + c9)) ∧ go 0 = (zI v).toInt64 ∧ r = zI 0 ∧ oC cL o go ++ wH α γ (h, old, ch) (w2, q2) ln sl (wy, l2) ct sg od hs = w) ∨ ((S_tpt r9 c9 = 1) ∧ r = zI 1 ∧ oC cL o fo ++ wH α γ (h, old, ch) (wt, qu5) ln sl (wy, lv) ct sg od hs = w))) := by
  refine z_ofL (cc := cL_spillByLevels) (maxL := 5) (ret := (some .int)) (tb := [(0, 10, 13, 13)]) (by decide +kernel) rfl (Nat.le_of_ble_eq_true rfl) ?_
  intro pg e s m args below meth c hC hr hlk hT hK hP A hD hG hA hS hGX ls hl Q hQ
  have hx := hC.1
  have hb := hC.2.1
  have hml := hC.2.2.1
  have hown := hC.2.2.2.1
  have hts := hC.2.2.2.2
  have hB : ∀ w ∈ W0, w ∈ wz_L_spillByLevels := fun _ h => List.mem_cons_of_mem _ h
  have hW0 : ∀ w ∈ W0, w.before args s = true := fun w h => hts w (hB w h)
  have hl : lv_has ls 5 [(0, .ref (α 0)), (1, .int (zI r9)), (2, .int (zI c9)), (3, .ref o)] := hl
  refine lv_aload_n hx hb dL_spillByLevels_0 rfl (lv_at hl 3 rfl) ?_
  refine lv_iconst (v := zI 0) hx hb dL_spillByLevels_1 rfl ?_
  refine lv_aload_n hx hb dL_spillByLevels_2 rfl (lv_at hl 0 rfl) ?_
  refine lv_iload_n hx hb dL_spillByLevels_3 rfl (lv_at hl 1 rfl) ?_
  refine lv_iload_n hx hb dL_spillByLevels_4 rfl (lv_at hl 2 rfl) ?_
  have hPc : va_P D vwCl (wH α γ (h, old, ch) (wt, qu5) ln sl (wy, lv) ct sg od hs) s.heap := zPc hP
  have hDc := zDc hD
  have hKc := hK.sub (tys' := tyH γ) [1, 2, 3, 4, 5, 6, 7, 8, 9, 10, 11, 12, 13, 14, 15, 16, 17, 18, 19, 20, 21, 22] rfl
  refine zfx_calli (wr := oC cL o fo) hP hD hS hA (vx_runV (As := [.int (zI r9), .int (zI c9)]) (rest := [.int (zI 0), .ref o]) hC (c_X9_spillByLevels l D τ α γ h old ch wt qu5 ln sl wy lv ct sg od hs r9 c9 hr9 hc9 hh hst _) (cwV 2 hts (gV hB wl_L_108 wn_X9_spillByLevels ws_X9_spillByLevels wi_X9 wc_X9_spillByLevels) rfl rfl rfl hd_X9_spillByLevels ⟨Nat.le_of_ble_eq_true rfl, Nat.le_of_ble_eq_true rfl⟩) (zpX_V hKc hPc hDc hS hA hG hGX (ci := 9) (q0 := 0) rfl rfl rfl) rfl rfl hl.1 rfl (lv_room (Nat.le_of_ble_eq_true rfl)) dL_spillByLevels_5 ⟨Nat.le_of_ble_eq_true rfl, Nat.le_of_ble_eq_true rfl⟩) (fun E w1 H locs ce q9 hq9 hP hD hS hce hcv hcl => ?_) (fun r w1 H locs hq9 hP hD hS => ?_)
  · skip
    obtain ⟨rfl, hx9, rfl⟩ := hq9
    refine vx_catch hown [] ⟨0, 10, 13, 13⟩ [] hT (fun z hz => nomatch hz) (by decide) (by decide) (hW0 _ wk_L_13) (va_Nw.use rfl (hGX.2.1 "java/lang/IndexOutOfBoundsException" (by decide +kernel))) hce hcv hcl ?_
    refine lv_astore (lv' := [(4, .ref q9), (0, .ref (α 0)), (1, .int (zI r9)), (2, .int (zI c9)), (3, .ref o)]) hx hb dL_spillByLevels_13 hl (by decide) rfl (fun ls hl => ?_)
    refine lv_iconst (v := zI 1) hx hb dL_spillByLevels_15 rfl ?_
    exact z_iret hC hr hlk hQ hP hD hS (Or.inr ⟨hx9, rfl, rfl⟩) dL_spillByLevels_16
  · skip
    obtain ⟨l2y, w2y, q2y, vy, hf0, hf1, rfl, rfl⟩ := hq9
    refine lv_i2l (v := (zI vy).toInt64) hx hb dL_spillByLevels_8 rfl ?_
    refine zo_last hx hb hK hP hD hS dL_spillByLevels_9 (fun H locs go hgo hP hD hS => ?_)
    refine lv_goto (tgt := 17) hx hb dL_spillByLevels_10 (by decide) ?_
    refine lv_iconst (v := zI 0) hx hb dL_spillByLevels_17 rfl ?_
    exact z_iret hC hr hlk hQ hP hD hS (Or.inl ⟨l2y, w2y, q2y, vy, go, hf0, hf1, hgo, rfl, rfl⟩) dL_spillByLevels_18

abbrev wz_L_depthOf : List Cond := .codeWith yL_depthOf cL_depthOf 5 (some .int) [(0, 10, 13, 13)] :: W0
abbrev rm_L_depthOf : Room := { frames := 8, cells := 1, slots := 6, locals := 135 }
theorem hd_L_depthOf : yL_depthOf.cls = RL ∧ yL_depthOf.cls ≠ "java/lang/invoke/MethodHandle" ∧ yL_depthOf.cls ≠ "java/lang/invoke/VarHandle" ∧ (parseMethodDescriptor yL_depthOf.desc).map (fun d => d.parameters.length) = some 4 := by decide +kernel
set_option maxHeartbeats 4000000 in
set_option maxRecDepth 100000 in
theorem c_L_depthOf (l : Launch) (D : va_G) (τ : Nat → Nat) (α : Nat → Nat) (γ : Nat → ClassId) (h : IA) (old : IA) (ch : IA) (rg : TRg) (ln : TLn) (sl : TSl) (wy : IA) (lv : IA) (ct : TCt) (sg : TSg) (od : TOd) (hs : THs) (r9 : Int) (c9 : Int) (hr9 : -2147483648 ≤ r9 ∧ r9 < 2147483648) (hc9 : -2147483648 ≤ c9 ∧ c9 < 2147483648) (hh : ∀ k, 0 ≤ k → k < 49 → 0 ≤ h k ∧ h k ≤ 99) (hst : l.stackTraces = false) (cL : ClassId) (o : Nat) (fo : Nat → Int64) : cMX l yL_depthOf wz_L_depthOf rm_L_depthOf D τ ((cL, .long) :: tyH γ) [.ref (α 0), .int (zI r9), .int (zI c9), .ref o] (oC cL o fo ++ wH α γ (h, old, ch) rg ln sl (wy, lv) ct sg od hs) (zQi (fun r w => (∃ (w2 : IA), ∃ (v : Int), ∃ (go : Nat → Int64), (S_tpt r9 c9 = 0) ∧ (v = S_spill h (7 * r9 + c9) - h (7 * r9 + c9)) ∧ go 0 = (zI v).toInt64 ∧ r = zI 0 ∧ oC cL o go ++ wH α γ (h, old, ch) rg ln sl (w2, lv) ct sg od hs = w) ∨ ((S_tpt r9 c9 = 1) ∧ r = zI 1 ∧ oC cL o fo ++ wH α γ (h, old, ch) rg ln sl (wy, lv) ct sg od hs = w))) := by
  refine z_ofL (cc := cL_depthOf) (maxL := 5) (ret := (some .int)) (tb := [(0, 10, 13, 13)]) (by decide +kernel) rfl (Nat.le_of_ble_eq_true rfl) ?_
  intro pg e s m args below meth c hC hr hlk hT hK hP A hD hG hA hS hGX ls hl Q hQ
  have hx := hC.1
  have hb := hC.2.1
  have hml := hC.2.2.1
  have hown := hC.2.2.2.1
  have hts := hC.2.2.2.2
  have hB : ∀ w ∈ W0, w ∈ wz_L_depthOf := fun _ h => List.mem_cons_of_mem _ h
  have hW0 : ∀ w ∈ W0, w.before args s = true := fun w h => hts w (hB w h)
  have hl : lv_has ls 5 [(0, .ref (α 0)), (1, .int (zI r9)), (2, .int (zI c9)), (3, .ref o)] := hl
  refine lv_aload_n hx hb dL_depthOf_0 rfl (lv_at hl 3 rfl) ?_
  refine lv_iconst (v := zI 0) hx hb dL_depthOf_1 rfl ?_
  refine lv_aload_n hx hb dL_depthOf_2 rfl (lv_at hl 0 rfl) ?_
  refine lv_iload_n hx hb dL_depthOf_3 rfl (lv_at hl 1 rfl) ?_
  refine lv_iload_n hx hb dL_depthOf_4 rfl (lv_at hl 2 rfl) ?_
  have hPc : va_P D vwCl (wH α γ (h, old, ch) rg ln sl (wy, lv) ct sg od hs) s.heap := zPc hP
  have hDc := zDc hD
  have hKc := hK.sub (tys' := tyH γ) [1, 2, 3, 4, 5, 6, 7, 8, 9, 10, 11, 12, 13, 14, 15, 16, 17, 18, 19, 20, 21, 22] rfl
  refine zfx_calli (wr := oC cL o fo) hP hD hS hA (vx_runV (As := [.int (zI r9), .int (zI c9)]) (rest := [.int (zI 0), .ref o]) hC (c_X9_depthOf l D τ α γ h old ch rg ln sl wy lv ct sg od hs r9 c9 hr9 hc9 hh hst _) (cwV 2 hts (gV hB wl_L_111 wn_X9_depthOf ws_X9_depthOf wi_X9 wc_X9_depthOf) rfl rfl rfl hd_X9_depthOf ⟨Nat.le_of_ble_eq_true rfl, Nat.le_of_ble_eq_true rfl⟩) (zpX_V hKc hPc hDc hS hA hG hGX (ci := 9) (q0 := 0) rfl rfl rfl) rfl rfl hl.1 rfl (lv_room (Nat.le_of_ble_eq_true rfl)) dL_depthOf_5 ⟨Nat.le_of_ble_eq_true rfl, Nat.le_of_ble_eq_true rfl⟩) (fun E w1 H locs ce q9 hq9 hP hD hS hce hcv hcl => ?_) (fun r w1 H locs hq9 hP hD hS => ?_)
  · skip
    obtain ⟨rfl, hx9, rfl⟩ := hq9
    refine vx_catch hown [] ⟨0, 10, 13, 13⟩ [] hT (fun z hz => nomatch hz) (by decide) (by decide) (hW0 _ wk_L_13) (va_Nw.use rfl (hGX.2.1 "java/lang/IndexOutOfBoundsException" (by decide +kernel))) hce hcv hcl ?_
    refine lv_astore (lv' := [(4, .ref q9), (0, .ref (α 0)), (1, .int (zI r9)), (2, .int (zI c9)), (3, .ref o)]) hx hb dL_depthOf_13 hl (by decide) rfl (fun ls hl => ?_)
    refine lv_iconst (v := zI 1) hx hb dL_depthOf_15 rfl ?_
    exact z_iret hC hr hlk hQ hP hD hS (Or.inr ⟨hx9, rfl, rfl⟩) dL_depthOf_16
  · skip
    obtain ⟨w2y, vy, hf0, hf1, rfl, rfl⟩ := hq9
    refine lv_i2l (v := (zI vy).toInt64) hx hb dL_depthOf_8 rfl ?_
    refine zo_last hx hb hK hP hD hS dL_depthOf_9 (fun H locs go hgo hP hD hS => ?_)
    refine lv_goto (tgt := 17) hx hb dL_depthOf_10 (by decide) ?_
    refine lv_iconst (v := zI 0) hx hb dL_depthOf_17 rfl ?_
    exact z_iret hC hr hlk hQ hP hD hS (Or.inl ⟨w2y, vy, go, hf0, hf1, hgo, rfl, rfl⟩) dL_depthOf_18

abbrev wz_L_cutLength : List Cond := .codeWith yL_cutLength cL_cutLength 7 (some .int) [(0, 14, 17, 13)] :: W0
abbrev rm_L_cutLength : Room := { frames := 8, cells := 2, slots := 12, locals := 138 }
theorem hd_L_cutLength : yL_cutLength.cls = RL ∧ yL_cutLength.cls ≠ "java/lang/invoke/MethodHandle" ∧ yL_cutLength.cls ≠ "java/lang/invoke/VarHandle" ∧ (parseMethodDescriptor yL_cutLength.desc).map (fun d => d.parameters.length) = some 6 := by decide +kernel
set_option maxHeartbeats 4000000 in
set_option maxRecDepth 100000 in
theorem c_L_cutLength (l : Launch) (D : va_G) (τ : Nat → Nat) (α : Nat → Nat) (γ : Nat → ClassId) (h : IA) (old : IA) (ch : IA) (rg : TRg) (ln : TLn) (sl : TSl) (pd : TPd) (hg9 : IA) (la9 : Int) (sg : TSg) (od : TOd) (hs : THs) (r9 : Int) (c9 : Int) (r8 : Int) (c8 : Int) (hr9 : -2147483648 ≤ r9 ∧ r9 < 2147483648) (hc9 : -2147483648 ≤ c9 ∧ c9 < 2147483648) (hr8 : -2147483648 ≤ r8 ∧ r8 < 2147483648) (hc8 : -2147483648 ≤ c8 ∧ c8 < 2147483648) (hh : ∀ k, 0 ≤ k → k < 49 → 0 ≤ h k ∧ h k ≤ 99) (hst : l.stackTraces = false) (cL : ClassId) (o : Nat) (fo : Nat → Int64) : cMX l yL_cutLength wz_L_cutLength rm_L_cutLength D τ ((cL, .long) :: tyH γ) [.ref (α 0), .int (zI r9), .int (zI c9), .int (zI r8), .int (zI c8), .ref o] (oC cL o fo ++ wH α γ (h, old, ch) rg ln sl pd (hg9, la9) sg od hs) (zQi (fun r w => (∃ (f2 : IA), ∃ (n2 : Int), ∃ (v : Int), ∃ (go : Nat → Int64), (S_tcut r9 c9 r8 c8 = 0) ∧ (v = S_cutn (7 * r9 + c9) (7 * r8 + c8) + 1) ∧ go 0 = (zI v).toInt64 ∧ r = zI 0 ∧ oC cL o go ++ wH α γ (h, old, ch) rg ln sl pd (f2, n2) sg od hs = w) ∨ ((S_tcut r9 c9 r8 c8 = 1) ∧ r = zI 1 ∧ oC cL o fo ++ wH α γ (h, old, ch) rg ln sl pd (hg9, la9) sg od hs = w))) := by
  refine z_ofL (cc := cL_cutLength) (maxL := 7) (ret := (some .int)) (tb := [(0, 14, 17, 13)]) (by decide +kernel) rfl (Nat.le_of_ble_eq_true rfl) ?_
  intro pg e s m args below meth c hC hr hlk hT hK hP A hD hG hA hS hGX ls hl Q hQ
  have hx := hC.1
  have hb := hC.2.1
  have hml := hC.2.2.1
  have hown := hC.2.2.2.1
  have hts := hC.2.2.2.2
  have hB : ∀ w ∈ W0, w ∈ wz_L_cutLength := fun _ h => List.mem_cons_of_mem _ h
  have hW0 : ∀ w ∈ W0, w.before args s = true := fun w h => hts w (hB w h)
  have hl : lv_has ls 7 [(0, .ref (α 0)), (1, .int (zI r9)), (2, .int (zI c9)), (3, .int (zI r8)), (4, .int (zI c8)), (5, .ref o)] := hl
  refine lv_aload hx hb dL_cutLength_0 (lv_at hl 5 rfl) ?_
  refine lv_iconst (v := zI 0) hx hb dL_cutLength_2 rfl ?_
  refine lv_aload_n hx hb dL_cutLength_3 rfl (lv_at hl 0 rfl) ?_
  refine lv_iload_n hx hb dL_cutLength_4 rfl (lv_at hl 1 rfl) ?_
  refine lv_iload_n hx hb dL_cutLength_5 rfl (lv_at hl 2 rfl) ?_
  refine lv_iload_n hx hb dL_cutLength_6 rfl (lv_at hl 3 rfl) ?_
  refine lv_iload hx hb dL_cutLength_7 (lv_at hl 4 rfl) ?_
  have hPc : va_P D vwCl (wH α γ (h, old, ch) rg ln sl pd (hg9, la9) sg od hs) s.heap := zPc hP
  have hDc := zDc hD
  have hKc := hK.sub (tys' := tyH γ) [1, 2, 3, 4, 5, 6, 7, 8, 9, 10, 11, 12, 13, 14, 15, 16, 17, 18, 19, 20, 21, 22] rfl
  refine zfx_calli (wr := oC cL o fo) hP hD hS hA (vx_runV (As := [.int (zI r9), .int (zI c9), .int (zI r8), .int (zI c8)]) (rest := [.int (zI 0), .ref o]) hC (c_X9_cutLength l D τ α γ h old ch rg ln sl pd hg9 la9 sg od hs r9 c9 r8 c8 hr9 hc9 hr8 hc8 hh hst _) (cwV 4 hts (gV hB wl_L_114 wn_X9_cutLength ws_X9_cutLength wi_X9 wc_X9_cutLength) rfl rfl rfl hd_X9_cutLength ⟨Nat.le_of_ble_eq_true rfl, Nat.le_of_ble_eq_true rfl⟩) (zpX_V hKc hPc hDc hS hA hG hGX (ci := 9) (q0 := 0) rfl rfl rfl) rfl rfl hl.1 rfl (lv_room (Nat.le_of_ble_eq_true rfl)) dL_cutLength_9 ⟨Nat.le_of_ble_eq_true rfl, Nat.le_of_ble_eq_true rfl⟩) (fun E w1 H locs ce q9 hq9 hP hD hS hce hcv hcl => ?_) (fun r w1 H locs hq9 hP hD hS => ?_)
  · skip
    obtain ⟨rfl, hx9, rfl⟩ := hq9
    refine vx_catch hown [] ⟨0, 14, 17, 13⟩ [] hT (fun z hz => nomatch hz) (by decide) (by decide) (hW0 _ wk_L_13) (va_Nw.use rfl (hGX.2.1 "java/lang/IndexOutOfBoundsException" (by decide +kernel))) hce hcv hcl ?_
    refine lv_astore (lv' := [(6, .ref q9), (0, .ref (α 0)), (1, .int (zI r9)), (2, .int (zI c9)), (3, .int (zI r8)), (4, .int (zI c8)), (5, .ref o)]) hx hb dL_cutLength_17 hl (by decide) rfl (fun ls hl => ?_)
    refine lv_iconst (v := zI 1) hx hb dL_cutLength_19 rfl ?_
    exact z_iret hC hr hlk hQ hP hD hS (Or.inr ⟨hx9, rfl, rfl⟩) dL_cutLength_20
  · skip
    obtain ⟨f2y, n2y, vy, hf0, hf1, rfl, rfl⟩ := hq9
    refine lv_i2l (v := (zI vy).toInt64) hx hb dL_cutLength_12 rfl ?_
    refine zo_last hx hb hK hP hD hS dL_cutLength_13 (fun H locs go hgo hP hD hS => ?_)
    refine lv_goto (tgt := 21) hx hb dL_cutLength_14 (by decide) ?_
    refine lv_iconst (v := zI 0) hx hb dL_cutLength_21 rfl ?_
    exact z_iret hC hr hlk hQ hP hD hS (Or.inl ⟨f2y, n2y, vy, go, hf0, hf1, hgo, rfl, rfl⟩) dL_cutLength_22

abbrev wz_L_cutHeight : List Cond := .codeWith yL_cutHeight cL_cutHeight 8 (some .int) [(0, 16, 19, 13)] :: W0
abbrev rm_L_cutHeight : Room := { frames := 8, cells := 2, slots := 12, locals := 139 }
theorem hd_L_cutHeight : yL_cutHeight.cls = RL ∧ yL_cutHeight.cls ≠ "java/lang/invoke/MethodHandle" ∧ yL_cutHeight.cls ≠ "java/lang/invoke/VarHandle" ∧ (parseMethodDescriptor yL_cutHeight.desc).map (fun d => d.parameters.length) = some 7 := by decide +kernel
set_option maxHeartbeats 4000000 in
set_option maxRecDepth 100000 in
theorem c_L_cutHeight (l : Launch) (D : va_G) (τ : Nat → Nat) (α : Nat → Nat) (γ : Nat → ClassId) (h : IA) (old : IA) (ch : IA) (rg : TRg) (ln : TLn) (sl : TSl) (pd : TPd) (hg9 : IA) (la9 : Int) (sg : TSg) (od : TOd) (hs : THs) (r9 : Int) (c9 : Int) (r8 : Int) (c8 : Int) (i : Int) (hr9 : -2147483648 ≤ r9 ∧ r9 < 2147483648) (hc9 : -2147483648 ≤ c9 ∧ c9 < 2147483648) (hr8 : -2147483648 ≤ r8 ∧ r8 < 2147483648) (hc8 : -2147483648 ≤ c8 ∧ c8 < 2147483648) (hi9 : -2147483648 ≤ i ∧ i < 2147483648) (hh : ∀ k, 0 ≤ k → k < 49 → 0 ≤ h k ∧ h k ≤ 99) (hst : l.stackTraces = false) (cL : ClassId) (o : Nat) (fo : Nat → Int64) : cMX l yL_cutHeight wz_L_cutHeight rm_L_cutHeight D τ ((cL, .long) :: tyH γ) [.ref (α 0), .int (zI r9), .int (zI c9), .int (zI r8), .int (zI c8), .int (zI i), .ref o] (oC cL o fo ++ wH α γ (h, old, ch) rg ln sl pd (hg9, la9) sg od hs) (zQi (fun r w => (∃ (f2 : IA), ∃ (n2 : Int), ∃ (v : Int), ∃ (go : Nat → Int64), (S_tch r9 c9 r8 c8 i = 0) ∧ (v = h (S_on (7 * r9 + c9) (7 * r8 + c8) i)) ∧ go 0 = (zI v).toInt64 ∧ r = zI 0 ∧ oC cL o go ++ wH α γ (h, old, ch) rg ln sl pd (f2, n2) sg od hs = w) ∨ ((S_tch r9 c9 r8 c8 i = 1) ∧ r = zI 1 ∧ oC cL o fo ++ wH α γ (h, old, ch) rg ln sl pd (hg9, la9) sg od hs = w) ∨ (∃ (f2 : IA), ∃ (n2 : Int), (S_tch r9 c9 r8 c8 i = 1) ∧ r = zI 1 ∧ oC cL o fo ++ wH α γ (h, old, ch) rg ln sl pd (f2, n2) sg od hs = w))) := by
  refine z_ofL (cc := cL_cutHeight) (maxL := 8) (ret := (some .int)) (tb := [(0, 16, 19, 13)]) (by decide +kernel) rfl (Nat.le_of_ble_eq_true rfl) ?_
  intro pg e s m args below meth c hC hr hlk hT hK hP A hD hG hA hS hGX ls hl Q hQ
  have hx := hC.1
  have hb := hC.2.1
  have hml := hC.2.2.1
  have hown := hC.2.2.2.1
  have hts := hC.2.2.2.2
  have hB : ∀ w ∈ W0, w ∈ wz_L_cutHeight := fun _ h => List.mem_cons_of_mem _ h
  have hW0 : ∀ w ∈ W0, w.before args s = true := fun w h => hts w (hB w h)
  have hl : lv_has ls 8 [(0, .ref (α 0)), (1, .int (zI r9)), (2, .int (zI c9)), (3, .int (zI r8)), (4, .int (zI c8)), (5, .int (zI i)), (6, .ref o)] := hl
  refine lv_aload hx hb dL_cutHeight_0 (lv_at hl 6 rfl) ?_
  refine lv_iconst (v := zI 0) hx hb dL_cutHeight_2 rfl ?_
  refine lv_aload_n hx hb dL_cutHeight_3 rfl (lv_at hl 0 rfl) ?_
  refine lv_iload_n hx hb dL_cutHeight_4 rfl (lv_at hl 1 rfl) ?_
  refine lv_iload_n hx hb dL_cutHeight_5 rfl (lv_at hl 2 rfl) ?_
  refine lv_iload_n hx hb dL_cutHeight_6 rfl (lv_at hl 3 rfl) ?_
  refine lv_iload hx hb dL_cutHeight_7 (lv_at hl 4 rfl) ?_
  refine lv_iload hx hb dL_cutHeight_9 (lv_at hl 5 rfl) ?_
  have hPc : va_P D vwCl (wH α γ (h, old, ch) rg ln sl pd (hg9, la9) sg od hs) s.heap := zPc hP
  have hDc := zDc hD
  have hKc := hK.sub (tys' := tyH γ) [1, 2, 3, 4, 5, 6, 7, 8, 9, 10, 11, 12, 13, 14, 15, 16, 17, 18, 19, 20, 21, 22] rfl
  refine zfx_calli (wr := oC cL o fo) hP hD hS hA (vx_runV (As := [.int (zI r9), .int (zI c9), .int (zI r8), .int (zI c8), .int (zI i)]) (rest := [.int (zI 0), .ref o]) hC (c_X9_cutHeight l D τ α γ h old ch rg ln sl pd hg9 la9 sg od hs r9 c9 r8 c8 i hr9 hc9 hr8 hc8 hi9 hh hst _) (cwV 5 hts (gV hB wl_L_118 wn_X9_cutHeight ws_X9_cutHeight wi_X9 wc_X9_cutHeight) rfl rfl rfl hd_X9_cutHeight ⟨Nat.le_of_ble_eq_true rfl, Nat.le_of_ble_eq_true rfl⟩) (zpX_V hKc hPc hDc hS hA hG hGX (ci := 9) (q0 := 0) rfl rfl rfl) rfl rfl hl.1 rfl (lv_room (Nat.le_of_ble_eq_true rfl)) dL_cutHeight_11 ⟨Nat.le_of_ble_eq_true rfl, Nat.le_of_ble_eq_true rfl⟩) (fun E w1 H locs ce q9 hq9 hP hD hS hce hcv hcl => ?_) (fun r w1 H locs hq9 hP hD hS => ?_)
  · rcases hq9 with hq9 | hq9
    · skip
      obtain ⟨rfl, hx9, rfl⟩ := hq9
      refine vx_catch hown [] ⟨0, 16, 19, 13⟩ [] hT (fun z hz => nomatch hz) (by decide) (by decide) (hW0 _ wk_L_13) (va_Nw.use rfl (hGX.2.1 "java/lang/IndexOutOfBoundsException" (by decide +kernel))) hce hcv hcl ?_
      refine lv_astore (lv' := [(7, .ref q9), (0, .ref (α 0)), (1, .int (zI r9)), (2, .int (zI c9)), (3, .int (zI r8)), (4, .int (zI c8)), (5, .int (zI i)), (6, .ref o)]) hx hb dL_cutHeight_19 hl (by decide) rfl (fun ls hl => ?_)
      refine lv_iconst (v := zI 1) hx hb dL_cutHeight_21 rfl ?_
      exact z_iret hC hr hlk hQ hP hD hS (Or.inr (Or.inl ⟨hx9, rfl, rfl⟩)) dL_cutHeight_22
    · skip
      obtain ⟨f2x, n2x, rfl, hx9, rfl⟩ := hq9
      refine vx_catch hown [] ⟨0, 16, 19, 13⟩ [] hT (fun z hz => nomatch hz) (by decide) (by decide) (hW0 _ wk_L_13) (va_Nw.use rfl (hGX.2.1 "java/lang/IndexOutOfBoundsException" (by decide +kernel))) hce hcv hcl ?_
      refine lv_astore (lv' := [(7, .ref q9), (0, .ref (α 0)), (1, .int (zI r9)), (2, .int (zI c9)), (3, .int (zI r8)), (4, .int (zI c8)), (5, .int (zI i)), (6, .ref o)]) hx hb dL_cutHeight_19 hl (by decide) rfl (fun ls hl => ?_)
      refine lv_iconst (v := zI 1) hx hb dL_cutHeight_21 rfl ?_
      exact z_iret hC hr hlk hQ hP hD hS (Or.inr (Or.inr ⟨f2x, n2x, hx9, rfl, rfl⟩)) dL_cutHeight_22
  · skip
    obtain ⟨f2y, n2y, vy, hf0, hf1, rfl, rfl⟩ := hq9
    refine lv_i2l (v := (zI vy).toInt64) hx hb dL_cutHeight_14 rfl ?_
    refine zo_last hx hb hK hP hD hS dL_cutHeight_15 (fun H locs go hgo hP hD hS => ?_)
    refine lv_goto (tgt := 23) hx hb dL_cutHeight_16 (by decide) ?_
    refine lv_iconst (v := zI 0) hx hb dL_cutHeight_23 rfl ?_
    exact z_iret hC hr hlk hQ hP hD hS (Or.inl ⟨f2y, n2y, vy, go, hf0, hf1, hgo, rfl, rfl⟩) dL_cutHeight_24

abbrev wz_L_climb : List Cond := .codeWith yL_climb cL_climb 7 (some .int) [(0, 14, 17, 13)] :: W0
abbrev rm_L_climb : Room := { frames := 8, cells := 2, slots := 12, locals := 138 }
theorem hd_L_climb : yL_climb.cls = RL ∧ yL_climb.cls ≠ "java/lang/invoke/MethodHandle" ∧ yL_climb.cls ≠ "java/lang/invoke/VarHandle" ∧ (parseMethodDescriptor yL_climb.desc).map (fun d => d.parameters.length) = some 6 := by decide +kernel
set_option maxHeartbeats 4000000 in
set_option maxRecDepth 100000 in
theorem c_L_climb (l : Launch) (D : va_G) (τ : Nat → Nat) (α : Nat → Nat) (γ : Nat → ClassId) (h : IA) (old : IA) (ch : IA) (rg : TRg) (ln : TLn) (sl : TSl) (pd : TPd) (hg9 : IA) (la9 : Int) (sg : TSg) (od : TOd) (hs : THs) (r9 : Int) (c9 : Int) (r8 : Int) (c8 : Int) (hr9 : -2147483648 ≤ r9 ∧ r9 < 2147483648) (hc9 : -2147483648 ≤ c9 ∧ c9 < 2147483648) (hr8 : -2147483648 ≤ r8 ∧ r8 < 2147483648) (hc8 : -2147483648 ≤ c8 ∧ c8 < 2147483648) (hh : ∀ k, 0 ≤ k → k < 49 → 0 ≤ h k ∧ h k ≤ 99) (hst : l.stackTraces = false) (cL : ClassId) (o : Nat) (fo : Nat → Int64) : cMX l yL_climb wz_L_climb rm_L_climb D τ ((cL, .long) :: tyH γ) [.ref (α 0), .int (zI r9), .int (zI c9), .int (zI r8), .int (zI c8), .ref o] (oC cL o fo ++ wH α γ (h, old, ch) rg ln sl pd (hg9, la9) sg od hs) (zQi (fun r w => (∃ (f2 : IA), ∃ (n2 : Int), ∃ (v : Int), ∃ (go : Nat → Int64), (S_tcut r9 c9 r8 c8 = 0) ∧ (v = S_rise h (7 * r9 + c9) (7 * r8 + c8)) ∧ go 0 = (zI v).toInt64 ∧ r = zI 0 ∧ oC cL o go ++ wH α γ (h, old, ch) rg ln sl pd (f2, n2) sg od hs = w) ∨ ((S_tcut r9 c9 r8 c8 = 1) ∧ r = zI 1 ∧ oC cL o fo ++ wH α γ (h, old, ch) rg ln sl pd (hg9, la9) sg od hs = w))) := by
  refine z_ofL (cc := cL_climb) (maxL := 7) (ret := (some .int)) (tb := [(0, 14, 17, 13)]) (by decide +kernel) rfl (Nat.le_of_ble_eq_true rfl) ?_
  intro pg e s m args below meth c hC hr hlk hT hK hP A hD hG hA hS hGX ls hl Q hQ
  have hx := hC.1
  have hb := hC.2.1
  have hml := hC.2.2.1
  have hown := hC.2.2.2.1
  have hts := hC.2.2.2.2
  have hB : ∀ w ∈ W0, w ∈ wz_L_climb := fun _ h => List.mem_cons_of_mem _ h
  have hW0 : ∀ w ∈ W0, w.before args s = true := fun w h => hts w (hB w h)
  have hl : lv_has ls 7 [(0, .ref (α 0)), (1, .int (zI r9)), (2, .int (zI c9)), (3, .int (zI r8)), (4, .int (zI c8)), (5, .ref o)] := hl
  refine lv_aload hx hb dL_climb_0 (lv_at hl 5 rfl) ?_
  refine lv_iconst (v := zI 0) hx hb dL_climb_2 rfl ?_
  refine lv_aload_n hx hb dL_climb_3 rfl (lv_at hl 0 rfl) ?_
  refine lv_iload_n hx hb dL_climb_4 rfl (lv_at hl 1 rfl) ?_
  refine lv_iload_n hx hb dL_climb_5 rfl (lv_at hl 2 rfl) ?_
  refine lv_iload_n hx hb dL_climb_6 rfl (lv_at hl 3 rfl) ?_
  refine lv_iload hx hb dL_climb_7 (lv_at hl 4 rfl) ?_
  have hPc : va_P D vwCl (wH α γ (h, old, ch) rg ln sl pd (hg9, la9) sg od hs) s.heap := zPc hP
  have hDc := zDc hD
  have hKc := hK.sub (tys' := tyH γ) [1, 2, 3, 4, 5, 6, 7, 8, 9, 10, 11, 12, 13, 14, 15, 16, 17, 18, 19, 20, 21, 22] rfl
  refine zfx_calli (wr := oC cL o fo) hP hD hS hA (vx_runV (As := [.int (zI r9), .int (zI c9), .int (zI r8), .int (zI c8)]) (rest := [.int (zI 0), .ref o]) hC (c_X9_climb l D τ α γ h old ch rg ln sl pd hg9 la9 sg od hs r9 c9 r8 c8 hr9 hc9 hr8 hc8 hh hst _) (cwV 4 hts (gV hB wl_L_122 wn_X9_climb ws_X9_climb wi_X9 wc_X9_climb) rfl rfl rfl hd_X9_climb ⟨Nat.le_of_ble_eq_true rfl, Nat.le_of_ble_eq_true rfl⟩) (zpX_V hKc hPc hDc hS hA hG hGX (ci := 9) (q0 := 0) rfl rfl rfl) rfl rfl hl.1 rfl (lv_room (Nat.le_of_ble_eq_true rfl)) dL_climb_9 ⟨Nat.le_of_ble_eq_true rfl, Nat.le_of_ble_eq_true rfl⟩) (fun E w1 H locs ce q9 hq9 hP hD hS hce hcv hcl => ?_) (fun r w1 H locs hq9 hP hD hS => ?_)
  · skip
    obtain ⟨rfl, hx9, rfl⟩ := hq9
    refine vx_catch hown [] ⟨0, 14, 17, 13⟩ [] hT (fun z hz => nomatch hz) (by decide) (by decide) (hW0 _ wk_L_13) (va_Nw.use rfl (hGX.2.1 "java/lang/IndexOutOfBoundsException" (by decide +kernel))) hce hcv hcl ?_
    refine lv_astore (lv' := [(6, .ref q9), (0, .ref (α 0)), (1, .int (zI r9)), (2, .int (zI c9)), (3, .int (zI r8)), (4, .int (zI c8)), (5, .ref o)]) hx hb dL_climb_17 hl (by decide) rfl (fun ls hl => ?_)
    refine lv_iconst (v := zI 1) hx hb dL_climb_19 rfl ?_
    exact z_iret hC hr hlk hQ hP hD hS (Or.inr ⟨hx9, rfl, rfl⟩) dL_climb_20
  · skip
    obtain ⟨f2y, n2y, vy, hf0, hf1, rfl, rfl⟩ := hq9
    refine lv_i2l (v := (zI vy).toInt64) hx hb dL_climb_12 rfl ?_
    refine zo_last hx hb hK hP hD hS dL_climb_13 (fun H locs go hgo hP hD hS => ?_)
    refine lv_goto (tgt := 21) hx hb dL_climb_14 (by decide) ?_
    refine lv_iconst (v := zI 0) hx hb dL_climb_21 rfl ?_
    exact z_iret hC hr hlk hQ hP hD hS (Or.inl ⟨f2y, n2y, vy, go, hf0, hf1, hgo, rfl, rfl⟩) dL_climb_22

abbrev wz_L_pass : List Cond := .codeWith yL_pass cL_pass 7 (some .int) [(0, 14, 17, 13)] :: W0
abbrev rm_L_pass : Room := { frames := 8, cells := 2, slots := 12, locals := 138 }
theorem hd_L_pass : yL_pass.cls = RL ∧ yL_pass.cls ≠ "java/lang/invoke/MethodHandle" ∧ yL_pass.cls ≠ "java/lang/invoke/VarHandle" ∧ (parseMethodDescriptor yL_pass.desc).map (fun d => d.parameters.length) = some 6 := by decide +kernel
set_option maxHeartbeats 4000000 in
set_option maxRecDepth 100000 in
theorem c_L_pass (l : Launch) (D : va_G) (τ : Nat → Nat) (α : Nat → Nat) (γ : Nat → ClassId) (h : IA) (old : IA) (ch : IA) (rg : TRg) (ln : TLn) (sl : TSl) (pd : TPd) (hg9 : IA) (la9 : Int) (sg : TSg) (od : TOd) (hs : THs) (r9 : Int) (c9 : Int) (r8 : Int) (c8 : Int) (hr9 : -2147483648 ≤ r9 ∧ r9 < 2147483648) (hc9 : -2147483648 ≤ c9 ∧ c9 < 2147483648) (hr8 : -2147483648 ≤ r8 ∧ r8 < 2147483648) (hc8 : -2147483648 ≤ c8 ∧ c8 < 2147483648) (hh : ∀ k, 0 ≤ k → k < 49 → 0 ≤ h k ∧ h k ≤ 99) (hst : l.stackTraces = false) (cL : ClassId) (o : Nat) (fo : Nat → Int64) : cMX l yL_pass wz_L_pass rm_L_pass D τ ((cL, .long) :: tyH γ) [.ref (α 0), .int (zI r9), .int (zI c9), .int (zI r8), .int (zI c8), .ref o] (oC cL o fo ++ wH α γ (h, old, ch) rg ln sl pd (hg9, la9) sg od hs) (zQi (fun r w => (∃ (f2 : IA), ∃ (n2 : Int), ∃ (v : Int), ∃ (go : Nat → Int64), (S_tcut r9 c9 r8 c8 = 0) ∧ (v = S_pass h (7 * r9 + c9) (7 * r8 + c8)) ∧ go 0 = (zI v).toInt64 ∧ r = zI 0 ∧ oC cL o go ++ wH α γ (h, old, ch) rg ln sl pd (f2, n2) sg od hs = w) ∨ ((S_tcut r9 c9 r8 c8 = 1) ∧ r = zI 1 ∧ oC cL o fo ++ wH α γ (h, old, ch) rg ln sl pd (hg9, la9) sg od hs = w))) := by
  refine z_ofL (cc := cL_pass) (maxL := 7) (ret := (some .int)) (tb := [(0, 14, 17, 13)]) (by decide +kernel) rfl (Nat.le_of_ble_eq_true rfl) ?_
  intro pg e s m args below meth c hC hr hlk hT hK hP A hD hG hA hS hGX ls hl Q hQ
  have hx := hC.1
  have hb := hC.2.1
  have hml := hC.2.2.1
  have hown := hC.2.2.2.1
  have hts := hC.2.2.2.2
  have hB : ∀ w ∈ W0, w ∈ wz_L_pass := fun _ h => List.mem_cons_of_mem _ h
  have hW0 : ∀ w ∈ W0, w.before args s = true := fun w h => hts w (hB w h)
  have hl : lv_has ls 7 [(0, .ref (α 0)), (1, .int (zI r9)), (2, .int (zI c9)), (3, .int (zI r8)), (4, .int (zI c8)), (5, .ref o)] := hl
  refine lv_aload hx hb dL_pass_0 (lv_at hl 5 rfl) ?_
  refine lv_iconst (v := zI 0) hx hb dL_pass_2 rfl ?_
  refine lv_aload_n hx hb dL_pass_3 rfl (lv_at hl 0 rfl) ?_
  refine lv_iload_n hx hb dL_pass_4 rfl (lv_at hl 1 rfl) ?_
  refine lv_iload_n hx hb dL_pass_5 rfl (lv_at hl 2 rfl) ?_
  refine lv_iload_n hx hb dL_pass_6 rfl (lv_at hl 3 rfl) ?_
  refine lv_iload hx hb dL_pass_7 (lv_at hl 4 rfl) ?_
  have hPc : va_P D vwCl (wH α γ (h, old, ch) rg ln sl pd (hg9, la9) sg od hs) s.heap := zPc hP
  have hDc := zDc hD
  have hKc := hK.sub (tys' := tyH γ) [1, 2, 3, 4, 5, 6, 7, 8, 9, 10, 11, 12, 13, 14, 15, 16, 17, 18, 19, 20, 21, 22] rfl
  refine zfx_calli (wr := oC cL o fo) hP hD hS hA (vx_runV (As := [.int (zI r9), .int (zI c9), .int (zI r8), .int (zI c8)]) (rest := [.int (zI 0), .ref o]) hC (c_X9_pass l D τ α γ h old ch rg ln sl pd hg9 la9 sg od hs r9 c9 r8 c8 hr9 hc9 hr8 hc8 hh hst _) (cwV 4 hts (gV hB wl_L_125 wn_X9_pass ws_X9_pass wi_X9 wc_X9_pass) rfl rfl rfl hd_X9_pass ⟨Nat.le_of_ble_eq_true rfl, Nat.le_of_ble_eq_true rfl⟩) (zpX_V hKc hPc hDc hS hA hG hGX (ci := 9) (q0 := 0) rfl rfl rfl) rfl rfl hl.1 rfl (lv_room (Nat.le_of_ble_eq_true rfl)) dL_pass_9 ⟨Nat.le_of_ble_eq_true rfl, Nat.le_of_ble_eq_true rfl⟩) (fun E w1 H locs ce q9 hq9 hP hD hS hce hcv hcl => ?_) (fun r w1 H locs hq9 hP hD hS => ?_)
  · skip
    obtain ⟨rfl, hx9, rfl⟩ := hq9
    refine vx_catch hown [] ⟨0, 14, 17, 13⟩ [] hT (fun z hz => nomatch hz) (by decide) (by decide) (hW0 _ wk_L_13) (va_Nw.use rfl (hGX.2.1 "java/lang/IndexOutOfBoundsException" (by decide +kernel))) hce hcv hcl ?_
    refine lv_astore (lv' := [(6, .ref q9), (0, .ref (α 0)), (1, .int (zI r9)), (2, .int (zI c9)), (3, .int (zI r8)), (4, .int (zI c8)), (5, .ref o)]) hx hb dL_pass_17 hl (by decide) rfl (fun ls hl => ?_)
    refine lv_iconst (v := zI 1) hx hb dL_pass_19 rfl ?_
    exact z_iret hC hr hlk hQ hP hD hS (Or.inr ⟨hx9, rfl, rfl⟩) dL_pass_20
  · skip
    obtain ⟨f2y, n2y, vy, hf0, hf1, rfl, rfl⟩ := hq9
    refine lv_i2l (v := (zI vy).toInt64) hx hb dL_pass_12 rfl ?_
    refine zo_last hx hb hK hP hD hS dL_pass_13 (fun H locs go hgo hP hD hS => ?_)
    refine lv_goto (tgt := 21) hx hb dL_pass_14 (by decide) ?_
    refine lv_iconst (v := zI 0) hx hb dL_pass_21 rfl ?_
    exact z_iret hC hr hlk hQ hP hD hS (Or.inl ⟨f2y, n2y, vy, go, hf0, hf1, hgo, rfl, rfl⟩) dL_pass_22

abbrev wz_L_sees : List Cond := .codeWith yL_sees cL_sees 7 (some .int) [(0, 21, 24, 13)] :: W0
abbrev rm_L_sees : Room := { frames := 8, cells := 2, slots := 12, locals := 138 }
theorem hd_L_sees : yL_sees.cls = RL ∧ yL_sees.cls ≠ "java/lang/invoke/MethodHandle" ∧ yL_sees.cls ≠ "java/lang/invoke/VarHandle" ∧ (parseMethodDescriptor yL_sees.desc).map (fun d => d.parameters.length) = some 6 := by decide +kernel
set_option maxHeartbeats 4000000 in
set_option maxRecDepth 100000 in
theorem c_L_sees (l : Launch) (D : va_G) (τ : Nat → Nat) (α : Nat → Nat) (γ : Nat → ClassId) (h : IA) (old : IA) (ch : IA) (rg : TRg) (ln : TLn) (sl : TSl) (pd : TPd) (hg9 : IA) (la9 : Int) (sg : TSg) (od : TOd) (hs : THs) (r9 : Int) (c9 : Int) (r8 : Int) (c8 : Int) (hr9 : -2147483648 ≤ r9 ∧ r9 < 2147483648) (hc9 : -2147483648 ≤ c9 ∧ c9 < 2147483648) (hr8 : -2147483648 ≤ r8 ∧ r8 < 2147483648) (hc8 : -2147483648 ≤ c8 ∧ c8 < 2147483648) (hh : ∀ k, 0 ≤ k → k < 49 → 0 ≤ h k ∧ h k ≤ 99) (hst : l.stackTraces = false) (cL : ClassId) (o : Nat) (fo : Nat → Int64) : cMX l yL_sees wz_L_sees rm_L_sees D τ ((cL, .long) :: tyH γ) [.ref (α 0), .int (zI r9), .int (zI c9), .int (zI r8), .int (zI c8), .ref o] (oC cL o fo ++ wH α γ (h, old, ch) rg ln sl pd (hg9, la9) sg od hs) (zQi (fun r w => (∃ (f2 : IA), ∃ (n2 : Int), ∃ (v : Bool), ∃ (go : Nat → Int64), (S_tcut r9 c9 r8 c8 = 0) ∧ (v = true ↔ S_clear h (7 * r9 + c9) (7 * r8 + c8)) ∧ go 0 = zL (z1 v) ∧ r = zI 0 ∧ oC cL o go ++ wH α γ (h, old, ch) rg ln sl pd (f2, n2) sg od hs = w) ∨ ((S_tcut r9 c9 r8 c8 = 1) ∧ r = zI 1 ∧ oC cL o fo ++ wH α γ (h, old, ch) rg ln sl pd (hg9, la9) sg od hs = w))) := by
  refine z_ofL (cc := cL_sees) (maxL := 7) (ret := (some .int)) (tb := [(0, 21, 24, 13)]) (by decide +kernel) rfl (Nat.le_of_ble_eq_true rfl) ?_
  intro pg e s m args below meth c hC hr hlk hT hK hP A hD hG hA hS hGX ls hl Q hQ
  have hx := hC.1
  have hb := hC.2.1
  have hml := hC.2.2.1
  have hown := hC.2.2.2.1
  have hts := hC.2.2.2.2
  have hB : ∀ w ∈ W0, w ∈ wz_L_sees := fun _ h => List.mem_cons_of_mem _ h
  have hW0 : ∀ w ∈ W0, w.before args s = true := fun w h => hts w (hB w h)
  have hl : lv_has ls 7 [(0, .ref (α 0)), (1, .int (zI r9)), (2, .int (zI c9)), (3, .int (zI r8)), (4, .int (zI c8)), (5, .ref o)] := hl
  refine lv_aload hx hb dL_sees_0 (lv_at hl 5 rfl) ?_
  refine lv_iconst (v := zI 0) hx hb dL_sees_2 rfl ?_
  refine lv_aload_n hx hb dL_sees_3 rfl (lv_at hl 0 rfl) ?_
  refine lv_iload_n hx hb dL_sees_4 rfl (lv_at hl 1 rfl) ?_
  refine lv_iload_n hx hb dL_sees_5 rfl (lv_at hl 2 rfl) ?_
  refine lv_iload_n hx hb dL_sees_6 rfl (lv_at hl 3 rfl) ?_
  refine lv_iload hx hb dL_sees_7 (lv_at hl 4 rfl) ?_
  have hPc : va_P D vwCl (wH α γ (h, old, ch) rg ln sl pd (hg9, la9) sg od hs) s.heap := zPc hP
  have hDc := zDc hD
  have hKc := hK.sub (tys' := tyH γ) [1, 2, 3, 4, 5, 6, 7, 8, 9, 10, 11, 12, 13, 14, 15, 16, 17, 18, 19, 20, 21, 22] rfl
  refine zfx_calli (wr := oC cL o fo) hP hD hS hA (vx_runV (As := [.int (zI r9), .int (zI c9), .int (zI r8), .int (zI c8)]) (rest := [.int (zI 0), .ref o]) hC (c_X9_sees l D τ α γ h old ch rg ln sl pd hg9 la9 sg od hs r9 c9 r8 c8 hr9 hc9 hr8 hc8 hh hst _) (cwV 4 hts (gV hB wl_L_128 wn_X9_sees ws_X9_sees wi_X9 wc_X9_sees) rfl rfl rfl hd_X9_sees ⟨Nat.le_of_ble_eq_true rfl, Nat.le_of_ble_eq_true rfl⟩) (zpX_V hKc hPc hDc hS hA hG hGX (ci := 9) (q0 := 0) rfl rfl rfl) rfl rfl hl.1 rfl (lv_room (Nat.le_of_ble_eq_true rfl)) dL_sees_9 ⟨Nat.le_of_ble_eq_true rfl, Nat.le_of_ble_eq_true rfl⟩) (fun E w1 H locs ce q9 hq9 hP hD hS hce hcv hcl => ?_) (fun r w1 H locs hq9 hP hD hS => ?_)
  · skip
    obtain ⟨rfl, hx9, rfl⟩ := hq9
    refine vx_catch hown [] ⟨0, 21, 24, 13⟩ [] hT (fun z hz => nomatch hz) (by decide) (by decide) (hW0 _ wk_L_13) (va_Nw.use rfl (hGX.2.1 "java/lang/IndexOutOfBoundsException" (by decide +kernel))) hce hcv hcl ?_
    refine lv_astore (lv' := [(6, .ref q9), (0, .ref (α 0)), (1, .int (zI r9)), (2, .int (zI c9)), (3, .int (zI r8)), (4, .int (zI c8)), (5, .ref o)]) hx hb dL_sees_24 hl (by decide) rfl (fun ls hl => ?_)
    refine lv_iconst (v := zI 1) hx hb dL_sees_26 rfl ?_
    exact z_iret hC hr hlk hQ hP hD hS (Or.inr ⟨hx9, rfl, rfl⟩) dL_sees_27
  · skip
    obtain ⟨f2y, n2y, vy, hf0, hf1, rfl, rfl⟩ := hq9
    refine z_ifeqB (tgt := 19) hx hb dL_sees_12 (by decide) (fun c_12 => ?_) (fun c_12 => ?_)
    · subst c_12
      refine lv_lconst (v := zL 0) hx hb dL_sees_19 rfl ?_
      refine zo_last hx hb hK hP hD hS dL_sees_20 (fun H locs go hgo hP hD hS => ?_)
      refine lv_goto (tgt := 28) hx hb dL_sees_21 (by decide) ?_
      refine lv_iconst (v := zI 0) hx hb dL_sees_28 rfl ?_
      exact z_iret hC hr hlk hQ hP hD hS (Or.inl ⟨f2y, n2y, false, go, hf0, hf1, hgo, rfl, rfl⟩) dL_sees_29
    · subst c_12
      refine lv_lconst (v := zL 1) hx hb dL_sees_15 rfl ?_
      refine lv_goto (tgt := 20) hx hb dL_sees_16 (by decide) ?_
      refine zo_last hx hb hK hP hD hS dL_sees_20 (fun H locs go hgo hP hD hS => ?_)
      refine lv_goto (tgt := 28) hx hb dL_sees_21 (by decide) ?_
      refine lv_iconst (v := zI 0) hx hb dL_sees_28 rfl ?_
      exact z_iret hC hr hlk hQ hP hD hS (Or.inl ⟨f2y, n2y, true, go, hf0, hf1, hgo, rfl, rfl⟩) dL_sees_29

abbrev wz_L_seenFrom : List Cond := .codeWith yL_seenFrom cL_seenFrom 5 (some .int) [(0, 10, 13, 13)] :: W0
abbrev rm_L_seenFrom : Room := { frames := 8, cells := 1, slots := 6, locals := 135 }
theorem hd_L_seenFrom : yL_seenFrom.cls = RL ∧ yL_seenFrom.cls ≠ "java/lang/invoke/MethodHandle" ∧ yL_seenFrom.cls ≠ "java/lang/invoke/VarHandle" ∧ (parseMethodDescriptor yL_seenFrom.desc).map (fun d => d.parameters.length) = some 4 := by decide +kernel
set_option maxHeartbeats 4000000 in
set_option maxRecDepth 100000 in
theorem c_L_seenFrom (l : Launch) (D : va_G) (τ : Nat → Nat) (α : Nat → Nat) (γ : Nat → ClassId) (h : IA) (old : IA) (ch : IA) (rg : TRg) (ln : TLn) (sl : TSl) (pd : TPd) (hg9 : IA) (la9 : Int) (sg : TSg) (od : TOd) (hs : THs) (r9 : Int) (c9 : Int) (hr9 : -2147483648 ≤ r9 ∧ r9 < 2147483648) (hc9 : -2147483648 ≤ c9 ∧ c9 < 2147483648) (hh : ∀ k, 0 ≤ k → k < 49 → 0 ≤ h k ∧ h k ≤ 99) (hst : l.stackTraces = false) (cL : ClassId) (o : Nat) (fo : Nat → Int64) : cMX l yL_seenFrom wz_L_seenFrom rm_L_seenFrom D τ ((cL, .long) :: tyH γ) [.ref (α 0), .int (zI r9), .int (zI c9), .ref o] (oC cL o fo ++ wH α γ (h, old, ch) rg ln sl pd (hg9, la9) sg od hs) (zQi (fun r w => (∃ (f2 : IA), ∃ (n2 : Int), ∃ (v : Int), ∃ (go : Nat → Int64), (S_tpt r9 c9 = 0) ∧ (v = S_seen h (7 * r9 + c9)) ∧ go 0 = (zI v).toInt64 ∧ r = zI 0 ∧ oC cL o go ++ wH α γ (h, old, ch) rg ln sl pd (f2, n2) sg od hs = w) ∨ ((S_tpt r9 c9 = 1) ∧ r = zI 1 ∧ oC cL o fo ++ wH α γ (h, old, ch) rg ln sl pd (hg9, la9) sg od hs = w))) := by
  refine z_ofL (cc := cL_seenFrom) (maxL := 5) (ret := (some .int)) (tb := [(0, 10, 13, 13)]) (by decide +kernel) rfl (Nat.le_of_ble_eq_true rfl) ?_
  intro pg e s m args below meth c hC hr hlk hT hK hP A hD hG hA hS hGX ls hl Q hQ
  have hx := hC.1
  have hb := hC.2.1
  have hml := hC.2.2.1
  have hown := hC.2.2.2.1
  have hts := hC.2.2.2.2
  have hB : ∀ w ∈ W0, w ∈ wz_L_seenFrom := fun _ h => List.mem_cons_of_mem _ h
  have hW0 : ∀ w ∈ W0, w.before args s = true := fun w h => hts w (hB w h)
  have hl : lv_has ls 5 [(0, .ref (α 0)), (1, .int (zI r9)), (2, .int (zI c9)), (3, .ref o)] := hl
  refine lv_aload_n hx hb dL_seenFrom_0 rfl (lv_at hl 3 rfl) ?_
  refine lv_iconst (v := zI 0) hx hb dL_seenFrom_1 rfl ?_
  refine lv_aload_n hx hb dL_seenFrom_2 rfl (lv_at hl 0 rfl) ?_
  refine lv_iload_n hx hb dL_seenFrom_3 rfl (lv_at hl 1 rfl) ?_
  refine lv_iload_n hx hb dL_seenFrom_4 rfl (lv_at hl 2 rfl) ?_
  have hPc : va_P D vwCl (wH α γ (h, old, ch) rg ln sl pd (hg9, la9) sg od hs) s.heap := zPc hP
  have hDc := zDc hD
  have hKc := hK.sub (tys' := tyH γ) [1, 2, 3, 4, 5, 6, 7, 8, 9, 10, 11, 12, 13, 14, 15, 16, 17, 18, 19, 20, 21, 22] rfl
  refine zfx_calli (wr := oC cL o fo) hP hD hS hA (vx_runV (As := [.int (zI r9), .int (zI c9)]) (rest := [.int (zI 0), .ref o]) hC (c_X9_seenFrom l D τ α γ h old ch rg ln sl pd hg9 la9 sg od hs r9 c9 hr9 hc9 hh hst _) (cwV 2 hts (gV hB wl_L_132 wn_X9_seenFrom ws_X9_seenFrom wi_X9 wc_X9_seenFrom) rfl rfl rfl hd_X9_seenFrom ⟨Nat.le_of_ble_eq_true rfl, Nat.le_of_ble_eq_true rfl⟩) (zpX_V hKc hPc hDc hS hA hG hGX (ci := 9) (q0 := 0) rfl rfl rfl) rfl rfl hl.1 rfl (lv_room (Nat.le_of_ble_eq_true rfl)) dL_seenFrom_5 ⟨Nat.le_of_ble_eq_true rfl, Nat.le_of_ble_eq_true rfl⟩) (fun E w1 H locs ce q9 hq9 hP hD hS hce hcv hcl => ?_) (fun r w1 H locs hq9 hP hD hS => ?_)
  · skip
    obtain ⟨rfl, hx9, rfl⟩ := hq9
    refine vx_catch hown [] ⟨0, 10, 13, 13⟩ [] hT (fun z hz => nomatch hz) (by decide) (by decide) (hW0 _ wk_L_13) (va_Nw.use rfl (hGX.2.1 "java/lang/IndexOutOfBoundsException" (by decide +kernel))) hce hcv hcl ?_
    refine lv_astore (lv' := [(4, .ref q9), (0, .ref (α 0)), (1, .int (zI r9)), (2, .int (zI c9)), (3, .ref o)]) hx hb dL_seenFrom_13 hl (by decide) rfl (fun ls hl => ?_)
    refine lv_iconst (v := zI 1) hx hb dL_seenFrom_15 rfl ?_
    exact z_iret hC hr hlk hQ hP hD hS (Or.inr ⟨hx9, rfl, rfl⟩) dL_seenFrom_16
  · skip
    obtain ⟨f2y, n2y, vy, hf0, hf1, rfl, rfl⟩ := hq9
    refine lv_i2l (v := (zI vy).toInt64) hx hb dL_seenFrom_8 rfl ?_
    refine zo_last hx hb hK hP hD hS dL_seenFrom_9 (fun H locs go hgo hP hD hS => ?_)
    refine lv_goto (tgt := 17) hx hb dL_seenFrom_10 (by decide) ?_
    refine lv_iconst (v := zI 0) hx hb dL_seenFrom_17 rfl ?_
    exact z_iret hC hr hlk hQ hP hD hS (Or.inl ⟨f2y, n2y, vy, go, hf0, hf1, hgo, rfl, rfl⟩) dL_seenFrom_18

