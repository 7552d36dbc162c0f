theorem zmix_cg {n : Int} {f f' g : IA} (h : ∀ k, 0 ≤ k → k < n → f k = f' k) : zmix n f g = zmix n f' g := by
  funext k; unfold zmix; split
  · next q => exact h k q.1 q.2
  · rfl
theorem wc_step {f g w : IA} {j d k : Int} (hne : d ≠ j) (h : ∀ k, 0 ≤ k → k < 49 → f k = g k + w k) (hj : 0 ≤ j ∧ j < 49) (hd : 0 ≤ d ∧ d < 49) (hk : 0 ≤ k ∧ k < 49) : zu (zu f j (f j - 1)) d (zu f j (f j - 1) d + 1) k = g k + zu (zu w j (w j - 1)) d (zu w j (w j - 1) d + 1) k := by
  have h1 := h j hj.1 hj.2; have h2 := h d hd.1 hd.2; have h3 := h k hk.1 hk.2
  by_cases e1 : k = d
  · rw [e1, zu_s, zu_s, zu_n hne, zu_n hne]; omega
  · rw [zu_n e1, zu_n e1]
    by_cases e2 : k = j
    · rw [e2, zu_s, zu_s]; omega
    · rw [zu_n e2, zu_n e2]; exact h3
def S_tset (r c a : Int) : Int := if (0 ≤ r ∧ r ≤ 6) ∧ (0 ≤ c ∧ c ≤ 6) then (if 0 ≤ a ∧ a ≤ 99 then 0 else 2) else 1
def S_theap (r c a : Int) : Int := if (0 ≤ r ∧ r ≤ 6) ∧ (0 ≤ c ∧ c ≤ 6) then (if (-60 ≤ a ∧ a ≤ 60) ∧ a ≠ 0 then 0 else 2) else 1
def S_twash (a : Int) : Int := if 1 ≤ a ∧ a ≤ 50 then 0 else 1
def S_tapp (a n : Int) : Int := if 33 ≤ a ∧ a ≤ 126 then (if n = 60 then 2 else 0) else 1
def S_tslot (a : Int) : Int := if 0 ≤ a ∧ a ≤ 1 then 0 else 1
def S_tback (a : Int) (tk : BA) : Int := if 0 ≤ a ∧ a ≤ 1 then (if tk a = true then 0 else 2) else 1
def S_tundo (n : Int) : Int := if n = 0 then 1 else 0
def S_tpt (r c : Int) : Int := if (0 ≤ r ∧ r ≤ 6) ∧ (0 ≤ c ∧ c ≤ 6) then 0 else 1
def S_tlev (L : Int) : Int := if 0 ≤ L ∧ L ≤ 98 then 0 else 1
def S_tpie (r c L : Int) : Int := if (0 ≤ r ∧ r ≤ 5) ∧ (0 ≤ c ∧ c ≤ 5) then (if 0 ≤ L ∧ L ≤ 98 then 0 else 2) else 1
def S_sab (h : IA) (L : Int) : Int := zS (fun k => if L < h k then h k - L else 0) 49
def S_pie (h : IA) (r c L : Int) : Int := zC (S_xk (S_hi h L) (r * 6 + c)) 4 / 2
theorem pA4 {m : BA} {r c : Int} (hr : 0 ≤ r ∧ r < 6) (hc : 0 ≤ c ∧ c < 6) : zC (S_xk m (r * 6 + c)) 4 = z1 (m (7 * r + c) != m (7 * r + c + 1)) + z1 (m (7 * r + c + 1) != m (7 * r + c + 8)) + z1 (m (7 * r + c + 7) != m (7 * r + c + 8)) + z1 (m (7 * r + c) != m (7 * r + c + 7)) := by
  have e : ∀ s, S_cn (r * 6 + c) s = 7 * r + c + (if s = 0 then 0 else if s = 1 then 1 else if s = 2 then 8 else 7) := fun s => by unfold S_cn; omega
  rw [S_xk_N, e, e, e, e]; unfold kN
  simp only [reduceIte, Int.reduceEq, Int.add_zero]
  rw [show (m (7 * r + c + 7) != m (7 * r + c + 8)) = (m (7 * r + c + 8) != m (7 * r + c + 7)) from bne_comm, show (m (7 * r + c) != m (7 * r + c + 7)) = (m (7 * r + c + 7) != m (7 * r + c)) from bne_comm]
abbrev wz_X10_in : List Cond := .code yX10_in cX10_in 3 (some .boolean) :: W0
abbrev rm_X10_in : Room := { frames := 0, cells := 0, slots := 0, locals := 0 }
theorem hd_X10_in : yX10_in.cls = RX10 ∧ yX10_in.cls ≠ "java/lang/invoke/MethodHandle" ∧ yX10_in.cls ≠ "java/lang/invoke/VarHandle" ∧ (parseMethodDescriptor yX10_in.desc).map (fun d => d.parameters.length) = some 3 := by decide +kernel
set_option maxHeartbeats 4000000 in
set_option maxRecDepth 100000 in
theorem c_X10_in (l : Launch) (D : va_G) (τ : Nat → Nat) (ws : va_W) (tys : List (ClassId × FieldType)) (a : Int) (b : Int) (u : Int) (ha : -2147483648 ≤ a ∧ a < 2147483648) (hb2 : -2147483648 ≤ b ∧ b < 2147483648) (hc2 : -2147483648 ≤ u ∧ u < 2147483648) : cM l yX10_in wz_X10_in rm_X10_in D τ tys [.int (zI a), .int (zI b), .int (zI u)] (ws) (zQi (fun r w => ∃ (v : Bool), (v = true ↔ (b ≤ a ∧ a ≤ u)) ∧ r = bI v ∧ ws = w)) := by
  refine z_ofM (cc := cX10_in) (maxL := 3) (ret := (some .boolean)) (by decide +kernel) rfl (Nat.le_of_ble_eq_true rfl) ?_
  intro pg e s m args below meth c hC hr hlk hnm hK hP A hD hG hA hS ls hl Q hQ
  have hx := hC.1
  have hb := hC.2.1
  have hml := hC.2.2.1
  have hown := hC.2.2.2.1
  have hts := hC.2.2.2.2
  have hB : ∀ w ∈ W0, w ∈ wz_X10_in := fun _ h => List.mem_cons_of_mem _ h
  have hW0 : ∀ w ∈ W0, w.before args s = true := fun w h => hts w (hB w h)
  have hl : lv_has ls 3 [(0, .int (zI a)), (1, .int (zI b)), (2, .int (zI u))] := hl
  refine lv_iload_n hx hb dX10_in_0 rfl (lv_at hl 0 rfl) ?_
  refine lv_iload_n hx hb dX10_in_1 rfl (lv_at hl 1 rfl) ?_
  refine z_iclt (tgt := 14) hx hb ⟨by omega, by omega⟩ ⟨by omega, by omega⟩ dX10_in_2 (by decide) (fun c_2 => ?_) (fun c_2 => ?_)
  · refine lv_iconst (v := zI 0) hx hb dX10_in_14 rfl ?_
    refine W.eq (g2 := F0 m 15 ls [.int (bI false)]) rfl ?_
    exact z_zret hC hr hlk hQ hP hD hS ⟨false, (by constructor <;> intro h9 <;> first | (cases h9; done) | rfl | omega | assumption), rfl, rfl⟩ dX10_in_15
  · refine lv_iload_n hx hb dX10_in_5 rfl (lv_at hl 0 rfl) ?_
    refine lv_iload_n hx hb dX10_in_6 rfl (lv_at hl 2 rfl) ?_
    refine z_icgt (tgt := 14) hx hb ⟨by omega, by omega⟩ ⟨by omega, by omega⟩ dX10_in_7 (by decide) (fun c_7 => ?_) (fun c_7 => ?_)
    · refine lv_iconst (v := zI 0) hx hb dX10_in_14 rfl ?_
      refine W.eq (g2 := F0 m 15 ls [.int (bI false)]) rfl ?_
      exact z_zret hC hr hlk hQ hP hD hS ⟨false, (by constructor <;> intro h9 <;> first | (cases h9; done) | rfl | omega | assumption), rfl, rfl⟩ dX10_in_15
    · refine lv_iconst (v := zI 1) hx hb dX10_in_10 rfl ?_
      refine lv_goto (tgt := 15) hx hb dX10_in_11 (by decide) ?_
      refine W.eq (g2 := F0 m 15 ls [.int (bI true)]) rfl ?_
      exact z_zret hC hr hlk hQ hP hD hS ⟨true, (by constructor <;> intro h9 <;> first | (cases h9; done) | rfl | omega | assumption), rfl, rfl⟩ dX10_in_15

abbrev wz_X10_isPoint : List Cond := .code yX10_isPoint cX10_isPoint 2 (some .boolean) :: W0
abbrev rm_X10_isPoint : Room := { frames := 1, cells := 0, slots := 0, locals := 22 }
theorem hd_X10_isPoint : yX10_isPoint.cls = RX10 ∧ yX10_isPoint.cls ≠ "java/lang/invoke/MethodHandle" ∧ yX10_isPoint.cls ≠ "java/lang/invoke/VarHandle" ∧ (parseMethodDescriptor yX10_isPoint.desc).map (fun d => d.parameters.length) = some 2 := by decide +kernel
set_option maxHeartbeats 4000000 in
set_option maxRecDepth 100000 in
theorem c_X10_isPoint (l : Launch) (D : va_G) (τ : Nat → Nat) (ws : va_W) (tys : List (ClassId × FieldType)) (a : Int) (b : Int) (ha : -2147483648 ≤ a ∧ a < 2147483648) (hb2 : -2147483648 ≤ b ∧ b < 2147483648) : cM l yX10_isPoint wz_X10_isPoint rm_X10_isPoint D τ tys [.int (zI a), .int (zI b)] (ws) (zQi (fun r w => ∃ (v : Bool), (v = true ↔ ((0 ≤ a ∧ a ≤ 6) ∧ (0 ≤ b ∧ b ≤ 6))) ∧ r = bI v ∧ ws = w)) := by
  refine z_ofM (cc := cX10_isPoint) (maxL := 2) (ret := (some .boolean)) (by decide +kernel) rfl (Nat.le_of_ble_eq_true rfl) ?_
  intro pg e s m args below meth c hC hr hlk hnm hK hP A hD hG hA hS ls hl Q hQ
  have hx := hC.1
  have hb := hC.2.1
  have hml := hC.2.2.1
  have hown := hC.2.2.2.1
  have hts := hC.2.2.2.2
  have hB : ∀ w ∈ W0, w ∈ wz_X10_isPoint := fun _ h => List.mem_cons_of_mem _ h
  have hW0 : ∀ w ∈ W0, w.before args s = true := fun w h => hts w (hB w h)
  have hl : lv_has ls 2 [(0, .int (zI a)), (1, .int (zI b))] := hl
  refine lv_iload_n hx hb dX10_isPoint_0 rfl (lv_at hl 0 rfl) ?_
  refine lv_iconst (v := zI 0) hx hb dX10_isPoint_1 rfl ?_
  refine lv_bipush (v := zI 6) hx hb dX10_isPoint_2 (zI_b8 (by decide)) ?_
  refine z_calli hP hD hS hA (va_runS (As := [.int (zI a), .int (zI 0), .int (zI 6)]) (rest := []) hC (c_X10_in l D τ _ _ a 0 6 (by first | assumption | rfl | omega) (by first | assumption | rfl | omega) (by first | assumption | rfl | omega) _) (va_cwS 3 hts (gS hB wl_X10_48 wt_X10_in wi_X10 wc_X10_in) rfl rfl rfl hd_X10_in.2 ⟨Nat.le_of_ble_eq_true rfl, Nat.le_of_ble_eq_true rfl⟩) (zp_S hK hP hD hS hA hG) rfl rfl hl.1 rfl (lv_room (Nat.le_of_ble_eq_true rfl)) dX10_isPoint_4 ⟨Nat.le_of_ble_eq_true rfl, Nat.le_of_ble_eq_true rfl⟩) (fun r w1 H locs hq9 hP hD hS => ?_)
  obtain ⟨v4_1, hv4_0, rfl, rfl⟩ := hq9
  refine z_ifeqB (tgt := 24) hx hb dX10_isPoint_7 (by decide) (fun c_7 => ?_) (fun c_7 => ?_)
  · have hb_7 := zb_neg hv4_0 c_7
    refine lv_iconst (v := zI 0) hx hb dX10_isPoint_24 rfl ?_
    refine W.eq (g2 := F0 m 25 ls [.int (bI false)]) rfl ?_
    exact z_zret hC hr hlk hQ hP hD hS ⟨false, (by constructor <;> intro h9 <;> first | (cases h9; done) | rfl | omega | assumption), rfl, rfl⟩ dX10_isPoint_25
  · have hb_7 := hv4_0.mp c_7
    refine lv_iload_n hx hb dX10_isPoint_10 rfl (lv_at hl 1 rfl) ?_
    refine lv_iconst (v := zI 0) hx hb dX10_isPoint_11 rfl ?_
    refine lv_bipush (v := zI 6) hx hb dX10_isPoint_12 (zI_b8 (by decide)) ?_
    refine z_calli hP hD hS hA (va_runS (As := [.int (zI b), .int (zI 0), .int (zI 6)]) (rest := []) hC (c_X10_in l D τ _ _ b 0 6 (by first | assumption | rfl | omega) (by first | assumption | rfl | omega) (by first | assumption | rfl | omega) _) (va_cwS 3 hts (gS hB wl_X10_48 wt_X10_in wi_X10 wc_X10_in) rfl rfl rfl hd_X10_in.2 ⟨Nat.le_of_ble_eq_true rfl, Nat.le_of_ble_eq_true rfl⟩) (zp_S hK hP hD hS hA hG) rfl rfl hl.1 rfl (lv_room (Nat.le_of_ble_eq_true rfl)) dX10_isPoint_14 ⟨Nat.le_of_ble_eq_true rfl, Nat.le_of_ble_eq_true rfl⟩) (fun r w1 H locs hq9 hP hD hS => ?_)
    obtain ⟨v14_2, hv14_0, rfl, rfl⟩ := hq9
    refine z_ifeqB (tgt := 24) hx hb dX10_isPoint_17 (by decide) (fun c_17 => ?_) (fun c_17 => ?_)
    · have hb_17 := zb_neg hv14_0 c_17
      refine lv_iconst (v := zI 0) hx hb dX10_isPoint_24 rfl ?_
      refine W.eq (g2 := F0 m 25 ls [.int (bI false)]) rfl ?_
      exact z_zret hC hr hlk hQ hP hD hS ⟨false, (by constructor <;> intro h9 <;> first | (cases h9; done) | rfl | omega | assumption), rfl, rfl⟩ dX10_isPoint_25
    · have hb_17 := hv14_0.mp c_17
      refine lv_iconst (v := zI 1) hx hb dX10_isPoint_20 rfl ?_
      refine lv_goto (tgt := 25) hx hb dX10_isPoint_21 (by decide) ?_
      refine W.eq (g2 := F0 m 25 ls [.int (bI true)]) rfl ?_
      exact z_zret hC hr hlk hQ hP hD hS ⟨true, (by constructor <;> intro h9 <;> first | (cases h9; done) | rfl | omega | assumption), rfl, rfl⟩ dX10_isPoint_25

abbrev wz_X10_size : List Cond := .code yX10_size cX10_size 1 (some .int) :: W0
abbrev rm_X10_size : Room := { frames := 0, cells := 0, slots := 0, locals := 0 }
theorem hd_X10_size : yX10_size.cls = RX10 ∧ yX10_size.cls ≠ "java/lang/invoke/MethodHandle" ∧ yX10_size.cls ≠ "java/lang/invoke/VarHandle" ∧ (parseMethodDescriptor yX10_size.desc).map (fun d => d.parameters.length) = some 1 := by decide +kernel
set_option maxHeartbeats 4000000 in
set_option maxRecDepth 100000 in
theorem c_X10_size (l : Launch) (D : va_G) (τ : Nat → Nat) (ws : va_W) (tys : List (ClassId × FieldType)) (a : Int) (ha : -2147483648 ≤ a ∧ a < 2147483648) : cM l yX10_size wz_X10_size rm_X10_size D τ tys [.int (zI a)] (ws) (zQi (fun r w => ∃ (v : Int), (v = zabs a) ∧ r = zI v ∧ ws = w)) := by
  refine z_ofM (cc := cX10_size) (maxL := 1) (ret := (some .int)) (by decide +kernel) rfl (Nat.le_of_ble_eq_true rfl) ?_
  intro pg e s m args below meth c hC hr hlk hnm hK hP A hD hG hA hS ls hl Q hQ
  have hx := hC.1
  have hb := hC.2.1
  have hml := hC.2.2.1
  have hown := hC.2.2.2.1
  have hts := hC.2.2.2.2
  have hB : ∀ w ∈ W0, w ∈ wz_X10_size := fun _ h => List.mem_cons_of_mem _ h
  have hW0 : ∀ w ∈ W0, w.before args s = true := fun w h => hts w (hB w h)
  have hl : lv_has ls 1 [(0, .int (zI a))] := hl
  refine lv_iload_n hx hb dX10_size_0 rfl (lv_at hl 0 rfl) ?_
  refine z_ifge (tgt := 9) hx hb ⟨by omega, by omega⟩ dX10_size_1 (by decide) (fun c_1 => ?_) (fun c_1 => ?_)
  · refine lv_iload_n hx hb dX10_size_9 rfl (lv_at hl 0 rfl) ?_
    exact z_iret hC hr hlk hQ hP hD hS ⟨a, (by have z9 := zabs_spec a; omega), rfl, rfl⟩ dX10_size_10
  · refine lv_iload_n hx hb dX10_size_4 rfl (lv_at hl 0 rfl) ?_
    refine z_ineg hx hb dX10_size_5 ?_
    refine lv_goto (tgt := 10) hx hb dX10_size_6 (by decide) ?_
    exact z_iret hC hr hlk hQ hP hD hS ⟨-a, (by have z9 := zabs_spec a; omega), rfl, rfl⟩ dX10_size_10

abbrev wz_X10_height : List Cond := .code yX10_height cX10_height 1 (some .int) :: W0
abbrev rm_X10_height : Room := { frames := 0, cells := 0, slots := 0, locals := 0 }
theorem hd_X10_height : yX10_height.cls = RX10 ∧ yX10_height.cls ≠ "java/lang/invoke/MethodHandle" ∧ yX10_height.cls ≠ "java/lang/invoke/VarHandle" ∧ (parseMethodDescriptor yX10_height.desc).map (fun d => d.parameters.length) = some 1 := by decide +kernel
set_option maxHeartbeats 4000000 in
set_option maxRecDepth 100000 in
theorem c_X10_height (l : Launch) (D : va_G) (τ : Nat → Nat) (ws : va_W) (tys : List (ClassId × FieldType)) (a : Int) (ha : -2147483648 ≤ a ∧ a < 2147483648) : cM l yX10_height wz_X10_height rm_X10_height D τ tys [.int (zI a)] (ws) (zQi (fun r w => ∃ (v : Int), (v = clip a) ∧ (0 ≤ v ∧ v ≤ 99) ∧ r = zI v ∧ ws = w)) := by
  refine z_ofM (cc := cX10_height) (maxL := 1) (ret := (some .int)) (by decide +kernel) rfl (Nat.le_of_ble_eq_true rfl) ?_
  intro pg e s m args below meth c hC hr hlk hnm hK hP A hD hG hA hS ls hl Q hQ
  have hx := hC.1
  have hb := hC.2.1
  have hml := hC.2.2.1
  have hown := hC.2.2.2.1
  have hts := hC.2.2.2.2
  have hB : ∀ w ∈ W0, w ∈ wz_X10_height := fun _ h => List.mem_cons_of_mem _ h
  have hW0 : ∀ w ∈ W0, w.before args s = true := fun w h => hts w (hB w h)
  have hl : lv_has ls 1 [(0, .int (zI a))] := hl
  refine lv_iload_n hx hb dX10_height_0 rfl (lv_at hl 0 rfl) ?_
  refine z_ifge (tgt := 8) hx hb ⟨by omega, by omega⟩ dX10_height_1 (by decide) (fun c_1 => ?_) (fun c_1 => ?_)
  · refine lv_iload_n hx hb dX10_height_8 rfl (lv_at hl 0 rfl) ?_
    refine lv_bipush (v := zI 99) hx hb dX10_height_9 (zI_b8 (by decide)) ?_
    refine z_icle (tgt := 19) hx hb ⟨by omega, by omega⟩ ⟨by omega, by omega⟩ dX10_height_11 (by decide) (fun c_11 => ?_) (fun c_11 => ?_)
    · refine lv_iload_n hx hb dX10_height_19 rfl (lv_at hl 0 rfl) ?_
      exact z_iret hC hr hlk hQ hP hD hS ⟨a, (by unfold clip; have z1 := zmin_spec 99 a; have z2 := zmax_spec 0 (zmin 99 a); omega), (by first | assumption | rfl | omega), rfl, rfl⟩ dX10_height_20
    · refine lv_bipush (v := zI 99) hx hb dX10_height_14 (zI_b8 (by decide)) ?_
      refine lv_goto (tgt := 20) hx hb dX10_height_16 (by decide) ?_
      exact z_iret hC hr hlk hQ hP hD hS ⟨99, (by unfold clip; have z1 := zmin_spec 99 a; have z2 := zmax_spec 0 (zmin 99 a); omega), (by first | assumption | rfl | omega), rfl, rfl⟩ dX10_height_20
  · refine lv_iconst (v := zI 0) hx hb dX10_height_4 rfl ?_
    refine lv_goto (tgt := 20) hx hb dX10_height_5 (by decide) ?_
    exact z_iret hC hr hlk hQ hP hD hS ⟨0, (by unfold clip; have z1 := zmin_spec 99 a; have z2 := zmax_spec 0 (zmin 99 a); omega), (by first | assumption | rfl | omega), rfl, rfl⟩ dX10_height_20

abbrev wz_X10_next : List Cond := .code yX10_next cX10_next 4 (some .int) :: W0
abbrev rm_X10_next : Room := { frames := 2, cells := 0, slots := 0, locals := 43 }
theorem hd_X10_next : yX10_next.cls = RX10 ∧ yX10_next.cls ≠ "java/lang/invoke/MethodHandle" ∧ yX10_next.cls ≠ "java/lang/invoke/VarHandle" ∧ (parseMethodDescriptor yX10_next.desc).map (fun d => d.parameters.length) = some 2 := by decide +kernel
set_option maxHeartbeats 4000000 in
set_option maxRecDepth 100000 in
theorem c_X10_next (l : Launch) (D : va_G) (τ : Nat → Nat) (ws : va_W) (tys : List (ClassId × FieldType)) (p : Int) (w9 : Int) (hp : 0 ≤ p ∧ p < 49) (hw9 : 0 ≤ w9 ∧ w9 < 4) : cM l yX10_next wz_X10_next rm_X10_next D τ tys [.int (zI p), .int (zI w9)] (ws) (zQi (fun r w => ∃ (v : Int), (v = S_step p w9) ∧ (-1 ≤ v ∧ v < 49) ∧ r = zI v ∧ ws = w)) := by
  refine z_ofM (cc := cX10_next) (maxL := 4) (ret := (some .int)) (by decide +kernel) rfl (Nat.le_of_ble_eq_true rfl) ?_
  intro pg e s m args below meth c hC hr hlk hnm hK hP A hD hG hA hS ls hl Q hQ
  have hx := hC.1
  have hb := hC.2.1
  have hml := hC.2.2.1
  have hown := hC.2.2.2.1
  have hts := hC.2.2.2.2
  have hB : ∀ w ∈ W0, w ∈ wz_X10_next := fun _ h => List.mem_cons_of_mem _ h
  have hW0 : ∀ w ∈ W0, w.before args s = true := fun w h => hts w (hB w h)
  have hl : lv_has ls 4 [(0, .int (zI p)), (1, .int (zI w9))] := hl
  refine lv_iload_n hx hb dX10_next_0 rfl (lv_at hl 0 rfl) ?_
  refine lv_bipush (v := zI 7) hx hb dX10_next_1 (zI_b8 (by decide)) ?_
  refine z_idiv hx hb ⟨⟨by omega, by omega⟩, by omega, by omega⟩ dX10_next_3 ?_
  refine lv_iload_n hx hb dX10_next_4 rfl (lv_at hl 1 rfl) ?_
  refine z_ifne (tgt := 12) hx hb ⟨by omega, by omega⟩ dX10_next_5 (by decide) (fun c_5 => ?_) (fun c_5 => ?_)
  · refine lv_iload_n hx hb dX10_next_12 rfl (lv_at hl 1 rfl) ?_
    refine lv_iconst (v := zI 2) hx hb dX10_next_13 rfl ?_
    refine z_icne (tgt := 21) hx hb ⟨by omega, by omega⟩ ⟨by omega, by omega⟩ dX10_next_14 (by decide) (fun c_14 => ?_) (fun c_14 => ?_)
    · refine lv_iconst (v := zI 0) hx hb dX10_next_21 rfl ?_
      refine z_iadd hx hb dX10_next_22 ?_
      refine lv_istore_n (lv' := [(2, .int (zI ((p / 7) + 0))), (0, .int (zI p)), (1, .int (zI w9))]) hx hb dX10_next_23 rfl hl (by decide) rfl (fun ls hl => ?_)
      refine lv_iload_n hx hb dX10_next_24 rfl (lv_at hl 1 rfl) ?_
      refine lv_bipush (v := zI 7) hx hb dX10_next_25 (zI_b8 (by decide)) ?_
      refine z_irem hx hb ⟨⟨by omega, by omega⟩, by omega, by omega⟩ dX10_next_27 ?_
      refine lv_iload_n hx hb dX10_next_28 rfl (lv_at hl 2 rfl) ?_
      refine lv_iconst (v := zI 1) hx hb dX10_next_29 rfl ?_
      refine z_icne (tgt := 37) hx hb ⟨by omega, by omega⟩ ⟨by omega, by omega⟩ dX10_next_30 (by decide) (fun c_30 => ?_) (fun c_30 => ?_)
      · refine lv_iload_n hx hb dX10_next_37 rfl (lv_at hl 2 rfl) ?_
        refine lv_iconst (v := zI 3) hx hb dX10_next_38 rfl ?_
        refine z_icne (tgt := 46) hx hb ⟨by omega, by omega⟩ ⟨by omega, by omega⟩ dX10_next_39 (by decide) (fun c_39 => ?_) (fun c_39 => ?_)
        · refine lv_iconst (v := zI 0) hx hb dX10_next_46 rfl ?_
          refine z_iadd hx hb dX10_next_47 ?_
          refine lv_istore_n (lv' := [(3, .int (zI ((p % 7) + 0))), (2, .int (zI ((p / 7) + 0))), (0, .int (zI p)), (1, .int (zI w9))]) hx hb dX10_next_48 rfl hl (by decide) rfl (fun ls hl => ?_)
          refine lv_iload_n hx hb dX10_next_49 rfl (lv_at hl 1 rfl) ?_
          refine lv_iload_n hx hb dX10_next_50 rfl (lv_at hl 0 rfl) ?_
          refine z_calli hP hD hS hA (va_runS (As := [.int (zI ((p / 7) + 0)), .int (zI ((p % 7) + 0))]) (rest := []) hC (c_X10_isPoint l D τ _ _ ((p / 7) + 0) ((p % 7) + 0) (by first | assumption | rfl | omega) (by first | assumption | rfl | omega) _) (va_cwS 2 hts (gS hB wl_X10_55 wt_X10_isPoint wi_X10 wc_X10_isPoint) rfl rfl rfl hd_X10_isPoint.2 ⟨Nat.le_of_ble_eq_true rfl, Nat.le_of_ble_eq_true rfl⟩) (zp_S hK hP hD hS hA hG) rfl rfl hl.1 rfl (lv_room (Nat.le_of_ble_eq_true rfl)) dX10_next_51 ⟨Nat.le_of_ble_eq_true rfl, Nat.le_of_ble_eq_true rfl⟩) (fun r w1 H locs hq9 hP hD hS => ?_)
          obtain ⟨v51_1, hv51_0, rfl, rfl⟩ := hq9
          refine z_ifeqB (tgt := 66) hx hb dX10_next_54 (by decide) (fun c_54 => ?_) (fun c_54 => ?_)
          · have hb_54 := zb_neg hv51_0 c_54
            refine lv_iconst (v := zI (-1)) hx hb dX10_next_66 rfl ?_
            exact z_iret hC hr hlk hQ hP hD hS ⟨(-1), (by have z9 := S_step_4 hp; rcases z4 hw9 with e9 | e9 | e9 | e9 <;> rw [e9] <;> first | (exfalso; omega) | (rw [z9.1]; split <;> omega) | (rw [z9.2.1]; split <;> omega) | (rw [z9.2.2.1]; split <;> omega) | (rw [z9.2.2.2]; split <;> omega)), (by first | assumption | rfl | omega), rfl, rfl⟩ dX10_next_67
          · have hb_54 := hv51_0.mp c_54
            refine lv_bipush (v := zI 7) hx hb dX10_next_57 (zI_b8 (by decide)) ?_
            refine lv_iload_n hx hb dX10_next_59 rfl (lv_at hl 1 rfl) ?_
            refine z_imul hx hb dX10_next_60 ?_
            refine lv_iload_n hx hb dX10_next_61 rfl (lv_at hl 0 rfl) ?_
            refine z_iadd hx hb dX10_next_62 ?_
            refine lv_goto (tgt := 67) hx hb dX10_next_63 (by decide) ?_
            exact z_iret hC hr hlk hQ hP hD hS ⟨(7 * ((p / 7) + 0)) + ((p % 7) + 0), (by have z9 := S_step_4 hp; rcases z4 hw9 with e9 | e9 | e9 | e9 <;> rw [e9] <;> first | (exfalso; omega) | (rw [z9.1]; split <;> omega) | (rw [z9.2.1]; split <;> omega) | (rw [z9.2.2.1]; split <;> omega) | (rw [z9.2.2.2]; split <;> omega)), (by first | assumption | rfl | omega), rfl, rfl⟩ dX10_next_67
        · refine lv_iconst (v := zI (-1)) hx hb dX10_next_42 rfl ?_
          refine lv_goto (tgt := 47) hx hb dX10_next_43 (by decide) ?_
          refine z_iadd hx hb dX10_next_47 ?_
          refine lv_istore_n (lv' := [(3, .int (zI ((p % 7) + (-1)))), (2, .int (zI ((p / 7) + 0))), (0, .int (zI p)), (1, .int (zI w9))]) hx hb dX10_next_48 rfl hl (by decide) rfl (fun ls hl => ?_)
          refine lv_iload_n hx hb dX10_next_49 rfl (lv_at hl 1 rfl) ?_
          refine lv_iload_n hx hb dX10_next_50 rfl (lv_at hl 0 rfl) ?_
          refine z_calli hP hD hS hA (va_runS (As := [.int (zI ((p / 7) + 0)), .int (zI ((p % 7) + (-1)))]) (rest := []) hC (c_X10_isPoint l D τ _ _ ((p / 7) + 0) ((p % 7) + (-1)) (by first | assumption | rfl | omega) (by first | assumption | rfl | omega) _) (va_cwS 2 hts (gS hB wl_X10_55 wt_X10_isPoint wi_X10 wc_X10_isPoint) rfl rfl rfl hd_X10_isPoint.2 ⟨Nat.le_of_ble_eq_true rfl, Nat.le_of_ble_eq_true rfl⟩) (zp_S hK hP hD hS hA hG) rfl rfl hl.1 rfl (lv_room (Nat.le_of_ble_eq_true rfl)) dX10_next_51 ⟨Nat.le_of_ble_eq_true rfl, Nat.le_of_ble_eq_true rfl⟩) (fun r w1 H locs hq9 hP hD hS => ?_)
          obtain ⟨v51_2, hv51_0, rfl, rfl⟩ := hq9
          refine z_ifeqB (tgt := 66) hx hb dX10_next_54 (by decide) (fun c_54 => ?_) (fun c_54 => ?_)
          · have hb_54 := zb_neg hv51_0 c_54
            refine lv_iconst (v := zI (-1)) hx hb dX10_next_66 rfl ?_
            exact z_iret hC hr hlk hQ hP hD hS ⟨(-1), (by have z9 := S_step_4 hp; rcases z4 hw9 with e9 | e9 | e9 | e9 <;> rw [e9] <;> first | (exfalso; omega) | (rw [z9.1]; split <;> omega) | (rw [z9.2.1]; split <;> omega) | (rw [z9.2.2.1]; split <;> omega) | (rw [z9.2.2.2]; split <;> omega)), (by first | assumption | rfl | omega), rfl, rfl⟩ dX10_next_67
          · have hb_54 := hv51_0.mp c_54
            refine lv_bipush (v := zI 7) hx hb dX10_next_57 (zI_b8 (by decide)) ?_
            refine lv_iload_n hx hb dX10_next_59 rfl (lv_at hl 1 rfl) ?_
            refine z_imul hx hb dX10_next_60 ?_
            refine lv_iload_n hx hb dX10_next_61 rfl (lv_at hl 0 rfl) ?_
            refine z_iadd hx hb dX10_next_62 ?_
            refine lv_goto (tgt := 67) hx hb dX10_next_63 (by decide) ?_
            exact z_iret hC hr hlk hQ hP hD hS ⟨(7 * ((p / 7) + 0)) + ((p % 7) + (-1)), (by have z9 := S_step_4 hp; rcases z4 hw9 with e9 | e9 | e9 | e9 <;> rw [e9] <;> first | (exfalso; omega) | (rw [z9.1]; split <;> omega) | (rw [z9.2.1]; split <;> omega) | (rw [z9.2.2.1]; split <;> omega) | (rw [z9.2.2.2]; split <;> omega)), (by first | assumption | rfl | omega), rfl, rfl⟩ dX10_next_67
      · refine lv_iconst (v := zI 1) hx hb dX10_next_33 rfl ?_
        refine lv_goto (tgt := 47) hx hb dX10_next_34 (by decide) ?_
        refine z_iadd hx hb dX10_next_47 ?_
        refine lv_istore_n (lv' := [(3, .int (zI ((p % 7) + 1))), (2, .int (zI ((p / 7) + 0))), (0, .int (zI p)), (1, .int (zI w9))]) hx hb dX10_next_48 rfl hl (by decide) rfl (fun ls hl => ?_)
        refine lv_iload_n hx hb dX10_next_49 rfl (lv_at hl 1 rfl) ?_
        refine lv_iload_n hx hb dX10_next_50 rfl (lv_at hl 0 rfl) ?_
        refine z_calli hP hD hS hA (va_runS (As := [.int (zI ((p / 7) + 0)), .int (zI ((p % 7) + 1))]) (rest := []) hC (c_X10_isPoint l D τ _ _ ((p / 7) + 0) ((p % 7) + 1) (by first | assumption | rfl | omega) (by first | assumption | rfl | omega) _) (va_cwS 2 hts (gS hB wl_X10_55 wt_X10_isPoint wi_X10 wc_X10_isPoint) rfl rfl rfl hd_X10_isPoint.2 ⟨Nat.le_of_ble_eq_true rfl, Nat.le_of_ble_eq_true rfl⟩) (zp_S hK hP hD hS hA hG) rfl rfl hl.1 rfl (lv_room (Nat.le_of_ble_eq_true rfl)) dX10_next_51 ⟨Nat.le_of_ble_eq_true rfl, Nat.le_of_ble_eq_true rfl⟩) (fun r w1 H locs hq9 hP hD hS => ?_)
        obtain ⟨v51_3, hv51_0, rfl, rfl⟩ := hq9
        refine z_ifeqB (tgt := 66) hx hb dX10_next_54 (by decide) (fun c_54 => ?_) (fun c_54 => ?_)
        · have hb_54 := zb_neg hv51_0 c_54
          refine lv_iconst (v := zI (-1)) hx hb dX10_next_66 rfl ?_
          exact z_iret hC hr hlk hQ hP hD hS ⟨(-1), (by have z9 := S_step_4 hp; rcases z4 hw9 with e9 | e9 | e9 | e9 <;> rw [e9] <;> first | (exfalso; omega) | (rw [z9.1]; split <;> omega) | (rw [z9.2.1]; split <;> omega) | (rw [z9.2.2.1]; split <;> omega) | (rw [z9.2.2.2]; split <;> omega)), (by first | assumption | rfl | omega), rfl, rfl⟩ dX10_next_67
        · have hb_54 := hv51_0.mp c_54
          refine lv_bipush (v := zI 7) hx hb dX10_next_57 (zI_b8 (by decide)) ?_
          refine lv_iload_n hx hb dX10_next_59 rfl (lv_at hl 1 rfl) ?_
          refine z_imul hx hb dX10_next_60 ?_
          refine lv_iload_n hx hb dX10_next_61 rfl (lv_at hl 0 rfl) ?_
          refine z_iadd hx hb dX10_next_62 ?_
          refine lv_goto (tgt := 67) hx hb dX10_next_63 (by decide) ?_
          exact z_iret hC hr hlk hQ hP hD hS ⟨(7 * ((p / 7) + 0)) + ((p % 7) + 1), (by have z9 := S_step_4 hp; rcases z4 hw9 with e9 | e9 | e9 | e9 <;> rw [e9] <;> first | (exfalso; omega) | (rw [z9.1]; split <;> omega) | (rw [z9.2.1]; split <;> omega) | (rw [z9.2.2.1]; split <;> omega) | (rw [z9.2.2.2]; split <;> omega)), (by first | assumption | rfl | omega), rfl, rfl⟩ dX10_next_67
    · refine lv_iconst (v := zI 1) hx hb dX10_next_17 rfl ?_
      refine lv_goto (tgt := 22) hx hb dX10_next_18 (by decide) ?_
      refine z_iadd hx hb dX10_next_22 ?_
      refine lv_istore_n (lv' := [(2, .int (zI ((p / 7) + 1))), (0, .int (zI p)), (1, .int (zI w9))]) hx hb dX10_next_23 rfl hl (by decide) rfl (fun ls hl => ?_)
      refine lv_iload_n hx hb dX10_next_24 rfl (lv_at hl 1 rfl) ?_
      refine lv_bipush (v := zI 7) hx hb dX10_next_25 (zI_b8 (by decide)) ?_
      refine z_irem hx hb ⟨⟨by omega, by omega⟩, by omega, by omega⟩ dX10_next_27 ?_
      refine lv_iload_n hx hb dX10_next_28 rfl (lv_at hl 2 rfl) ?_
      refine lv_iconst (v := zI 1) hx hb dX10_next_29 rfl ?_
      refine z_icne (tgt := 37) hx hb ⟨by omega, by omega⟩ ⟨by omega, by omega⟩ dX10_next_30 (by decide) (fun c_30 => ?_) (fun c_30 => ?_)
      · refine lv_iload_n hx hb dX10_next_37 rfl (lv_at hl 2 rfl) ?_
        refine lv_iconst (v := zI 3) hx hb dX10_next_38 rfl ?_
        refine z_icne (tgt := 46) hx hb ⟨by omega, by omega⟩ ⟨by omega, by omega⟩ dX10_next_39 (by decide) (fun c_39 => ?_) (fun c_39 => ?_)
        · refine lv_iconst (v := zI 0) hx hb dX10_next_46 rfl ?_
          refine z_iadd hx hb dX10_next_47 ?_
          refine lv_istore_n (lv' := [(3, .int (zI ((p % 7) + 0))), (2, .int (zI ((p / 7) + 1))), (0, .int (zI p)), (1, .int (zI w9))]) hx hb dX10_next_48 rfl hl (by decide) rfl (fun ls hl => ?_)
          refine lv_iload_n hx hb dX10_next_49 rfl (lv_at hl 1 rfl) ?_
          refine lv_iload_n hx hb dX10_next_50 rfl (lv_at hl 0 rfl) ?_
          refine z_calli hP hD hS hA (va_runS (As := [.int (zI ((p / 7) + 1)), .int (zI ((p % 7) + 0))]) (rest := []) hC (c_X10_isPoint l D τ _ _ ((p / 7) + 1) ((p % 7) + 0) (by first | assumption | rfl | omega) (by first | assumption | rfl | omega) _) (va_cwS 2 hts (gS hB wl_X10_55 wt_X10_isPoint wi_X10 wc_X10_isPoint) rfl rfl rfl hd_X10_isPoint.2 ⟨Nat.le_of_ble_eq_true rfl, Nat.le_of_ble_eq_true rfl⟩) (zp_S hK hP hD hS hA hG) rfl rfl hl.1 rfl (lv_room (Nat.le_of_ble_eq_true rfl)) dX10_next_51 ⟨Nat.le_of_ble_eq_true rfl, Nat.le_of_ble_eq_true rfl⟩) (fun r w1 H locs hq9 hP hD hS => ?_)
          obtain ⟨v51_4, hv51_0, rfl, rfl⟩ := hq9
          refine z_ifeqB (tgt := 66) hx hb dX10_next_54 (by decide) (fun c_54 => ?_) (fun c_54 => ?_)
          · have hb_54 := zb_neg hv51_0 c_54
            refine lv_iconst (v := zI (-1)) hx hb dX10_next_66 rfl ?_
            exact z_iret hC hr hlk hQ hP hD hS ⟨(-1), (by have z9 := S_step_4 hp; rcases z4 hw9 with e9 | e9 | e9 | e9 <;> rw [e9] <;> first | (exfalso; omega) | (rw [z9.1]; split <;> omega) | (rw [z9.2.1]; split <;> omega) | (rw [z9.2.2.1]; split <;> omega) | (rw [z9.2.2.2]; split <;> omega)), (by first | assumption | rfl | omega), rfl, rfl⟩ dX10_next_67
          · have hb_54 := hv51_0.mp c_54
            refine lv_bipush (v := zI 7) hx hb dX10_next_57 (zI_b8 (by decide)) ?_
            refine lv_iload_n hx hb dX10_next_59 rfl (lv_at hl 1 rfl) ?_
            refine z_imul hx hb dX10_next_60 ?_
            refine lv_iload_n hx hb dX10_next_61 rfl (lv_at hl 0 rfl) ?_
            refine z_iadd hx hb dX10_next_62 ?_
            refine lv_goto (tgt := 67) hx hb dX10_next_63 (by decide) ?_
            exact z_iret hC hr hlk hQ hP hD hS ⟨(7 * ((p / 7) + 1)) + ((p % 7) + 0), (by have z9 := S_step_4 hp; rcases z4 hw9 with e9 | e9 | e9 | e9 <;> rw [e9] <;> first | (exfalso; omega) | (rw [z9.1]; split <;> omega) | (rw [z9.2.1]; split <;> omega) | (rw [z9.2.2.1]; split <;> omega) | (rw [z9.2.2.2]; split <;> omega)), (by first | assumption | rfl | omega), rfl, rfl⟩ dX10_next_67
        · refine lv_iconst (v := zI (-1)) hx hb dX10_next_42 rfl ?_
          refine lv_goto (tgt := 47) hx hb dX10_next_43 (by decide) ?_
          refine z_iadd hx hb dX10_next_47 ?_
          refine lv_istore_n (lv' := [(3, .int (zI ((p % 7) + (-1)))), (2, .int (zI ((p / 7) + 1))), (0, .int (zI p)), (1, .int (zI w9))]) hx hb dX10_next_48 rfl hl (by decide) rfl (fun ls hl => ?_)
          refine lv_iload_n hx hb dX10_next_49 rfl (lv_at hl 1 rfl) ?_
          refine lv_iload_n hx hb dX10_next_50 rfl (lv_at hl 0 rfl) ?_
          refine z_calli hP hD hS hA (va_runS (As := [.int (zI ((p / 7) + 1)), .int (zI ((p % 7) + (-1)))]) (rest := []) hC (c_X10_isPoint l D τ _ _ ((p / 7) + 1) ((p % 7) + (-1)) (by first | assumption | rfl | omega) (by first | assumption | rfl | omega) _) (va_cwS 2 hts (gS hB wl_X10_55 wt_X10_isPoint wi_X10 wc_X10_isPoint) rfl rfl rfl hd_X10_isPoint.2 ⟨Nat.le_of_ble_eq_true rfl, Nat.le_of_ble_eq_true rfl⟩) (zp_S hK hP hD hS hA hG) rfl rfl hl.1 rfl (lv_room (Nat.le_of_ble_eq_true rfl)) dX10_next_51 ⟨Nat.le_of_ble_eq_true rfl, Nat.le_of_ble_eq_true rfl⟩) (fun r w1 H locs hq9 hP hD hS => ?_)
          obtain ⟨v51_5, hv51_0, rfl, rfl⟩ := hq9
          refine z_ifeqB (tgt := 66) hx hb dX10_next_54 (by decide) (fun c_54 => ?_) (fun c_54 => ?_)
          · have hb_54 := zb_neg hv51_0 c_54
            refine lv_iconst (v := zI (-1)) hx hb dX10_next_66 rfl ?_
            exact z_iret hC hr hlk hQ hP hD hS ⟨(-1), (by have z9 := S_step_4 hp; rcases z4 hw9 with e9 | e9 | e9 | e9 <;> rw [e9] <;> first | (exfalso; omega) | (rw [z9.1]; split <;> omega) | (rw [z9.2.1]; split <;> omega) | (rw [z9.2.2.1]; split <;> omega) | (rw [z9.2.2.2]; split <;> omega)), (by first | assumption | rfl | omega), rfl, rfl⟩ dX10_next_67
          · have hb_54 := hv51_0.mp c_54
            refine lv_bipush (v := zI 7) hx hb dX10_next_57 (zI_b8 (by decide)) ?_
            refine lv_iload_n hx hb dX10_next_59 rfl (lv_at hl 1 rfl) ?_
            refine z_imul hx hb dX10_next_60 ?_
            refine lv_iload_n hx hb dX10_next_61 rfl (lv_at hl 0 rfl) ?_
            refine z_iadd hx hb dX10_next_62 ?_
            refine lv_goto (tgt := 67) hx hb dX10_next_63 (by decide) ?_
            exact z_iret hC hr hlk hQ hP hD hS ⟨(7 * ((p / 7) + 1)) + ((p % 7) + (-1)), (by have z9 := S_step_4 hp; rcases z4 hw9 with e9 | e9 | e9 | e9 <;> rw [e9] <;> first | (exfalso; omega) | (rw [z9.1]; split <;> omega) | (rw [z9.2.1]; split <;> omega) | (rw [z9.2.2.1]; split <;> omega) | (rw [z9.2.2.2]; split <;> omega)), (by first | assumption | rfl | omega), rfl, rfl⟩ dX10_next_67
      · refine lv_iconst (v := zI 1) hx hb dX10_next_33 rfl ?_
        refine lv_goto (tgt := 47) hx hb dX10_next_34 (by decide) ?_
        refine z_iadd hx hb dX10_next_47 ?_
        refine lv_istore_n (lv' := [(3, .int (zI ((p % 7) + 1))), (2, .int (zI ((p / 7) + 1))), (0, .int (zI p)), (1, .int (zI w9))]) hx hb dX10_next_48 rfl hl (by decide) rfl (fun ls hl => ?_)
        refine lv_iload_n hx hb dX10_next_49 rfl (lv_at hl 1 rfl) ?_
        refine lv_iload_n hx hb dX10_next_50 rfl (lv_at hl 0 rfl) ?_
        refine z_calli hP hD hS hA (va_runS (As := [.int (zI ((p / 7) + 1)), .int (zI ((p % 7) + 1))]) (rest := []) hC (c_X10_isPoint l D τ _ _ ((p / 7) + 1) ((p % 7) + 1) (by first | assumption | rfl | omega) (by first | assumption | rfl | omega) _) (va_cwS 2 hts (gS hB wl_X10_55 wt_X10_isPoint wi_X10 wc_X10_isPoint) rfl rfl rfl hd_X10_isPoint.2 ⟨Nat.le_of_ble_eq_true rfl, Nat.le_of_ble_eq_true rfl⟩) (zp_S hK hP hD hS hA hG) rfl rfl hl.1 rfl (lv_room (Nat.le_of_ble_eq_true rfl)) dX10_next_51 ⟨Nat.le_of_ble_eq_true rfl, Nat.le_of_ble_eq_true rfl⟩) (fun r w1 H locs hq9 hP hD hS => ?_)
        obtain ⟨v51_6, hv51_0, rfl, rfl⟩ := hq9
        refine z_ifeqB (tgt := 66) hx hb dX10_next_54 (by decide) (fun c_54 => ?_) (fun c_54 => ?_)
        · have hb_54 := zb_neg hv51_0 c_54
          refine lv_iconst (v := zI (-1)) hx hb dX10_next_66 rfl ?_
          exact z_iret hC hr hlk hQ hP hD hS ⟨(-1), (by have z9 := S_step_4 hp; rcases z4 hw9 with e9 | e9 | e9 | e9 <;> rw [e9] <;> first | (exfalso; omega) | (rw [z9.1]; split <;> omega) | (rw [z9.2.1]; split <;> omega) | (rw [z9.2.2.1]; split <;> omega) | (rw [z9.2.2.2]; split <;> omega)), (by first | assumption | rfl | omega), rfl, rfl⟩ dX10_next_67
        · have hb_54 := hv51_0.mp c_54
          refine lv_bipush (v := zI 7) hx hb dX10_next_57 (zI_b8 (by decide)) ?_
          refine lv_iload_n hx hb dX10_next_59 rfl (lv_at hl 1 rfl) ?_
          refine z_imul hx hb dX10_next_60 ?_
          refine lv_iload_n hx hb dX10_next_61 rfl (lv_at hl 0 rfl) ?_
          refine z_iadd hx hb dX10_next_62 ?_
          refine lv_goto (tgt := 67) hx hb dX10_next_63 (by decide) ?_
          exact z_iret hC hr hlk hQ hP hD hS ⟨(7 * ((p / 7) + 1)) + ((p % 7) + 1), (by have z9 := S_step_4 hp; rcases z4 hw9 with e9 | e9 | e9 | e9 <;> rw [e9] <;> first | (exfalso; omega) | (rw [z9.1]; split <;> omega) | (rw [z9.2.1]; split <;> omega) | (rw [z9.2.2.1]; split <;> omega) | (rw [z9.2.2.2]; split <;> omega)), (by first | assumption | rfl | omega), rfl, rfl⟩ dX10_next_67
  · refine lv_iconst (v := zI (-1)) hx hb dX10_next_8 rfl ?_
    refine lv_goto (tgt := 22) hx hb dX10_next_9 (by decide) ?_
    refine z_iadd hx hb dX10_next_22 ?_
    refine lv_istore_n (lv' := [(2, .int (zI ((p / 7) + (-1)))), (0, .int (zI p)), (1, .int (zI w9))]) hx hb dX10_next_23 rfl hl (by decide) rfl (fun ls hl => ?_)
    refine lv_iload_n hx hb dX10_next_24 rfl (lv_at hl 1 rfl) ?_
    refine lv_bipush (v := zI 7) hx hb dX10_next_25 (zI_b8 (by decide)) ?_
    refine z_irem hx hb ⟨⟨by omega, by omega⟩, by omega, by omega⟩ dX10_next_27 ?_
    refine lv_iload_n hx hb dX10_next_28 rfl (lv_at hl 2 rfl) ?_
    refine lv_iconst (v := zI 1) hx hb dX10_next_29 rfl ?_
    refine z_icne (tgt := 37) hx hb ⟨by omega, by omega⟩ ⟨by omega, by omega⟩ dX10_next_30 (by decide) (fun c_30 => ?_) (fun c_30 => ?_)
    · refine lv_iload_n hx hb dX10_next_37 rfl (lv_at hl 2 rfl) ?_
      refine lv_iconst (v := zI 3) hx hb dX10_next_38 rfl ?_
      refine z_icne (tgt := 46) hx hb ⟨by omega, by omega⟩ ⟨by omega, by omega⟩ dX10_next_39 (by decide) (fun c_39 => ?_) (fun c_39 => ?_)
      · refine lv_iconst (v := zI 0) hx hb dX10_next_46 rfl ?_
        refine z_iadd hx hb dX10_next_47 ?_
        refine lv_istore_n (lv' := [(3, .int (zI ((p % 7) + 0))), (2, .int (zI ((p / 7) + (-1)))), (0, .int (zI p)), (1, .int (zI w9))]) hx hb dX10_next_48 rfl hl (by decide) rfl (fun ls hl => ?_)
        refine lv_iload_n hx hb dX10_next_49 rfl (lv_at hl 1 rfl) ?_
        refine lv_iload_n hx hb dX10_next_50 rfl (lv_at hl 0 rfl) ?_
        refine z_calli hP hD hS hA (va_runS (As := [.int (zI ((p / 7) + (-1))), .int (zI ((p % 7) + 0))]) (rest := []) hC (c_X10_isPoint l D τ _ _ ((p / 7) + (-1)) ((p % 7) + 0) (by first | assumption | rfl | omega) (by first | assumption | rfl | omega) _) (va_cwS 2 hts (gS hB wl_X10_55 wt_X10_isPoint wi_X10 wc_X10_isPoint) rfl rfl rfl hd_X10_isPoint.2 ⟨Nat.le_of_ble_eq_true rfl, Nat.le_of_ble_eq_true rfl⟩) (zp_S hK hP hD hS hA hG) rfl rfl hl.1 rfl (lv_room (Nat.le_of_ble_eq_true rfl)) dX10_next_51 ⟨Nat.le_of_ble_eq_true rfl, Nat.le_of_ble_eq_true rfl⟩) (fun r w1 H locs hq9 hP hD hS => ?_)
        obtain ⟨v51_7, hv51_0, rfl, rfl⟩ := hq9
        refine z_ifeqB (tgt := 66) hx hb dX10_next_54 (by decide) (fun c_54 => ?_) (fun c_54 => ?_)
        · have hb_54 := zb_neg hv51_0 c_54
          refine lv_iconst (v := zI (-1)) hx hb dX10_next_66 rfl ?_
          exact z_iret hC hr hlk hQ hP hD hS ⟨(-1), (by have z9 := S_step_4 hp; rcases z4 hw9 with e9 | e9 | e9 | e9 <;> rw [e9] <;> first | (exfalso; omega) | (rw [z9.1]; split <;> omega) | (rw [z9.2.1]; split <;> omega) | (rw [z9.2.2.1]; split <;> omega) | (rw [z9.2.2.2]; split <;> omega)), (by first | assumption | rfl | omega), rfl, rfl⟩ dX10_next_67
        · have hb_54 := hv51_0.mp c_54
          refine lv_bipush (v := zI 7) hx hb dX10_next_57 (zI_b8 (by decide)) ?_
          refine lv_iload_n hx hb dX10_next_59 rfl (lv_at hl 1 rfl) ?_
          refine z_imul hx hb dX10_next_60 ?_
          refine lv_iload_n hx hb dX10_next_61 rfl (lv_at hl 0 rfl) ?_
          refine z_iadd hx hb dX10_next_62 ?_
          refine lv_goto (tgt := 67) hx hb dX10_next_63 (by decide) ?_
          exact z_iret hC hr hlk hQ hP hD hS ⟨(7 * ((p / 7) + (-1))) + ((p % 7) + 0), (by have z9 := S_step_4 hp; rcases z4 hw9 with e9 | e9 | e9 | e9 <;> rw [e9] <;> first | (exfalso; omega) | (rw [z9.1]; split <;> omega) | (rw [z9.2.1]; split <;> omega) | (rw [z9.2.2.1]; split <;> omega) | (rw [z9.2.2.2]; split <;> omega)), (by first | assumption | rfl | omega), rfl, rfl⟩ dX10_next_67
      · refine lv_iconst (v := zI (-1)) hx hb dX10_next_42 rfl ?_
        refine lv_goto (tgt := 47) hx hb dX10_next_43 (by decide) ?_
        refine z_iadd hx hb dX10_next_47 ?_
        refine lv_istore_n (lv' := [(3, .int (zI ((p % 7) + (-1)))), (2, .int (zI ((p / 7) + (-1)))), (0, .int (zI p)), (1, .int (zI w9))]) hx hb dX10_next_48 rfl hl (by decide) rfl (fun ls hl => ?_)
        refine lv_iload_n hx hb dX10_next_49 rfl (lv_at hl 1 rfl) ?_
        refine lv_iload_n hx hb dX10_next_50 rfl (lv_at hl 0 rfl) ?_
        refine z_calli hP hD hS hA (va_runS (As := [.int (zI ((p / 7) + (-1))), .int (zI ((p % 7) + (-1)))]) (rest := []) hC (c_X10_isPoint l D τ _ _ ((p / 7) + (-1)) ((p % 7) + (-1)) (by first | assumption | rfl | omega) (by first | assumption | rfl | omega) _) (va_cwS 2 hts (gS hB wl_X10_55 wt_X10_isPoint wi_X10 wc_X10_isPoint) rfl rfl rfl hd_X10_isPoint.2 ⟨Nat.le_of_ble_eq_true rfl, Nat.le_of_ble_eq_true rfl⟩) (zp_S hK hP hD hS hA hG) rfl rfl hl.1 rfl (lv_room (Nat.le_of_ble_eq_true rfl)) dX10_next_51 ⟨Nat.le_of_ble_eq_true rfl, Nat.le_of_ble_eq_true rfl⟩) (fun r w1 H locs hq9 hP hD hS => ?_)
        obtain ⟨v51_8, hv51_0, rfl, rfl⟩ := hq9
        refine z_ifeqB (tgt := 66) hx hb dX10_next_54 (by decide) (fun c_54 => ?_) (fun c_54 => ?_)
        · have hb_54 := zb_neg hv51_0 c_54
          refine lv_iconst (v := zI (-1)) hx hb dX10_next_66 rfl ?_
          exact z_iret hC hr hlk hQ hP hD hS ⟨(-1), (by have z9 := S_step_4 hp; rcases z4 hw9 with e9 | e9 | e9 | e9 <;> rw [e9] <;> first | (exfalso; omega) | (rw [z9.1]; split <;> omega) | (rw [z9.2.1]; split <;> omega) | (rw [z9.2.2.1]; split <;> omega) | (rw [z9.2.2.2]; split <;> omega)), (by first | assumption | rfl | omega), rfl, rfl⟩ dX10_next_67
        · have hb_54 := hv51_0.mp c_54
          refine lv_bipush (v := zI 7) hx hb dX10_next_57 (zI_b8 (by decide)) ?_
          refine lv_iload_n hx hb dX10_next_59 rfl (lv_at hl 1 rfl) ?_
          refine z_imul hx hb dX10_next_60 ?_
          refine lv_iload_n hx hb dX10_next_61 rfl (lv_at hl 0 rfl) ?_
          refine z_iadd hx hb dX10_next_62 ?_
          refine lv_goto (tgt := 67) hx hb dX10_next_63 (by decide) ?_
          exact z_iret hC hr hlk hQ hP hD hS ⟨(7 * ((p / 7) + (-1))) + ((p % 7) + (-1)), (by have z9 := S_step_4 hp; rcases z4 hw9 with e9 | e9 | e9 | e9 <;> rw [e9] <;> first | (exfalso; omega) | (rw [z9.1]; split <;> omega) | (rw [z9.2.1]; split <;> omega) | (rw [z9.2.2.1]; split <;> omega) | (rw [z9.2.2.2]; split <;> omega)), (by first | assumption | rfl | omega), rfl, rfl⟩ dX10_next_67
    · refine lv_iconst (v := zI 1) hx hb dX10_next_33 rfl ?_
      refine lv_goto (tgt := 47) hx hb dX10_next_34 (by decide) ?_
      refine z_iadd hx hb dX10_next_47 ?_
      refine lv_istore_n (lv' := [(3, .int (zI ((p % 7) + 1))), (2, .int (zI ((p / 7) + (-1)))), (0, .int (zI p)), (1, .int (zI w9))]) hx hb dX10_next_48 rfl hl (by decide) rfl (fun ls hl => ?_)
      refine lv_iload_n hx hb dX10_next_49 rfl (lv_at hl 1 rfl) ?_
      refine lv_iload_n hx hb dX10_next_50 rfl (lv_at hl 0 rfl) ?_
      refine z_calli hP hD hS hA (va_runS (As := [.int (zI ((p / 7) + (-1))), .int (zI ((p % 7) + 1))]) (rest := []) hC (c_X10_isPoint l D τ _ _ ((p / 7) + (-1)) ((p % 7) + 1) (by first | assumption | rfl | omega) (by first | assumption | rfl | omega) _) (va_cwS 2 hts (gS hB wl_X10_55 wt_X10_isPoint wi_X10 wc_X10_isPoint) rfl rfl rfl hd_X10_isPoint.2 ⟨Nat.le_of_ble_eq_true rfl, Nat.le_of_ble_eq_true rfl⟩) (zp_S hK hP hD hS hA hG) rfl rfl hl.1 rfl (lv_room (Nat.le_of_ble_eq_true rfl)) dX10_next_51 ⟨Nat.le_of_ble_eq_true rfl, Nat.le_of_ble_eq_true rfl⟩) (fun r w1 H locs hq9 hP hD hS => ?_)
      obtain ⟨v51_9, hv51_0, rfl, rfl⟩ := hq9
      refine z_ifeqB (tgt := 66) hx hb dX10_next_54 (by decide) (fun c_54 => ?_) (fun c_54 => ?_)
      · have hb_54 := zb_neg hv51_0 c_54
        refine lv_iconst (v := zI (-1)) hx hb dX10_next_66 rfl ?_
        exact z_iret hC hr hlk hQ hP hD hS ⟨(-1), (by have z9 := S_step_4 hp; rcases z4 hw9 with e9 | e9 | e9 | e9 <;> rw [e9] <;> first | (exfalso; omega) | (rw [z9.1]; split <;> omega) | (rw [z9.2.1]; split <;> omega) | (rw [z9.2.2.1]; split <;> omega) | (rw [z9.2.2.2]; split <;> omega)), (by first | assumption | rfl | omega), rfl, rfl⟩ dX10_next_67
      · have hb_54 := hv51_0.mp c_54
        refine lv_bipush (v := zI 7) hx hb dX10_next_57 (zI_b8 (by decide)) ?_
        refine lv_iload_n hx hb dX10_next_59 rfl (lv_at hl 1 rfl) ?_
        refine z_imul hx hb dX10_next_60 ?_
        refine lv_iload_n hx hb dX10_next_61 rfl (lv_at hl 0 rfl) ?_
        refine z_iadd hx hb dX10_next_62 ?_
        refine lv_goto (tgt := 67) hx hb dX10_next_63 (by decide) ?_
        exact z_iret hC hr hlk hQ hP hD hS ⟨(7 * ((p / 7) + (-1))) + ((p % 7) + 1), (by have z9 := S_step_4 hp; rcases z4 hw9 with e9 | e9 | e9 | e9 <;> rw [e9] <;> first | (exfalso; omega) | (rw [z9.1]; split <;> omega) | (rw [z9.2.1]; split <;> omega) | (rw [z9.2.2.1]; split <;> omega) | (rw [z9.2.2.2]; split <;> omega)), (by first | assumption | rfl | omega), rfl, rfl⟩ dX10_next_67

abbrev wz_X10_isBorder : List Cond := .code yX10_isBorder cX10_isBorder 1 (some .boolean) :: W0
abbrev rm_X10_isBorder : Room := { frames := 0, cells := 0, slots := 0, locals := 0 }
theorem hd_X10_isBorder : yX10_isBorder.cls = RX10 ∧ yX10_isBorder.cls ≠ "java/lang/invoke/MethodHandle" ∧ yX10_isBorder.cls ≠ "java/lang/invoke/VarHandle" ∧ (parseMethodDescriptor yX10_isBorder.desc).map (fun d => d.parameters.length) = some 1 := by decide +kernel
set_option maxHeartbeats 4000000 in
set_option maxRecDepth 100000 in
theorem c_X10_isBorder (l : Launch) (D : va_G) (τ : Nat → Nat) (ws : va_W) (tys : List (ClassId × FieldType)) (a : Int) (ha : 0 ≤ a ∧ a < 49) : cM l yX10_isBorder wz_X10_isBorder rm_X10_isBorder D τ tys [.int (zI a)] (ws) (zQi (fun r w => ∃ (v : Bool), (v = true ↔ (a < 7 ∨ 42 ≤ a ∨ a % 7 = 0 ∨ a % 7 = 6)) ∧ r = bI v ∧ ws = w)) := by
  refine z_ofM (cc := cX10_isBorder) (maxL := 1) (ret := (some .boolean)) (by decide +kernel) rfl (Nat.le_of_ble_eq_true rfl) ?_
  intro pg e s m args below meth c hC hr hlk hnm hK hP A hD hG hA hS ls hl Q hQ
  have hx := hC.1
  have hb := hC.2.1
  have hml := hC.2.2.1
  have hown := hC.2.2.2.1
  have hts := hC.2.2.2.2
  have hB : ∀ w ∈ W0, w ∈ wz_X10_isBorder := fun _ h => List.mem_cons_of_mem _ h
  have hW0 : ∀ w ∈ W0, w.before args s = true := fun w h => hts w (hB w h)
  have hl : lv_has ls 1 [(0, .int (zI a))] := hl
  refine lv_iload_n hx hb dX10_isBorder_0 rfl (lv_at hl 0 rfl) ?_
  refine lv_bipush (v := zI 7) hx hb dX10_isBorder_1 (zI_b8 (by decide)) ?_
  refine z_idiv hx hb ⟨⟨by omega, by omega⟩, by omega, by omega⟩ dX10_isBorder_3 ?_
  refine z_ifeq (tgt := 32) hx hb ⟨by omega, by omega⟩ dX10_isBorder_4 (by decide) (fun c_4 => ?_) (fun c_4 => ?_)
  · refine lv_iconst (v := zI 1) hx hb dX10_isBorder_32 rfl ?_
    refine lv_goto (tgt := 37) hx hb dX10_isBorder_33 (by decide) ?_
    refine W.eq (g2 := F0 m 37 ls [.int (bI true)]) rfl ?_
    exact z_zret hC hr hlk hQ hP hD hS ⟨true, (by constructor <;> intro h9 <;> first | (cases h9; done) | rfl | omega | assumption), rfl, rfl⟩ dX10_isBorder_37
  · refine lv_iload_n hx hb dX10_isBorder_7 rfl (lv_at hl 0 rfl) ?_
    refine lv_bipush (v := zI 7) hx hb dX10_isBorder_8 (zI_b8 (by decide)) ?_
    refine z_idiv hx hb ⟨⟨by omega, by omega⟩, by omega, by omega⟩ dX10_isBorder_10 ?_
    refine lv_bipush (v := zI 6) hx hb dX10_isBorder_11 (zI_b8 (by decide)) ?_
    refine z_iceq (tgt := 32) hx hb ⟨by omega, by omega⟩ ⟨by omega, by omega⟩ dX10_isBorder_13 (by decide) (fun c_13 => ?_) (fun c_13 => ?_)
    · refine lv_iconst (v := zI 1) hx hb dX10_isBorder_32 rfl ?_
      refine lv_goto (tgt := 37) hx hb dX10_isBorder_33 (by decide) ?_
      refine W.eq (g2 := F0 m 37 ls [.int (bI true)]) rfl ?_
      exact z_zret hC hr hlk hQ hP hD hS ⟨true, (by constructor <;> intro h9 <;> first | (cases h9; done) | rfl | omega | assumption), rfl, rfl⟩ dX10_isBorder_37
    · refine lv_iload_n hx hb dX10_isBorder_16 rfl (lv_at hl 0 rfl) ?_
      refine lv_bipush (v := zI 7) hx hb dX10_isBorder_17 (zI_b8 (by decide)) ?_
      refine z_irem hx hb ⟨⟨by omega, by omega⟩, by omega, by omega⟩ dX10_isBorder_19 ?_
      refine z_ifeq (tgt := 32) hx hb ⟨by omega, by omega⟩ dX10_isBorder_20 (by decide) (fun c_20 => ?_) (fun c_20 => ?_)
      · refine lv_iconst (v := zI 1) hx hb dX10_isBorder_32 rfl ?_
        refine lv_goto (tgt := 37) hx hb dX10_isBorder_33 (by decide) ?_
        refine W.eq (g2 := F0 m 37 ls [.int (bI true)]) rfl ?_
        exact z_zret hC hr hlk hQ hP hD hS ⟨true, (by constructor <;> intro h9 <;> first | (cases h9; done) | rfl | omega | assumption), rfl, rfl⟩ dX10_isBorder_37
      · refine lv_iload_n hx hb dX10_isBorder_23 rfl (lv_at hl 0 rfl) ?_
        refine lv_bipush (v := zI 7) hx hb dX10_isBorder_24 (zI_b8 (by decide)) ?_
        refine z_irem hx hb ⟨⟨by omega, by omega⟩, by omega, by omega⟩ dX10_isBorder_26 ?_
        refine lv_bipush (v := zI 6) hx hb dX10_isBorder_27 (zI_b8 (by decide)) ?_
        refine z_icne (tgt := 36) hx hb ⟨by omega, by omega⟩ ⟨by omega, by omega⟩ dX10_isBorder_29 (by decide) (fun c_29 => ?_) (fun c_29 => ?_)
        · refine lv_iconst (v := zI 0) hx hb dX10_isBorder_36 rfl ?_
          refine W.eq (g2 := F0 m 37 ls [.int (bI false)]) rfl ?_
          exact z_zret hC hr hlk hQ hP hD hS ⟨false, (by constructor <;> intro h9 <;> first | (cases h9; done) | rfl | omega | assumption), rfl, rfl⟩ dX10_isBorder_37
        · refine lv_iconst (v := zI 1) hx hb dX10_isBorder_32 rfl ?_
          refine lv_goto (tgt := 37) hx hb dX10_isBorder_33 (by decide) ?_
          refine W.eq (g2 := F0 m 37 ls [.int (bI true)]) rfl ?_
          exact z_zret hC hr hlk hQ hP hD hS ⟨true, (by constructor <;> intro h9 <;> first | (cases h9; done) | rfl | omega | assumption), rfl, rfl⟩ dX10_isBorder_37

abbrev wz_X10_save : List Cond := .code yX10_save cX10_save 2 none :: W0
abbrev rm_X10_save : Room := { frames := 0, cells := 0, slots := 0, locals := 0 }
theorem hd_X10_save : yX10_save.cls = RX10 ∧ yX10_save.cls ≠ "java/lang/invoke/MethodHandle" ∧ yX10_save.cls ≠ "java/lang/invoke/VarHandle" ∧ (parseMethodDescriptor yX10_save.desc).map (fun d => d.parameters.length) = some 0 := by decide +kernel
set_option maxHeartbeats 4000000 in
set_option maxRecDepth 100000 in
theorem c_X10_save (l : Launch) (D : va_G) (τ : Nat → Nat) (β : Nat → Nat) (δ : Nat → ClassId) (ms : IA) (mb : IA) (mo : IA) (mp : BA) (mf : IA) (mn : IA) (mi : IA) (mc : IA) (mq : BA) (mr : IA) (mw : IA) (mk : Int) (ml : Int) (mt : Int) (ma : Int) (mx : Bool) (mh : Int64) (hmk : 0 ≤ mk ∧ mk ≤ 6) : cM l yX10_save wz_X10_save rm_X10_save D τ (tyM δ) [.ref (β 0)] (wM β δ ms mb mo mp mf mn mi mc mq mr mw mk ml mt ma mx mh) (zQv (fun w => ∃ (b2 : IA), ∃ (k2 : Int), (b2 = S_sv mb ms mk) ∧ (k2 = S_svC mk) ∧ wM β δ ms b2 mo mp mf mn mi mc mq mr mw k2 ml mt ma mx mh = w)) := by
  refine z_ofM (cc := cX10_save) (maxL := 2) (ret := none) (by decide +kernel) rfl (Nat.le_of_ble_eq_true rfl) ?_
  intro pg e s m args below meth c hC hr hlk hnm hK hP A hD hG hA hS ls hl Q hQ
  have hx := hC.1
  have hb := hC.2.1
  have hml := hC.2.2.1
  have hown := hC.2.2.2.1
  have hts := hC.2.2.2.2
  have hB : ∀ w ∈ W0, w ∈ wz_X10_save := fun _ h => List.mem_cons_of_mem _ h
  have hW0 : ∀ w ∈ W0, w.before args s = true := fun w h => hts w (hB w h)
  have hl : lv_has ls 2 [(0, .ref (β 0))] := hl
  refine lv_aload_n hx hb dX10_save_0 rfl (lv_at hl 0 rfl) ?_
  refine va_get (D := D) (ci := 10) (v := .int (zI mk)) (C := RX10) (T := TX10) (N := 17) hx hb hts (fun w h => List.mem_cons_of_mem _ (wx_X10 w h)) hown hK hP 0 rfl rfl 2 (by decide) (hW0 _ wf_X10_52) (fun _ h9 => h9) rfl dX10_save_1 ?_
  refine lv_bipush (v := zI 6) hx hb dX10_save_4 (zI_b8 (by decide)) ?_
  refine z_icne (tgt := 49) hx hb ⟨by omega, by omega⟩ ⟨by omega, by omega⟩ dX10_save_6 (by decide) (fun c_6 => ?_) (fun c_6 => ?_)
  · refine lv_iconst (v := zI 0) hx hb dX10_save_49 rfl ?_
    refine lv_istore_n (lv' := [(1, .int (zI 0)), (0, .ref (β 0))]) hx hb dX10_save_50 rfl hl (by decide) rfl (fun ls hl => ?_)
    suffices HL_51 : ∀ (n_51 : Nat), ∀ (b3 : IA) (i : Int) (K9 : Int) (b0 : IA) (H : Heap) (locs : List Loc) (hP : va_P D vwCl (wM β δ ms b3 mo mp mf mn mi mc mq mr mw K9 ml mt ma mx mh) H) (hD : va_D A (wM β δ ms b3 mo mp mf mn mi mc mq mr mw K9 ml mt ma mx mh)) (hS : va_S A s.heap H locs) (ls : Array Slot) (hl : lv_has ls 2 [(1, .int (zI i)), (0, .ref (β 0))]) (hi : 0 ≤ i ∧ i ≤ 49) (hK9 : 0 ≤ K9 ∧ K9 ≤ 5) (hb3 : b3 = zcpy ms b0 0 (49 * K9) i) (hfin : S_sv mb ms mk = zcpy ms b0 0 (49 * K9) 49 ∧ S_svC mk = K9 + 1) (hm : (49 - i).toNat < n_51), W pg l e rm_X10_save s m args below meth c H locs 0 0 Q (F0 m 51 ls []) from HL_51 _ mb 0 mk mb _ _ hP hD hS _ (lv_sub hl [0, 1] rfl) (by first | assumption | rfl | omega) (by first | assumption | rfl | omega) (by exact (zcpy_0 _ _ _ _).symm) (by unfold S_sv S_svC; first | (rw [if_neg c_6, if_neg c_6]; exact ⟨rfl, rfl⟩) | (rw [if_pos c_6, if_pos c_6, hb1, show i = 245 by omega]; exact ⟨by rw [show 49 * (mk - 1) = 245 by omega], by omega⟩)) (Nat.lt_succ_self _)
    intro n_51
    induction n_51 with
    | zero => intro b3 i K9 b0 H locs hP hD hS ls hl hi hK9 hb3 hfin hm; exact absurd hm (Nat.not_lt_zero _)
    | succ n_51 ih_51 =>
      intro b3 i K9 b0 H locs hP hD hS ls hl hi hK9 hb3 hfin hm
      refine lv_iload_n hx hb dX10_save_51 rfl (lv_at hl 0 rfl) ?_
      refine lv_bipush (v := zI 49) hx hb dX10_save_52 (zI_b8 (by decide)) ?_
      refine z_icge (tgt := 83) hx hb ⟨by omega, by omega⟩ ⟨by omega, by omega⟩ dX10_save_54 (by decide) (fun c_54 => ?_) (fun c_54 => ?_)
      · refine lv_aload_n hx hb dX10_save_83 rfl (lv_at hl 1 rfl) ?_
        refine lv_dup hx hb dX10_save_84 rfl ?_
        refine va_get (D := D) (ci := 10) (v := .int (zI K9)) (C := RX10) (T := TX10) (N := 17) hx hb hts (fun w h => List.mem_cons_of_mem _ (wx_X10 w h)) hown hK hP 0 rfl rfl 2 (by decide) (hW0 _ wf_X10_52) (fun _ h9 => h9) rfl dX10_save_85 ?_
        refine lv_iconst (v := zI 1) hx hb dX10_save_88 rfl ?_
        refine z_iadd hx hb dX10_save_89 ?_
        refine va_put (D := D) (ci := 10) (v := .int (zI (K9 + 1))) (ty := .int) (C := RX10) (T := TX10) (N := 17) hx hb hts (fun w h => List.mem_cons_of_mem _ (wx_X10 w h)) tyX10 tyX10_ok nmX10 hown hK hP hD hS 0 rfl rfl 2 (by decide) (hW0 _ wf_X10_52) (fun _ h9 => h9) rfl (by decide +kernel) rfl rfl (Nat.le_of_ble_eq_true rfl) dX10_save_90 (fun H locs hP hD hS => ?_)
        have hP : va_P D vwCl (wM β δ ms b3 mo mp mf mn mi mc mq mr mw (K9 + 1) ml mt ma mx mh) H := hP
        have hD : va_D A (wM β δ ms b3 mo mp mf mn mi mc mq mr mw (K9 + 1) ml mt ma mx mh) := hD
        exact z_vret hC hr hlk hQ hP hD hS ⟨b3, K9 + 1, (by rw [hfin.1, hb3, show i = 49 by omega]), (by rw [hfin.2]), rfl⟩ dX10_save_93
      · refine lv_aload_n hx hb dX10_save_57 rfl (lv_at hl 1 rfl) ?_
        refine va_get (D := D) (ci := 10) (v := .ref (β 2)) (C := RX10) (T := TX10) (N := 17) hx hb hts (fun w h => List.mem_cons_of_mem _ (wx_X10 w h)) hown hK hP 0 rfl rfl 1 (by decide) (hW0 _ wf_X10_13) (fun _ h9 => h9) rfl dX10_save_58 ?_
        refine lv_bipush (v := zI 49) hx hb dX10_save_61 (zI_b8 (by decide)) ?_
        refine lv_aload_n hx hb dX10_save_63 rfl (lv_at hl 1 rfl) ?_
        refine va_get (D := D) (ci := 10) (v := .int (zI K9)) (C := RX10) (T := TX10) (N := 17) hx hb hts (fun w h => List.mem_cons_of_mem _ (wx_X10 w h)) hown hK hP 0 rfl rfl 2 (by decide) (hW0 _ wf_X10_52) (fun _ h9 => h9) rfl dX10_save_64 ?_
        refine z_imul hx hb dX10_save_67 ?_
        refine lv_iload_n hx hb dX10_save_68 rfl (lv_at hl 0 rfl) ?_
        refine z_iadd hx hb dX10_save_69 ?_
        refine lv_aload_n hx hb dX10_save_70 rfl (lv_at hl 1 rfl) ?_
        refine va_get (D := D) (ci := 10) (v := .ref (β 1)) (C := RX10) (T := TX10) (N := 17) hx hb hts (fun w h => List.mem_cons_of_mem _ (wx_X10 w h)) hown hK hP 0 rfl rfl 0 (by decide) (hW0 _ wf_X10_7) (fun _ h9 => h9) rfl dX10_save_71 ?_
        refine lv_iload_n hx hb dX10_save_74 rfl (lv_at hl 0 rfl) ?_
        refine z_iald (f := ms) hx hb hK hP 1 0 rfl rfl ⟨⟨by omega, by omega⟩, by decide⟩ dX10_save_75 ?_
        refine z_iast (f := b3) (v := ms i) hx hb hK hP hD hS 2 1 rfl rfl ⟨⟨by omega, by omega⟩, by decide⟩ dX10_save_76 (fun H locs hP hD hS => ?_)
        have hP : va_P D vwCl (wM β δ ms ((zu b3 ((49 * K9) + i) (ms i))) mo mp mf mn mi mc mq mr mw K9 ml mt ma mx mh) H := hP
        have hD : va_D A (wM β δ ms ((zu b3 ((49 * K9) + i) (ms i))) mo mp mf mn mi mc mq mr mw K9 ml mt ma mx mh) := hD
        refine z_iinc (k := 0) (v := i + 1) (lv' := [(1, .int (zI (i + 1))), (0, .ref (β 0))]) hx hb dX10_save_77 hl rfl rfl (by decide) rfl (fun ls hl => ?_)
        refine lv_goto (tgt := 51) hx hb dX10_save_80 (by decide) ?_
        exact ih_51 (zu b3 ((49 * K9) + i) (ms i)) (i + 1) K9 b0 _ _ hP hD hS _ (lv_sub hl [0, 1] rfl) (by first | assumption | rfl | omega) (by first | assumption | rfl | omega) (by rw [hb3]; exact zcpy_up hi.1 rfl (by rw [Int.zero_add])) (by exact hfin) (by omega)
  · refine lv_iconst (v := zI 0) hx hb dX10_save_9 rfl ?_
    refine lv_istore_n (lv' := [(1, .int (zI 0)), (0, .ref (β 0))]) hx hb dX10_save_10 rfl hl (by decide) rfl (fun ls hl => ?_)
    suffices HL_11 : ∀ (n_11 : Nat), ∀ (b1 : IA) (i : Int) (H : Heap) (locs : List Loc) (hP : va_P D vwCl (wM β δ ms b1 mo mp mf mn mi mc mq mr mw mk ml mt ma mx mh) H) (hD : va_D A (wM β δ ms b1 mo mp mf mn mi mc mq mr mw mk ml mt ma mx mh)) (hS : va_S A s.heap H locs) (ls : Array Slot) (hl : lv_has ls 2 [(1, .int (zI i)), (0, .ref (β 0))]) (hi : 0 ≤ i ∧ i ≤ 245) (hb1 : b1 = zcpy mb mb 49 0 i) (hm : (245 - i).toNat < n_11), W pg l e rm_X10_save s m args below meth c H locs 0 0 Q (F0 m 11 ls []) from HL_11 _ mb 0 _ _ hP hD hS _ (lv_sub hl [0, 1] rfl) (by first | assumption | rfl | omega) (by exact (zcpy_0 _ _ _ _).symm) (Nat.lt_succ_self _)
    intro n_11
    induction n_11 with
    | zero => intro b1 i H locs hP hD hS ls hl hi hb1 hm; exact absurd hm (Nat.not_lt_zero _)
    | succ n_11 ih_11 =>
      intro b1 i H locs hP hD hS ls hl hi hb1 hm
      refine lv_iload_n hx hb dX10_save_11 rfl (lv_at hl 0 rfl) ?_
      refine lv_sipush (v := zI 245) hx hb dX10_save_12 (zI_b16 (by decide)) ?_
      refine z_icge (tgt := 39) hx hb ⟨by omega, by omega⟩ ⟨by omega, by omega⟩ dX10_save_15 (by decide) (fun c_15 => ?_) (fun c_15 => ?_)
      · refine lv_aload_n hx hb dX10_save_39 rfl (lv_at hl 1 rfl) ?_
        refine lv_dup hx hb dX10_save_40 rfl ?_
        refine va_get (D := D) (ci := 10) (v := .int (zI mk)) (C := RX10) (T := TX10) (N := 17) hx hb hts (fun w h => List.mem_cons_of_mem _ (wx_X10 w h)) hown hK hP 0 rfl rfl 2 (by decide) (hW0 _ wf_X10_52) (fun _ h9 => h9) rfl dX10_save_41 ?_
        refine lv_iconst (v := zI 1) hx hb dX10_save_44 rfl ?_
        refine z_isub hx hb dX10_save_45 ?_
        refine va_put (D := D) (ci := 10) (v := .int (zI (mk - 1))) (ty := .int) (C := RX10) (T := TX10) (N := 17) hx hb hts (fun w h => List.mem_cons_of_mem _ (wx_X10 w h)) tyX10 tyX10_ok nmX10 hown hK hP hD hS 0 rfl rfl 2 (by decide) (hW0 _ wf_X10_52) (fun _ h9 => h9) rfl (by decide +kernel) rfl rfl (Nat.le_of_ble_eq_true rfl) dX10_save_46 (fun H locs hP hD hS => ?_)
        have hP : va_P D vwCl (wM β δ ms b1 mo mp mf mn mi mc mq mr mw (mk - 1) ml mt ma mx mh) H := hP
        have hD : va_D A (wM β δ ms b1 mo mp mf mn mi mc mq mr mw (mk - 1) ml mt ma mx mh) := hD
        refine lv_iconst (v := zI 0) hx hb dX10_save_49 rfl ?_
        refine lv_istore_n (lv' := [(1, .int (zI 0)), (0, .ref (β 0))]) hx hb dX10_save_50 rfl hl (by decide) rfl (fun ls hl => ?_)
        suffices HL_51 : ∀ (n_51 : Nat), ∀ (b3 : IA) (i : Int) (K9 : Int) (b0 : IA) (H : Heap) (locs : List Loc) (hP : va_P D vwCl (wM β δ ms b3 mo mp mf mn mi mc mq mr mw K9 ml mt ma mx mh) H) (hD : va_D A (wM β δ ms b3 mo mp mf mn mi mc mq mr mw K9 ml mt ma mx mh)) (hS : va_S A s.heap H locs) (ls : Array Slot) (hl : lv_has ls 2 [(1, .int (zI i)), (0, .ref (β 0))]) (hi : 0 ≤ i ∧ i ≤ 49) (hK9 : 0 ≤ K9 ∧ K9 ≤ 5) (hb3 : b3 = zcpy ms b0 0 (49 * K9) i) (hfin : S_sv mb ms mk = zcpy ms b0 0 (49 * K9) 49 ∧ S_svC mk = K9 + 1) (hm : (49 - i).toNat < n_51), W pg l e rm_X10_save s m args below meth c H locs 0 0 Q (F0 m 51 ls []) from HL_51 _ b1 0 (mk - 1) b1 _ _ hP hD hS _ (lv_sub hl [0, 1] rfl) (by first | assumption | rfl | omega) (by first | assumption | rfl | omega) (by exact (zcpy_0 _ _ _ _).symm) (by unfold S_sv S_svC; first | (rw [if_neg c_6, if_neg c_6]; exact ⟨rfl, rfl⟩) | (rw [if_pos c_6, if_pos c_6, hb1, show i = 245 by omega]; exact ⟨by rw [show 49 * (mk - 1) = 245 by omega], by omega⟩)) (Nat.lt_succ_self _)
        intro n_51
        induction n_51 with
        | zero => intro b3 i K9 b0 H locs hP hD hS ls hl hi hK9 hb3 hfin hm; exact absurd hm (Nat.not_lt_zero _)
        | succ n_51 ih_51 =>
          intro b3 i K9 b0 H locs hP hD hS ls hl hi hK9 hb3 hfin hm
          refine lv_iload_n hx hb dX10_save_51 rfl (lv_at hl 0 rfl) ?_
          refine lv_bipush (v := zI 49) hx hb dX10_save_52 (zI_b8 (by decide)) ?_
          refine z_icge (tgt := 83) hx hb ⟨by omega, by omega⟩ ⟨by omega, by omega⟩ dX10_save_54 (by decide) (fun c_54 => ?_) (fun c_54 => ?_)
          · refine lv_aload_n hx hb dX10_save_83 rfl (lv_at hl 1 rfl) ?_
            refine lv_dup hx hb dX10_save_84 rfl ?_
            refine va_get (D := D) (ci := 10) (v := .int (zI K9)) (C := RX10) (T := TX10) (N := 17) hx hb hts (fun w h => List.mem_cons_of_mem _ (wx_X10 w h)) hown hK hP 0 rfl rfl 2 (by decide) (hW0 _ wf_X10_52) (fun _ h9 => h9) rfl dX10_save_85 ?_
            refine lv_iconst (v := zI 1) hx hb dX10_save_88 rfl ?_
            refine z_iadd hx hb dX10_save_89 ?_
            refine va_put (D := D) (ci := 10) (v := .int (zI (K9 + 1))) (ty := .int) (C := RX10) (T := TX10) (N := 17) hx hb hts (fun w h => List.mem_cons_of_mem _ (wx_X10 w h)) tyX10 tyX10_ok nmX10 hown hK hP hD hS 0 rfl rfl 2 (by decide) (hW0 _ wf_X10_52) (fun _ h9 => h9) rfl (by decide +kernel) rfl rfl (Nat.le_of_ble_eq_true rfl) dX10_save_90 (fun H locs hP hD hS => ?_)
            have hP : va_P D vwCl (wM β δ ms b3 mo mp mf mn mi mc mq mr mw (K9 + 1) ml mt ma mx mh) H := hP
            have hD : va_D A (wM β δ ms b3 mo mp mf mn mi mc mq mr mw (K9 + 1) ml mt ma mx mh) := hD
            exact z_vret hC hr hlk hQ hP hD hS ⟨b3, K9 + 1, (by rw [hfin.1, hb3, show i = 49 by omega]), (by rw [hfin.2]), rfl⟩ dX10_save_93
          · refine lv_aload_n hx hb dX10_save_57 rfl (lv_at hl 1 rfl) ?_
            refine va_get (D := D) (ci := 10) (v := .ref (β 2)) (C := RX10) (T := TX10) (N := 17) hx hb hts (fun w h => List.mem_cons_of_mem _ (wx_X10 w h)) hown hK hP 0 rfl rfl 1 (by decide) (hW0 _ wf_X10_13) (fun _ h9 => h9) rfl dX10_save_58 ?_
            refine lv_bipush (v := zI 49) hx hb dX10_save_61 (zI_b8 (by decide)) ?_
            refine lv_aload_n hx hb dX10_save_63 rfl (lv_at hl 1 rfl) ?_
            refine va_get (D := D) (ci := 10) (v := .int (zI K9)) (C := RX10) (T := TX10) (N := 17) hx hb hts (fun w h => List.mem_cons_of_mem _ (wx_X10 w h)) hown hK hP 0 rfl rfl 2 (by decide) (hW0 _ wf_X10_52) (fun _ h9 => h9) rfl dX10_save_64 ?_
            refine z_imul hx hb dX10_save_67 ?_
            refine lv_iload_n hx hb dX10_save_68 rfl (lv_at hl 0 rfl) ?_
            refine z_iadd hx hb dX10_save_69 ?_
            refine lv_aload_n hx hb dX10_save_70 rfl (lv_at hl 1 rfl) ?_
            refine va_get (D := D) (ci := 10) (v := .ref (β 1)) (C := RX10) (T := TX10) (N := 17) hx hb hts (fun w h => List.mem_cons_of_mem _ (wx_X10 w h)) hown hK hP 0 rfl rfl 0 (by decide) (hW0 _ wf_X10_7) (fun _ h9 => h9) rfl dX10_save_71 ?_
            refine lv_iload_n hx hb dX10_save_74 rfl (lv_at hl 0 rfl) ?_
            refine z_iald (f := ms) hx hb hK hP 1 0 rfl rfl ⟨⟨by omega, by omega⟩, by decide⟩ dX10_save_75 ?_
            refine z_iast (f := b3) (v := ms i) hx hb hK hP hD hS 2 1 rfl rfl ⟨⟨by omega, by omega⟩, by decide⟩ dX10_save_76 (fun H locs hP hD hS => ?_)
            have hP : va_P D vwCl (wM β δ ms ((zu b3 ((49 * K9) + i) (ms i))) mo mp mf mn mi mc mq mr mw K9 ml mt ma mx mh) H := hP
            have hD : va_D A (wM β δ ms ((zu b3 ((49 * K9) + i) (ms i))) mo mp mf mn mi mc mq mr mw K9 ml mt ma mx mh) := hD
            refine z_iinc (k := 0) (v := i + 1) (lv' := [(1, .int (zI (i + 1))), (0, .ref (β 0))]) hx hb dX10_save_77 hl rfl rfl (by decide) rfl (fun ls hl => ?_)
            refine lv_goto (tgt := 51) hx hb dX10_save_80 (by decide) ?_
            exact ih_51 (zu b3 ((49 * K9) + i) (ms i)) (i + 1) K9 b0 _ _ hP hD hS _ (lv_sub hl [0, 1] rfl) (by first | assumption | rfl | omega) (by first | assumption | rfl | omega) (by rw [hb3]; exact zcpy_up hi.1 rfl (by rw [Int.zero_add])) (by exact hfin) (by omega)
      · refine lv_aload_n hx hb dX10_save_18 rfl (lv_at hl 1 rfl) ?_
        refine va_get (D := D) (ci := 10) (v := .ref (β 2)) (C := RX10) (T := TX10) (N := 17) hx hb hts (fun w h => List.mem_cons_of_mem _ (wx_X10 w h)) hown hK hP 0 rfl rfl 1 (by decide) (hW0 _ wf_X10_13) (fun _ h9 => h9) rfl dX10_save_19 ?_
        refine lv_iload_n hx hb dX10_save_22 rfl (lv_at hl 0 rfl) ?_
        refine lv_aload_n hx hb dX10_save_23 rfl (lv_at hl 1 rfl) ?_
        refine va_get (D := D) (ci := 10) (v := .ref (β 2)) (C := RX10) (T := TX10) (N := 17) hx hb hts (fun w h => List.mem_cons_of_mem _ (wx_X10 w h)) hown hK hP 0 rfl rfl 1 (by decide) (hW0 _ wf_X10_13) (fun _ h9 => h9) rfl dX10_save_24 ?_
        refine lv_bipush (v := zI 49) hx hb dX10_save_27 (zI_b8 (by decide)) ?_
        refine lv_iload_n hx hb dX10_save_29 rfl (lv_at hl 0 rfl) ?_
        refine z_iadd hx hb dX10_save_30 ?_
        refine z_iald (f := b1) hx hb hK hP 2 1 rfl rfl ⟨⟨by omega, by omega⟩, by decide⟩ dX10_save_31 ?_
        refine z_iast (f := b1) (v := b1 (49 + i)) hx hb hK hP hD hS 2 1 rfl rfl ⟨⟨by omega, by omega⟩, by decide⟩ dX10_save_32 (fun H locs hP hD hS => ?_)
        have hP : va_P D vwCl (wM β δ ms ((zu b1 i (b1 (49 + i)))) mo mp mf mn mi mc mq mr mw mk ml mt ma mx mh) H := hP
        have hD : va_D A (wM β δ ms ((zu b1 i (b1 (49 + i)))) mo mp mf mn mi mc mq mr mw mk ml mt ma mx mh) := hD
        refine z_iinc (k := 0) (v := i + 1) (lv' := [(1, .int (zI (i + 1))), (0, .ref (β 0))]) hx hb dX10_save_33 hl rfl rfl (by decide) rfl (fun ls hl => ?_)
        refine lv_goto (tgt := 11) hx hb dX10_save_36 (by decide) ?_
        exact ih_11 (zu b1 i (b1 (49 + i))) (i + 1) _ _ hP hD hS _ (lv_sub hl [0, 1] rfl) (by first | assumption | rfl | omega) (by rw [hb1]; exact zcpy_up hi.1 (by omega) (by unfold zcpy; rw [if_neg (by omega)])) (by omega)

abbrev wz_X10_takes : List Cond := .code yX10_takes cX10_takes 4 (some .int) :: W0
abbrev rm_X10_takes : Room := { frames := 1, cells := 0, slots := 0, locals := 20 }
theorem hd_X10_takes : yX10_takes.cls = RX10 ∧ yX10_takes.cls ≠ "java/lang/invoke/MethodHandle" ∧ yX10_takes.cls ≠ "java/lang/invoke/VarHandle" ∧ (parseMethodDescriptor yX10_takes.desc).map (fun d => d.parameters.length) = some 0 := by decide +kernel
set_option maxHeartbeats 4000000 in
set_option maxRecDepth 100000 in
theorem c_X10_takes (l : Launch) (D : va_G) (τ : Nat → Nat) (β : Nat → Nat) (δ : Nat → ClassId) (ms : IA) (mb : IA) (mo : IA) (mp : BA) (mf : IA) (mn : IA) (mi : IA) (mc : IA) (mq : BA) (mr : IA) (mw : IA) (mk : Int) (ml : Int) (mt : Int) (ma : Int) (mx : Bool) (mh : Int64) (hms : ∀ k, 0 ≤ k → k < 49 → 0 ≤ ms k ∧ ms k ≤ 99) (hmn : ∀ k, 0 ≤ k → k < 49 → -100000 ≤ mn k ∧ mn k ≤ 100000) : cM l yX10_takes wz_X10_takes rm_X10_takes D τ (tyM δ) [.ref (β 0)] (wM β δ ms mb mo mp mf mn mi mc mq mr mw mk ml mt ma mx mh) (zQi (fun r w => ∃ (s2 : IA), ∃ (v : Int), (s2 = zmix 49 (fun k => clip (mn k)) ms) ∧ (v = S_diff s2 ms) ∧ (0 ≤ v ∧ v ≤ 49) ∧ r = zI v ∧ wM β δ s2 mb mo mp mf mn mi mc mq mr mw mk ml mt ma mx mh = w)) := by
  refine z_ofM (cc := cX10_takes) (maxL := 4) (ret := (some .int)) (by decide +kernel) rfl (Nat.le_of_ble_eq_true rfl) ?_
  intro pg e s m args below meth c hC hr hlk hnm hK hP A hD hG hA hS ls hl Q hQ
  have hx := hC.1
  have hb := hC.2.1
  have hml := hC.2.2.1
  have hown := hC.2.2.2.1
  have hts := hC.2.2.2.2
  have hB : ∀ w ∈ W0, w ∈ wz_X10_takes := fun _ h => List.mem_cons_of_mem _ h
  have hW0 : ∀ w ∈ W0, w.before args s = true := fun w h => hts w (hB w h)
  have hl : lv_has ls 4 [(0, .ref (β 0))] := hl
  refine lv_iconst (v := zI 0) hx hb dX10_takes_0 rfl ?_
  refine lv_istore_n (lv' := [(1, .int (zI 0)), (0, .ref (β 0))]) hx hb dX10_takes_1 rfl hl (by decide) rfl (fun ls hl => ?_)
  refine lv_iconst (v := zI 0) hx hb dX10_takes_2 rfl ?_
  refine lv_istore_n (lv' := [(2, .int (zI 0)), (1, .int (zI 0)), (0, .ref (β 0))]) hx hb dX10_takes_3 rfl hl (by decide) rfl (fun ls hl => ?_)
  suffices HL_4 : ∀ (n_4 : Nat), ∀ (s1 : IA) (g : Int) (i : Int) (H : Heap) (locs : List Loc) (hP : va_P D vwCl (wM β δ s1 mb mo mp mf mn mi mc mq mr mw mk ml mt ma mx mh) H) (hD : va_D A (wM β δ s1 mb mo mp mf mn mi mc mq mr mw mk ml mt ma mx mh)) (hS : va_S A s.heap H locs) (ls : Array Slot) (hl : lv_has ls 4 [(1, .int (zI g)), (2, .int (zI i)), (0, .ref (β 0))]) (hi : 0 ≤ i ∧ i ≤ 49) (hs1 : s1 = zmix i (fun k => clip (mn k)) ms) (hg : g = zC (fun k => !decide (clip (mn k) = ms k)) i) (hgb : 0 ≤ g ∧ g ≤ i) (hm : (49 - i).toNat < n_4), W pg l e rm_X10_takes s m args below meth c H locs 0 0 Q (F0 m 4 ls []) from HL_4 _ ms 0 0 _ _ hP hD hS _ (lv_sub hl [1, 0, 2] rfl) (by first | assumption | rfl | omega) (by exact (zmix_0 _ _).symm) (by exact (zC_0 _).symm) (by first | assumption | rfl | omega) (Nat.lt_succ_self _)
  intro n_4
  induction n_4 with
  | zero => intro s1 g i H locs hP hD hS ls hl hi hs1 hg hgb hm; exact absurd hm (Nat.not_lt_zero _)
  | succ n_4 ih_4 =>
    intro s1 g i H locs hP hD hS ls hl hi hs1 hg hgb hm
    refine lv_iload_n hx hb dX10_takes_4 rfl (lv_at hl 1 rfl) ?_
    refine lv_bipush (v := zI 49) hx hb dX10_takes_5 (zI_b8 (by decide)) ?_
    refine z_icge (tgt := 51) hx hb ⟨by omega, by omega⟩ ⟨by omega, by omega⟩ dX10_takes_7 (by decide) (fun c_7 => ?_) (fun c_7 => ?_)
    · refine lv_iload_n hx hb dX10_takes_51 rfl (lv_at hl 0 rfl) ?_
      exact z_iret hC hr hlk hQ hP hD hS ⟨s1, g, (by rw [hs1, show i = 49 by omega]), (by rw [hg, hs1, show i = 49 by omega]; unfold S_diff; exact zC_congr (by omega) (fun k a b => by show (!decide (clip (mn k) = ms k)) = !decide (zmix 49 (fun k => clip (mn k)) ms k = ms k); rw [zmix_at ⟨a, b⟩])), (by first | assumption | rfl | omega), rfl, rfl⟩ dX10_takes_52
    · refine lv_aload_n hx hb dX10_takes_10 rfl (lv_at hl 2 rfl) ?_
      refine va_get (D := D) (ci := 10) (v := .ref (β 6)) (C := RX10) (T := TX10) (N := 17) hx hb hts (fun w h => List.mem_cons_of_mem _ (wx_X10 w h)) hown hK hP 0 rfl rfl 8 (by decide) (hW0 _ wf_X10_26) (fun _ h9 => h9) rfl dX10_takes_11 ?_
      refine lv_iload_n hx hb dX10_takes_14 rfl (lv_at hl 1 rfl) ?_
      refine z_iald (f := mn) hx hb hK hP 6 5 rfl rfl ⟨⟨by omega, by omega⟩, by decide⟩ dX10_takes_15 ?_
      have hb_15 := hmn i (by omega) (by omega)
      refine z_calli hP hD hS hA (va_runS (As := [.int (zI (mn i))]) (rest := []) hC (c_X10_height l D τ _ _ (mn i) (by first | assumption | rfl | omega) _) (va_cwS 1 hts (gS hB wl_X10_59 wt_X10_height wi_X10 wc_X10_height) rfl rfl rfl hd_X10_height.2 ⟨Nat.le_of_ble_eq_true rfl, Nat.le_of_ble_eq_true rfl⟩) (zp_S hK hP hD hS hA hG) rfl rfl hl.1 rfl (lv_room (Nat.le_of_ble_eq_true rfl)) dX10_takes_16 ⟨Nat.le_of_ble_eq_true rfl, Nat.le_of_ble_eq_true rfl⟩) (fun r w1 H locs hq9 hP hD hS => ?_)
      obtain ⟨v16_1, hv16_0, hv16_1, rfl, rfl⟩ := hq9
      refine lv_istore_n (lv' := [(3, .int (zI v16_1)), (1, .int (zI g)), (2, .int (zI i)), (0, .ref (β 0))]) hx hb dX10_takes_19 rfl hl (by decide) rfl (fun ls hl => ?_)
      refine lv_iload_n hx hb dX10_takes_20 rfl (lv_at hl 1 rfl) ?_
      have e26 : s1 i = ms i := by rw [hs1]; exact zmix_ge (Int.le_refl _)
      have hb26 := hms i (by omega) (by omega)
      refine lv_aload_n hx hb dX10_takes_21 rfl (lv_at hl 3 rfl) ?_
      refine va_get (D := D) (ci := 10) (v := .ref (β 1)) (C := RX10) (T := TX10) (N := 17) hx hb hts (fun w h => List.mem_cons_of_mem _ (wx_X10 w h)) hown hK hP 0 rfl rfl 0 (by decide) (hW0 _ wf_X10_7) (fun _ h9 => h9) rfl dX10_takes_22 ?_
      refine lv_iload_n hx hb dX10_takes_25 rfl (lv_at hl 2 rfl) ?_
      refine z_iald (f := s1) hx hb hK hP 1 0 rfl rfl ⟨⟨by omega, by omega⟩, by decide⟩ dX10_takes_26 ?_
      refine lv_iload_n hx hb dX10_takes_27 rfl (lv_at hl 0 rfl) ?_
      refine z_icne (tgt := 35) hx hb ⟨by omega, by omega⟩ ⟨by omega, by omega⟩ dX10_takes_28 (by decide) (fun c_28 => ?_) (fun c_28 => ?_)
      · refine lv_iconst (v := zI 1) hx hb dX10_takes_35 rfl ?_
        refine z_iadd hx hb dX10_takes_36 ?_
        refine lv_istore_n (lv' := [(1, .int (zI (g + 1))), (3, .int (zI v16_1)), (2, .int (zI i)), (0, .ref (β 0))]) hx hb dX10_takes_37 rfl hl (by decide) rfl (fun ls hl => ?_)
        refine lv_aload_n hx hb dX10_takes_38 rfl (lv_at hl 3 rfl) ?_
        refine va_get (D := D) (ci := 10) (v := .ref (β 1)) (C := RX10) (T := TX10) (N := 17) hx hb hts (fun w h => List.mem_cons_of_mem _ (wx_X10 w h)) hown hK hP 0 rfl rfl 0 (by decide) (hW0 _ wf_X10_7) (fun _ h9 => h9) rfl dX10_takes_39 ?_
        refine lv_iload_n hx hb dX10_takes_42 rfl (lv_at hl 2 rfl) ?_
        refine lv_iload_n hx hb dX10_takes_43 rfl (lv_at hl 1 rfl) ?_
        refine z_iast (f := s1) (v := v16_1) hx hb hK hP hD hS 1 0 rfl rfl ⟨⟨by omega, by omega⟩, by decide⟩ dX10_takes_44 (fun H locs hP hD hS => ?_)
        have hP : va_P D vwCl (wM β δ (zu s1 i v16_1) mb mo mp mf mn mi mc mq mr mw mk ml mt ma mx mh) H := hP
        have hD : va_D A (wM β δ (zu s1 i v16_1) mb mo mp mf mn mi mc mq mr mw mk ml mt ma mx mh) := hD
        refine z_iinc (k := 2) (v := i + 1) (lv' := [(2, .int (zI (i + 1))), (1, .int (zI (g + 1))), (3, .int (zI v16_1)), (0, .ref (β 0))]) hx hb dX10_takes_45 hl rfl rfl (by decide) rfl (fun ls hl => ?_)
        refine lv_goto (tgt := 4) hx hb dX10_takes_48 (by decide) ?_
        exact ih_4 (zu s1 i v16_1) (g + 1) (i + 1) _ _ hP hD hS _ (lv_sub hl [1, 0, 3] rfl) (by first | assumption | rfl | omega) (by rw [hs1]; exact zmix_up hi.1 hv16_0) (by rw [zC_up hi.1, ← hg]; first | (rw [z1_f (show (!decide (clip (mn i) = ms i)) = false by (rw [decide_eq_true (hv16_0.symm.trans (c_28.symm.trans e26))]; rfl))]; try omega) | (rw [z1_t (show (!decide (clip (mn i) = ms i)) = true by (rw [decide_eq_false (fun h9 => c_28 (e26.trans (h9.symm.trans hv16_0.symm)))]; rfl))]; done)) (by first | assumption | rfl | omega) (by omega)
      · refine lv_iconst (v := zI 0) hx hb dX10_takes_31 rfl ?_
        refine lv_goto (tgt := 36) hx hb dX10_takes_32 (by decide) ?_
        refine z_iadd hx hb dX10_takes_36 ?_
        refine lv_istore_n (lv' := [(1, .int (zI (g + 0))), (3, .int (zI v16_1)), (2, .int (zI i)), (0, .ref (β 0))]) hx hb dX10_takes_37 rfl hl (by decide) rfl (fun ls hl => ?_)
        refine lv_aload_n hx hb dX10_takes_38 rfl (lv_at hl 3 rfl) ?_
        refine va_get (D := D) (ci := 10) (v := .ref (β 1)) (C := RX10) (T := TX10) (N := 17) hx hb hts (fun w h => List.mem_cons_of_mem _ (wx_X10 w h)) hown hK hP 0 rfl rfl 0 (by decide) (hW0 _ wf_X10_7) (fun _ h9 => h9) rfl dX10_takes_39 ?_
        refine lv_iload_n hx hb dX10_takes_42 rfl (lv_at hl 2 rfl) ?_
        refine lv_iload_n hx hb dX10_takes_43 rfl (lv_at hl 1 rfl) ?_
        refine z_iast (f := s1) (v := v16_1) hx hb hK hP hD hS 1 0 rfl rfl ⟨⟨by omega, by omega⟩, by decide⟩ dX10_takes_44 (fun H locs hP hD hS => ?_)
        have hP : va_P D vwCl (wM β δ (zu s1 i v16_1) mb mo mp mf mn mi mc mq mr mw mk ml mt ma mx mh) H := hP
        have hD : va_D A (wM β δ (zu s1 i v16_1) mb mo mp mf mn mi mc mq mr mw mk ml mt ma mx mh) := hD
        refine z_iinc (k := 2) (v := i + 1) (lv' := [(2, .int (zI (i + 1))), (1, .int (zI (g + 0))), (3, .int (zI v16_1)), (0, .ref (β 0))]) hx hb dX10_takes_45 hl rfl rfl (by decide) rfl (fun ls hl => ?_)
        refine lv_goto (tgt := 4) hx hb dX10_takes_48 (by decide) ?_
        exact ih_4 (zu s1 i v16_1) (g + 0) (i + 1) _ _ hP hD hS _ (lv_sub hl [1, 0, 3] rfl) (by first | assumption | rfl | omega) (by rw [hs1]; exact zmix_up hi.1 hv16_0) (by rw [zC_up hi.1, ← hg]; first | (rw [z1_f (show (!decide (clip (mn i) = ms i)) = false by (rw [decide_eq_true (hv16_0.symm.trans (c_28.symm.trans e26))]; rfl))]; try omega) | (rw [z1_t (show (!decide (clip (mn i) = ms i)) = true by (rw [decide_eq_false (fun h9 => c_28 (e26.trans (h9.symm.trans hv16_0.symm)))]; rfl))]; done)) (by first | assumption | rfl | omega) (by omega)

abbrev wz_X10_heaps : List Cond := .code yX10_heaps cX10_heaps 8 (some .int) :: W0
abbrev rm_X10_heaps : Room := { frames := 2, cells := 0, slots := 0, locals := 43 }
theorem hd_X10_heaps : yX10_heaps.cls = RX10 ∧ yX10_heaps.cls ≠ "java/lang/invoke/MethodHandle" ∧ yX10_heaps.cls ≠ "java/lang/invoke/VarHandle" ∧ (parseMethodDescriptor yX10_heaps.desc).map (fun d => d.parameters.length) = some 3 := by decide +kernel
set_option maxHeartbeats 4000000 in
set_option maxRecDepth 100000 in
theorem c_X10_heaps (l : Launch) (D : va_G) (τ : Nat → Nat) (β : Nat → Nat) (δ : Nat → ClassId) (ms : IA) (mb : IA) (mo : IA) (mp : BA) (mf : IA) (mn : IA) (mi : IA) (mc : IA) (mq : BA) (mr : IA) (mw : IA) (mk : Int) (ml : Int) (mt : Int) (ma : Int) (mx : Bool) (mh : Int64) (r9 : Int) (c9 : Int) (a : Int) (hr9 : 0 ≤ r9 ∧ r9 ≤ 6) (hc9 : 0 ≤ c9 ∧ c9 ≤ 6) (ham : -60 ≤ a ∧ a ≤ 60) (hms : ∀ k, 0 ≤ k → k < 49 → 0 ≤ ms k ∧ ms k ≤ 99) : cM l yX10_heaps wz_X10_heaps rm_X10_heaps D τ (tyM δ) [.ref (β 0), .int (zI r9), .int (zI c9), .int (zI a)] (wM β δ ms mb mo mp mf mn mi mc mq mr mw mk ml mt ma mx mh) (zQi (fun r w => ∃ (s2 : IA), ∃ (n2 : IA), ∃ (v : Int), (s2 = S_heap ms (7 * r9 + c9) a) ∧ (v = S_diff (S_heap ms (7 * r9 + c9) a) ms) ∧ (0 ≤ v ∧ v ≤ 49) ∧ r = zI v ∧ wM β δ s2 mb mo mp mf n2 mi mc mq mr mw mk ml mt ma mx mh = w)) := by
  refine z_ofM (cc := cX10_heaps) (maxL := 8) (ret := (some .int)) (by decide +kernel) rfl (Nat.le_of_ble_eq_true rfl) ?_
  intro pg e s m args below meth c hC hr hlk hnm hK hP A hD hG hA hS ls hl Q hQ
  have hx := hC.1
  have hb := hC.2.1
  have hml := hC.2.2.1
  have hown := hC.2.2.2.1
  have hts := hC.2.2.2.2
  have hB : ∀ w ∈ W0, w ∈ wz_X10_heaps := fun _ h => List.mem_cons_of_mem _ h
  have hW0 : ∀ w ∈ W0, w.before args s = true := fun w h => hts w (hB w h)
  have hl : lv_has ls 8 [(0, .ref (β 0)), (1, .int (zI r9)), (2, .int (zI c9)), (3, .int (zI a))] := hl
  have hza := zabs_spec a
  refine lv_iload_n hx hb dX10_heaps_0 rfl (lv_at hl 3 rfl) ?_
  refine z_calli hP hD hS hA (va_runS (As := [.int (zI a)]) (rest := []) hC (c_X10_size l D τ _ _ a (by first | assumption | rfl | omega) _) (va_cwS 1 hts (gS hB wl_X10_63 wt_X10_size wi_X10 wc_X10_size) rfl rfl rfl hd_X10_size.2 ⟨Nat.le_of_ble_eq_true rfl, Nat.le_of_ble_eq_true rfl⟩) (zp_S hK hP hD hS hA hG) rfl rfl hl.1 rfl (lv_room (Nat.le_of_ble_eq_true rfl)) dX10_heaps_1 ⟨Nat.le_of_ble_eq_true rfl, Nat.le_of_ble_eq_true rfl⟩) (fun r w1 H locs hq9 hP hD hS => ?_)
  obtain ⟨v1_1, hv1_0, rfl, rfl⟩ := hq9
  refine lv_istore (lv' := [(4, .int (zI v1_1)), (0, .ref (β 0)), (1, .int (zI r9)), (2, .int (zI c9)), (3, .int (zI a))]) hx hb dX10_heaps_4 hl (by decide) rfl (fun ls hl => ?_)
  refine lv_iconst (v := zI 0) hx hb dX10_heaps_6 rfl ?_
  refine lv_istore (lv' := [(5, .int (zI 0)), (4, .int (zI v1_1)), (0, .ref (β 0)), (1, .int (zI r9)), (2, .int (zI c9)), (3, .int (zI a))]) hx hb dX10_heaps_7 hl (by decide) rfl (fun ls hl => ?_)
  suffices HL_9 : ∀ (n_9 : Nat), ∀ (n1 : IA) (i : Int) (H : Heap) (locs : List Loc) (hP : va_P D vwCl (wM β δ ms mb mo mp mf n1 mi mc mq mr mw mk ml mt ma mx mh) H) (hD : va_D A (wM β δ ms mb mo mp mf n1 mi mc mq mr mw mk ml mt ma mx mh)) (hS : va_S A s.heap H locs) (ls : Array Slot) (hl : lv_has ls 8 [(5, .int (zI i)), (4, .int (zI v1_1)), (0, .ref (β 0)), (1, .int (zI r9)), (2, .int (zI c9)), (3, .int (zI a))]) (hi : 0 ≤ i ∧ i ≤ 49) (hn1 : ∀ k, 0 ≤ k → k < i → n1 k = ms k + (if S_left (7 * r9 + c9) a k ≤ 0 then 0 else if a < 0 then -(S_left (7 * r9 + c9) a k) else S_left (7 * r9 + c9) a k) ∧ (-2000 ≤ n1 k ∧ n1 k ≤ 2000)) (hm : (49 - i).toNat < n_9), W pg l e rm_X10_heaps s m args below meth c H locs 0 0 Q (F0 m 9 ls []) from HL_9 _ mn 0 _ _ hP hD hS _ (lv_sub hl [0, 1, 2, 3, 4, 5] rfl) (by first | assumption | rfl | omega) (by intro k q1 q2; omega) (Nat.lt_succ_self _)
  intro n_9
  induction n_9 with
  | zero => intro n1 i H locs hP hD hS ls hl hi hn1 hm; exact absurd hm (Nat.not_lt_zero _)
  | succ n_9 ih_9 =>
    intro n1 i H locs hP hD hS ls hl hi hn1 hm
    refine lv_iload hx hb dX10_heaps_9 (lv_at hl 0 rfl) ?_
    refine lv_bipush (v := zI 49) hx hb dX10_heaps_11 (zI_b8 (by decide)) ?_
    refine z_icge (tgt := 95) hx hb ⟨by omega, by omega⟩ ⟨by omega, by omega⟩ dX10_heaps_13 (by decide) (fun c_13 => ?_) (fun c_13 => ?_)
    · refine lv_aload_n hx hb dX10_heaps_95 rfl (lv_at hl 2 rfl) ?_
      refine z_calli hP hD hS hA (va_runV (As := []) (rest := []) hC (c_X10_takes l D τ β δ ms mb mo mp mf n1 mi mc mq mr mw mk ml mt ma mx mh (by exact hms) (by intro k q1 q2; have z9 := (hn1 k q1 (by omega)).2; omega) _) (cwV 0 hts (gV hB wl_X10_66 wn_X10_takes ws_X10_takes wi_X10 wc_X10_takes) rfl rfl rfl hd_X10_takes ⟨Nat.le_of_ble_eq_true rfl, Nat.le_of_ble_eq_true rfl⟩) (zp_V hK hP hD hS hA hG (ci := 10) (q0 := 0) rfl rfl rfl) rfl rfl hl.1 rfl (lv_room (Nat.le_of_ble_eq_true rfl)) dX10_heaps_96 ⟨Nat.le_of_ble_eq_true rfl, Nat.le_of_ble_eq_true rfl⟩) (fun r w1 H locs hq9 hP hD hS => ?_)
      obtain ⟨s96_2, v96_3, hv96_0, hv96_1, hv96_2, rfl, rfl⟩ := hq9
      have hP : va_P D vwCl (wM β δ s96_2 mb mo mp mf n1 mi mc mq mr mw mk ml mt ma mx mh) H := hP
      have hD : va_D A (wM β δ s96_2 mb mo mp mf n1 mi mc mq mr mw mk ml mt ma mx mh) := hD
      have hze : zmix 49 (fun k => clip (n1 k)) ms = S_heap ms (7 * r9 + c9) a := zmix_cg (fun k q1 q2 => by show clip (n1 k) = S_heapv ms (7 * r9 + c9) a k; unfold S_heapv; rw [(hn1 k q1 (by omega)).1])
      exact z_iret hC hr hlk hQ hP hD hS ⟨s96_2, n1, v96_3, (by rw [hv96_0]; exact hze), (by rw [hv96_1, hv96_0, hze]), (by exact hv96_2), rfl, rfl⟩ dX10_heaps_99
    · refine lv_iload hx hb dX10_heaps_16 (lv_at hl 0 rfl) ?_
      refine lv_bipush (v := zI 7) hx hb dX10_heaps_18 (zI_b8 (by decide)) ?_
      refine z_idiv hx hb ⟨⟨by omega, by omega⟩, by omega, by omega⟩ dX10_heaps_20 ?_
      refine lv_iload_n hx hb dX10_heaps_21 rfl (lv_at hl 3 rfl) ?_
      refine z_isub hx hb dX10_heaps_22 ?_
      refine z_calli hP hD hS hA (va_runS (As := [.int (zI ((i / 7) - r9))]) (rest := []) hC (c_X10_size l D τ _ _ ((i / 7) - r9) (by first | assumption | rfl | omega) _) (va_cwS 1 hts (gS hB wl_X10_63 wt_X10_size wi_X10 wc_X10_size) rfl rfl rfl hd_X10_size.2 ⟨Nat.le_of_ble_eq_true rfl, Nat.le_of_ble_eq_true rfl⟩) (zp_S hK hP hD hS hA hG) rfl rfl hl.1 rfl (lv_room (Nat.le_of_ble_eq_true rfl)) dX10_heaps_23 ⟨Nat.le_of_ble_eq_true rfl, Nat.le_of_ble_eq_true rfl⟩) (fun r w1 H locs hq9 hP hD hS => ?_)
      obtain ⟨v23_4, hv23_0, rfl, rfl⟩ := hq9
      refine lv_iload hx hb dX10_heaps_26 (lv_at hl 0 rfl) ?_
      refine lv_bipush (v := zI 7) hx hb dX10_heaps_28 (zI_b8 (by decide)) ?_
      refine z_irem hx hb ⟨⟨by omega, by omega⟩, by omega, by omega⟩ dX10_heaps_30 ?_
      refine lv_iload_n hx hb dX10_heaps_31 rfl (lv_at hl 4 rfl) ?_
      refine z_isub hx hb dX10_heaps_32 ?_
      refine z_calli hP hD hS hA (va_runS (As := [.int (zI ((i % 7) - c9))]) (rest := [.int (zI v23_4)]) hC (c_X10_size l D τ _ _ ((i % 7) - c9) (by first | assumption | rfl | omega) _) (va_cwS 1 hts (gS hB wl_X10_63 wt_X10_size wi_X10 wc_X10_size) rfl rfl rfl hd_X10_size.2 ⟨Nat.le_of_ble_eq_true rfl, Nat.le_of_ble_eq_true rfl⟩) (zp_S hK hP hD hS hA hG) rfl rfl hl.1 rfl (lv_room (Nat.le_of_ble_eq_true rfl)) dX10_heaps_33 ⟨Nat.le_of_ble_eq_true rfl, Nat.le_of_ble_eq_true rfl⟩) (fun r w1 H locs hq9 hP hD hS => ?_)
      obtain ⟨v33_5, hv33_0, rfl, rfl⟩ := hq9
      refine z_iadd hx hb dX10_heaps_36 ?_
      refine lv_istore (lv' := [(6, .int (zI (v23_4 + v33_5))), (5, .int (zI i)), (4, .int (zI v1_1)), (0, .ref (β 0)), (1, .int (zI r9)), (2, .int (zI c9)), (3, .int (zI a))]) hx hb dX10_heaps_37 hl (by decide) rfl (fun ls hl => ?_)
      have q1 := zabs_spec (i / 7 - r9)
      have q2 := zabs_spec (i % 7 - c9)
      have hzl := zmul_b (x := (v1_1 + 2) / 3) (y := v23_4 + v33_5) (a := 20) (b := 12) (by omega) (by omega)
      refine lv_iload hx hb dX10_heaps_39 (lv_at hl 2 rfl) ?_
      refine lv_iload hx hb dX10_heaps_41 (lv_at hl 2 rfl) ?_
      refine lv_iconst (v := zI 2) hx hb dX10_heaps_43 rfl ?_
      refine z_iadd hx hb dX10_heaps_44 ?_
      refine lv_iconst (v := zI 3) hx hb dX10_heaps_45 rfl ?_
      refine z_idiv hx hb ⟨⟨by omega, by omega⟩, by omega, by omega⟩ dX10_heaps_46 ?_
      refine lv_iload hx hb dX10_heaps_47 (lv_at hl 0 rfl) ?_
      refine z_imul hx hb dX10_heaps_49 ?_
      refine z_isub hx hb dX10_heaps_50 ?_
      refine lv_istore (lv' := [(7, .int (zI (v1_1 - (((v1_1 + 2) / 3) * (v23_4 + v33_5))))), (6, .int (zI (v23_4 + v33_5))), (5, .int (zI i)), (4, .int (zI v1_1)), (0, .ref (β 0)), (1, .int (zI r9)), (2, .int (zI c9)), (3, .int (zI a))]) hx hb dX10_heaps_51 hl (by decide) rfl (fun ls hl => ?_)
      have hL : (v1_1 - (((v1_1 + 2) / 3) * (v23_4 + v33_5))) = S_left (7 * r9 + c9) a i := by unfold S_left; rw [show (7 * r9 + c9) / 7 = r9 by omega, show (7 * r9 + c9) % 7 = c9 by omega, ← hv1_0, ← hv23_0, ← hv33_0, Int.mul_comm]
      refine lv_aload_n hx hb dX10_heaps_53 rfl (lv_at hl 4 rfl) ?_
      refine va_get (D := D) (ci := 10) (v := .ref (β 6)) (C := RX10) (T := TX10) (N := 17) hx hb hts (fun w h => List.mem_cons_of_mem _ (wx_X10 w h)) hown hK hP 0 rfl rfl 8 (by decide) (hW0 _ wf_X10_26) (fun _ h9 => h9) rfl dX10_heaps_54 ?_
      refine lv_iload hx hb dX10_heaps_57 (lv_at hl 2 rfl) ?_
      refine lv_aload_n hx hb dX10_heaps_59 rfl (lv_at hl 4 rfl) ?_
      refine va_get (D := D) (ci := 10) (v := .ref (β 1)) (C := RX10) (T := TX10) (N := 17) hx hb hts (fun w h => List.mem_cons_of_mem _ (wx_X10 w h)) hown hK hP 0 rfl rfl 0 (by decide) (hW0 _ wf_X10_7) (fun _ h9 => h9) rfl dX10_heaps_60 ?_
      refine lv_iload hx hb dX10_heaps_63 (lv_at hl 2 rfl) ?_
      refine z_iald (f := ms) hx hb hK hP 1 0 rfl rfl ⟨⟨by omega, by omega⟩, by decide⟩ dX10_heaps_65 ?_
      have hb_65 := hms i (by omega) (by omega)
      refine lv_iload hx hb dX10_heaps_66 (lv_at hl 0 rfl) ?_
      refine z_ifgt (tgt := 75) hx hb ⟨by omega, by omega⟩ dX10_heaps_68 (by decide) (fun c_68 => ?_) (fun c_68 => ?_)
      · refine lv_iload_n hx hb dX10_heaps_75 rfl (lv_at hl 7 rfl) ?_
        refine z_ifge (tgt := 85) hx hb ⟨by omega, by omega⟩ dX10_heaps_76 (by decide) (fun c_76 => ?_) (fun c_76 => ?_)
        · refine lv_iload hx hb dX10_heaps_85 (lv_at hl 0 rfl) ?_
          refine z_iadd hx hb dX10_heaps_87 ?_
          refine z_iast (f := n1) (v := (ms i) + (v1_1 - (((v1_1 + 2) / 3) * (v23_4 + v33_5)))) hx hb hK hP hD hS 6 5 rfl rfl ⟨⟨by omega, by omega⟩, by decide⟩ dX10_heaps_88 (fun H locs hP hD hS => ?_)
          have hP : va_P D vwCl (wM β δ ms mb mo mp mf ((zu n1 i ((ms i) + (v1_1 - (((v1_1 + 2) / 3) * (v23_4 + v33_5)))))) mi mc mq mr mw mk ml mt ma mx mh) H := hP
          have hD : va_D A (wM β δ ms mb mo mp mf ((zu n1 i ((ms i) + (v1_1 - (((v1_1 + 2) / 3) * (v23_4 + v33_5)))))) mi mc mq mr mw mk ml mt ma mx mh) := hD
          refine z_iinc (k := 2) (v := i + 1) (lv' := [(5, .int (zI (i + 1))), (7, .int (zI (v1_1 - (((v1_1 + 2) / 3) * (v23_4 + v33_5))))), (6, .int (zI (v23_4 + v33_5))), (4, .int (zI v1_1)), (0, .ref (β 0)), (1, .int (zI r9)), (2, .int (zI c9)), (3, .int (zI a))]) hx hb dX10_heaps_89 hl rfl rfl (by decide) rfl (fun ls hl => ?_)
          refine lv_goto (tgt := 9) hx hb dX10_heaps_92 (by decide) ?_
          exact ih_9 (zu n1 i ((ms i) + (v1_1 - (((v1_1 + 2) / 3) * (v23_4 + v33_5))))) (i + 1) _ _ hP hD hS _ (lv_sub hl [0, 3, 4, 5, 6, 7] rfl) (by first | assumption | rfl | omega) (by intro k q1 q2; by_cases e9 : k = i; (focus (rw [e9, zu_s, ← hL]; refine ⟨?_, by omega⟩; first | (rw [if_pos (by omega)]; done) | (rw [if_neg (by omega), if_pos (by omega)]; done) | (rw [if_neg (by omega), if_neg (by omega)]; done))); (rw [zu_n e9]; exact hn1 k q1 (by omega))) (by omega)
        · refine lv_iload hx hb dX10_heaps_79 (lv_at hl 0 rfl) ?_
          refine z_ineg hx hb dX10_heaps_81 ?_
          refine lv_goto (tgt := 87) hx hb dX10_heaps_82 (by decide) ?_
          refine z_iadd hx hb dX10_heaps_87 ?_
          refine z_iast (f := n1) (v := (ms i) + (-(v1_1 - (((v1_1 + 2) / 3) * (v23_4 + v33_5))))) hx hb hK hP hD hS 6 5 rfl rfl ⟨⟨by omega, by omega⟩, by decide⟩ dX10_heaps_88 (fun H locs hP hD hS => ?_)
          have hP : va_P D vwCl (wM β δ ms mb mo mp mf ((zu n1 i ((ms i) + (-(v1_1 - (((v1_1 + 2) / 3) * (v23_4 + v33_5))))))) mi mc mq mr mw mk ml mt ma mx mh) H := hP
          have hD : va_D A (wM β δ ms mb mo mp mf ((zu n1 i ((ms i) + (-(v1_1 - (((v1_1 + 2) / 3) * (v23_4 + v33_5))))))) mi mc mq mr mw mk ml mt ma mx mh) := hD
          refine z_iinc (k := 2) (v := i + 1) (lv' := [(5, .int (zI (i + 1))), (7, .int (zI (v1_1 - (((v1_1 + 2) / 3) * (v23_4 + v33_5))))), (6, .int (zI (v23_4 + v33_5))), (4, .int (zI v1_1)), (0, .ref (β 0)), (1, .int (zI r9)), (2, .int (zI c9)), (3, .int (zI a))]) hx hb dX10_heaps_89 hl rfl rfl (by decide) rfl (fun ls hl => ?_)
          refine lv_goto (tgt := 9) hx hb dX10_heaps_92 (by decide) ?_
          exact ih_9 (zu n1 i ((ms i) + (-(v1_1 - (((v1_1 + 2) / 3) * (v23_4 + v33_5)))))) (i + 1) _ _ hP hD hS _ (lv_sub hl [0, 3, 4, 5, 6, 7] rfl) (by first | assumption | rfl | omega) (by intro k q1 q2; by_cases e9 : k = i; (focus (rw [e9, zu_s, ← hL]; refine ⟨?_, by omega⟩; first | (rw [if_pos (by omega)]; done) | (rw [if_neg (by omega), if_pos (by omega)]; done) | (rw [if_neg (by omega), if_neg (by omega)]; done))); (rw [zu_n e9]; exact hn1 k q1 (by omega))) (by omega)
      · refine lv_iconst (v := zI 0) hx hb dX10_heaps_71 rfl ?_
        refine lv_goto (tgt := 87) hx hb dX10_heaps_72 (by decide) ?_
        refine z_iadd hx hb dX10_heaps_87 ?_
        refine z_iast (f := n1) (v := (ms i) + 0) hx hb hK hP hD hS 6 5 rfl rfl ⟨⟨by omega, by omega⟩, by decide⟩ dX10_heaps_88 (fun H locs hP hD hS => ?_)
        have hP : va_P D vwCl (wM β δ ms mb mo mp mf ((zu n1 i ((ms i) + 0))) mi mc mq mr mw mk ml mt ma mx mh) H := hP
        have hD : va_D A (wM β δ ms mb mo mp mf ((zu n1 i ((ms i) + 0))) mi mc mq mr mw mk ml mt ma mx mh) := hD
        refine z_iinc (k := 2) (v := i + 1) (lv' := [(5, .int (zI (i + 1))), (7, .int (zI (v1_1 - (((v1_1 + 2) / 3) * (v23_4 + v33_5))))), (6, .int (zI (v23_4 + v33_5))), (4, .int (zI v1_1)), (0, .ref (β 0)), (1, .int (zI r9)), (2, .int (zI c9)), (3, .int (zI a))]) hx hb dX10_heaps_89 hl rfl rfl (by decide) rfl (fun ls hl => ?_)
        refine lv_goto (tgt := 9) hx hb dX10_heaps_92 (by decide) ?_
        exact ih_9 (zu n1 i ((ms i) + 0)) (i + 1) _ _ hP hD hS _ (lv_sub hl [0, 3, 4, 5, 6, 7] rfl) (by first | assumption | rfl | omega) (by intro k q1 q2; by_cases e9 : k = i; (focus (rw [e9, zu_s, ← hL]; refine ⟨?_, by omega⟩; first | (rw [if_pos (by omega)]; done) | (rw [if_neg (by omega), if_pos (by omega)]; done) | (rw [if_neg (by omega), if_neg (by omega)]; done))); (rw [zu_n e9]; exact hn1 k q1 (by omega))) (by omega)

abbrev wz_X10_smooths : List Cond := .code yX10_smooths cX10_smooths 6 (some .int) :: W0
abbrev rm_X10_smooths : Room := { frames := 3, cells := 0, slots := 0, locals := 66 }
theorem hd_X10_smooths : yX10_smooths.cls = RX10 ∧ yX10_smooths.cls ≠ "java/lang/invoke/MethodHandle" ∧ yX10_smooths.cls ≠ "java/lang/invoke/VarHandle" ∧ (parseMethodDescriptor yX10_smooths.desc).map (fun d => d.parameters.length) = some 0 := by decide +kernel
set_option maxHeartbeats 4000000 in
set_option maxRecDepth 100000 in
theorem c_X10_smooths (l : Launch) (D : va_G) (τ : Nat → Nat) (β : Nat → Nat) (δ : Nat → ClassId) (ms : IA) (mb : IA) (mo : IA) (mp : BA) (mf : IA) (mn : IA) (mi : IA) (mc : IA) (mq : BA) (mr : IA) (mw : IA) (mk : Int) (ml : Int) (mt : Int) (ma : Int) (mx : Bool) (mh : Int64) (hms : ∀ k, 0 ≤ k → k < 49 → 0 ≤ ms k ∧ ms k ≤ 99) : cM l yX10_smooths wz_X10_smooths rm_X10_smooths D τ (tyM δ) [.ref (β 0)] (wM β δ ms mb mo mp mf mn mi mc mq mr mw mk ml mt ma mx mh) (zQi (fun r w => ∃ (s2 : IA), ∃ (n2 : IA), ∃ (v : Int), (s2 = S_smooth ms) ∧ (v = S_diff (S_smooth ms) ms) ∧ (0 ≤ v ∧ v ≤ 49) ∧ r = zI v ∧ wM β δ s2 mb mo mp mf n2 mi mc mq mr mw mk ml mt ma mx mh = w)) := by
  refine z_ofM (cc := cX10_smooths) (maxL := 6) (ret := (some .int)) (by decide +kernel) rfl (Nat.le_of_ble_eq_true rfl) ?_
  intro pg e s m args below meth c hC hr hlk hnm hK hP A hD hG hA hS ls hl Q hQ
  have hx := hC.1
  have hb := hC.2.1
  have hml := hC.2.2.1
  have hown := hC.2.2.2.1
  have hts := hC.2.2.2.2
  have hB : ∀ w ∈ W0, w ∈ wz_X10_smooths := fun _ h => List.mem_cons_of_mem _ h
  have hW0 : ∀ w ∈ W0, w.before args s = true := fun w h => hts w (hB w h)
  have hl : lv_has ls 6 [(0, .ref (β 0))] := hl
  refine lv_iconst (v := zI 0) hx hb dX10_smooths_0 rfl ?_
  refine lv_istore_n (lv' := [(1, .int (zI 0)), (0, .ref (β 0))]) hx hb dX10_smooths_1 rfl hl (by decide) rfl (fun ls hl => ?_)
  suffices HL_2 : ∀ (n_2 : Nat), ∀ (n1 : IA) (i : Int) (H : Heap) (locs : List Loc) (hP : va_P D vwCl (wM β δ ms mb mo mp mf n1 mi mc mq mr mw mk ml mt ma mx mh) H) (hD : va_D A (wM β δ ms mb mo mp mf n1 mi mc mq mr mw mk ml mt ma mx mh)) (hS : va_S A s.heap H locs) (ls : Array Slot) (hl : lv_has ls 6 [(1, .int (zI i)), (0, .ref (β 0))]) (hi : 0 ≤ i ∧ i ≤ 49) (hn1 : ∀ k, 0 ≤ k → k < i → n1 k = S_mean ms k ∧ (0 ≤ n1 k ∧ n1 k ≤ 99)) (hm : (49 - i).toNat < n_2), W pg l e rm_X10_smooths s m args below meth c H locs 0 0 Q (F0 m 2 ls []) from HL_2 _ mn 0 _ _ hP hD hS _ (lv_sub hl [0, 1] rfl) (by first | assumption | rfl | omega) (by intro k q1 q2; omega) (Nat.lt_succ_self _)
  intro n_2
  induction n_2 with
  | zero => intro n1 i H locs hP hD hS ls hl hi hn1 hm; exact absurd hm (Nat.not_lt_zero _)
  | succ n_2 ih_2 =>
    intro n1 i H locs hP hD hS ls hl hi hn1 hm
    refine lv_iload_n hx hb dX10_smooths_2 rfl (lv_at hl 0 rfl) ?_
    refine lv_bipush (v := zI 49) hx hb dX10_smooths_3 (zI_b8 (by decide)) ?_
    refine z_icge (tgt := 89) hx hb ⟨by omega, by omega⟩ ⟨by omega, by omega⟩ dX10_smooths_5 (by decide) (fun c_5 => ?_) (fun c_5 => ?_)
    · refine lv_aload_n hx hb dX10_smooths_89 rfl (lv_at hl 1 rfl) ?_
      refine z_calli hP hD hS hA (va_runV (As := []) (rest := []) hC (c_X10_takes l D τ β δ ms mb mo mp mf n1 mi mc mq mr mw mk ml mt ma mx mh (by exact hms) (by intro k q1 q2; have z9 := (hn1 k q1 (by omega)).2; omega) _) (cwV 0 hts (gV hB wl_X10_66 wn_X10_takes ws_X10_takes wi_X10 wc_X10_takes) rfl rfl rfl hd_X10_takes ⟨Nat.le_of_ble_eq_true rfl, Nat.le_of_ble_eq_true rfl⟩) (zp_V hK hP hD hS hA hG (ci := 10) (q0 := 0) rfl rfl rfl) rfl rfl hl.1 rfl (lv_room (Nat.le_of_ble_eq_true rfl)) dX10_smooths_90 ⟨Nat.le_of_ble_eq_true rfl, Nat.le_of_ble_eq_true rfl⟩) (fun r w1 H locs hq9 hP hD hS => ?_)
      obtain ⟨s90_1, v90_2, hv90_0, hv90_1, hv90_2, rfl, rfl⟩ := hq9
      have hP : va_P D vwCl (wM β δ s90_1 mb mo mp mf n1 mi mc mq mr mw mk ml mt ma mx mh) H := hP
      have hD : va_D A (wM β δ s90_1 mb mo mp mf n1 mi mc mq mr mw mk ml mt ma mx mh) := hD
      have hze : zmix 49 (fun k => clip (n1 k)) ms = S_smooth ms := zmix_cg (fun k q1 q2 => by show clip (n1 k) = clip (S_mean ms k); rw [(hn1 k q1 (by omega)).1])
      exact z_iret hC hr hlk hQ hP hD hS ⟨s90_1, n1, v90_2, (by rw [hv90_0]; exact hze), (by rw [hv90_1, hv90_0, hze]), (by exact hv90_2), rfl, rfl⟩ dX10_smooths_93
    · refine lv_aload_n hx hb dX10_smooths_8 rfl (lv_at hl 1 rfl) ?_
      refine va_get (D := D) (ci := 10) (v := .ref (β 1)) (C := RX10) (T := TX10) (N := 17) hx hb hts (fun w h => List.mem_cons_of_mem _ (wx_X10 w h)) hown hK hP 0 rfl rfl 0 (by decide) (hW0 _ wf_X10_7) (fun _ h9 => h9) rfl dX10_smooths_9 ?_
      refine lv_iload_n hx hb dX10_smooths_12 rfl (lv_at hl 0 rfl) ?_
      refine z_iald (f := ms) hx hb hK hP 1 0 rfl rfl ⟨⟨by omega, by omega⟩, by decide⟩ dX10_smooths_13 ?_
      have hb_13 := hms i (by omega) (by omega)
      refine lv_istore_n (lv' := [(2, .int (zI (ms i))), (1, .int (zI i)), (0, .ref (β 0))]) hx hb dX10_smooths_14 rfl hl (by decide) rfl (fun ls hl => ?_)
      refine lv_iconst (v := zI 1) hx hb dX10_smooths_15 rfl ?_
      refine lv_istore_n (lv' := [(3, .int (zI 1)), (2, .int (zI (ms i))), (1, .int (zI i)), (0, .ref (β 0))]) hx hb dX10_smooths_16 rfl hl (by decide) rfl (fun ls hl => ?_)
      refine lv_iconst (v := zI 0) hx hb dX10_smooths_17 rfl ?_
      refine lv_istore (lv' := [(4, .int (zI 0)), (3, .int (zI 1)), (2, .int (zI (ms i))), (1, .int (zI i)), (0, .ref (β 0))]) hx hb dX10_smooths_18 hl (by decide) rfl (fun ls hl => ?_)
      suffices HL_20 : ∀ (n_20 : Nat), ∀ (t : Int) (cn : Int) (j : Int) (H : Heap) (locs : List Loc) (hP : va_P D vwCl (wM β δ ms mb mo mp mf n1 mi mc mq mr mw mk ml mt ma mx mh) H) (hD : va_D A (wM β δ ms mb mo mp mf n1 mi mc mq mr mw mk ml mt ma mx mh)) (hS : va_S A s.heap H locs) (ls : Array Slot) (hl : lv_has ls 6 [(2, .int (zI t)), (3, .int (zI cn)), (4, .int (zI j)), (1, .int (zI i)), (0, .ref (β 0))]) (hj : 0 ≤ j ∧ j ≤ 4) (ht : t = ms i + zS (S_mt ms i) j) (hcn : cn = 1 + zS (S_mc i) j) (htb : 0 ≤ t ∧ t ≤ 99 * cn) (hcb : 1 ≤ cn ∧ cn ≤ 1 + j) (hm : (4 - j).toNat < n_20), W pg l e rm_X10_smooths s m args below meth c H locs 0 0 Q (F0 m 20 ls []) from HL_20 _ (ms i) 1 0 _ _ hP hD hS _ (lv_sub hl [2, 1, 0, 3, 4] rfl) (by first | assumption | rfl | omega) (by rw [zS_0]; omega) (by rw [zS_0]; rfl) (by first | assumption | rfl | omega) (by first | assumption | rfl | omega) (Nat.lt_succ_self _)
      intro n_20
      induction n_20 with
      | zero => intro t cn j H locs hP hD hS ls hl hj ht hcn htb hcb hm; exact absurd hm (Nat.not_lt_zero _)
      | succ n_20 ih_20 =>
        intro t cn j H locs hP hD hS ls hl hj ht hcn htb hcb hm
        refine lv_iload hx hb dX10_smooths_20 (lv_at hl 2 rfl) ?_
        refine lv_iconst (v := zI 4) hx hb dX10_smooths_22 rfl ?_
        refine z_icge (tgt := 74) hx hb ⟨by omega, by omega⟩ ⟨by omega, by omega⟩ dX10_smooths_23 (by decide) (fun c_23 => ?_) (fun c_23 => ?_)
        · refine lv_aload_n hx hb dX10_smooths_74 rfl (lv_at hl 4 rfl) ?_
          refine va_get (D := D) (ci := 10) (v := .ref (β 6)) (C := RX10) (T := TX10) (N := 17) hx hb hts (fun w h => List.mem_cons_of_mem _ (wx_X10 w h)) hown hK hP 0 rfl rfl 8 (by decide) (hW0 _ wf_X10_26) (fun _ h9 => h9) rfl dX10_smooths_75 ?_
          refine lv_iload_n hx hb dX10_smooths_78 rfl (lv_at hl 3 rfl) ?_
          refine lv_iload_n hx hb dX10_smooths_79 rfl (lv_at hl 0 rfl) ?_
          refine lv_iload_n hx hb dX10_smooths_80 rfl (lv_at hl 1 rfl) ?_
          refine z_idiv hx hb ⟨⟨by omega, by omega⟩, by omega, by omega⟩ dX10_smooths_81 ?_
          refine z_iast (f := n1) (v := t / cn) hx hb hK hP hD hS 6 5 rfl rfl ⟨⟨by omega, by omega⟩, by decide⟩ dX10_smooths_82 (fun H locs hP hD hS => ?_)
          have hP : va_P D vwCl (wM β δ ms mb mo mp mf ((zu n1 i (t / cn))) mi mc mq mr mw mk ml mt ma mx mh) H := hP
          have hD : va_D A (wM β δ ms mb mo mp mf ((zu n1 i (t / cn))) mi mc mq mr mw mk ml mt ma mx mh) := hD
          refine z_iinc (k := 3) (v := i + 1) (lv' := [(1, .int (zI (i + 1))), (2, .int (zI t)), (3, .int (zI cn)), (4, .int (zI j)), (0, .ref (β 0))]) hx hb dX10_smooths_83 hl rfl rfl (by decide) rfl (fun ls hl => ?_)
          refine lv_goto (tgt := 2) hx hb dX10_smooths_86 (by decide) ?_
          exact ih_2 (zu n1 i (t / cn)) (i + 1) _ _ hP hD hS _ (lv_sub hl [0, 4] rfl) (by first | assumption | rfl | omega) (by intro k q1 q2; by_cases e9 : k = i; (focus (rw [e9, zu_s]; exact ⟨by unfold S_mean; rw [ht, hcn, show j = 4 by omega], S_mean_b htb hcb.1⟩)); (rw [zu_n e9]; exact hn1 k q1 (by omega))) (by omega)
        · refine lv_iload_n hx hb dX10_smooths_26 rfl (lv_at hl 3 rfl) ?_
          refine lv_iload hx hb dX10_smooths_27 (lv_at hl 2 rfl) ?_
          refine z_calli hP hD hS hA (va_runS (As := [.int (zI i), .int (zI j)]) (rest := []) hC (c_X10_next l D τ _ _ i j (by first | assumption | rfl | omega) (by first | assumption | rfl | omega) _) (va_cwS 2 hts (gS hB wl_X10_70 wt_X10_next wi_X10 wc_X10_next) rfl rfl rfl hd_X10_next.2 ⟨Nat.le_of_ble_eq_true rfl, Nat.le_of_ble_eq_true rfl⟩) (zp_S hK hP hD hS hA hG) rfl rfl hl.1 rfl (lv_room (Nat.le_of_ble_eq_true rfl)) dX10_smooths_29 ⟨Nat.le_of_ble_eq_true rfl, Nat.le_of_ble_eq_true rfl⟩) (fun r w1 H locs hq9 hP hD hS => ?_)
          obtain ⟨v29_3, hv29_0, hv29_1, rfl, rfl⟩ := hq9
          refine lv_istore (lv' := [(5, .int (zI v29_3)), (2, .int (zI t)), (3, .int (zI cn)), (4, .int (zI j)), (1, .int (zI i)), (0, .ref (β 0))]) hx hb dX10_smooths_32 hl (by decide) rfl (fun ls hl => ?_)
          refine lv_iload_n hx hb dX10_smooths_34 rfl (lv_at hl 1 rfl) ?_
          refine lv_iload hx hb dX10_smooths_35 (lv_at hl 0 rfl) ?_
          refine lv_iconst (v := zI (-1)) hx hb dX10_smooths_37 rfl ?_
          refine z_icne (tgt := 45) hx hb ⟨by omega, by omega⟩ ⟨by omega, by omega⟩ dX10_smooths_38 (by decide) (fun c_38 => ?_) (fun c_38 => ?_)
          · refine lv_aload_n hx hb dX10_smooths_45 rfl (lv_at hl 5 rfl) ?_
            refine va_get (D := D) (ci := 10) (v := .ref (β 1)) (C := RX10) (T := TX10) (N := 17) hx hb hts (fun w h => List.mem_cons_of_mem _ (wx_X10 w h)) hown hK hP 0 rfl rfl 0 (by decide) (hW0 _ wf_X10_7) (fun _ h9 => h9) rfl dX10_smooths_46 ?_
            refine lv_iload hx hb dX10_smooths_49 (lv_at hl 0 rfl) ?_
            refine z_iald (f := ms) hx hb hK hP 1 0 rfl rfl ⟨⟨by omega, by omega⟩, by decide⟩ dX10_smooths_51 ?_
            have hb_51 := hms v29_3 (by omega) (by omega)
            refine z_iadd hx hb dX10_smooths_52 ?_
            refine lv_istore_n (lv' := [(2, .int (zI (t + (ms v29_3)))), (5, .int (zI v29_3)), (3, .int (zI cn)), (4, .int (zI j)), (1, .int (zI i)), (0, .ref (β 0))]) hx hb dX10_smooths_53 rfl hl (by decide) rfl (fun ls hl => ?_)
            refine lv_iload_n hx hb dX10_smooths_54 rfl (lv_at hl 2 rfl) ?_
            refine lv_iload hx hb dX10_smooths_55 (lv_at hl 1 rfl) ?_
            refine lv_iconst (v := zI (-1)) hx hb dX10_smooths_57 rfl ?_
            refine z_icne (tgt := 65) hx hb ⟨by omega, by omega⟩ ⟨by omega, by omega⟩ dX10_smooths_58 (by decide) (fun c_58 => ?_) (fun c_58 => ?_)
            · refine lv_iconst (v := zI 1) hx hb dX10_smooths_65 rfl ?_
              refine z_iadd hx hb dX10_smooths_66 ?_
              refine lv_istore_n (lv' := [(3, .int (zI (cn + 1))), (2, .int (zI (t + (ms v29_3)))), (5, .int (zI v29_3)), (4, .int (zI j)), (1, .int (zI i)), (0, .ref (β 0))]) hx hb dX10_smooths_67 rfl hl (by decide) rfl (fun ls hl => ?_)
              refine z_iinc (k := 3) (v := j + 1) (lv' := [(4, .int (zI (j + 1))), (3, .int (zI (cn + 1))), (2, .int (zI (t + (ms v29_3)))), (5, .int (zI v29_3)), (1, .int (zI i)), (0, .ref (β 0))]) hx hb dX10_smooths_68 hl rfl rfl (by decide) rfl (fun ls hl => ?_)
              refine lv_goto (tgt := 20) hx hb dX10_smooths_71 (by decide) ?_
              exact ih_20 (t + (ms v29_3)) (cn + 1) (j + 1) _ _ hP hD hS _ (lv_sub hl [2, 1, 0, 4, 5] rfl) (by first | assumption | rfl | omega) (by rw [zS_up hj.1, ht]; unfold S_mt; rw [← hv29_0]; first | (rw [if_pos (by omega)]; omega) | (rw [if_neg (by omega)]; omega)) (by rw [zS_up hj.1, hcn]; unfold S_mc; rw [← hv29_0]; first | (rw [if_pos (by omega)]; omega) | (rw [if_neg (by omega)]; omega)) (by first | assumption | rfl | omega) (by first | assumption | rfl | omega) (by omega)
            · refine lv_iconst (v := zI 0) hx hb dX10_smooths_61 rfl ?_
              refine lv_goto (tgt := 66) hx hb dX10_smooths_62 (by decide) ?_
              refine z_iadd hx hb dX10_smooths_66 ?_
              refine lv_istore_n (lv' := [(3, .int (zI (cn + 0))), (2, .int (zI (t + (ms v29_3)))), (5, .int (zI v29_3)), (4, .int (zI j)), (1, .int (zI i)), (0, .ref (β 0))]) hx hb dX10_smooths_67 rfl hl (by decide) rfl (fun ls hl => ?_)
              refine z_iinc (k := 3) (v := j + 1) (lv' := [(4, .int (zI (j + 1))), (3, .int (zI (cn + 0))), (2, .int (zI (t + (ms v29_3)))), (5, .int (zI v29_3)), (1, .int (zI i)), (0, .ref (β 0))]) hx hb dX10_smooths_68 hl rfl rfl (by decide) rfl (fun ls hl => ?_)
              refine lv_goto (tgt := 20) hx hb dX10_smooths_71 (by decide) ?_
              exact ih_20 (t + (ms v29_3)) (cn + 0) (j + 1) _ _ hP hD hS _ (lv_sub hl [2, 1, 0, 4, 5] rfl) (by first | assumption | rfl | omega) (by rw [zS_up hj.1, ht]; unfold S_mt; rw [← hv29_0]; first | (rw [if_pos (by omega)]; omega) | (rw [if_neg (by omega)]; omega)) (by rw [zS_up hj.1, hcn]; unfold S_mc; rw [← hv29_0]; first | (rw [if_pos (by omega)]; omega) | (rw [if_neg (by omega)]; omega)) (by first | assumption | rfl | omega) (by first | assumption | rfl | omega) (by omega)
          · refine lv_iconst (v := zI 0) hx hb dX10_smooths_41 rfl ?_
            refine lv_goto (tgt := 52) hx hb dX10_smooths_42 (by decide) ?_
            refine z_iadd hx hb dX10_smooths_52 ?_
            refine lv_istore_n (lv' := [(2, .int (zI (t + 0))), (5, .int (zI v29_3)), (3, .int (zI cn)), (4, .int (zI j)), (1, .int (zI i)), (0, .ref (β 0))]) hx hb dX10_smooths_53 rfl hl (by decide) rfl (fun ls hl => ?_)
            refine lv_iload_n hx hb dX10_smooths_54 rfl (lv_at hl 2 rfl) ?_
            refine lv_iload hx hb dX10_smooths_55 (lv_at hl 1 rfl) ?_
            refine lv_iconst (v := zI (-1)) hx hb dX10_smooths_57 rfl ?_
            refine z_icne (tgt := 65) hx hb ⟨by omega, by omega⟩ ⟨by omega, by omega⟩ dX10_smooths_58 (by decide) (fun c_58 => ?_) (fun c_58 => ?_)
            · refine lv_iconst (v := zI 1) hx hb dX10_smooths_65 rfl ?_
              refine z_iadd hx hb dX10_smooths_66 ?_
              refine lv_istore_n (lv' := [(3, .int (zI (cn + 1))), (2, .int (zI (t + 0))), (5, .int (zI v29_3)), (4, .int (zI j)), (1, .int (zI i)), (0, .ref (β 0))]) hx hb dX10_smooths_67 rfl hl (by decide) rfl (fun ls hl => ?_)
              refine z_iinc (k := 3) (v := j + 1) (lv' := [(4, .int (zI (j + 1))), (3, .int (zI (cn + 1))), (2, .int (zI (t + 0))), (5, .int (zI v29_3)), (1, .int (zI i)), (0, .ref (β 0))]) hx hb dX10_smooths_68 hl rfl rfl (by decide) rfl (fun ls hl => ?_)
              refine lv_goto (tgt := 20) hx hb dX10_smooths_71 (by decide) ?_
              exact ih_20 (t + 0) (cn + 1) (j + 1) _ _ hP hD hS _ (lv_sub hl [2, 1, 0, 4, 5] rfl) (by first | assumption | rfl | omega) (by rw [zS_up hj.1, ht]; unfold S_mt; rw [← hv29_0]; first | (rw [if_pos (by omega)]; omega) | (rw [if_neg (by omega)]; omega)) (by rw [zS_up hj.1, hcn]; unfold S_mc; rw [← hv29_0]; first | (rw [if_pos (by omega)]; omega) | (rw [if_neg (by omega)]; omega)) (by first | assumption | rfl | omega) (by first | assumption | rfl | omega) (by omega)
            · refine lv_iconst (v := zI 0) hx hb dX10_smooths_61 rfl ?_
              refine lv_goto (tgt := 66) hx hb dX10_smooths_62 (by decide) ?_
              refine z_iadd hx hb dX10_smooths_66 ?_
              refine lv_istore_n (lv' := [(3, .int (zI (cn + 0))), (2, .int (zI (t + 0))), (5, .int (zI v29_3)), (4, .int (zI j)), (1, .int (zI i)), (0, .ref (β 0))]) hx hb dX10_smooths_67 rfl hl (by decide) rfl (fun ls hl => ?_)
              refine z_iinc (k := 3) (v := j + 1) (lv' := [(4, .int (zI (j + 1))), (3, .int (zI (cn + 0))), (2, .int (zI (t + 0))), (5, .int (zI v29_3)), (1, .int (zI i)), (0, .ref (β 0))]) hx hb dX10_smooths_68 hl rfl rfl (by decide) rfl (fun ls hl => ?_)
              refine lv_goto (tgt := 20) hx hb dX10_smooths_71 (by decide) ?_
              exact ih_20 (t + 0) (cn + 0) (j + 1) _ _ hP hD hS _ (lv_sub hl [2, 1, 0, 4, 5] rfl) (by first | assumption | rfl | omega) (by rw [zS_up hj.1, ht]; unfold S_mt; rw [← hv29_0]; first | (rw [if_pos (by omega)]; omega) | (rw [if_neg (by omega)]; omega)) (by rw [zS_up hj.1, hcn]; unfold S_mc; rw [← hv29_0]; first | (rw [if_pos (by omega)]; omega) | (rw [if_neg (by omega)]; omega)) (by first | assumption | rfl | omega) (by first | assumption | rfl | omega) (by omega)

abbrev wz_X10_drain : List Cond := .code yX10_drain cX10_drain 6 (some .int) :: W0
abbrev rm_X10_drain : Room := { frames := 3, cells := 0, slots := 0, locals := 66 }
theorem hd_X10_drain : yX10_drain.cls = RX10 ∧ yX10_drain.cls ≠ "java/lang/invoke/MethodHandle" ∧ yX10_drain.cls ≠ "java/lang/invoke/VarHandle" ∧ (parseMethodDescriptor yX10_drain.desc).map (fun d => d.parameters.length) = some 1 := by decide +kernel
set_option maxHeartbeats 4000000 in
set_option maxRecDepth 100000 in
theorem c_X10_drain (l : Launch) (D : va_G) (τ : Nat → Nat) (β : Nat → Nat) (δ : Nat → ClassId) (ms : IA) (mb : IA) (mo : IA) (mp : BA) (mf : IA) (mn : IA) (mi : IA) (mc : IA) (mq : BA) (mr : IA) (mw : IA) (mk : Int) (ml : Int) (mt : Int) (ma : Int) (mx : Bool) (mh : Int64) (p : Int) (hp : 0 ≤ p ∧ p < 49) (hms : ∀ k, 0 ≤ k → k < 49 → 0 ≤ ms k ∧ ms k ≤ 99) : cM l yX10_drain wz_X10_drain rm_X10_drain D τ (tyM δ) [.ref (β 0), .int (zI p)] (wM β δ ms mb mo mp mf mn mi mc mq mr mw mk ml mt ma mx mh) (zQi (fun r w => ∃ (v : Int), (v = S_next ms p) ∧ (-1 ≤ v ∧ v < 49) ∧ r = zI v ∧ wM β δ ms mb mo mp mf mn mi mc mq mr mw mk ml mt ma mx mh = w)) := by
  refine z_ofM (cc := cX10_drain) (maxL := 6) (ret := (some .int)) (by decide +kernel) rfl (Nat.le_of_ble_eq_true rfl) ?_
  intro pg e s m args below meth c hC hr hlk hnm hK hP A hD hG hA hS ls hl Q hQ
  have hx := hC.1
  have hb := hC.2.1
  have hml := hC.2.2.1
  have hown := hC.2.2.2.1
  have hts := hC.2.2.2.2
  have hB : ∀ w ∈ W0, w ∈ wz_X10_drain := fun _ h => List.mem_cons_of_mem _ h
  have hW0 : ∀ w ∈ W0, w.before args s = true := fun w h => hts w (hB w h)
  have hl : lv_has ls 6 [(0, .ref (β 0)), (1, .int (zI p))] := hl
  refine lv_iconst (v := zI (-1)) hx hb dX10_drain_0 rfl ?_
  refine lv_istore_n (lv' := [(2, .int (zI (-1))), (0, .ref (β 0)), (1, .int (zI p))]) hx hb dX10_drain_1 rfl hl (by decide) rfl (fun ls hl => ?_)
  refine lv_iconst (v := zI 0) hx hb dX10_drain_2 rfl ?_
  refine lv_istore_n (lv' := [(3, .int (zI 0)), (2, .int (zI (-1))), (0, .ref (β 0)), (1, .int (zI p))]) hx hb dX10_drain_3 rfl hl (by decide) rfl (fun ls hl => ?_)
  suffices HL_4 : ∀ (n_4 : Nat), ∀ (f9 : Int) (w : Int) (H : Heap) (locs : List Loc) (hP : va_P D vwCl (wM β δ ms mb mo mp mf mn mi mc mq mr mw mk ml mt ma mx mh) H) (hD : va_D A (wM β δ ms mb mo mp mf mn mi mc mq mr mw mk ml mt ma mx mh)) (hS : va_S A s.heap H locs) (ls : Array Slot) (hl : lv_has ls 6 [(2, .int (zI f9)), (3, .int (zI w)), (0, .ref (β 0)), (1, .int (zI p))]) (hw : 0 ≤ w ∧ w ≤ 4) (hf : (f9 = -1 ∧ S_lowI ms p w = p) ∨ (0 ≤ f9 ∧ f9 < 49 ∧ S_lowI ms p w = f9 ∧ ms f9 < ms p)) (hm : (4 - w).toNat < n_4), W pg l e rm_X10_drain s m args below meth c H locs 0 0 Q (F0 m 4 ls []) from HL_4 _ (-1) 0 _ _ hP hD hS _ (lv_sub hl [1, 0, 2, 3] rfl) (by first | assumption | rfl | omega) (by exact Or.inl ⟨rfl, S_lowI_0 _ _⟩) (Nat.lt_succ_self _)
  intro n_4
  induction n_4 with
  | zero => intro f9 w H locs hP hD hS ls hl hw hf hm; exact absurd hm (Nat.not_lt_zero _)
  | succ n_4 ih_4 =>
    intro f9 w H locs hP hD hS ls hl hw hf hm
    refine lv_iload_n hx hb dX10_drain_4 rfl (lv_at hl 1 rfl) ?_
    refine lv_iconst (v := zI 4) hx hb dX10_drain_5 rfl ?_
    refine z_icge (tgt := 84) hx hb ⟨by omega, by omega⟩ ⟨by omega, by omega⟩ dX10_drain_6 (by decide) (fun c_6 => ?_) (fun c_6 => ?_)
    · have hf4 := hf
      rw [show w = 4 by omega] at hf4
      refine lv_iload_n hx hb dX10_drain_84 rfl (lv_at hl 0 rfl) ?_
      exact z_iret hC hr hlk hQ hP hD hS ⟨f9, (by unfold S_next S_low; rcases hf4 with ⟨q1, q2⟩ | ⟨q1, q2, q3, q4⟩; (rw [if_pos q2]; exact q1); (rw [if_neg (fun h9 => by rw [q3] at h9; rw [h9] at q4; omega), q3])), (by omega), rfl, rfl⟩ dX10_drain_85
    · refine lv_iload_n hx hb dX10_drain_9 rfl (lv_at hl 3 rfl) ?_
      refine lv_iload_n hx hb dX10_drain_10 rfl (lv_at hl 1 rfl) ?_
      refine z_calli hP hD hS hA (va_runS (As := [.int (zI p), .int (zI w)]) (rest := []) hC (c_X10_next l D τ _ _ p w (by first | assumption | rfl | omega) (by first | assumption | rfl | omega) _) (va_cwS 2 hts (gS hB wl_X10_70 wt_X10_next wi_X10 wc_X10_next) rfl rfl rfl hd_X10_next.2 ⟨Nat.le_of_ble_eq_true rfl, Nat.le_of_ble_eq_true rfl⟩) (zp_S hK hP hD hS hA hG) rfl rfl hl.1 rfl (lv_room (Nat.le_of_ble_eq_true rfl)) dX10_drain_11 ⟨Nat.le_of_ble_eq_true rfl, Nat.le_of_ble_eq_true rfl⟩) (fun r w1 H locs hq9 hP hD hS => ?_)
      obtain ⟨v11_1, hv11_0, hv11_1, rfl, rfl⟩ := hq9
      refine lv_istore (lv' := [(4, .int (zI v11_1)), (2, .int (zI f9)), (3, .int (zI w)), (0, .ref (β 0)), (1, .int (zI p))]) hx hb dX10_drain_14 hl (by decide) rfl (fun ls hl => ?_)
      refine lv_iload hx hb dX10_drain_16 (lv_at hl 0 rfl) ?_
      refine lv_iconst (v := zI (-1)) hx hb dX10_drain_18 rfl ?_
      refine z_iceq (tgt := 63) hx hb ⟨by omega, by omega⟩ ⟨by omega, by omega⟩ dX10_drain_19 (by decide) (fun c_19 => ?_) (fun c_19 => ?_)
      · refine lv_iconst (v := zI 0) hx hb dX10_drain_63 rfl ?_
        refine lv_istore (lv' := [(5, .int (zI 0)), (4, .int (zI v11_1)), (2, .int (zI f9)), (3, .int (zI w)), (0, .ref (β 0)), (1, .int (zI p))]) hx hb dX10_drain_64 hl (by decide) rfl (fun ls hl => ?_)
        refine lv_iload hx hb dX10_drain_66 (lv_at hl 0 rfl) ?_
        refine z_ifeq (tgt := 76) hx hb ⟨by omega, by omega⟩ dX10_drain_68 (by decide) (fun c_68 => ?_) (fun c_68 => ?_)
        · refine lv_iload_n hx hb dX10_drain_76 rfl (lv_at hl 2 rfl) ?_
          refine lv_istore_n (lv' := [(2, .int (zI f9)), (5, .int (zI 0)), (4, .int (zI v11_1)), (3, .int (zI w)), (0, .ref (β 0)), (1, .int (zI p))]) hx hb dX10_drain_77 rfl hl (by decide) rfl (fun ls hl => ?_)
          refine z_iinc (k := 3) (v := w + 1) (lv' := [(3, .int (zI (w + 1))), (2, .int (zI f9)), (5, .int (zI 0)), (4, .int (zI v11_1)), (0, .ref (β 0)), (1, .int (zI p))]) hx hb dX10_drain_78 hl rfl rfl (by decide) rfl (fun ls hl => ?_)
          refine lv_goto (tgt := 4) hx hb dX10_drain_81 (by decide) ?_
          exact ih_4 f9 (w + 1) _ _ hP hD hS _ (lv_sub hl [1, 0, 4, 5] rfl) (by first | assumption | rfl | omega) (by rw [S_lowI_up hw.1]; unfold lowStep; rw [← hv11_0]; rcases hf with ⟨q1, q2⟩ | ⟨q1, q2, q3, q4⟩; (rw [q2]; (repeat' split) <;> omega); (rw [q3]; (repeat' split) <;> omega)) (by omega)
        · exact absurd c_68 (by decide)
      · refine lv_aload_n hx hb dX10_drain_22 rfl (lv_at hl 3 rfl) ?_
        refine va_get (D := D) (ci := 10) (v := .ref (β 1)) (C := RX10) (T := TX10) (N := 17) hx hb hts (fun w h => List.mem_cons_of_mem _ (wx_X10 w h)) hown hK hP 0 rfl rfl 0 (by decide) (hW0 _ wf_X10_7) (fun _ h9 => h9) rfl dX10_drain_23 ?_
        refine lv_iload hx hb dX10_drain_26 (lv_at hl 0 rfl) ?_
        refine z_iald (f := ms) hx hb hK hP 1 0 rfl rfl ⟨⟨by omega, by omega⟩, by decide⟩ dX10_drain_28 ?_
        have hb_28 := hms v11_1 (by omega) (by omega)
        refine lv_aload_n hx hb dX10_drain_29 rfl (lv_at hl 3 rfl) ?_
        refine va_get (D := D) (ci := 10) (v := .ref (β 1)) (C := RX10) (T := TX10) (N := 17) hx hb hts (fun w h => List.mem_cons_of_mem _ (wx_X10 w h)) hown hK hP 0 rfl rfl 0 (by decide) (hW0 _ wf_X10_7) (fun _ h9 => h9) rfl dX10_drain_30 ?_
        refine lv_iload_n hx hb dX10_drain_33 rfl (lv_at hl 4 rfl) ?_
        refine z_iald (f := ms) hx hb hK hP 1 0 rfl rfl ⟨⟨by omega, by omega⟩, by decide⟩ dX10_drain_34 ?_
        have hb_34 := hms p (by omega) (by omega)
        refine z_icge (tgt := 63) hx hb ⟨by omega, by omega⟩ ⟨by omega, by omega⟩ dX10_drain_35 (by decide) (fun c_35 => ?_) (fun c_35 => ?_)
        · refine lv_iconst (v := zI 0) hx hb dX10_drain_63 rfl ?_
          refine lv_istore (lv' := [(5, .int (zI 0)), (4, .int (zI v11_1)), (2, .int (zI f9)), (3, .int (zI w)), (0, .ref (β 0)), (1, .int (zI p))]) hx hb dX10_drain_64 hl (by decide) rfl (fun ls hl => ?_)
          refine lv_iload hx hb dX10_drain_66 (lv_at hl 0 rfl) ?_
          refine z_ifeq (tgt := 76) hx hb ⟨by omega, by omega⟩ dX10_drain_68 (by decide) (fun c_68 => ?_) (fun c_68 => ?_)
          · refine lv_iload_n hx hb dX10_drain_76 rfl (lv_at hl 2 rfl) ?_
            refine lv_istore_n (lv' := [(2, .int (zI f9)), (5, .int (zI 0)), (4, .int (zI v11_1)), (3, .int (zI w)), (0, .ref (β 0)), (1, .int (zI p))]) hx hb dX10_drain_77 rfl hl (by decide) rfl (fun ls hl => ?_)
            refine z_iinc (k := 3) (v := w + 1) (lv' := [(3, .int (zI (w + 1))), (2, .int (zI f9)), (5, .int (zI 0)), (4, .int (zI v11_1)), (0, .ref (β 0)), (1, .int (zI p))]) hx hb dX10_drain_78 hl rfl rfl (by decide) rfl (fun ls hl => ?_)
            refine lv_goto (tgt := 4) hx hb dX10_drain_81 (by decide) ?_
            exact ih_4 f9 (w + 1) _ _ hP hD hS _ (lv_sub hl [1, 0, 4, 5] rfl) (by first | assumption | rfl | omega) (by rw [S_lowI_up hw.1]; unfold lowStep; rw [← hv11_0]; rcases hf with ⟨q1, q2⟩ | ⟨q1, q2, q3, q4⟩; (rw [q2]; (repeat' split) <;> omega); (rw [q3]; (repeat' split) <;> omega)) (by omega)
          · exact absurd c_68 (by decide)
        · refine lv_iload_n hx hb dX10_drain_38 rfl (lv_at hl 1 rfl) ?_
          refine lv_iconst (v := zI (-1)) hx hb dX10_drain_39 rfl ?_
          refine z_iceq (tgt := 59) hx hb ⟨by omega, by omega⟩ ⟨by omega, by omega⟩ dX10_drain_40 (by decide) (fun c_40 => ?_) (fun c_40 => ?_)
          · refine lv_iconst (v := zI 1) hx hb dX10_drain_59 rfl ?_
            refine lv_goto (tgt := 64) hx hb dX10_drain_60 (by decide) ?_
            refine lv_istore (lv' := [(5, .int (zI 1)), (4, .int (zI v11_1)), (2, .int (zI f9)), (3, .int (zI w)), (0, .ref (β 0)), (1, .int (zI p))]) hx hb dX10_drain_64 hl (by decide) rfl (fun ls hl => ?_)
            refine lv_iload hx hb dX10_drain_66 (lv_at hl 0 rfl) ?_
            refine z_ifeq (tgt := 76) hx hb ⟨by omega, by omega⟩ dX10_drain_68 (by decide) (fun c_68 => ?_) (fun c_68 => ?_)
            · exact absurd c_68 (by decide)
            · refine lv_iload hx hb dX10_drain_71 (lv_at hl 1 rfl) ?_
              refine lv_goto (tgt := 77) hx hb dX10_drain_73 (by decide) ?_
              refine lv_istore_n (lv' := [(2, .int (zI v11_1)), (5, .int (zI 1)), (4, .int (zI v11_1)), (3, .int (zI w)), (0, .ref (β 0)), (1, .int (zI p))]) hx hb dX10_drain_77 rfl hl (by decide) rfl (fun ls hl => ?_)
              refine z_iinc (k := 3) (v := w + 1) (lv' := [(3, .int (zI (w + 1))), (2, .int (zI v11_1)), (5, .int (zI 1)), (4, .int (zI v11_1)), (0, .ref (β 0)), (1, .int (zI p))]) hx hb dX10_drain_78 hl rfl rfl (by decide) rfl (fun ls hl => ?_)
              refine lv_goto (tgt := 4) hx hb dX10_drain_81 (by decide) ?_
              exact ih_4 v11_1 (w + 1) _ _ hP hD hS _ (lv_sub hl [1, 0, 4, 5] rfl) (by first | assumption | rfl | omega) (by rw [S_lowI_up hw.1]; unfold lowStep; rw [← hv11_0]; rcases hf with ⟨q1, q2⟩ | ⟨q1, q2, q3, q4⟩; (rw [q2]; (repeat' split) <;> omega); (rw [q3]; (repeat' split) <;> omega)) (by omega)
          · refine lv_aload_n hx hb dX10_drain_43 rfl (lv_at hl 3 rfl) ?_
            refine va_get (D := D) (ci := 10) (v := .ref (β 1)) (C := RX10) (T := TX10) (N := 17) hx hb hts (fun w h => List.mem_cons_of_mem _ (wx_X10 w h)) hown hK hP 0 rfl rfl 0 (by decide) (hW0 _ wf_X10_7) (fun _ h9 => h9) rfl dX10_drain_44 ?_
            refine lv_iload hx hb dX10_drain_47 (lv_at hl 0 rfl) ?_
            refine z_iald (f := ms) hx hb hK hP 1 0 rfl rfl ⟨⟨by omega, by omega⟩, by decide⟩ dX10_drain_49 ?_
            have hb_49 := hms v11_1 (by omega) (by omega)
            refine lv_aload_n hx hb dX10_drain_50 rfl (lv_at hl 3 rfl) ?_
            refine va_get (D := D) (ci := 10) (v := .ref (β 1)) (C := RX10) (T := TX10) (N := 17) hx hb hts (fun w h => List.mem_cons_of_mem _ (wx_X10 w h)) hown hK hP 0 rfl rfl 0 (by decide) (hW0 _ wf_X10_7) (fun _ h9 => h9) rfl dX10_drain_51 ?_
            refine lv_iload_n hx hb dX10_drain_54 rfl (lv_at hl 1 rfl) ?_
            refine z_iald (f := ms) hx hb hK hP 1 0 rfl rfl ⟨⟨by omega, by omega⟩, by decide⟩ dX10_drain_55 ?_
            have hb_55 := hms f9 (by omega) (by omega)
            refine z_icge (tgt := 63) hx hb ⟨by omega, by omega⟩ ⟨by omega, by omega⟩ dX10_drain_56 (by decide) (fun c_56 => ?_) (fun c_56 => ?_)
            · refine lv_iconst (v := zI 0) hx hb dX10_drain_63 rfl ?_
              refine lv_istore (lv' := [(5, .int (zI 0)), (4, .int (zI v11_1)), (2, .int (zI f9)), (3, .int (zI w)), (0, .ref (β 0)), (1, .int (zI p))]) hx hb dX10_drain_64 hl (by decide) rfl (fun ls hl => ?_)
              refine lv_iload hx hb dX10_drain_66 (lv_at hl 0 rfl) ?_
              refine z_ifeq (tgt := 76) hx hb ⟨by omega, by omega⟩ dX10_drain_68 (by decide) (fun c_68 => ?_) (fun c_68 => ?_)
              · refine lv_iload_n hx hb dX10_drain_76 rfl (lv_at hl 2 rfl) ?_
                refine lv_istore_n (lv' := [(2, .int (zI f9)), (5, .int (zI 0)), (4, .int (zI v11_1)), (3, .int (zI w)), (0, .ref (β 0)), (1, .int (zI p))]) hx hb dX10_drain_77 rfl hl (by decide) rfl (fun ls hl => ?_)
                refine z_iinc (k := 3) (v := w + 1) (lv' := [(3, .int (zI (w + 1))), (2, .int (zI f9)), (5, .int (zI 0)), (4, .int (zI v11_1)), (0, .ref (β 0)), (1, .int (zI p))]) hx hb dX10_drain_78 hl rfl rfl (by decide) rfl (fun ls hl => ?_)
                refine lv_goto (tgt := 4) hx hb dX10_drain_81 (by decide) ?_
                exact ih_4 f9 (w + 1) _ _ hP hD hS _ (lv_sub hl [1, 0, 4, 5] rfl) (by first | assumption | rfl | omega) (by rw [S_lowI_up hw.1]; unfold lowStep; rw [← hv11_0]; rcases hf with ⟨q1, q2⟩ | ⟨q1, q2, q3, q4⟩; (rw [q2]; (repeat' split) <;> omega); (rw [q3]; (repeat' split) <;> omega)) (by omega)
              · exact absurd c_68 (by decide)
            · refine lv_iconst (v := zI 1) hx hb dX10_drain_59 rfl ?_
              refine lv_goto (tgt := 64) hx hb dX10_drain_60 (by decide) ?_
              refine lv_istore (lv' := [(5, .int (zI 1)), (4, .int (zI v11_1)), (2, .int (zI f9)), (3, .int (zI w)), (0, .ref (β 0)), (1, .int (zI p))]) hx hb dX10_drain_64 hl (by decide) rfl (fun ls hl => ?_)
              refine lv_iload hx hb dX10_drain_66 (lv_at hl 0 rfl) ?_
              refine z_ifeq (tgt := 76) hx hb ⟨by omega, by omega⟩ dX10_drain_68 (by decide) (fun c_68 => ?_) (fun c_68 => ?_)
              · exact absurd c_68 (by decide)
              · refine lv_iload hx hb dX10_drain_71 (lv_at hl 1 rfl) ?_
                refine lv_goto (tgt := 77) hx hb dX10_drain_73 (by decide) ?_
                refine lv_istore_n (lv' := [(2, .int (zI v11_1)), (5, .int (zI 1)), (4, .int (zI v11_1)), (3, .int (zI w)), (0, .ref (β 0)), (1, .int (zI p))]) hx hb dX10_drain_77 rfl hl (by decide) rfl (fun ls hl => ?_)
                refine z_iinc (k := 3) (v := w + 1) (lv' := [(3, .int (zI (w + 1))), (2, .int (zI v11_1)), (5, .int (zI 1)), (4, .int (zI v11_1)), (0, .ref (β 0)), (1, .int (zI p))]) hx hb dX10_drain_78 hl rfl rfl (by decide) rfl (fun ls hl => ?_)
                refine lv_goto (tgt := 4) hx hb dX10_drain_81 (by decide) ?_
                exact ih_4 v11_1 (w + 1) _ _ hP hD hS _ (lv_sub hl [1, 0, 4, 5] rfl) (by first | assumption | rfl | omega) (by rw [S_lowI_up hw.1]; unfold lowStep; rw [← hv11_0]; rcases hf with ⟨q1, q2⟩ | ⟨q1, q2, q3, q4⟩; (rw [q2]; (repeat' split) <;> omega); (rw [q3]; (repeat' split) <;> omega)) (by omega)

abbrev wz_X10_drop : List Cond := .code yX10_drop cX10_drop 3 (some .int) :: W0
abbrev rm_X10_drop : Room := { frames := 4, cells := 0, slots := 0, locals := 91 }
theorem hd_X10_drop : yX10_drop.cls = RX10 ∧ yX10_drop.cls ≠ "java/lang/invoke/MethodHandle" ∧ yX10_drop.cls ≠ "java/lang/invoke/VarHandle" ∧ (parseMethodDescriptor yX10_drop.desc).map (fun d => d.parameters.length) = some 1 := by decide +kernel
set_option maxHeartbeats 4000000 in
set_option maxRecDepth 100000 in
theorem c_X10_drop (l : Launch) (D : va_G) (τ : Nat → Nat) (β : Nat → Nat) (δ : Nat → ClassId) (ms : IA) (mb : IA) (mo : IA) (mp : BA) (mf : IA) (mn : IA) (mi : IA) (mc : IA) (mq : BA) (mr : IA) (mw : IA) (mk : Int) (ml : Int) (mt : Int) (ma : Int) (mx : Bool) (mh : Int64) (p : Int) (hp : 0 ≤ p ∧ p < 49) (hms : ∀ k, 0 ≤ k → k < 49 → 0 ≤ ms k ∧ ms k ≤ 99) : cM l yX10_drop wz_X10_drop rm_X10_drop D τ (tyM δ) [.ref (β 0), .int (zI p)] (wM β δ ms mb mo mp mf mn mi mc mq mr mw mk ml mt ma mx mh) (zQi (fun r w => ∃ (v : Int), (v = S_drop ms p) ∧ (0 ≤ v ∧ v ≤ 99) ∧ r = zI v ∧ wM β δ ms mb mo mp mf mn mi mc mq mr mw mk ml mt ma mx mh = w)) := by
  refine z_ofM (cc := cX10_drop) (maxL := 3) (ret := (some .int)) (by decide +kernel) rfl (Nat.le_of_ble_eq_true rfl) ?_
  intro pg e s m args below meth c hC hr hlk hnm hK hP A hD hG hA hS ls hl Q hQ
  have hx := hC.1
  have hb := hC.2.1
  have hml := hC.2.2.1
  have hown := hC.2.2.2.1
  have hts := hC.2.2.2.2
  have hB : ∀ w ∈ W0, w ∈ wz_X10_drop := fun _ h => List.mem_cons_of_mem _ h
  have hW0 : ∀ w ∈ W0, w.before args s = true := fun w h => hts w (hB w h)
  have hl : lv_has ls 3 [(0, .ref (β 0)), (1, .int (zI p))] := hl
  refine lv_aload_n hx hb dX10_drop_0 rfl (lv_at hl 0 rfl) ?_
  refine lv_iload_n hx hb dX10_drop_1 rfl (lv_at hl 1 rfl) ?_
  refine z_calli hP hD hS hA (va_runV (As := [.int (zI p)]) (rest := []) hC (c_X10_drain l D τ β δ ms mb mo mp mf mn mi mc mq mr mw mk ml mt ma mx mh p (by first | assumption | rfl | omega) (by first | assumption | rfl | omega) _) (cwV 1 hts (gV hB wl_X10_74 wn_X10_drain ws_X10_drain wi_X10 wc_X10_drain) rfl rfl rfl hd_X10_drain ⟨Nat.le_of_ble_eq_true rfl, Nat.le_of_ble_eq_true rfl⟩) (zp_V hK hP hD hS hA hG (ci := 10) (q0 := 0) rfl rfl rfl) rfl rfl hl.1 rfl (lv_room (Nat.le_of_ble_eq_true rfl)) dX10_drop_2 ⟨Nat.le_of_ble_eq_true rfl, Nat.le_of_ble_eq_true rfl⟩) (fun r w1 H locs hq9 hP hD hS => ?_)
  obtain ⟨v2_1, hv2_0, hv2_1, rfl, rfl⟩ := hq9
  have hP : va_P D vwCl (wM β δ ms mb mo mp mf mn mi mc mq mr mw mk ml mt ma mx mh) H := hP
  have hD : va_D A (wM β δ ms mb mo mp mf mn mi mc mq mr mw mk ml mt ma mx mh) := hD
  refine lv_istore_n (lv' := [(2, .int (zI v2_1)), (0, .ref (β 0)), (1, .int (zI p))]) hx hb dX10_drop_5 rfl hl (by decide) rfl (fun ls hl => ?_)
  refine lv_iload_n hx hb dX10_drop_6 rfl (lv_at hl 0 rfl) ?_
  refine lv_iconst (v := zI (-1)) hx hb dX10_drop_7 rfl ?_
  refine z_icne (tgt := 15) hx hb ⟨by omega, by omega⟩ ⟨by omega, by omega⟩ dX10_drop_8 (by decide) (fun c_8 => ?_) (fun c_8 => ?_)
  · refine lv_aload_n hx hb dX10_drop_15 rfl (lv_at hl 1 rfl) ?_
    refine va_get (D := D) (ci := 10) (v := .ref (β 1)) (C := RX10) (T := TX10) (N := 17) hx hb hts (fun w h => List.mem_cons_of_mem _ (wx_X10 w h)) hown hK hP 0 rfl rfl 0 (by decide) (hW0 _ wf_X10_7) (fun _ h9 => h9) rfl dX10_drop_16 ?_
    refine lv_iload_n hx hb dX10_drop_19 rfl (lv_at hl 2 rfl) ?_
    refine z_iald (f := ms) hx hb hK hP 1 0 rfl rfl ⟨⟨by omega, by omega⟩, by decide⟩ dX10_drop_20 ?_
    have hb_20 := hms p (by omega) (by omega)
    refine lv_aload_n hx hb dX10_drop_21 rfl (lv_at hl 1 rfl) ?_
    refine va_get (D := D) (ci := 10) (v := .ref (β 1)) (C := RX10) (T := TX10) (N := 17) hx hb hts (fun w h => List.mem_cons_of_mem _ (wx_X10 w h)) hown hK hP 0 rfl rfl 0 (by decide) (hW0 _ wf_X10_7) (fun _ h9 => h9) rfl dX10_drop_22 ?_
    refine lv_iload_n hx hb dX10_drop_25 rfl (lv_at hl 0 rfl) ?_
    refine z_iald (f := ms) hx hb hK hP 1 0 rfl rfl ⟨⟨by omega, by omega⟩, by decide⟩ dX10_drop_26 ?_
    have hb_26 := hms v2_1 (by omega) (by omega)
    refine z_isub hx hb dX10_drop_27 ?_
    exact z_iret hC hr hlk hQ hP hD hS ⟨(ms p) - (ms v2_1), (by first | exact (S_drop_next hp (hv2_0.symm.trans c_8)).symm | (rw [S_drop_to (fun h9 => c_8 (hv2_0.trans h9)), ← hv2_0])), (by first | omega | (have z8 := S_drop_to (h := ms) (k := p) (fun h9 => c_8 (hv2_0.trans h9)); have z9 := S_drop_b hms hp; rw [z8, ← hv2_0] at z9; exact z9)), rfl, rfl⟩ dX10_drop_28
  · refine lv_iconst (v := zI 0) hx hb dX10_drop_11 rfl ?_
    refine lv_goto (tgt := 28) hx hb dX10_drop_12 (by decide) ?_
    exact z_iret hC hr hlk hQ hP hD hS ⟨0, (by first | exact (S_drop_next hp (hv2_0.symm.trans c_8)).symm | (rw [S_drop_to (fun h9 => c_8 (hv2_0.trans h9)), ← hv2_0])), (by first | omega | (have z8 := S_drop_to (h := ms) (k := p) (fun h9 => c_8 (hv2_0.trans h9)); have z9 := S_drop_b hms hp; rw [z8, ← hv2_0] at z9; exact z9)), rfl, rfl⟩ dX10_drop_28

abbrev wz_X10_showers : List Cond := .code yX10_showers cX10_showers 3 (some .int) :: W0
abbrev rm_X10_showers : Room := { frames := 5, cells := 0, slots := 0, locals := 113 }
theorem hd_X10_showers : yX10_showers.cls = RX10 ∧ yX10_showers.cls ≠ "java/lang/invoke/MethodHandle" ∧ yX10_showers.cls ≠ "java/lang/invoke/VarHandle" ∧ (parseMethodDescriptor yX10_showers.desc).map (fun d => d.parameters.length) = some 0 := by decide +kernel
set_option maxHeartbeats 4000000 in
set_option maxRecDepth 100000 in
theorem c_X10_showers (l : Launch) (D : va_G) (τ : Nat → Nat) (β : Nat → Nat) (δ : Nat → ClassId) (ms : IA) (mb : IA) (mo : IA) (mp : BA) (mf : IA) (mn : IA) (mi : IA) (mc : IA) (mq : BA) (mr : IA) (mw : IA) (mk : Int) (ml : Int) (mt : Int) (ma : Int) (mx : Bool) (mh : Int64) (hms : ∀ k, 0 ≤ k → k < 49 → 0 ≤ ms k ∧ ms k ≤ 99) : cM l yX10_showers wz_X10_showers rm_X10_showers D τ (tyM δ) [.ref (β 0)] (wM β δ ms mb mo mp mf mn mi mc mq mr mw mk ml mt ma mx mh) (zQi (fun r w => ∃ (s2 : IA), ∃ (n2 : IA), ∃ (v : Int), (s2 = S_wash1 ms) ∧ (v = S_given1 ms) ∧ (0 ≤ v ∧ v ≤ 49) ∧ r = zI v ∧ wM β δ s2 mb mo mp mf n2 mi mc mq mr mw mk ml mt ma mx mh = w)) := by
  refine z_ofM (cc := cX10_showers) (maxL := 3) (ret := (some .int)) (by decide +kernel) rfl (Nat.le_of_ble_eq_true rfl) ?_
  intro pg e s m args below meth c hC hr hlk hnm hK hP A hD hG hA hS ls hl Q hQ
  have hx := hC.1
  have hb := hC.2.1
  have hml := hC.2.2.1
  have hown := hC.2.2.2.1
  have hts := hC.2.2.2.2
  have hB : ∀ w ∈ W0, w ∈ wz_X10_showers := fun _ h => List.mem_cons_of_mem _ h
  have hW0 : ∀ w ∈ W0, w.before args s = true := fun w h => hts w (hB w h)
  have hl : lv_has ls 3 [(0, .ref (β 0))] := hl
  refine lv_iconst (v := zI 0) hx hb dX10_showers_0 rfl ?_
  refine lv_istore_n (lv' := [(1, .int (zI 0)), (0, .ref (β 0))]) hx hb dX10_showers_1 rfl hl (by decide) rfl (fun ls hl => ?_)
  refine lv_iconst (v := zI 0) hx hb dX10_showers_2 rfl ?_
  refine lv_istore_n (lv' := [(2, .int (zI 0)), (1, .int (zI 0)), (0, .ref (β 0))]) hx hb dX10_showers_3 rfl hl (by decide) rfl (fun ls hl => ?_)
  suffices HL_4 : ∀ (n_4 : Nat), ∀ (n1 : IA) (i : Int) (H : Heap) (locs : List Loc) (hP : va_P D vwCl (wM β δ ms mb mo mp mf n1 mi mc mq mr mw mk ml mt ma mx mh) H) (hD : va_D A (wM β δ ms mb mo mp mf n1 mi mc mq mr mw mk ml mt ma mx mh)) (hS : va_S A s.heap H locs) (ls : Array Slot) (hl : lv_has ls 3 [(2, .int (zI i)), (1, .int (zI 0)), (0, .ref (β 0))]) (hi : 0 ≤ i ∧ i ≤ 49) (hn1 : n1 = zmix i ms mn) (hm : (49 - i).toNat < n_4), W pg l e rm_X10_showers s m args below meth c H locs 0 0 Q (F0 m 4 ls []) from HL_4 _ mn 0 _ _ hP hD hS _ (lv_sub hl [0, 1, 2] rfl) (by first | assumption | rfl | omega) (by exact (zmix_0 _ _).symm) (Nat.lt_succ_self _)
  intro n_4
  induction n_4 with
  | zero => intro n1 i H locs hP hD hS ls hl hi hn1 hm; exact absurd hm (Nat.not_lt_zero _)
  | succ n_4 ih_4 =>
    intro n1 i H locs hP hD hS ls hl hi hn1 hm
    refine lv_iload_n hx hb dX10_showers_4 rfl (lv_at hl 0 rfl) ?_
    refine lv_bipush (v := zI 49) hx hb dX10_showers_5 (zI_b8 (by decide)) ?_
    refine z_icge (tgt := 28) hx hb ⟨by omega, by omega⟩ ⟨by omega, by omega⟩ dX10_showers_7 (by decide) (fun c_7 => ?_) (fun c_7 => ?_)
    · refine lv_iconst (v := zI 0) hx hb dX10_showers_28 rfl ?_
      refine lv_istore_n (lv' := [(2, .int (zI 0)), (1, .int (zI 0)), (0, .ref (β 0))]) hx hb dX10_showers_29 rfl hl (by decide) rfl (fun ls hl => ?_)
      suffices HL_30 : ∀ (n_30 : Nat), ∀ (n3 : IA) (g : Int) (j : Int) (H : Heap) (locs : List Loc) (hP : va_P D vwCl (wM β δ ms mb mo mp mf n3 mi mc mq mr mw mk ml mt ma mx mh) H) (hD : va_D A (wM β δ ms mb mo mp mf n3 mi mc mq mr mw mk ml mt ma mx mh)) (hS : va_S A s.heap H locs) (ls : Array Slot) (hl : lv_has ls 3 [(1, .int (zI g)), (2, .int (zI j)), (0, .ref (β 0))]) (hj : 0 ≤ j ∧ j ≤ 49) (hn3 : ∀ k, 0 ≤ k → k < 49 → n3 k = ms k + S_wc ms j k) (hg : g = zC (S_steep ms) j) (hgb : 0 ≤ g ∧ g ≤ j) (hm : (49 - j).toNat < n_30), W pg l e rm_X10_showers s m args below meth c H locs 0 0 Q (F0 m 30 ls []) from HL_30 _ n1 0 0 _ _ hP hD hS _ (lv_sub hl [1, 0, 2] rfl) (by first | assumption | rfl | omega) (by intro k q1 q2; rw [hn1, show i = 49 by omega, zmix_at ⟨q1, q2⟩, S_wc_0]; exact (Int.add_zero _).symm) (by exact (zC_0 _).symm) (by first | assumption | rfl | omega) (Nat.lt_succ_self _)
      intro n_30
      induction n_30 with
      | zero => intro n3 g j H locs hP hD hS ls hl hj hn3 hg hgb hm; exact absurd hm (Nat.not_lt_zero _)
      | succ n_30 ih_30 =>
        intro n3 g j H locs hP hD hS ls hl hj hn3 hg hgb hm
        refine lv_iload_n hx hb dX10_showers_30 rfl (lv_at hl 1 rfl) ?_
        refine lv_bipush (v := zI 49) hx hb dX10_showers_31 (zI_b8 (by decide)) ?_
        refine z_icge (tgt := 78) hx hb ⟨by omega, by omega⟩ ⟨by omega, by omega⟩ dX10_showers_33 (by decide) (fun c_33 => ?_) (fun c_33 => ?_)
        · refine lv_aload_n hx hb dX10_showers_78 rfl (lv_at hl 2 rfl) ?_
          refine z_calli hP hD hS hA (va_runV (As := []) (rest := []) hC (c_X10_takes l D τ β δ ms mb mo mp mf n3 mi mc mq mr mw mk ml mt ma mx mh (by exact hms) (by intro k q1 q2; have z1 := hn3 k q1 q2; have z2 := S_wc_b (h := ms) j hj.1 k; have z3 := hms k q1 q2; omega) _) (cwV 0 hts (gV hB wl_X10_66 wn_X10_takes ws_X10_takes wi_X10 wc_X10_takes) rfl rfl rfl hd_X10_takes ⟨Nat.le_of_ble_eq_true rfl, Nat.le_of_ble_eq_true rfl⟩) (zp_V hK hP hD hS hA hG (ci := 10) (q0 := 0) rfl rfl rfl) rfl rfl hl.1 rfl (lv_room (Nat.le_of_ble_eq_true rfl)) dX10_showers_79 ⟨Nat.le_of_ble_eq_true rfl, Nat.le_of_ble_eq_true rfl⟩) (fun r w1 H locs hq9 hP hD hS => ?_)
          obtain ⟨s79_1, v79_2, hv79_0, hv79_1, hv79_2, rfl, rfl⟩ := hq9
          have hP : va_P D vwCl (wM β δ s79_1 mb mo mp mf n3 mi mc mq mr mw mk ml mt ma mx mh) H := hP
          have hD : va_D A (wM β δ s79_1 mb mo mp mf n3 mi mc mq mr mw mk ml mt ma mx mh) := hD
          refine lv_istore_n (lv' := [(2, .int (zI v79_2)), (1, .int (zI g)), (0, .ref (β 0))]) hx hb dX10_showers_82 rfl hl (by decide) rfl (fun ls hl => ?_)
          have hze : zmix 49 (fun k => clip (n3 k)) ms = S_wash1 ms := zmix_cg (fun k q1 q2 => by show clip (n3 k) = clip (ms k + S_wc ms 49 k); rw [hn3 k q1 q2, show j = 49 by omega])
          refine lv_iload_n hx hb dX10_showers_83 rfl (lv_at hl 1 rfl) ?_
          exact z_iret hC hr hlk hQ hP hD hS ⟨s79_1, n3, g, (by rw [hv79_0]; exact hze), (by rw [hg, show j = 49 by omega]; rfl), (by omega), rfl, rfl⟩ dX10_showers_84
        · refine lv_aload_n hx hb dX10_showers_36 rfl (lv_at hl 2 rfl) ?_
          refine lv_iload_n hx hb dX10_showers_37 rfl (lv_at hl 1 rfl) ?_
          refine z_calli hP hD hS hA (va_runV (As := [.int (zI j)]) (rest := []) hC (c_X10_drop l D τ β δ ms mb mo mp mf n3 mi mc mq mr mw mk ml mt ma mx mh j (by first | assumption | rfl | omega) (by first | assumption | rfl | omega) _) (cwV 1 hts (gV hB wl_X10_77 wn_X10_drop ws_X10_drop wi_X10 wc_X10_drop) rfl rfl rfl hd_X10_drop ⟨Nat.le_of_ble_eq_true rfl, Nat.le_of_ble_eq_true rfl⟩) (zp_V hK hP hD hS hA hG (ci := 10) (q0 := 0) rfl rfl rfl) rfl rfl hl.1 rfl (lv_room (Nat.le_of_ble_eq_true rfl)) dX10_showers_38 ⟨Nat.le_of_ble_eq_true rfl, Nat.le_of_ble_eq_true rfl⟩) (fun r w1 H locs hq9 hP hD hS => ?_)
          obtain ⟨v38_3, hv38_0, hv38_1, rfl, rfl⟩ := hq9
          have hP : va_P D vwCl (wM β δ ms mb mo mp mf n3 mi mc mq mr mw mk ml mt ma mx mh) H := hP
          have hD : va_D A (wM β δ ms mb mo mp mf n3 mi mc mq mr mw mk ml mt ma mx mh) := hD
          refine lv_iconst (v := zI 1) hx hb dX10_showers_41 rfl ?_
          refine z_icle (tgt := 72) hx hb ⟨by omega, by omega⟩ ⟨by omega, by omega⟩ dX10_showers_42 (by decide) (fun c_42 => ?_) (fun c_42 => ?_)
          · refine z_iinc (k := 1) (v := j + 1) (lv' := [(2, .int (zI (j + 1))), (1, .int (zI g)), (0, .ref (β 0))]) hx hb dX10_showers_72 hl rfl rfl (by decide) rfl (fun ls hl => ?_)
            refine lv_goto (tgt := 30) hx hb dX10_showers_75 (by decide) ?_
            exact ih_30 n3 g (j + 1) _ _ hP hD hS _ (lv_sub hl [1, 0, 2] rfl) (by first | assumption | rfl | omega) (by intro k q1 q2; rw [S_wc_up hj.1]; first | (rw [if_neg (by unfold S_steep; simp only [decide_eq_true_eq]; omega)]; exact hn3 k q1 q2) | (rw [if_pos (by unfold S_steep; simp only [decide_eq_true_eq]; omega), ← hv61_0]; exact wc_step hne hn3 (by omega) (by omega) ⟨q1, q2⟩)) (by rw [zC_up hj.1, ← hg]; first | (rw [z1_f (by unfold S_steep; simp only [decide_eq_false_iff_not]; omega)]; omega) | (rw [z1_t (by unfold S_steep; simp only [decide_eq_true_eq]; omega)])) (by first | assumption | rfl | omega) (by omega)
          · refine lv_aload_n hx hb dX10_showers_45 rfl (lv_at hl 2 rfl) ?_
            refine va_get (D := D) (ci := 10) (v := .ref (β 6)) (C := RX10) (T := TX10) (N := 17) hx hb hts (fun w h => List.mem_cons_of_mem _ (wx_X10 w h)) hown hK hP 0 rfl rfl 8 (by decide) (hW0 _ wf_X10_26) (fun _ h9 => h9) rfl dX10_showers_46 ?_
            refine lv_iload_n hx hb dX10_showers_49 rfl (lv_at hl 1 rfl) ?_
            refine lv_dup2_11 hx hb dX10_showers_50 rfl rfl ?_
            refine z_iald (f := n3) hx hb hK hP 6 5 rfl rfl ⟨⟨by omega, by omega⟩, by decide⟩ dX10_showers_51 ?_
            refine lv_iconst (v := zI 1) hx hb dX10_showers_52 rfl ?_
            refine z_isub hx hb dX10_showers_53 ?_
            refine z_iast (f := n3) (v := (n3 j) - 1) hx hb hK hP hD hS 6 5 rfl rfl ⟨⟨by omega, by omega⟩, by decide⟩ dX10_showers_54 (fun H locs hP hD hS => ?_)
            have hP : va_P D vwCl (wM β δ ms mb mo mp mf ((zu n3 j ((n3 j) - 1))) mi mc mq mr mw mk ml mt ma mx mh) H := hP
            have hD : va_D A (wM β δ ms mb mo mp mf ((zu n3 j ((n3 j) - 1))) mi mc mq mr mw mk ml mt ma mx mh) := hD
            refine lv_aload_n hx hb dX10_showers_55 rfl (lv_at hl 2 rfl) ?_
            refine va_get (D := D) (ci := 10) (v := .ref (β 6)) (C := RX10) (T := TX10) (N := 17) hx hb hts (fun w h => List.mem_cons_of_mem _ (wx_X10 w h)) hown hK hP 0 rfl rfl 8 (by decide) (hW0 _ wf_X10_26) (fun _ h9 => h9) rfl dX10_showers_56 ?_
            refine lv_aload_n hx hb dX10_showers_59 rfl (lv_at hl 2 rfl) ?_
            refine lv_iload_n hx hb dX10_showers_60 rfl (lv_at hl 1 rfl) ?_
            refine z_calli hP hD hS hA (va_runV (As := [.int (zI j)]) (rest := [.ref (β 6)]) hC (c_X10_drain l D τ β δ ms mb mo mp mf (zu n3 j ((n3 j) - 1)) mi mc mq mr mw mk ml mt ma mx mh j (by first | assumption | rfl | omega) (by first | assumption | rfl | omega) _) (cwV 1 hts (gV hB wl_X10_74 wn_X10_drain ws_X10_drain wi_X10 wc_X10_drain) rfl rfl rfl hd_X10_drain ⟨Nat.le_of_ble_eq_true rfl, Nat.le_of_ble_eq_true rfl⟩) (zp_V hK hP hD hS hA hG (ci := 10) (q0 := 0) rfl rfl rfl) rfl rfl hl.1 rfl (lv_room (Nat.le_of_ble_eq_true rfl)) dX10_showers_61 ⟨Nat.le_of_ble_eq_true rfl, Nat.le_of_ble_eq_true rfl⟩) (fun r w1 H locs hq9 hP hD hS => ?_)
            obtain ⟨v61_4, hv61_0, hv61_1, rfl, rfl⟩ := hq9
            have hP : va_P D vwCl (wM β δ ms mb mo mp mf ((zu n3 j ((n3 j) - 1))) mi mc mq mr mw mk ml mt ma mx mh) H := hP
            have hD : va_D A (wM β δ ms mb mo mp mf ((zu n3 j ((n3 j) - 1))) mi mc mq mr mw mk ml mt ma mx mh) := hD
            have hn61 : v61_4 ≠ -1 := fun h9 => by have z9 := S_drop_next (h := ms) (k := j) (by omega) (hv61_0.symm.trans h9); omega
            have hne : v61_4 ≠ j := by rw [hv61_0]; exact S_next_ne (by omega)
            refine lv_dup2_11 hx hb dX10_showers_64 rfl rfl ?_
            refine z_iald (f := zu n3 j ((n3 j) - 1)) hx hb hK hP 6 5 rfl rfl ⟨⟨by omega, by omega⟩, by decide⟩ dX10_showers_65 ?_
            refine lv_iconst (v := zI 1) hx hb dX10_showers_66 rfl ?_
            refine z_iadd hx hb dX10_showers_67 ?_
            refine z_iast (f := zu n3 j ((n3 j) - 1)) (v := ((zu n3 j ((n3 j) - 1)) v61_4) + 1) hx hb hK hP hD hS 6 5 rfl rfl ⟨⟨by omega, by omega⟩, by decide⟩ dX10_showers_68 (fun H locs hP hD hS => ?_)
            have hP : va_P D vwCl (wM β δ ms mb mo mp mf ((zu (zu n3 j ((n3 j) - 1)) v61_4 (((zu n3 j ((n3 j) - 1)) v61_4) + 1))) mi mc mq mr mw mk ml mt ma mx mh) H := hP
            have hD : va_D A (wM β δ ms mb mo mp mf ((zu (zu n3 j ((n3 j) - 1)) v61_4 (((zu n3 j ((n3 j) - 1)) v61_4) + 1))) mi mc mq mr mw mk ml mt ma mx mh) := hD
            refine z_iinc (k := 0) (v := g + 1) (lv' := [(1, .int (zI (g + 1))), (2, .int (zI j)), (0, .ref (β 0))]) hx hb dX10_showers_69 hl rfl rfl (by decide) rfl (fun ls hl => ?_)
            refine z_iinc (k := 1) (v := j + 1) (lv' := [(2, .int (zI (j + 1))), (1, .int (zI (g + 1))), (0, .ref (β 0))]) hx hb dX10_showers_72 hl rfl rfl (by decide) rfl (fun ls hl => ?_)
            refine lv_goto (tgt := 30) hx hb dX10_showers_75 (by decide) ?_
            exact ih_30 (zu (zu n3 j ((n3 j) - 1)) v61_4 (((zu n3 j ((n3 j) - 1)) v61_4) + 1)) (g + 1) (j + 1) _ _ hP hD hS _ (lv_sub hl [1, 0, 2] rfl) (by first | assumption | rfl | omega) (by intro k q1 q2; rw [S_wc_up hj.1]; first | (rw [if_neg (by unfold S_steep; simp only [decide_eq_true_eq]; omega)]; exact hn3 k q1 q2) | (rw [if_pos (by unfold S_steep; simp only [decide_eq_true_eq]; omega), ← hv61_0]; exact wc_step hne hn3 (by omega) (by omega) ⟨q1, q2⟩)) (by rw [zC_up hj.1, ← hg]; first | (rw [z1_f (by unfold S_steep; simp only [decide_eq_false_iff_not]; omega)]; omega) | (rw [z1_t (by unfold S_steep; simp only [decide_eq_true_eq]; omega)])) (by first | assumption | rfl | omega) (by omega)
    · refine lv_aload_n hx hb dX10_showers_10 rfl (lv_at hl 2 rfl) ?_
      refine va_get (D := D) (ci := 10) (v := .ref (β 6)) (C := RX10) (T := TX10) (N := 17) hx hb hts (fun w h => List.mem_cons_of_mem _ (wx_X10 w h)) hown hK hP 0 rfl rfl 8 (by decide) (hW0 _ wf_X10_26) (fun _ h9 => h9) rfl dX10_showers_11 ?_
      refine lv_iload_n hx hb dX10_showers_14 rfl (lv_at hl 0 rfl) ?_
      refine lv_aload_n hx hb dX10_showers_15 rfl (lv_at hl 2 rfl) ?_
      refine va_get (D := D) (ci := 10) (v := .ref (β 1)) (C := RX10) (T := TX10) (N := 17) hx hb hts (fun w h => List.mem_cons_of_mem _ (wx_X10 w h)) hown hK hP 0 rfl rfl 0 (by decide) (hW0 _ wf_X10_7) (fun _ h9 => h9) rfl dX10_showers_16 ?_
      refine lv_iload_n hx hb dX10_showers_19 rfl (lv_at hl 0 rfl) ?_
      refine z_iald (f := ms) hx hb hK hP 1 0 rfl rfl ⟨⟨by omega, by omega⟩, by decide⟩ dX10_showers_20 ?_
      refine z_iast (f := n1) (v := ms i) hx hb hK hP hD hS 6 5 rfl rfl ⟨⟨by omega, by omega⟩, by decide⟩ dX10_showers_21 (fun H locs hP hD hS => ?_)
      have hP : va_P D vwCl (wM β δ ms mb mo mp mf ((zu n1 i (ms i))) mi mc mq mr mw mk ml mt ma mx mh) H := hP
      have hD : va_D A (wM β δ ms mb mo mp mf ((zu n1 i (ms i))) mi mc mq mr mw mk ml mt ma mx mh) := hD
      refine z_iinc (k := 0) (v := i + 1) (lv' := [(2, .int (zI (i + 1))), (1, .int (zI 0)), (0, .ref (β 0))]) hx hb dX10_showers_22 hl rfl rfl (by decide) rfl (fun ls hl => ?_)
      refine lv_goto (tgt := 4) hx hb dX10_showers_25 (by decide) ?_
      exact ih_4 (zu n1 i (ms i)) (i + 1) _ _ hP hD hS _ (lv_sub hl [0, 1, 2] rfl) (by first | assumption | rfl | omega) (by rw [hn1]; exact zmix_up hi.1 rfl) (by omega)

