theorem zmix_cg {n : Int} {f f' g : IA} (h : ∀ k, 0 ≤ k → k < n → f k = f' k) : zmix n f g = zmix n f' g := by
  funext k; unfold zmix; split
  · next q => exact h k q.1 q.2
  · rfl
theorem wc_step {f g w : IA} {j d k : Int} (hne : d ≠ j) (h : ∀ k, 0 ≤ k → k < 49 → f k = g k + w k) (hj : 0 ≤ j ∧ j < 49) (hd : 0 ≤ d ∧ d < 49) (hk : 0 ≤ k ∧ k < 49) : zu (zu f j (f j - 1)) d (zu f j (f j - 1) d + 1) k = g k + zu (zu w j (w j - 1)) d (zu w j (w j - 1) d + 1) k := by
  have h1 := h j hj.1 hj.2; have h2 := h d hd.1 hd.2; have h3 := h k hk.1 hk.2
  by_cases e1 : k = d
  · rw [e1, zu_s, zu_s, zu_n hne, zu_n hne]; omega
  · rw [zu_n e1, zu_n e1]
    by_cases e2 : k = j
    · rw [e2, zu_s, zu_s]; omega
    · rw [zu_n e2, zu_n e2]; exact h3
def S_tset (r c a : Int) : Int := if (0 ≤ r ∧ r ≤ 6) ∧ (0 ≤ c ∧ c ≤ 6) then (if 0 ≤ a ∧ a ≤ 99 then 0 else 2) else 1
def S_theap (r c a : Int) : Int := if (0 ≤ r ∧ r ≤ 6) ∧ (0 ≤ c ∧ c ≤ 6) then (if (-60 ≤ a ∧ a ≤ 60) ∧ a ≠ 0 then 0 else 2) else 1
def S_twash (a : Int) : Int := if 1 ≤ a ∧ a ≤ 50 then 0 else 1
def S_tapp (a n : Int) : Int := if 33 ≤ a ∧ a ≤ 126 then (if n = 60 then 2 else 0) else 1
def S_tslot (a : Int) : Int := if 0 ≤ a ∧ a ≤ 1 then 0 else 1
def S_tback (a : Int) (tk : BA) : Int := if 0 ≤ a ∧ a ≤ 1 then (if tk a = true then 0 else 2) else 1
def S_tundo (n : Int) : Int := if n = 0 then 1 else 0
def S_tpt (r c : Int) : Int := if (0 ≤ r ∧ r ≤ 6) ∧ (0 ≤ c ∧ c ≤ 6) then 0 else 1
def S_tlev (L : Int) : Int := if 0 ≤ L ∧ L ≤ 98 then 0 else 1
def S_tpie (r c L : Int) : Int := if (0 ≤ r ∧ r ≤ 5) ∧ (0 ≤ c ∧ c ≤ 5) then (if 0 ≤ L ∧ L ≤ 98 then 0 else 2) else 1
def S_sab (h : IA) (L : Int) : Int := zS (fun k => if L < h k then h k - L else 0) 49
def S_pie (h : IA) (r c L : Int) : Int := zC (S_xk (S_hi h L) (r * 6 + c)) 4 / 2
theorem pA4 {m : BA} {r c : Int} (hr : 0 ≤ r ∧ r < 6) (hc : 0 ≤ c ∧ c < 6) : zC (S_xk m (r * 6 + c)) 4 = z1 (m (7 * r + c) != m (7 * r + c + 1)) + z1 (m (7 * r + c + 1) != m (7 * r + c + 8)) + z1 (m (7 * r + c + 7) != m (7 * r + c + 8)) + z1 (m (7 * r + c) != m (7 * r + c + 7)) := by
  have e : ∀ s, S_cn (r * 6 + c) s = 7 * r + c + (if s = 0 then 0 else if s = 1 then 1 else if s = 2 then 8 else 7) := fun s => by unfold S_cn; omega
  rw [S_xk_N, e, e, e, e]; unfold kN
  simp only [reduceIte, Int.reduceEq, Int.add_zero]
  rw [show (m (7 * r + c + 7) != m (7 * r + c + 8)) = (m (7 * r + c + 8) != m (7 * r + c + 7)) from bne_comm, show (m (7 * r + c) != m (7 * r + c + 7)) = (m (7 * r + c + 7) != m (7 * r + c)) from bne_comm]
abbrev wz_X10_in : List Cond := .code yX10_in cX10_in 3 (some .boolean) :: W0
abbrev rm_X10_in : Room := { frames := 0, cells := 0, slots := 0, locals := 0 }
theorem hd_X10_in : yX10_in.cls = RX10 ∧ yX10_in.cls ≠ "java/lang/invoke/MethodHandle" ∧ yX10_in.cls ≠ "java/lang/invoke/VarHandle" ∧ (parseMethodDescriptor yX10_in.desc).map (fun d => d.parameters.length) = some 3 := by decide +kernel
set_option maxHeartbeats 4000000 in
set_option maxRecDepth 100000 in
theorem c_X10_in (l : Launch) (D : va_G) (τ : Nat → Nat) (ws : va_W) (tys : List (ClassId × FieldType)) (a : Int) (b : Int) (u : Int) (ha : -2147483648 ≤ a ∧ a < 2147483648) (hb2 : -2147483648 ≤ b ∧ b < 2147483648) (hc2 : -2147483648 ≤ u ∧ u < 2147483648) : cM l yX10_in wz_X10_in rm_X10_in D τ tys [.int (zI a), .int (zI b), .int (zI u)] (ws) (zQi (fun r w => ∃ (v : Bool), (v = true ↔ (b ≤ a ∧ a ≤ u)) ∧ r = bI v ∧ ws = w)) := by
  refine z_ofM (cc := cX10_in) (maxL := 3) (ret := (some .boolean)) (by decide +kernel) rfl (Nat.le_of_ble_eq_true rfl) ?_
  intro pg e s m args below meth c hC hr hlk hnm hK hP A hD hG hA hS ls hl Q hQ
  have hx := hC.1
  have hb := hC.2.1
  have hml := hC.2.2.1
  have hown := hC.2.2.2.1
  have hts := hC.2.2.2.2
  have hB : ∀ w ∈ W0, w ∈ wz_X10_in := fun _ h => List.mem_cons_of_mem _ h
  have hW0 : ∀ w ∈ W0, w.before args s = true := fun w h => hts w (hB w h)
  have hl : lv_has ls 3 [(0, .int (zI a)), (1, .int (zI b)), (2, .int (zI u))] := hl
  refine lv_iload_n hx hb dX10_in_0 rfl (lv_at hl 0 rfl) ?_
  refine lv_iload_n hx hb dX10_in_1 rfl (lv_at hl 1 rfl) ?_
  refine z_iclt (tgt := 14) hx hb ⟨by omega, by omega⟩ ⟨by omega, by omega⟩ dX10_in_2 (by decide) (fun c_2 => ?_) (fun c_2 => ?_)
  · refine lv_iconst (v := zI 0) hx hb dX10_in_14 rfl ?_
    refine W.eq (g2 := F0 m 15 ls [.int (bI false)]) rfl ?_
    exact z_zret hC hr hlk hQ hP hD hS ⟨false, (by constructor <;> intro h9 <;> first | (cases h9; done) | rfl | omega | assumption), rfl, rfl⟩ dX10_in_15
  · refine lv_iload_n hx hb dX10_in_5 rfl (lv_at hl 0 rfl) ?_
    refine lv_iload_n hx hb dX10_in_6 rfl (lv_at hl 2 rfl) ?_
    refine z_icgt (tgt := 14) hx hb ⟨by omega, by omega⟩ ⟨by omega, by omega⟩ dX10_in_7 (by decide) (fun c_7 => ?_) (fun c_7 => ?_)
    · refine lv_iconst (v := zI 0) hx hb dX10_in_14 rfl ?_
      refine W.eq (g2 := F0 m 15 ls [.int (bI false)]) rfl ?_
      exact z_zret hC hr hlk hQ hP hD hS ⟨false, (by constructor <;> intro h9 <;> first | (cases h9; done) | rfl | omega | assumption), rfl, rfl⟩ dX10_in_15
    · refine lv_iconst (v := zI 1) hx hb dX10_in_10 rfl ?_
      refine lv_goto (tgt := 15) hx hb dX10_in_11 (by decide) ?_
      refine W.eq (g2 := F0 m 15 ls [.int (bI true)]) rfl ?_
      exact z_zret hC hr hlk hQ hP hD hS ⟨true, (by constructor <;> intro h9 <;> first | (cases h9; done) | rfl | omega | assumption), rfl, rfl⟩ dX10_in_15

abbrev wz_X10_isPoint : List Cond := .code yX10_isPoint cX10_isPoint 2 (some .boolean) :: W0
abbrev rm_X10_isPoint : Room := { frames := 1, cells := 0, slots := 0, locals := 22 }
theorem hd_X10_isPoint : yX10_isPoint.cls = RX10 ∧ yX10_isPoint.cls ≠ "java/lang/invoke/MethodHandle" ∧ yX10_isPoint.cls ≠ "java/lang/invoke/VarHandle" ∧ (parseMethodDescriptor yX10_isPoint.desc).map (fun d => d.parameters.length) = some 2 := by decide +kernel
set_option maxHeartbeats 4000000 in
set_option maxRecDepth 100000 in
theorem c_X10_isPoint (l : Launch) (D : va_G) (τ : Nat → Nat) (ws : va_W) (tys : List (ClassId × FieldType)) (a : Int) (b : Int) (ha : -2147483648 ≤ a ∧ a < 2147483648) (hb2 : -2147483648 ≤ b ∧ b < 2147483648) : cM l yX10_isPoint wz_X10_isPoint rm_X10_isPoint D τ tys [.int (zI a), .int (zI b)] (ws) (zQi (fun r w => ∃ (v : Bool), (v = true ↔ ((0 ≤ a ∧ a ≤ 6) ∧ (0 ≤ b ∧ b ≤ 6))) ∧ r = bI v ∧ ws = w)) := by
  refine z_ofM (cc := cX10_isPoint) (maxL := 2) (ret := (some .boolean)) (by decide +kernel) rfl (Nat.le_of_ble_eq_true rfl) ?_
  intro pg e s m args below meth c hC hr hlk hnm hK hP A hD hG hA hS ls hl Q hQ
  have hx := hC.1
  have hb := hC.2.1
  have hml := hC.2.2.1
  have hown := hC.2.2.2.1
  have hts := hC.2.2.2.2
  have hB : ∀ w ∈ W0, w ∈ wz_X10_isPoint := fun _ h => List.mem_cons_of_mem _ h
  have hW0 : ∀ w ∈ W0, w.before args s = true := fun w h => hts w (hB w h)
  have hl : lv_has ls 2 [(0, .int (zI a)), (1, .int (zI b))] := hl
  refine lv_iload_n hx hb dX10_isPoint_0 rfl (lv_at hl 0 rfl) ?_
  refine lv_iconst (v := zI 0) hx hb dX10_isPoint_1 rfl ?_
  refine lv_bipush (v := zI 6) hx hb dX10_isPoint_2 (zI_b8 (by decide)) ?_
  refine z_calli hP hD hS hA (va_runS (As := [.int (zI a), .int (zI 0), .int (zI 6)]) (rest := []) hC (c_X10_in l D τ _ _ a 0 6 (by first | assumption | rfl | omega) (by first | assumption | rfl | omega) (by first | assumption | rfl | omega) _) (va_cwS 3 hts (gS hB wl_X10_48 wt_X10_in wi_X10 wc_X10_in) rfl rfl rfl hd_X10_in.2 ⟨Nat.le_of_ble_eq_true rfl, Nat.le_of_ble_eq_true rfl⟩) (zp_S hK hP hD hS hA hG) rfl rfl hl.1 rfl (lv_room (Nat.le_of_ble_eq_true rfl)) dX10_isPoint_4 ⟨Nat.le_of_ble_eq_true rfl, Nat.le_of_ble_eq_true rfl⟩) (fun r w1 H locs hq9 hP hD hS => ?_)
  obtain ⟨v4_1, hv4_0, rfl, rfl⟩ := hq9
  refine z_ifeqB (tgt := 24) hx hb dX10_isPoint_7 (by decide) (fun c_7 => ?_) (fun c_7 => ?_)
  · have hb_7 := zb_neg hv4_0 c_7
    refine lv_iconst (v := zI 0) hx hb dX10_isPoint_24 rfl ?_
    refine W.eq (g2 := F0 m 25 ls [.int (bI false)]) rfl ?_
    exact z_zret hC hr hlk hQ hP hD hS ⟨false, (by constructor <;> intro h9 <;> first | (cases h9; done) | rfl | omega | assumption), rfl, rfl⟩ dX10_isPoint_25
  · have hb_7 := hv4_0.mp c_7
    refine lv_iload_n hx hb dX10_isPoint_10 rfl (lv_at hl 1 rfl) ?_
    refine lv_iconst (v := zI 0) hx hb dX10_isPoint_11 rfl ?_
    refine lv_bipush (v := zI 6) hx hb dX10_isPoint_12 (zI_b8 (by decide)) ?_
    refine z_calli hP hD hS hA (va_runS (As := [.int (zI b), .int (zI 0), .int (zI 6)]) (rest := []) hC (c_X10_in l D τ _ _ b 0 6 (by first | assumption | rfl | omega) (by first | assumption | rfl | omega) (by first | assumption | rfl | omega) _) (va_cwS 3 hts (gS hB wl_X10_48 wt_X10_in wi_X10 wc_X10_in) rfl rfl rfl hd_X10_in.2 ⟨Nat.le_of_ble_eq_true rfl, Nat.le_of_ble_eq_true rfl⟩) (zp_S hK hP hD hS hA hG) rfl rfl hl.1 rfl (lv_room (Nat.le_of_ble_eq_true rfl)) dX10_isPoint_14 ⟨Nat.le_of_ble_eq_true rfl, Nat.le_of_ble_eq_true rfl⟩) (fun r w1 H locs hq9 hP hD hS => ?_)
    obtain ⟨v14_2, hv14_0, rfl, rfl⟩ := hq9
    refine z_ifeqB (tgt := 24) hx hb dX10_isPoint_17 (by decide) (fun c_17 => ?_) (fun c_17 => ?_)
    · have hb_17 := zb_neg hv14_0 c_17
      refine lv_iconst (v := zI 0) hx hb dX10_isPoint_24 rfl ?_
      refine W.eq (g2 := F0 m 25 ls [.int (bI false)]) rfl ?_
      exact z_zret hC hr hlk hQ hP hD hS ⟨false, (by constructor <;> intro h9 <;> first | (cases h9; done) | rfl | omega | assumption), rfl, rfl⟩ dX10_isPoint_25
    · have hb_17 := hv14_0.mp c_17
      refine lv_iconst (v := zI 1) hx hb dX10_isPoint_20 rfl ?_
      refine lv_goto (tgt := 25) hx hb dX10_isPoint_21 (by decide) ?_
      refine W.eq (g2 := F0 m 25 ls [.int (bI true)]) rfl ?_
      exact z_zret hC hr hlk hQ hP hD hS ⟨true, (by constructor <;> intro h9 <;> first | (cases h9; done) | rfl | omega | assumption), rfl, rfl⟩ dX10_isPoint_25

abbrev wz_X10_size : List Cond := .code yX10_size cX10_size 1 (some .int) :: W0
abbrev rm_X10_size : Room := { frames := 0, cells := 0, slots := 0, locals := 0 }
theorem hd_X10_size : yX10_size.cls = RX10 ∧ yX10_size.cls ≠ "java/lang/invoke/MethodHandle" ∧ yX10_size.cls ≠ "java/lang/invoke/VarHandle" ∧ (parseMethodDescriptor yX10_size.desc).map (fun d => d.parameters.length) = some 1 := by decide +kernel
set_option maxHeartbeats 4000000 in
set_option maxRecDepth 100000 in
theorem c_X10_size (l : Launch) (D : va_G) (τ : Nat → Nat) (ws : va_W) (tys : List (ClassId × FieldType)) (a : Int) (ha : -2147483648 ≤ a ∧ a < 2147483648) : cM l yX10_size wz_X10_size rm_X10_size D τ tys [.int (zI a)] (ws) (zQi (fun r w => ∃ (v : Int), (v = zabs a) ∧ r = zI v ∧ ws = w)) := by
  refine z_ofM (cc := cX10_size) (maxL := 1) (ret := (some .int)) (by decide +kernel) rfl (Nat.le_of_ble_eq_true rfl) ?_
  intro pg e s m args below meth c hC hr hlk hnm hK hP A hD hG hA hS ls hl Q hQ
  have hx := hC.1
  have hb := hC.2.1
  have hml := hC.2.2.1
  have hown := hC.2.2.2.1
  have hts := hC.2.2.2.2
  have hB : ∀ w ∈ W0, w ∈ wz_X10_size := fun _ h => List.mem_cons_of_mem _ h
  have hW0 : ∀ w ∈ W0, w.before args s = true := fun w h => hts w (hB w h)
  have hl : lv_has ls 1 [(0, .int (zI a))] := hl
  refine lv_iload_n hx hb dX10_size_0 rfl (lv_at hl 0 rfl) ?_
  refine z_ifge (tgt := 9) hx hb ⟨by omega, by omega⟩ dX10_size_1 (by decide) (fun c_1 => ?_) (fun c_1 => ?_)
  · refine lv_iload_n hx hb dX10_size_9 rfl (lv_at hl 0 rfl) ?_
    exact z_iret hC hr hlk hQ hP hD hS ⟨a, (by have z9 := zabs_spec a; omega), rfl, rfl⟩ dX10_size_10
  · refine lv_iload_n hx hb dX10_size_4 rfl (lv_at hl 0 rfl) ?_
    refine z_ineg hx hb dX10_size_5 ?_
    refine lv_goto (tgt := 10) hx hb dX10_size_6 (by decide) ?_
    exact z_iret hC hr hlk hQ hP hD hS ⟨-a, (by have z9 := zabs_spec a; omega), rfl, rfl⟩ dX10_size_10

abbrev wz_X10_height : List Cond := .code yX10_height cX10_height 1 (some .int) :: W0
abbrev rm_X10_height : Room := { frames := 0, cells := 0, slots := 0, locals := 0 }
theorem hd_X10_height : yX10_height.cls = RX10 ∧ yX10_height.cls ≠ "java/lang/invoke/MethodHandle" ∧ yX10_height.cls ≠ "java/lang/invoke/VarHandle" ∧ (parseMethodDescriptor yX10_height.desc).map (fun d => d.parameters.length) = some 1 := by decide +kernel
set_option maxHeartbeats 4000000 in
set_option maxRecDepth 100000 in
theorem c_X10_height (l : Launch) (D : va_G) (τ : Nat → Nat) (ws : va_W) (tys : List (ClassId × FieldType)) (a : Int) (ha : -2147483648 ≤ a ∧ a < 2147483648) : cM l yX10_height wz_X10_height rm_X10_height D τ tys [.int (zI a)] (ws) (zQi (fun r w => ∃ (v : Int), (v = clip a) ∧ (0 ≤ v ∧ v ≤ 99) ∧ r = zI v ∧ ws = w)) := by
  refine z_ofM (cc := cX10_height) (maxL := 1) (ret := (some .int)) (by decide +kernel) rfl (Nat.le_of_ble_eq_true rfl) ?_
  intro pg e s m args below meth c hC hr hlk hnm hK hP A hD hG hA hS ls hl Q hQ
  have hx := hC.1
  have hb := hC.2.1
  have hml := hC.2.2.1
  have hown := hC.2.2.2.1
  have hts := hC.2.2.2.2
  have hB : ∀ w ∈ W0, w ∈ wz_X10_height := fun _ h => List.mem_cons_of_mem _ h
  have hW0 : ∀ w ∈ W0, w.before args s = true := fun w h => hts w (hB w h)
  have hl : lv_has ls 1 [(0, .int (zI a))] := hl
  refine lv_iload_n hx hb dX10_height_0 rfl (lv_at hl 0 rfl) ?_
  refine z_ifge (tgt := 8) hx hb ⟨by omega, by omega⟩ dX10_height_1 (by decide) (fun c_1 => ?_) (fun c_1 => ?_)
  · refine lv_iload_n hx hb dX10_height_8 rfl (lv_at hl 0 rfl) ?_
    refine lv_bipush (v := zI 99) hx hb dX10_height_9 (zI_b8 (by decide)) ?_
    refine z_icle (tgt := 19) hx hb ⟨by omega, by omega⟩ ⟨by omega, by omega⟩ dX10_height_11 (by decide) (fun c_11 => ?_) (fun c_11 => ?_)
    · refine lv_iload_n hx hb dX10_height_19 rfl (lv_at hl 0 rfl) ?_
      exact z_iret hC hr hlk hQ hP hD hS ⟨a, (by unfold clip; have z1 := zmin_spec 99 a; have z2 := zmax_spec 0 (zmin 99 a); omega), (by first | assumption | rfl | omega), rfl, rfl⟩ dX10_height_20
    · refine lv_bipush (v := zI 99) hx hb dX10_height_14 (zI_b8 (by decide)) ?_
      refine lv_goto (tgt := 20) hx hb dX10_height_16 (by decide) ?_
      exact z_iret hC hr hlk hQ hP hD hS ⟨99, (by unfold clip; have z1 := zmin_spec 99 a; have z2 := zmax_spec 0 (zmin 99 a); omega), (by first | assumption | rfl | omega), rfl, rfl⟩ dX10_height_20
  · refine lv_iconst (v := zI 0) hx hb dX10_height_4 rfl ?_
    refine lv_goto (tgt := 20) hx hb dX10_height_5 (by decide) ?_
    exact z_iret hC hr hlk hQ hP hD hS ⟨0, (by unfold clip; have z1 := zmin_spec 99 a; have z2 := zmax_spec 0 (zmin 99 a); omega), (by first | assumption | rfl | omega), rfl, rfl⟩ dX10_height_20

abbrev wz_X10_next : List Cond := .code yX10_next cX10_next 4 (some .int) :: W0
abbrev rm_X10_next : Room := { frames := 2, cells := 0, slots := 0, locals := 43 }
theorem hd_X10_next : yX10_next.cls = RX10 ∧ yX10_next.cls ≠ "java/lang/invoke/MethodHandle" ∧ yX10_next.cls ≠ "java/lang/invoke/VarHandle" ∧ (parseMethodDescriptor yX10_next.desc).map (fun d => d.parameters.length) = some 2 := by decide +kernel
set_option maxHeartbeats 4000000 in
set_option maxRecDepth 100000 in
theorem c_X10_next (l : Launch) (D : va_G) (τ : Nat → Nat) (ws : va_W) (tys : List (ClassId × FieldType)) (p : Int) (w9 : Int) (hp : 0 ≤ p ∧ p < 49) (hw9 : 0 ≤ w9 ∧ w9 < 4) : cM l yX10_next wz_X10_next rm_X10_next D τ tys [.int (zI p), .int (zI w9)] (ws) (zQi (fun r w => ∃ (v : Int), (v = S_step p w9) ∧ (-1 ≤ v ∧ v < 49) ∧ r = zI v ∧ ws = w)) := by
  refine z_ofM (cc := cX10_next) (maxL := 4) (ret := (some .int)) (by decide +kernel) rfl (Nat.le_of_ble_eq_true rfl) ?_
  intro pg e s m args below meth c hC hr hlk hnm hK hP A hD hG hA hS ls hl Q hQ
  have hx := hC.1
  have hb := hC.2.1
  have hml := hC.2.2.1
  have hown := hC.2.2.2.1
  have hts := hC.2.2.2.2
  have hB : ∀ w ∈ W0, w ∈ wz_X10_next := fun _ h => List.mem_cons_of_mem _ h
  have hW0 : ∀ w ∈ W0, w.before args s = true := fun w h => hts w (hB w h)
  have hl : lv_has ls 4 [(0, .int (zI p)), (1, .int (zI w9))] := hl
  refine lv_iload_n hx hb dX10_next_0 rfl (lv_at hl 0 rfl) ?_
  refine lv_bipush (v := zI 7) hx hb dX10_next_1 (zI_b8 (by decide)) ?_
  refine z_idiv hx hb ⟨⟨by omega, by omega⟩, by omega, by omega⟩ dX10_next_3 ?_
  refine lv_iload_n hx hb dX10_next_4 rfl (lv_at hl 1 rfl) ?_
  refine z_ifne (tgt := 12) hx hb ⟨by omega, by omega⟩ dX10_next_5 (by decide) (fun c_5 => ?_) (fun c_5 => ?_)
  · refine lv_iload_n hx hb dX10_next_12 rfl (lv_at hl 1 rfl) ?_
    refine lv_iconst (v := zI 2) hx hb dX10_next_13 rfl ?_
    refine z_icne (tgt := 21) hx hb ⟨by omega, by omega⟩ ⟨by omega, by omega⟩ dX10_next_14 (by decide) (fun c_14 => ?_) (fun c_14 => ?_)
    · refine lv_iconst (v := zI 0) hx hb dX10_next_21 rfl ?_
      refine z_iadd hx hb dX10_next_22 ?_
      refine lv_istore_n (lv' := [(2, .int (zI ((p / 7) + 0))), (0, .int (zI p)), (1, .int (zI w9))]) hx hb dX10_next_23 rfl hl (by decide) rfl (fun ls hl => ?_)
      refine lv_iload_n hx hb dX10_next_24 rfl (lv_at hl 1 rfl) ?_
      refine lv_bipush (v := zI 7) hx hb dX10_next_25 (zI_b8 (by decide)) ?_
      refine z_irem hx hb ⟨⟨by omega, by omega⟩, by omega, by omega⟩ dX10_next_27 ?_
      refine lv_iload_n hx hb dX10_next_28 rfl (lv_at hl 2 rfl) ?_
      refine lv_iconst (v := zI 1) hx hb dX10_next_29 rfl ?_
      refine z_icne (tgt := 37) hx hb ⟨by omega, by omega⟩ ⟨by omega, by omega⟩ dX10_next_30 (by decide) (fun c_30 => ?_) (fun c_30 => ?_)
      · refine lv_iload_n hx hb dX10_next_37 rfl (lv_at hl 2 rfl) ?_
        refine lv_iconst (v := zI 3) hx hb dX10_next_38 rfl ?_
        refine z_icne (tgt := 46) hx hb ⟨by omega, by omega⟩ ⟨by omega, by omega⟩ dX10_next_39 (by decide) (fun c_39 => ?_) (fun c_39 => ?_)
        · refine lv_iconst (v := zI 0) hx hb dX10_next_46 rfl ?_
          refine z_iadd hx hb dX10_next_47 ?_
          refine lv_istore_n (lv' := [(3, .int (zI ((p % 7) + 0))), (2, .int (zI ((p / 7) + 0))), (0, .int (zI p)), (1, .int (zI w9))]) hx hb dX10_next_48 rfl hl (by decide) rfl (fun ls hl => ?_)
          refine lv_iload_n hx hb dX10_next_49 rfl (lv_at hl 1 rfl) ?_
          refine lv_iload_n hx hb dX10_next_50 rfl (lv_at hl 0 rfl) ?_
          refine z_calli hP hD hS hA (va_runS (As := [.int (zI ((p / 7) + 0)), .int (zI ((p % 7) + 0))]) (rest := []) hC (c_X10_isPoint l D τ _ _ ((p / 7) + 0) ((p % 7) + 0) (by first | assumption | rfl | omega) (by first | assumption | rfl | omega) _) (va_cwS 2 hts (gS hB wl_X10_55 wt_X10_isPoint wi_X10 wc_X10_isPoint) rfl rfl rfl hd_X10_isPoint.2 ⟨Nat.le_of_ble_eq_true rfl, Nat.le_of_ble_eq_true rfl⟩) (zp_S hK hP hD hS hA hG) rfl rfl hl.1 rfl (lv_room (Nat.le_of_ble_eq_true rfl)) dX10_next_51 ⟨Nat.le_of_ble_eq_true rfl, Nat.le_of_ble_eq_true rfl⟩) (fun r w1 H locs hq9 hP hD hS => ?_)
          obtain ⟨v51_1, hv51_0, rfl, rfl⟩ := hq9
          refine z_ifeqB (tgt := 66) hx hb dX10_next_54 (by decide) (fun c_54 => ?_) (fun c_54 => ?_)
          · have hb_54 := zb_neg hv51_0 c_54
            refine lv_iconst (v := zI (-1)) hx hb dX10_next_66 rfl ?_
            exact z_iret hC hr hlk hQ hP hD hS ⟨(-1), (by have z9 := S_step_4 hp; rcases z4 hw9 with e9 | e9 | e9 | e9 <;> rw [e9] <;> first | (exfalso; omega) | (rw [z9.1]; split <;> omega) | (rw [z9.2.1]; split <;> omega) | (rw [z9.2.2.1]; split <;> omega) | (rw [z9.2.2.2]; split <;> omega)), (by first | assumption | rfl | omega), rfl, rfl⟩ dX10_next_67
          · have hb_54 := hv51_0.mp c_54
            refine lv_bipush (v := zI 7) hx hb dX10_next_57 (zI_b8 (by decide)) ?_
            refine lv_iload_n hx hb dX10_next_59 rfl (lv_at hl 1 rfl) ?_
            refine z_imul hx hb dX10_next_60 ?_
            refine lv_iload_n hx hb dX10_next_61 rfl (lv_at hl 0 rfl) ?_
            refine z_iadd hx hb dX10_next_62 ?_
            refine lv_goto (tgt := 67) hx hb dX10_next_63 (by decide) ?_
            exact z_iret hC hr hlk hQ hP hD hS ⟨(7 * ((p / 7) + 0)) + ((p % 7) + 0), (by have z9 := S_step_4 hp; rcases z4 hw9 with e9 | e9 | e9 | e9 <;> rw [e9] <;> first | (exfalso; omega) | (rw [z9.1]; split <;> omega) | (rw [z9.2.1]; split <;> omega) | (rw [z9.2.2.1]; split <;> omega) | (rw [z9.2.2.2]; split <;> omega)), (by first | assumption | rfl | omega), rfl, rfl⟩ dX10_next_67
        · refine lv_iconst (v := zI (-1)) hx hb dX10_next_42 rfl ?_
          refine lv_goto (tgt := 47) hx hb dX10_next_43 (by decide) ?_
          refine z_iadd hx hb dX10_next_47 ?_
          refine lv_istore_n (lv' := [(3, .int (zI ((p % 7) + (-1)))), (2, .int (zI ((p / 7) + 0))), (0, .int (zI p)), (1, .int (zI w9))]) hx hb dX10_next_48 rfl hl (by decide) rfl (fun ls hl => ?_)
          refine lv_iload_n hx hb dX10_next_49 rfl (lv_at hl 1 rfl) ?_
          refine lv_iload_n hx hb dX10_next_50 rfl (lv_at hl 0 rfl) ?_
          refine z_calli hP hD hS hA (va_runS (As := [.int (zI ((p / 7) + 0)), .int (zI ((p % 7) + (-1)))]) (rest := []) hC (c_X10_isPoint l D τ _ _ ((p / 7) + 0) ((p % 7) + (-1)) (by first | assumption | rfl | omega) (by first | assumption | rfl | omega) _) (va_cwS 2 hts (gS hB wl_X10_55 wt_X10_isPoint wi_X10 wc_X10_isPoint) rfl rfl rfl hd_X10_isPoint.2 ⟨Nat.le_of_ble_eq_true rfl, Nat.le_of_ble_eq_true rfl⟩) (zp_S hK hP hD hS hA hG) rfl rfl hl.1 rfl (lv_room (Nat.le_of_ble_eq_true rfl)) dX10_next_51 ⟨Nat.le_of_ble_eq_true rfl, Nat.le_of_ble_eq_true rfl⟩) (fun r w1 H locs hq9 hP hD hS => ?_)
          obtain ⟨v51_2, hv51_0, rfl, rfl⟩ := hq9
          refine z_ifeqB (tgt := 66) hx hb dX10_next_54 (by decide) (fun c_54 => ?_) (fun c_54 => ?_)
          · have hb_54 := zb_neg hv51_0 c_54
            refine lv_iconst (v := zI (-1)) hx hb dX10_next_66 rfl ?_
            exact z_iret hC hr hlk hQ hP hD hS ⟨(-1), (by have z9 := S_step_4 hp; rcases z4 hw9 with e9 | e9 | e9 | e9 <;> rw [e9] <;> first | (exfalso; omega) | (rw [z9.1]; split <;> omega) | (rw [z9.2.1]; split <;> omega) | (rw [z9.2.2.1]; split <;> omega) | (rw [z9.2.2.2]; split <;> omega)), (by first | assumption | rfl | omega), rfl, rfl⟩ dX10_next_67
          · have hb_54 := hv51_0.mp c_54
            refine lv_bipush (v := zI 7) hx hb dX10_next_57 (zI_b8 (by decide)) ?_
            refine lv_iload_n hx hb dX10_next_59 rfl (lv_at hl 1 rfl) ?_
            refine z_imul hx hb dX10_next_60 ?_
            refine lv_iload_n hx hb dX10_next_61 rfl (lv_at hl 0 rfl) ?_
            refine z_iadd hx hb dX10_next_62 ?_
            refine lv_goto (tgt := 67) hx hb dX10_next_63 (by decide) ?_
            exact z_iret hC hr hlk hQ hP hD hS ⟨(7 * ((p / 7) + 0)) + ((p % 7) + (-1)), (by have z9 := S_step_4 hp; rcases z4 hw9 with e9 | e9 | e9 | e9 <;> rw [e9] <;> first | (exfalso; omega) | (rw [z9.1]; split <;> omega) | (rw [z9.2.1]; split <;> omega) | (rw [z9.2.2.1]; split <;> omega) | (rw [z9.2.2.2]; split <;> omega)), (by first | assumption | rfl | omega), rfl, rfl⟩ dX10_next_67
      · refine lv_iconst (v := zI 1) hx hb dX10_next_33 rfl ?_
        refine lv_goto (tgt := 47) hx hb dX10_next_34 (by decide) ?_
        refine z_iadd hx hb dX10_next_47 ?_
        refine lv_istore_n (lv' := [(3, .int (zI ((p % 7) + 1))), (2, .int (zI ((p / 7) + 0))), (0, .int (zI p)), (1, .int (zI w9))]) hx hb dX10_next_48 rfl hl (by decide) rfl (fun ls hl => ?_)
        refine lv_iload_n hx hb dX10_next_49 rfl (lv_at hl 1 rfl) ?_
        refine lv_iload_n hx hb dX10_next_50 rfl (lv_at hl 0 rfl) ?_
        refine z_calli hP hD hS hA (va_runS (As := [.int (zI ((p / 7) + 0)), .int (zI ((p % 7) + 1))]) (rest := []) hC (c_X10_isPoint l D τ _ _ ((p / 7) + 0) ((p % 7) + 1) (by first | assumption | rfl | omega) (by first | assumption | rfl | omega) _) (va_cwS 2 hts (gS hB wl_X10_55 wt_X10_isPoint wi_X10 wc_X10_isPoint) rfl rfl rfl hd_X10_isPoint.2 ⟨Nat.le_of_ble_eq_true rfl, Nat.le_of_ble_eq_true rfl⟩) (zp_S hK hP hD hS hA hG) rfl rfl hl.1 rfl (lv_room (Nat.le_of_ble_eq_true rfl)) dX10_next_51 ⟨Nat.le_of_ble_eq_true rfl, Nat.le_of_ble_eq_true rfl⟩) (fun r w1 H locs hq9 hP hD hS => ?_)
        obtain ⟨v51_3, hv51_0, rfl, rfl⟩ := hq9
        refine z_ifeqB (tgt := 66) hx hb dX10_next_54 (by decide) (fun c_54 => ?_) (fun c_54 => ?_)
        · have hb_54 := zb_neg hv51_0 c_54
          refine lv_iconst (v := zI (-1)) hx hb dX10_next_66 rfl ?_
          exact z_iret hC hr hlk hQ hP hD hS ⟨(-1), (by have z9 := S_step_4 hp; rcases z4 hw9 with e9 | e9 | e9 | e9 <;> rw [e9] <;> first | (exfalso; omega) | (rw [z9.1]; split <;> omega) | (rw [z9.2.1]; split <;> omega) | (rw [z9.2.2.1]; split <;> omega) | (rw [z9.2.2.2]; split <;> omega)), (by first | assumption | rfl | omega), rfl, rfl⟩ dX10_next_67
        · have hb_54 := hv51_0.mp c_54
          refine lv_bipush (v := zI 7) hx hb dX10_next_57 (zI_b8 (by decide)) ?_
          refine lv_iload_n hx hb dX10_next_59 rfl (lv_at hl 1 rfl) ?_
          refine z_imul hx hb dX10_next_60 ?_
          refine lv_iload_n hx hb dX10_next_61 rfl (lv_at hl 0 rfl) ?_
          refine z_iadd hx hb dX10_next_62 ?_
          refine lv_goto (tgt := 67) hx hb dX10_next_63 (by decide) ?_
          exact z_iret hC hr hlk hQ hP hD hS ⟨(7 * ((p / 7) + 0)) + ((p % 7) + 1), (by have z9 := S_step_4 hp; rcases z4 hw9 with e9 | e9 | e9 | e9 <;> rw [e9] <;> first | (exfalso; omega) | (rw [z9.1]; split <;> omega) | (rw [z9.2.1]; split <;> omega) | (rw [z9.2.2.1]; split <;> omega) | (rw [z9.2.2.2]; split <;> omega)), (by first | assumption | rfl | omega), rfl, rfl⟩ dX10_next_67
    · refine lv_iconst (v := zI 1) hx hb dX10_next_17 rfl ?_
      refine lv_goto (tgt := 22) hx hb dX10_next_18 (by decide) ?_
      refine z_iadd hx hb dX10_next_22 ?_
      refine lv_istore_n (lv' := [(2, .int (zI ((p / 7) + 1))), (0, .int (zI p)), (1, .int (zI w9))]) hx hb dX10_next_23 rfl hl (by decide) rfl (fun ls hl => ?_)
      refine lv_iload_n hx hb dX10_next_24 rfl (lv_at hl 1 rfl) ?_
      refine lv_bipush (v := zI 7) hx hb dX10_next_25 (zI_b8 (by decide)) ?_
      refine z_irem hx hb ⟨⟨by omega, by omega⟩, by omega, by omega⟩ dX10_next_27 ?_
      refine lv_iload_n hx hb dX10_next_28 rfl (lv_at hl 2 rfl) ?_
      refine lv_iconst (v := zI 1) hx hb dX10_next_29 rfl ?_
      refine z_icne (tgt := 37) hx hb ⟨by omega, by omega⟩ ⟨by omega, by omega⟩ dX10_next_30 (by decide) (fun c_30 => ?_) (fun c_30 => ?_)
      · refine lv_iload_n hx hb dX10_next_37 rfl (lv_at hl 2 rfl) ?_
        refine lv_iconst (v := zI 3) hx hb dX10_next_38 rfl ?_
        refine z_icne (tgt := 46) hx hb ⟨by omega, by omega⟩ ⟨by omega, by omega⟩ dX10_next_39 (by decide) (fun c_39 => ?_) (fun c_39 => ?_)
        · refine lv_iconst (v := zI 0) hx hb dX10_next_46 rfl ?_
          refine z_iadd hx hb dX10_next_47 ?_
          refine lv_istore_n (lv' := [(3, .int (zI ((p % 7) + 0))), (2, .int (zI ((p / 7) + 1))), (0, .int (zI p)), (1, .int (zI w9))]) hx hb dX10_next_48 rfl hl (by decide) rfl (fun ls hl => ?_)
          refine lv_iload_n hx hb dX10_next_49 rfl (lv_at hl 1 rfl) ?_
          refine lv_iload_n hx hb dX10_next_50 rfl (lv_at hl 0 rfl) ?_
          refine z_calli hP hD hS hA (va_runS (As := [.int (zI ((p / 7) + 1)), .int (zI ((p % 7) + 0))]) (rest := []) hC (c_X10_isPoint l D τ _ _ ((p / 7) + 1) ((p % 7) + 0) (by first | assumption | rfl | omega) (by first | assumption | rfl | omega) _) (va_cwS 2 hts (gS hB wl_X10_55 wt_X10_isPoint wi_X10 wc_X10_isPoint) rfl rfl rfl hd_X10_isPoint.2 ⟨Nat.le_of_ble_eq_true rfl, Nat.le_of_ble_eq_true rfl⟩) (zp_S hK hP hD hS hA hG) rfl rfl hl.1 rfl (lv_room (Nat.le_of_ble_eq_true rfl)) dX10_next_51 ⟨Nat.le_of_ble_eq_true rfl, Nat.le_of_ble_eq_true rfl⟩) (fun r w1 H locs hq9 hP hD hS => ?_)
          obtain ⟨v51_4, hv51_0, rfl, rfl⟩ := hq9
          refine z_ifeqB (tgt := 66) hx hb dX10_next_54 (by decide) (fun c_54 => ?_) (fun c_54 => ?_)
          · have hb_54 := zb_neg hv51_0 c_54
            refine lv_iconst (v := zI (-1)) hx hb dX10_next_66 rfl ?_
            exact z_iret hC hr hlk hQ hP hD hS ⟨(-1), (by have z9 := S_step_4 hp; rcases z4 hw9 with e9 | e9 | e9 | e9 <;> rw [e9] <;> first | (exfalso; omega) | (rw [z9.1]; split <;> omega) | (rw [z9.2.1]; split <;> omega) | (rw [z9.2.2.1]; split <;> omega) | (rw [z9.2.2.2]; split <;> omega)), (by first | assumption | rfl | omega), rfl, rfl⟩ dX10_next_67
          · have hb_54 := hv51_0.mp c_54
            refine lv_bipush (v := zI 7) hx hb dX10_next_57 (zI_b8 (by decide)) ?_
            refine lv_iload_n hx hb dX10_next_59 rfl (lv_at hl 1 rfl) ?_
            refine z_imul hx hb dX10_next_60 ?_
            refine lv_iload_n hx hb dX10_next_61 rfl (lv_at hl 0 rfl) ?_
            refine z_iadd hx hb dX10_next_62 ?_
            refine lv_goto (tgt := 67) hx hb dX10_next_63 (by decide) ?_
            exact z_iret hC hr hlk hQ hP hD hS ⟨(7 * ((p / 7) + 1)) + ((p % 7) + 0), (by have z9 := S_step_4 hp; rcases z4 hw9 with e9 | e9 | e9 | e9 <;> rw [e9] <;> first | (exfalso; omega) | (rw [z9.1]; split <;> omega) | (rw [z9.2.1]; split <;> omega) | (rw [z9.2.2.1]; split <;> omega) | (rw [z9.2.2.2]; split <;> omega)), (by first | assumption | rfl | omega), rfl, rfl⟩ dX10_next_67
        · refine lv_iconst (v := zI (-1)) hx hb dX10_next_42 rfl ?_
          refine lv_goto (tgt := 47) hx hb dX10_next_43 (by decide) ?_
          refine z_iadd hx hb dX10_next_47 ?_
          refine lv_istore_n (lv' := [(3, .int (zI ((p % 7) + (-1)))), (2, .int (zI ((p / 7) + 1))), (0, .int (zI p)), (1, .int (zI w9))]) hx hb dX10_next_48 rfl hl (by decide) rfl (fun ls hl => ?_)
          refine lv_iload_n hx hb dX10_next_49 rfl (lv_at hl 1 rfl) ?_
          refine lv_iload_n hx hb dX10_next_50 rfl (lv_at hl 0 rfl) ?_
          refine z_calli hP hD hS hA (va_runS (As := [.int (zI ((p / 7) + 1)), .int (zI ((p % 7) + (-1)))]) (rest := []) hC (c_X10_isPoint l D τ _ _ ((p / 7) + 1) ((p % 7) + (-1)) (by first | assumption | rfl | omega) (by first | assumption | rfl | omega) _) (va_cwS 2 hts (gS hB wl_X10_55 wt_X10_isPoint wi_X10 wc_X10_isPoint) rfl rfl rfl hd_X10_isPoint.2 ⟨Nat.le_of_ble_eq_true rfl, Nat.le_of_ble_eq_true rfl⟩) (zp_S hK hP hD hS hA hG) rfl rfl hl.1 rfl (lv_room (Nat.le_of_ble_eq_true rfl)) dX10_next_51 ⟨Nat.le_of_ble_eq_true rfl, Nat.le_of_ble_eq_true rfl⟩) (fun r w1 H locs hq9 hP hD hS => ?_)
          obtain ⟨v51_5, hv51_0, rfl, rfl⟩ := hq9
          refine z_ifeqB (tgt := 66) hx hb dX10_next_54 (by decide) (fun c_54 => ?_) (fun c_54 => ?_)
          · have hb_54 := zb_neg hv51_0 c_54
            refine lv_iconst (v := zI (-1)) hx hb dX10_next_66 rfl ?_
            exact z_iret hC hr hlk hQ hP hD hS ⟨(-1), (by have z9 := S_step_4 hp; rcases z4 hw9 with e9 | e9 | e9 | e9 <;> rw [e9] <;> first | (exfalso; omega) | (rw [z9.1]; split <;> omega) | (rw [z9.2.1]; split <;> omega) | (rw [z9.2.2.1]; split <;> omega) | (rw [z9.2.2.2]; split <;> omega)), (by first | assumption | rfl | omega), rfl, rfl⟩ dX10_next_67
          · have hb_54 := hv51_0.mp c_54
            refine lv_bipush (v := zI 7) hx hb dX10_next_57 (zI_b8 (by decide)) ?_
            refine lv_iload_n hx hb dX10_next_59 rfl (lv_at hl 1 rfl) ?_
            refine z_imul hx hb dX10_next_60 ?_
            refine lv_iload_n hx hb dX10_next_61 rfl (lv_at hl 0 rfl) ?_
            refine z_iadd hx hb dX10_next_62 ?_
            refine lv_goto (tgt := 67) hx hb dX10_next_63 (by decide) ?_
            exact z_iret hC hr hlk hQ hP hD hS ⟨(7 * ((p / 7) + 1)) + ((p % 7) + (-1)), (by have z9 := S_step_4 hp; rcases z4 hw9 with e9 | e9 | e9 | e9 <;> rw [e9] <;> first | (exfalso; omega) | (rw [z9.1]; split <;> omega) | (rw [z9.2.1]; split <;> omega) | (rw [z9.2.2.1]; split <;> omega) | (rw [z9.2.2.2]; split <;> omega)), (by first | assumption | rfl | omega), rfl, rfl⟩ dX10_next_67
      · refine lv_iconst (v := zI 1) hx hb dX10_next_33 rfl ?_
        refine lv_goto (tgt := 47) hx hb dX10_next_34 (by decide) ?_
        refine z_iadd hx hb dX10_next_47 ?_
        refine lv_istore_n (lv' := [(3, .int (zI ((p % 7) + 1))), (2, .int (zI ((p / 7) + 1))), (0, .int (zI p)), (1, .int (zI w9))]) hx hb dX10_next_48 rfl hl (by decide) rfl (fun ls hl => ?_)
        refine lv_iload_n hx hb dX10_next_49 rfl (lv_at hl 1 rfl) ?_
        refine lv_iload_n hx hb dX10_next_50 rfl (lv_at hl 0 rfl) ?_
        refine z_calli hP hD hS hA (va_runS (As := [.int (zI ((p / 7) + 1)), .int (zI ((p % 7) + 1))]) (rest := []) hC (c_X10_isPoint l D τ _ _ ((p / 7) + 1) ((p % 7) + 1) (by first | assumption | rfl | omega) (by first | assumption | rfl | omega) _) (va_cwS 2 hts (gS hB wl_X10_55 wt_X10_isPoint wi_X10 wc_X10_isPoint) rfl rfl rfl hd_X10_isPoint.2 ⟨Nat.le_of_ble_eq_true rfl, Nat.le_of_ble_eq_true rfl⟩) (zp_S hK hP hD hS hA hG) rfl rfl hl.1 rfl (lv_room (Nat.le_of_ble_eq_true rfl)) dX10_next_51 ⟨Nat.le_of_ble_eq_true rfl, Nat.le_of_ble_eq_true rfl⟩) (fun r w1 H locs hq9 hP hD hS => ?_)
        obtain ⟨v51_6, hv51_0, rfl, rfl⟩ := hq9
        refine z_ifeqB (tgt := 66) hx hb dX10_next_54 (by decide) (fun c_54 => ?_) (fun c_54 => ?_)
        · have hb_54 := zb_neg hv51_0 c_54
          refine lv_iconst (v := zI (-1)) hx hb dX10_next_66 rfl ?_
          exact z_iret hC hr hlk hQ hP hD hS ⟨(-1), (by have z9 := S_step_4 hp; rcases z4 hw9 with e9 | e9 | e9 | e9 <;> rw [e9] <;> first | (exfalso; omega) | (rw [z9.1]; split <;> omega) | (rw [z9.2.1]; split <;> omega) | (rw [z9.2.2.1]; split <;> omega) | (rw [z9.2.2.2]; split <;> omega)), (by first | assumption | rfl | omega), rfl, rfl⟩ dX10_next_67
        · have hb_54 := hv51_0.mp c_54
          refine lv_bipush (v := zI 7) hx hb dX10_next_57 (zI_b8 (by decide)) ?_
          refine lv_iload_n hx hb dX10_next_59 rfl (lv_at hl 1 rfl) ?_
          refine z_imul hx hb dX10_next_60 ?_
          refine lv_iload_n hx hb dX10_next_61 rfl (lv_at hl 0 rfl) ?_
          refine z_iadd hx hb dX10_next_62 ?_
          refine lv_goto (tgt := 67) hx hb dX10_next_63 (by decide) ?_
          exact z_iret hC hr hlk hQ hP hD hS ⟨(7 * ((p / 7) + 1)) + ((p % 7) + 1), (by have z9 := S_step_4 hp; rcases z4 hw9 with e9 | e9 | e9 | e9 <;> rw [e9] <;> first | (exfalso; omega) | (rw [z9.1]; split <;> omega) | (rw [z9.2.1]; split <;> omega) | (rw [z9.2.2.1]; split <;> omega) | (rw [z9.2.2.2]; split <;> omega)), (by first | assumption | rfl | omega), rfl, rfl⟩ dX10_next_67
  · refine lv_iconst (v := zI (-1)) hx hb dX10_next_8 rfl ?_
    refine lv_goto (tgt := 22) hx hb dX10_next_9 (by decide) ?_
    refine z_iadd hx hb dX10_next_22 ?_
    refine lv_istore_n (lv' := [(2, .int (zI ((p / 7) + (-1)))), (0, .int (zI p)), (1, .int (zI w9))]) hx hb dX10_next_23 rfl hl (by decide) rfl (fun ls hl => ?_)
    refine lv_iload_n hx hb dX10_next_24 rfl (lv_at hl 1 rfl) ?_
    refine lv_bipush (v := zI 7) hx hb dX10_next_25 (zI_b8 (by decide)) ?_
    refine z_irem hx hb ⟨⟨by omega, by omega⟩, by omega, by omega⟩ dX10_next_27 ?_
    refine lv_iload_n hx hb dX10_next_28 rfl (lv_at hl 2 rfl) ?_
    refine lv_iconst (v := zI 1) hx hb dX10_next_29 rfl ?_
    refine z_icne (tgt := 37) hx hb ⟨by omega, by omega⟩ ⟨by omega, by omega⟩ dX10_next_30 (by decide) (fun c_30 => ?_) (fun c_30 => ?_)
    · refine lv_iload_n hx hb dX10_next_37 rfl (lv_at hl 2 rfl) ?_
      refine lv_iconst (v := zI 3) hx hb dX10_next_38 rfl ?_
      refine z_icne (tgt := 46) hx hb ⟨by omega, by omega⟩ ⟨by omega, by omega⟩ dX10_next_39 (by decide) (fun c_39 => ?_) (fun c_39 => ?_)
      · refine lv_iconst (v := zI 0) hx hb dX10_next_46 rfl ?_
        refine z_iadd hx hb dX10_next_47 ?_
        refine lv_istore_n (lv' := [(3, .int (zI ((p % 7) + 0))), (2, .int (zI ((p / 7) + (-1)))), (0, .int (zI p)), (1, .int (zI w9))]) hx hb dX10_next_48 rfl hl (by decide) rfl (fun ls hl => ?_)
        refine lv_iload_n hx hb dX10_next_49 rfl (lv_at hl 1 rfl) ?_
        refine lv_iload_n hx hb dX10_next_50 rfl (lv_at hl 0 rfl) ?_
        refine z_calli hP hD hS hA (va_runS (As := [.int (zI ((p / 7) + (-1))), .int (zI ((p % 7) + 0))]) (rest := []) hC (c_X10_isPoint l D τ _ _ ((p / 7) + (-1)) ((p % 7) + 0) (by first | assumption | rfl | omega) (by first | assumption | rfl | omega) _) (va_cwS 2 hts (gS hB wl_X10_55 wt_X10_isPoint wi_X10 wc_X10_isPoint) rfl rfl rfl hd_X10_isPoint.2 ⟨Nat.le_of_ble_eq_true rfl, Nat.le_of_ble_eq_true rfl⟩) (zp_S hK hP hD hS hA hG) rfl rfl hl.1 rfl (lv_room (Nat.le_of_ble_eq_true rfl)) dX10_next_51 ⟨Nat.le_of_ble_eq_true rfl, Nat.le_of_ble_eq_true rfl⟩) (fun r w1 H locs hq9 hP hD hS => ?_)
        obtain ⟨v51_7, hv51_0, rfl, rfl⟩ := hq9
        refine z_ifeqB (tgt := 66) hx hb dX10_next_54 (by decide) (fun c_54 => ?_) (fun c_54 => ?_)
        · have hb_54 := zb_neg hv51_0 c_54
          refine lv_iconst (v := zI (-1)) hx hb dX10_next_66 rfl ?_
          exact z_iret hC hr hlk hQ hP hD hS ⟨(-1), (by have z9 := S_step_4 hp; rcases z4 hw9 with e9 | e9 | e9 | e9 <;> rw [e9] <;> first | (exfalso; omega) | (rw [z9.1]; split <;> omega) | (rw [z9.2.1]; split <;> omega) | (rw [z9.2.2.1]; split <;> omega) | (rw [z9.2.2.2]; split <;> omega)), (by first | assumption | rfl | omega), rfl, rfl⟩ dX10_next_67
        · have hb_54 := hv51_0.mp c_54
          refine lv_bipush (v := zI 7) hx hb dX10_next_57 (zI_b8 (by decide)) ?_
          refine lv_iload_n hx hb dX10_next_59 rfl (lv_at hl 1 rfl) ?_
          refine z_imul hx hb dX10_next_60 ?_
          refine lv_iload_n hx hb dX10_next_61 rfl (lv_at hl 0 rfl) ?_
          refine z_iadd hx hb dX10_next_62 ?_
          refine lv_goto (tgt := 67) hx hb dX10_next_63 (by decide) ?_
          exact z_iret hC hr hlk hQ hP hD hS ⟨(7 * ((p / 7) + (-1))) + ((p % 7) + 0), (by have z9 := S_step_4 hp; rcases z4 hw9 with e9 | e9 | e9 | e9 <;> rw [e9] <;> first | (exfalso; omega) | (rw [z9.1]; split <;> omega) | (rw [z9.2.1]; split <;> omega) | (rw [z9.2.2.1]; split <;> omega) | (rw [z9.2.2.2]; split <;> omega)), (by first | assumption | rfl | omega), rfl, rfl⟩ dX10_next_67
      · refine lv_iconst (v := zI (-1)) hx hb dX10_next_42 rfl ?_
        refine lv_goto (tgt := 47) hx hb dX10_next_43 (by decide) ?_
        refine z_iadd hx hb dX10_next_47 ?_
        refine lv_istore_n (lv' := [(3, .int (zI ((p % 7) + (-1)))), (2, .int (zI ((p / 7) + (-1)))), (0, .int (zI p)), (1, .int (zI w9))]) hx hb dX10_next_48 rfl hl (by decide) rfl (fun ls hl => ?_)
        refine lv_iload_n hx hb dX10_next_49 rfl (lv_at hl 1 rfl) ?_
        refine lv_iload_n hx hb dX10_next_50 rfl (lv_at hl 0 rfl) ?_
        refine z_calli hP hD hS hA (va_runS (As := [.int (zI ((p / 7) + (-1))), .int (zI ((p % 7) + (-1)))]) (rest := []) hC (c_X10_isPoint l D τ _ _ ((p / 7) + (-1)) ((p % 7) + (-1)) (by first | assumption | rfl | omega) (by first | assumption | rfl | omega) _) (va_cwS 2 hts (gS hB wl_X10_55 wt_X10_isPoint wi_X10 wc_X10_isPoint) rfl rfl rfl hd_X10_isPoint.2 ⟨Nat.le_of_ble_eq_true rfl, Nat.le_of_ble_eq_true rfl⟩) (zp_S hK hP hD hS hA hG) rfl rfl hl.1 rfl (lv_room (Nat.le_of_ble_eq_true rfl)) dX10_next_51 ⟨Nat.le_of_ble_eq_true rfl, Nat.le_of_ble_eq_true rfl⟩) (fun r w1 H locs hq9 hP hD hS => ?_)
        obtain ⟨v51_8, hv51_0, rfl, rfl⟩ := hq9
        refine z_ifeqB (tgt := 66) hx hb dX10_next_54 (by decide) (fun c_54 => ?_) (fun c_54 => ?_)
        · have hb_54 := zb_neg hv51_0 c_54
          refine lv_iconst (v := zI (-1)) hx hb dX10_next_66 rfl ?_
          exact z_iret hC hr hlk hQ hP hD hS ⟨(-1), (by have z9 := S_step_4 hp; rcases z4 hw9 with e9 | e9 | e9 | e9 <;> rw [e9] <;> first | (exfalso; omega) | (rw [z9.1]; split <;> omega) | (rw [z9.2.1]; split <;> omega) | (rw [z9.2.2.1]; split <;> omega) | (rw [z9.2.2.2]; split <;> omega)), (by first | assumption | rfl | omega), rfl, rfl⟩ dX10_next_67
        · have hb_54 := hv51_0.mp c_54
          refine lv_bipush (v := zI 7) hx hb dX10_next_57 (zI_b8 (by decide)) ?_
          refine lv_iload_n hx hb dX10_next_59 rfl (lv_at hl 1 rfl) ?_
          refine z_imul hx hb dX10_next_60 ?_
          refine lv_iload_n hx hb dX10_next_61 rfl (lv_at hl 0 rfl) ?_
          refine z_iadd hx hb dX10_next_62 ?_
          refine lv_goto (tgt := 67) hx hb dX10_next_63 (by decide) ?_
          exact z_iret hC hr hlk hQ hP hD hS ⟨(7 * ((p / 7) + (-1))) + ((p % 7) + (-1)), (by have z9 := S_step_4 hp; rcases z4 hw9 with e9 | e9 | e9 | e9 <;> rw [e9] <;> first | (exfalso; omega) | (rw [z9.1]; split <;> omega) | (rw [z9.2.1]; split <;> omega) | (rw [z9.2.2.1]; split <;> omega) | (rw [z9.2.2.2]; split <;> omega)), (by first | assumption | rfl | omega), rfl, rfl⟩ dX10_next_67
    · refine lv_iconst (v := zI 1) hx hb dX10_next_33 rfl ?_
      refine lv_goto (tgt := 47) hx hb dX10_next_34 (by decide) ?_
      refine z_iadd hx hb dX10_next_47 ?_
      refine lv_istore_n (lv' := [(3, .int (zI ((p % 7) + 1))), (2, .int (zI ((p / 7) + (-1)))), (0, .int (zI p)), (1, .int (zI w9))]) hx hb dX10_next_48 rfl hl (by decide) rfl (fun ls hl => ?_)
      refine lv_iload_n hx hb dX10_next_49 rfl (lv_at hl 1 rfl) ?_
      refine lv_iload_n hx hb dX10_next_50 rfl (lv_at hl 0 rfl) ?_
      refine z_calli hP hD hS hA (va_runS (As := [.int (zI ((p / 7) + (-1))), .int (zI ((p % 7) + 1))]) (rest := []) hC (c_X10_isPoint l D τ _ _ ((p / 7) + (-1)) ((p % 7) + 1) (by first | assumption | rfl | omega) (by first | assumption | rfl | omega) _) (va_cwS 2 hts (gS hB wl_X10_55 wt_X10_isPoint wi_X10 wc_X10_isPoint) rfl rfl rfl hd_X10_isPoint.2 ⟨Nat.le_of_ble_eq_true rfl, Nat.le_of_ble_eq_true rfl⟩) (zp_S hK hP hD hS hA hG) rfl rfl hl.1 rfl (lv_room (Nat.le_of_ble_eq_true rfl)) dX10_next_51 ⟨Nat.le_of_ble_eq_true rfl, Nat.le_of_ble_eq_true rfl⟩) (fun r w1 H locs hq9 hP hD hS => ?_)
      obtain ⟨v51_9, hv51_0, rfl, rfl⟩ := hq9
      refine z_ifeqB (tgt := 66) hx hb dX10_next_54 (by decide) (fun c_54 => ?_) (fun c_54 => ?_)
      · have hb_54 := zb_neg hv51_0 c_54
        refine lv_iconst (v := zI (-1)) hx hb dX10_next_66 rfl ?_
        exact z_iret hC hr hlk hQ hP hD hS ⟨(-1), (by have z9 := S_step_4 hp; rcases z4 hw9 with e9 | e9 | e9 | e9 <;> rw [e9] <;> first | (exfalso; omega) | (rw [z9.1]; split <;> omega) | (rw [z9.2.1]; split <;> omega) | (rw [z9.2.2.1]; split <;> omega) | (rw [z9.2.2.2]; split <;> omega)), (by first | assumption | rfl | omega), rfl, rfl⟩ dX10_next_67
      · have hb_54 := hv51_0.mp c_54
        refine lv_bipush (v := zI 7) hx hb dX10_next_57 (zI_b8 (by decide)) ?_
        refine lv_iload_n hx hb dX10_next_59 rfl (lv_at hl 1 rfl) ?_
        refine z_imul hx hb dX10_next_60 ?_
        refine lv_iload_n hx hb dX10_next_61 rfl (lv_at hl 0 rfl) ?_
        refine z_iadd hx hb dX10_next_62 ?_
        refine lv_goto (tgt := 67) hx hb dX10_next_63 (by decide) ?_
        exact z_iret hC hr hlk hQ hP hD hS ⟨(7 * ((p / 7) + (-1))) + ((p % 7) + 1), (by have z9 := S_step_4 hp; rcases z4 hw9 with e9 | e9 | e9 | e9 <;> rw [e9] <;> first | (exfalso; omega) | (rw [z9.1]; split <;> omega) | (rw [z9.2.1]; split <;> omega) | (rw [z9.2.2.1]; split <;> omega) | (rw [z9.2.2.2]; split <;> omega)), (by first | assumption | rfl | omega), rfl, rfl⟩ dX10_next_67

abbrev wz_X10_isBorder : List Cond := .code yX10_isBorder cX10_isBorder 1 (some .boolean) :: W0
abbrev rm_X10_isBorder : Room := { frames := 0, cells := 0, slots := 0, locals := 0 }
theorem hd_X10_isBorder : yX10_isBorder.cls = RX10 ∧ yX10_isBorder.cls ≠ "java/lang/invoke/MethodHandle" ∧ yX10_isBorder.cls ≠ "java/lang/invoke/VarHandle" ∧ (parseMethodDescriptor yX10_isBorder.desc).map (fun d => d.parameters.length) = some 1 := by decide +kernel
set_option maxHeartbeats 4000000 in
set_option maxRecDepth 100000 in
theorem c_X10_isBorder (l : Launch) (D : va_G) (τ : Nat → Nat) (ws : va_W) (tys : List (ClassId × FieldType)) (a : Int) (ha : 0 ≤ a ∧ a < 49) : cM l yX10_isBorder wz_X10_isBorder rm_X10_isBorder D τ tys [.int (zI a)] (ws) (zQi (fun r w => ∃ (v : Bool), (v = true ↔ (a < 7 ∨ 42 ≤ a ∨ a % 7 = 0 ∨ a % 7 = 6)) ∧ r = bI v ∧ ws = w)) := by
  refine z_ofM (cc := cX10_isBorder) (maxL := 1) (ret := (some .boolean)) (by decide +kernel) rfl (Nat.le_of_ble_eq_true rfl) ?_
  intro pg e s m args below meth c hC hr hlk hnm hK hP A hD hG hA hS ls hl Q hQ
  have hx := hC.1
  have hb := hC.2.1
  have hml := hC.2.2.1
  have hown := hC.2.2.2.1
  have hts := hC.2.2.2.2
  have hB : ∀ w ∈ W0, w ∈ wz_X10_isBorder := fun _ h => List.mem_cons_of_mem _ h
  have hW0 : ∀ w ∈ W0, w.before args s = true := fun w h => hts w (hB w h)
  have hl : lv_has ls 1 [(0, .int (zI a))] := hl
  refine lv_iload_n hx hb dX10_isBorder_0 rfl (lv_at hl 0 rfl) ?_
  refine lv_bipush (v := zI 7) hx hb dX10_isBorder_1 (zI_b8 (by decide)) ?_
  refine z_idiv hx hb ⟨⟨by omega, by omega⟩, by omega, by omega⟩ dX10_isBorder_3 ?_
  refine z_ifeq (tgt := 32) hx hb ⟨by omega, by omega⟩ dX10_isBorder_4 (by decide) (fun c_4 => ?_) (fun c_4 => ?_)
  · refine lv_iconst (v := zI 1) hx hb dX10_isBorder_32 rfl ?_
    refine lv_goto (tgt := 37) hx hb dX10_isBorder_33 (by decide) ?_
    refine W.eq (g2 := F0 m 37 ls [.int (bI true)]) rfl ?_
    exact z_zret hC hr hlk hQ hP hD hS ⟨true, (by constructor <;> intro h9 <;> first | (cases h9; done) | rfl | omega | assumption), rfl, rfl⟩ dX10_isBorder_37
  · refine lv_iload_n hx hb dX10_isBorder_7 rfl (lv_at hl 0 rfl) ?_
    refine lv_bipush (v := zI 7) hx hb dX10_isBorder_8 (zI_b8 (by decide)) ?_
    refine z_idiv hx hb ⟨⟨by omega, by omega⟩, by omega, by omega⟩ dX10_isBorder_10 ?_
    refine lv_bipush (v := zI 6) hx hb dX10_isBorder_11 (zI_b8 (by decide)) ?_
    refine z_iceq (tgt := 32) hx hb ⟨by omega, by omega⟩ ⟨by omega, by omega⟩ dX10_isBorder_13 (by decide) (fun c_13 => ?_) (fun c_13 => ?_)
    · refine lv_iconst (v := zI 1) hx hb dX10_isBorder_32 rfl ?_
      refine lv_goto (tgt := 37) hx hb dX10_isBorder_33 (by decide) ?_
      refine W.eq (g2 := F0 m 37 ls [.int (bI true)]) rfl ?_
      exact z_zret hC hr hlk hQ hP hD hS ⟨true, (by constructor <;> intro h9 <;> first | (cases h9; done) | rfl | omega | assumption), rfl, rfl⟩ dX10_isBorder_37
    · refine lv_iload_n hx hb dX10_isBorder_16 rfl (lv_at hl 0 rfl) ?_
      refine lv_bipush (v := zI 7) hx hb dX10_isBorder_17 (zI_b8 (by decide)) ?_
      refine z_irem hx hb ⟨⟨by omega, by omega⟩, by omega, by omega⟩ dX10_isBorder_19 ?_
      refine z_ifeq (tgt := 32) hx hb ⟨by omega, by omega⟩ dX10_isBorder_20 (by decide) (fun c_20 => ?_) (fun c_20 => ?_)
      · refine lv_iconst (v := zI 1) hx hb dX10_isBorder_32 rfl ?_
        refine lv_goto (tgt := 37) hx hb dX10_isBorder_33 (by decide) ?_
        refine W.eq (g2 := F0 m 37 ls [.int (bI true)]) rfl ?_
        exact z_zret hC hr hlk hQ hP hD hS ⟨true, (by constructor <;> intro h9 <;> first | (cases h9; done) | rfl | omega | assumption), rfl, rfl⟩ dX10_isBorder_37
      · refine lv_iload_n hx hb dX10_isBorder_23 rfl (lv_at hl 0 rfl) ?_
        refine lv_bipush (v := zI 7) hx hb dX10_isBorder_24 (zI_b8 (by decide)) ?_
        refine z_irem hx hb ⟨⟨by omega, by omega⟩, by omega, by omega⟩ dX10_isBorder_26 ?_
        refine lv_bipush (v := zI 6) hx hb dX10_isBorder_27 (zI_b8 (by decide)) ?_
        refine z_icne (tgt := 36) hx hb ⟨by omega, by omega⟩ ⟨by omega, by omega⟩ dX10_isBorder_29 (by decide) (fun c_29 => ?_) (fun c_29 => ?_)
        · refine lv_iconst (v := zI 0) hx hb dX10_isBorder_36 rfl ?_
          refine W.eq (g2 := F0 m 37 ls [.int (bI false)]) rfl ?_
          exact z_zret hC hr hlk hQ hP hD hS ⟨false, (by constructor <;> intro h9 <;> first | (cases h9; done) | rfl | omega | assumption), rfl, rfl⟩ dX10_isBorder_37
        · refine lv_iconst (v := zI 1) hx hb dX10_isBorder_32 rfl ?_
          refine lv_goto (tgt := 37) hx hb dX10_isBorder_33 (by decide) ?_
          refine W.eq (g2 := F0 m 37 ls [.int (bI true)]) rfl ?_
          exact z_zret hC hr hlk hQ hP hD hS ⟨true, (by constructor <;> intro h9 <;> first | (cases h9; done) | rfl | omega | assumption), rfl, rfl⟩ dX10_isBorder_37

abbrev wz_X10_save : List Cond := .code yX10_save cX10_save 2 none :: W0
abbrev rm_X10_save : Room := { frames := 0, cells := 0, slots := 0, locals := 0 }
theorem hd_X10_save : yX10_save.cls = RX10 ∧ yX10_save.cls ≠ "java/lang/invoke/MethodHandle" ∧ yX10_save.cls ≠ "java/lang/invoke/VarHandle" ∧ (parseMethodDescriptor yX10_save.desc).map (fun d => d.parameters.length) = some 0 := by decide +kernel
set_option maxHeartbeats 4000000 in
set_option maxRecDepth 100000 in
theorem c_X10_save (l : Launch) (D : va_G) (τ : Nat → Nat) (β : Nat → Nat) (δ : Nat → ClassId) (ms : IA) (mb : IA) (mo : IA) (mp : BA) (mf : IA) (mn : IA) (mi : IA) (mc : IA) (mq : BA) (mr : IA) (mw : IA) (mk : Int) (ml : Int) (mt : Int) (ma : Int) (mx : Bool) (mh : Int64) (hmk : 0 ≤ mk ∧ mk ≤ 6) : cM l yX10_save wz_X10_save rm_X10_save D τ (tyM δ) [.ref (β 0)] (wM β δ ms mb mo mp mf mn mi mc mq mr mw mk ml mt ma mx mh) (zQv (fun w => ∃ (b2 : IA), ∃ (k2 : Int), (b2 = S_sv mb ms mk) ∧ (k2 = S_svC mk) ∧ wM β δ ms b2 mo mp mf mn mi mc mq mr mw k2 ml mt ma mx mh = w)) := by
  refine z_ofM (cc := cX10_save) (maxL := 2) (ret := none) (by decide +kernel) rfl (Nat.le_of_ble_eq_true rfl) ?_
  intro pg e s m args below meth c hC hr hlk hnm hK hP A hD hG hA hS ls hl Q hQ
  have hx := hC.1
  have hb := hC.2.1
  have hml := hC.2.2.1
  have hown := hC.2.2.2.1
  have hts := hC.2.2.2.2
  have hB : ∀ w ∈ W0, w ∈ wz_X10_save := fun _ h => List.mem_cons_of_mem _ h
  have hW0 : ∀ w ∈ W0, w.before args s = true := fun w h => hts w (hB w h)
  have hl : lv_has ls 2 [(0, .ref (β 0))] := hl
  refine lv_aload_n hx hb dX10_save_0 rfl (lv_at hl 0 rfl) ?_
  refine va_get (D := D) (ci := 10) (v := .int (zI mk)) (C := RX10) (T := TX10) (N := 17) hx hb hts (fun w h => List.mem_cons_of_mem _ (wx_X10 w h)) hown hK hP 0 rfl rfl 2 (by decide) (hW0 _ wf_X10_52) (fun _ h9 => h9) rfl dX10_save_1 ?_
  refine lv_bipush (v := zI 6) hx hb dX10_save_4 (zI_b8 (by decide)) ?_
  refine z_icne (tgt := 49) hx hb ⟨by omega, by omega⟩ ⟨by omega, by omega⟩ dX10_save_6 (by decide) (fun c_6 => ?_) (fun c_6 => ?_)
  · refine lv_iconst (v := zI 0) hx hb dX10_save_49 rfl ?_
    refine lv_istore_n (lv' := [(1, .int (zI 0)), (0, .ref (β 0))]) hx hb dX10_save_50 rfl hl (by decide) rfl (fun ls hl => ?_)
    suffices HL_51 : ∀ (n_51 : Nat), ∀ (b3 : IA) (i : Int) (K9 : Int) (b0 : IA) (H : Heap) (locs : List Loc) (hP : va_P D vwCl (wM β δ ms b3 mo mp mf mn mi mc mq mr mw K9 ml mt ma mx mh) H) (hD : va_D A (wM β δ ms b3 mo mp mf mn mi mc mq mr mw K9 ml mt ma mx mh)) (hS : va_S A s.heap H locs) (ls : Array Slot) (hl : lv_has ls 2 [(1, .int (zI i)), (0, .ref (β 0))]) (hi : 0 ≤ i ∧ i ≤ 49) (hK : 0 ≤ K9 ∧ K9 ≤ 5) (hb3 : b3 = zcpy ms b0 0 (49 * K9) i) (hfin : S_sv mb ms mk = zcpy ms b0 0 (49 * K9) 49 ∧ S_svC mk = K9 + 1) (hm : (49 - i).toNat < n_51), W pg l e rm_X10_save s m args below meth c H locs 0 0 Q (F0 m 51 ls []) from HL_51 _ mb 0 mk mb _ _ hP hD hS _ (lv_sub hl [0, 1] rfl) (by first | assumption | rfl | omega) (by first | assumption | rfl | omega) (by exact (zcpy_0 _ _ _ _).symm) (by unfold S_sv S_svC; first | (rw [if_neg c_6, if_neg c_6]; exact ⟨rfl, rfl⟩) | (rw [if_pos c_6, if_pos c_6, hb1, show i = 245 by omega]; exact ⟨by rw [show 49 * (mk - 1) = 245 by omega], by omega⟩)) (Nat.lt_succ_self _)
    intro n_51
    induction n_51 with
    | zero => intro b3 i K9 b0 H locs hP hD hS ls hl hi hK hb3 hfin hm; exact absurd hm (Nat.not_lt_zero _)
    | succ n_51 ih_51 =>
      intro b3 i K9 b0 H locs hP hD hS ls hl hi hK hb3 hfin hm
      refine lv_iload_n hx hb dX10_save_51 rfl (lv_at hl 0 rfl) ?_
      refine lv_bipush (v := zI 49) hx hb dX10_save_52 (zI_b8 (by decide)) ?_
      refine z_icge (tgt := 83) hx hb ⟨by omega, by omega⟩ ⟨by omega, by omega⟩ dX10_save_54 (by decide) (fun c_54 => ?_) (fun c_54 => ?_)
      · refine lv_aload_n hx hb dX10_save_83 rfl (lv_at hl 1 rfl) ?_
        refine lv_dup hx hb dX10_save_84 rfl ?_
        refine va_get (D := D) (ci := 10) (v := .int (zI K9)) (C := RX10) (T := TX10) (N := 17) hx hb hts (fun w h => List.mem_cons_of_mem _ (wx_X10 w h)) hown hK hP 0 rfl rfl 2 (by decide) (hW0 _ wf_X10_52) (fun _ h9 => h9) rfl dX10_save_85 ?_
        refine lv_iconst (v := zI 1) hx hb dX10_save_88 rfl ?_
        refine z_iadd hx hb dX10_save_89 ?_
        refine va_put (D := D) (ci := 10) (v := .int (zI (K9 + 1))) (ty := .int) (C := RX10) (T := TX10) (N := 17) hx hb hts (fun w h => List.mem_cons_of_mem _ (wx_X10 w h)) tyX10 tyX10_ok nmX10 hown hK hP hD hS 0 rfl rfl 2 (by decide) (hW0 _ wf_X10_52) (fun _ h9 => h9) rfl (by decide +kernel) rfl rfl (Nat.le_of_ble_eq_true rfl) dX10_save_90 (fun H locs hP hD hS => ?_)
        have hP : va_P D vwCl (wM β δ ms b3 mo mp mf mn mi mc mq mr mw (K9 + 1) ml mt ma mx mh) H := hP
        have hD : va_D A (wM β δ ms b3 mo mp mf mn mi mc mq mr mw (K9 + 1) ml mt ma mx mh) := hD
        exact z_vret hC hr hlk hQ hP hD hS ⟨b3, K9 + 1, (by rw [hfin.1, hb3, show i = 49 by omega]), (by rw [hfin.2]), rfl⟩ dX10_save_93
      · refine lv_aload_n hx hb dX10_save_57 rfl (lv_at hl 1 rfl) ?_
        refine va_get (D := D) (ci := 10) (v := .ref (β 2)) (C := RX10) (T := TX10) (N := 17) hx hb hts (fun w h => List.mem_cons_of_mem _ (wx_X10 w h)) hown hK hP 0 rfl rfl 1 (by decide) (hW0 _ wf_X10_13) (fun _ h9 => h9) rfl dX10_save_58 ?_
        refine lv_bipush (v := zI 49) hx hb dX10_save_61 (zI_b8 (by decide)) ?_
        refine lv_aload_n hx hb dX10_save_63 rfl (lv_at hl 1 rfl) ?_
        refine va_get (D := D) (ci := 10) (v := .int (zI K9)) (C := RX10) (T := TX10) (N := 17) hx hb hts (fun w h => List.mem_cons_of_mem _ (wx_X10 w h)) hown hK hP 0 rfl rfl 2 (by decide) (hW0 _ wf_X10_52) (fun _ h9 => h9) rfl dX10_save_64 ?_
        refine z_imul hx hb dX10_save_67 ?_
        refine lv_iload_n hx hb dX10_save_68 rfl (lv_at hl 0 rfl) ?_
        refine z_iadd hx hb dX10_save_69 ?_
        refine lv_aload_n hx hb dX10_save_70 rfl (lv_at hl 1 rfl) ?_
        refine va_get (D := D) (ci := 10) (v := .ref (β 1)) (C := RX10) (T := TX10) (N := 17) hx hb hts (fun w h => List.mem_cons_of_mem _ (wx_X10 w h)) hown hK hP 0 rfl rfl 0 (by decide) (hW0 _ wf_X10_7) (fun _ h9 => h9) rfl dX10_save_71 ?_
        refine lv_iload_n hx hb dX10_save_74 rfl (lv_at hl 0 rfl) ?_
        refine z_iald (f := ms) hx hb hK hP 1 0 rfl rfl ⟨⟨by omega, by omega⟩, by decide⟩ dX10_save_75 ?_
        refine z_iast (f := b3) (v := ms i) hx hb hK hP hD hS 2 1 rfl rfl ⟨⟨by omega, by omega⟩, by decide⟩ dX10_save_76 (fun H locs hP hD hS => ?_)
        have hP : va_P D vwCl (wM β δ ms ((zu b3 ((49 * K9) + i) (ms i))) mo mp mf mn mi mc mq mr mw K9 ml mt ma mx mh) H := hP
        have hD : va_D A (wM β δ ms ((zu b3 ((49 * K9) + i) (ms i))) mo mp mf mn mi mc mq mr mw K9 ml mt ma mx mh) := hD
        refine z_iinc (k := 0) (v := i + 1) (lv' := [(1, .int (zI (i + 1))), (0, .ref (β 0))]) hx hb dX10_save_77 hl rfl rfl (by decide) rfl (fun ls hl => ?_)
        refine lv_goto (tgt := 51) hx hb dX10_save_80 (by decide) ?_
        exact ih_51 (zu b3 ((49 * K9) + i) (ms i)) (i + 1) K9 b0 _ _ hP hD hS _ (lv_sub hl [0, 1] rfl) (by first | assumption | rfl | omega) (by first | assumption | rfl | omega) (by rw [hb3]; exact zcpy_up hi.1 rfl (by rw [Int.zero_add])) (by exact hfin) (by omega)
  · refine lv_iconst (v := zI 0) hx hb dX10_save_9 rfl ?_
    refine lv_istore_n (lv' := [(1, .int (zI 0)), (0, .ref (β 0))]) hx hb dX10_save_10 rfl hl (by decide) rfl (fun ls hl => ?_)
    suffices HL_11 : ∀ (n_11 : Nat), ∀ (b1 : IA) (i : Int) (H : Heap) (locs : List Loc) (hP : va_P D vwCl (wM β δ ms b1 mo mp mf mn mi mc mq mr mw mk ml mt ma mx mh) H) (hD : va_D A (wM β δ ms b1 mo mp mf mn mi mc mq mr mw mk ml mt ma mx mh)) (hS : va_S A s.heap H locs) (ls : Array Slot) (hl : lv_has ls 2 [(1, .int (zI i)), (0, .ref (β 0))]) (hi : 0 ≤ i ∧ i ≤ 245) (hb1 : b1 = zcpy mb mb 49 0 i) (hm : (245 - i).toNat < n_11), W pg l e rm_X10_save s m args below meth c H locs 0 0 Q (F0 m 11 ls []) from HL_11 _ mb 0 _ _ hP hD hS _ (lv_sub hl [0, 1] rfl) (by first | assumption | rfl | omega) (by exact (zcpy_0 _ _ _ _).symm) (Nat.lt_succ_self _)
    intro n_11
    induction n_11 with
    | zero => intro b1 i H locs hP hD hS ls hl hi hb1 hm; exact absurd hm (Nat.not_lt_zero _)
    | succ n_11 ih_11 =>
      intro b1 i H locs hP hD hS ls hl hi hb1 hm
      refine lv_iload_n hx hb dX10_save_11 rfl (lv_at hl 0 rfl) ?_
      refine lv_sipush (v := zI 245) hx hb dX10_save_12 (zI_b16 (by decide)) ?_
      refine z_icge (tgt := 39) hx hb ⟨by omega, by omega⟩ ⟨by omega, by omega⟩ dX10_save_15 (by decide) (fun c_15 => ?_) (fun c_15 => ?_)
      · refine lv_aload_n hx hb dX10_save_39 rfl (lv_at hl 1 rfl) ?_
        refine lv_dup hx hb dX10_save_40 rfl ?_
        refine va_get (D := D) (ci := 10) (v := .int (zI mk)) (C := RX10) (T := TX10) (N := 17) hx hb hts (fun w h => List.mem_cons_of_mem _ (wx_X10 w h)) hown hK hP 0 rfl rfl 2 (by decide) (hW0 _ wf_X10_52) (fun _ h9 => h9) rfl dX10_save_41 ?_
        refine lv_iconst (v := zI 1) hx hb dX10_save_44 rfl ?_
        refine z_isub hx hb dX10_save_45 ?_
        refine va_put (D := D) (ci := 10) (v := .int (zI (mk - 1))) (ty := .int) (C := RX10) (T := TX10) (N := 17) hx hb hts (fun w h => List.mem_cons_of_mem _ (wx_X10 w h)) tyX10 tyX10_ok nmX10 hown hK hP hD hS 0 rfl rfl 2 (by decide) (hW0 _ wf_X10_52) (fun _ h9 => h9) rfl (by decide +kernel) rfl rfl (Nat.le_of_ble_eq_true rfl) dX10_save_46 (fun H locs hP hD hS => ?_)
        have hP : va_P D vwCl (wM β δ ms b1 mo mp mf mn mi mc mq mr mw (mk - 1) ml mt ma mx mh) H := hP
        have hD : va_D A (wM β δ ms b1 mo mp mf mn mi mc mq mr mw (mk - 1) ml mt ma mx mh) := hD
        refine lv_iconst (v := zI 0) hx hb dX10_save_49 rfl ?_
        refine lv_istore_n (lv' := [(1, .int (zI 0)), (0, .ref (β 0))]) hx hb dX10_save_50 rfl hl (by decide) rfl (fun ls hl => ?_)
        suffices HL_51 : ∀ (n_51 : Nat), ∀ (b3 : IA) (i : Int) (K9 : Int) (b0 : IA) (H : Heap) (locs : List Loc) (hP : va_P D vwCl (wM β δ ms b3 mo mp mf mn mi mc mq mr mw K9 ml mt ma mx mh) H) (hD : va_D A (wM β δ ms b3 mo mp mf mn mi mc mq mr mw K9 ml mt ma mx mh)) (hS : va_S A s.heap H locs) (ls : Array Slot) (hl : lv_has ls 2 [(1, .int (zI i)), (0, .ref (β 0))]) (hi : 0 ≤ i ∧ i ≤ 49) (hK : 0 ≤ K9 ∧ K9 ≤ 5) (hb3 : b3 = zcpy ms b0 0 (49 * K9) i) (hfin : S_sv mb ms mk = zcpy ms b0 0 (49 * K9) 49 ∧ S_svC mk = K9 + 1) (hm : (49 - i).toNat < n_51), W pg l e rm_X10_save s m args below meth c H locs 0 0 Q (F0 m 51 ls []) from HL_51 _ b1 0 (mk - 1) b1 _ _ hP hD hS _ (lv_sub hl [0, 1] rfl) (by first | assumption | rfl | omega) (by first | assumption | rfl | omega) (by exact (zcpy_0 _ _ _ _).symm) (by unfold S_sv S_svC; first | (rw [if_neg c_6, if_neg c_6]; exact ⟨rfl, rfl⟩) | (rw [if_pos c_6, if_pos c_6, hb1, show i = 245 by omega]; exact ⟨by rw [show 49 * (mk - 1) = 245 by omega], by omega⟩)) (Nat.lt_succ_self _)
        intro n_51
        induction n_51 with
        | zero => intro b3 i K9 b0 H locs hP hD hS ls hl hi hK hb3 hfin hm; exact absurd hm (Nat.not_lt_zero _)
        | succ n_51 ih_51 =>
          intro b3 i K9 b0 H locs hP hD hS ls hl hi hK hb3 hfin hm
          refine lv_iload_n hx hb dX10_save_51 rfl (lv_at hl 0 rfl) ?_
          refine lv_bipush (v := zI 49) hx hb dX10_save_52 (zI_b8 (by decide)) ?_
          refine z_icge (tgt := 83) hx hb ⟨by omega, by omega⟩ ⟨by omega, by omega⟩ dX10_save_54 (by decide) (fun c_54 => ?_) (fun c_54 => ?_)
          · refine lv_aload_n hx hb dX10_save_83 rfl (lv_at hl 1 rfl) ?_
            refine lv_dup hx hb dX10_save_84 rfl ?_
            refine va_get (D := D) (ci := 10) (v := .int (zI K9)) (C := RX10) (T := TX10) (N := 17) hx hb hts (fun w h => List.mem_cons_of_mem _ (wx_X10 w h)) hown hK hP 0 rfl rfl 2 (by decide) (hW0 _ wf_X10_52) (fun _ h9 => h9) rfl dX10_save_85 ?_
            refine lv_iconst (v := zI 1) hx hb dX10_save_88 rfl ?_
            refine z_iadd hx hb dX10_save_89 ?_
            refine va_put (D := D) (ci := 10) (v := .int (zI (K9 + 1))) (ty := .int) (C := RX10) (T := TX10) (N := 17) hx hb hts (fun w h => List.mem_cons_of_mem _ (wx_X10 w h)) tyX10 tyX10_ok nmX10 hown hK hP hD hS 0 rfl rfl 2 (by decide) (hW0 _ wf_X10_52) (fun _ h9 => h9) rfl (by decide +kernel) rfl rfl (Nat.le_of_ble_eq_true rfl) dX10_save_90 (fun H locs hP hD hS => ?_)
            have hP : va_P D vwCl (wM β δ ms b3 mo mp mf mn mi mc mq mr mw (K9 + 1) ml mt ma mx mh) H := hP
            have hD : va_D A (wM β δ ms b3 mo mp mf mn mi mc mq mr mw (K9 + 1) ml mt ma mx mh) := hD
            exact z_vret hC hr hlk hQ hP hD hS ⟨b3, K9 + 1, (by rw [hfin.1, hb3, show i = 49 by omega]), (by rw [hfin.2]), rfl⟩ dX10_save_93
          · refine lv_aload_n hx hb dX10_save_57 rfl (lv_at hl 1 rfl) ?_
            refine va_get (D := D) (ci := 10) (v := .ref (β 2)) (C := RX10) (T := TX10) (N := 17) hx hb hts (fun w h => List.mem_cons_of_mem _ (wx_X10 w h)) hown hK hP 0 rfl rfl 1 (by decide) (hW0 _ wf_X10_13) (fun _ h9 => h9) rfl dX10_save_58 ?_
            refine lv_bipush (v := zI 49) hx hb dX10_save_61 (zI_b8 (by decide)) ?_
            refine lv_aload_n hx hb dX10_save_63 rfl (lv_at hl 1 rfl) ?_
            refine va_get (D := D) (ci := 10) (v := .int (zI K9)) (C := RX10) (T := TX10) (N := 17) hx hb hts (fun w h => List.mem_cons_of_mem _ (wx_X10 w h)) hown hK hP 0 rfl rfl 2 (by decide) (hW0 _ wf_X10_52) (fun _ h9 => h9) rfl dX10_save_64 ?_
            refine z_imul hx hb dX10_save_67 ?_
            refine lv_iload_n hx hb dX10_save_68 rfl (lv_at hl 0 rfl) ?_
            refine z_iadd hx hb dX10_save_69 ?_
            refine lv_aload_n hx hb dX10_save_70 rfl (lv_at hl 1 rfl) ?_
            refine va_get (D := D) (ci := 10) (v := .ref (β 1)) (C := RX10) (T := TX10) (N := 17) hx hb hts (fun w h => List.mem_cons_of_mem _ (wx_X10 w h)) hown hK hP 0 rfl rfl 0 (by decide) (hW0 _ wf_X10_7) (fun _ h9 => h9) rfl dX10_save_71 ?_
            refine lv_iload_n hx hb dX10_save_74 rfl (lv_at hl 0 rfl) ?_
            refine z_iald (f := ms) hx hb hK hP 1 0 rfl rfl ⟨⟨by omega, by omega⟩, by decide⟩ dX10_save_75 ?_
            refine z_iast (f := b3) (v := ms i) hx hb hK hP hD hS 2 1 rfl rfl ⟨⟨by omega, by omega⟩, by decide⟩ dX10_save_76 (fun H locs hP hD hS => ?_)
            have hP : va_P D vwCl (wM β δ ms ((zu b3 ((49 * K9) + i) (ms i))) mo mp mf mn mi mc mq mr mw K9 ml mt ma mx mh) H := hP
            have hD : va_D A (wM β δ ms ((zu b3 ((49 * K9) + i) (ms i))) mo mp mf mn mi mc mq mr mw K9 ml mt ma mx mh) := hD
            refine z_iinc (k := 0) (v := i + 1) (lv' := [(1, .int (zI (i + 1))), (0, .ref (β 0))]) hx hb dX10_save_77 hl rfl rfl (by decide) rfl (fun ls hl => ?_)
            refine lv_goto (tgt := 51) hx hb dX10_save_80 (by decide) ?_
            exact ih_51 (zu b3 ((49 * K9) + i) (ms i)) (i + 1) K9 b0 _ _ hP hD hS _ (lv_sub hl [0, 1] rfl) (by first | assumption | rfl | omega) (by first | assumption | rfl | omega) (by rw [hb3]; exact zcpy_up hi.1 rfl (by rw [Int.zero_add])) (by exact hfin) (by omega)
      · refine lv_aload_n hx hb dX10_save_18 rfl (lv_at hl 1 rfl) ?_
        refine va_get (D := D) (ci := 10) (v := .ref (β 2)) (C := RX10) (T := TX10) (N := 17) hx hb hts (fun w h => List.mem_cons_of_mem _ (wx_X10 w h)) hown hK hP 0 rfl rfl 1 (by decide) (hW0 _ wf_X10_13) (fun _ h9 => h9) rfl dX10_save_19 ?_
        refine lv_iload_n hx hb dX10_save_22 rfl (lv_at hl 0 rfl) ?_
        refine lv_aload_n hx hb dX10_save_23 rfl (lv_at hl 1 rfl) ?_
        refine va_get (D := D) (ci := 10) (v := .ref (β 2)) (C := RX10) (T := TX10) (N := 17) hx hb hts (fun w h => List.mem_cons_of_mem _ (wx_X10 w h)) hown hK hP 0 rfl rfl 1 (by decide) (hW0 _ wf_X10_13) (fun _ h9 => h9) rfl dX10_save_24 ?_
        refine lv_bipush (v := zI 49) hx hb dX10_save_27 (zI_b8 (by decide)) ?_
        refine lv_iload_n hx hb dX10_save_29 rfl (lv_at hl 0 rfl) ?_
        refine z_iadd hx hb dX10_save_30 ?_
        refine z_iald (f := b1) hx hb hK hP 2 1 rfl rfl ⟨⟨by omega, by omega⟩, by decide⟩ dX10_save_31 ?_
        refine z_iast (f := b1) (v := b1 (49 + i)) hx hb hK hP hD hS 2 1 rfl rfl ⟨⟨by omega, by omega⟩, by decide⟩ dX10_save_32 (fun H locs hP hD hS => ?_)
        have hP : va_P D vwCl (wM β δ ms ((zu b1 i (b1 (49 + i)))) mo mp mf mn mi mc mq mr mw mk ml mt ma mx mh) H := hP
        have hD : va_D A (wM β δ ms ((zu b1 i (b1 (49 + i)))) mo mp mf mn mi mc mq mr mw mk ml mt ma mx mh) := hD
        refine z_iinc (k := 0) (v := i + 1) (lv' := [(1, .int (zI (i + 1))), (0, .ref (β 0))]) hx hb dX10_save_33 hl rfl rfl (by decide) rfl (fun ls hl => ?_)
        refine lv_goto (tgt := 11) hx hb dX10_save_36 (by decide) ?_
        exact ih_11 (zu b1 i (b1 (49 + i))) (i + 1) _ _ hP hD hS _ (lv_sub hl [0, 1] rfl) (by first | assumption | rfl | omega) (by rw [hb1]; exact zcpy_up hi.1 (by omega) (by unfold zcpy; rw [if_neg (by omega)])) (by omega)

abbrev wz_X10_takes : List Cond := .code yX10_takes cX10_takes 4 (some .int) :: W0
abbrev rm_X10_takes : Room := { frames := 1, cells := 0, slots := 0, locals := 20 }
theorem hd_X10_takes : yX10_takes.cls = RX10 ∧ yX10_takes.cls ≠ "java/lang/invoke/MethodHandle" ∧ yX10_takes.cls ≠ "java/lang/invoke/VarHandle" ∧ (parseMethodDescriptor yX10_takes.desc).map (fun d => d.parameters.length) = some 0 := by decide +kernel
set_option maxHeartbeats 4000000 in
set_option maxRecDepth 100000 in
theorem c_X10_takes (l : Launch) (D : va_G) (τ : Nat → Nat) (β : Nat → Nat) (δ : Nat → ClassId) (ms : IA) (mb : IA) (mo : IA) (mp : BA) (mf : IA) (mn : IA) (mi : IA) (mc : IA) (mq : BA) (mr : IA) (mw : IA) (mk : Int) (ml : Int) (mt : Int) (ma : Int) (mx : Bool) (mh : Int64) (hms : ∀ k, 0 ≤ k → k < 49 → 0 ≤ ms k ∧ ms k ≤ 99) (hmn : ∀ k, 0 ≤ k → k < 49 → -100000 ≤ mn k ∧ mn k ≤ 100000) : cM l yX10_takes wz_X10_takes rm_X10_takes D τ (tyM δ) [.ref (β 0)] (wM β δ ms mb mo mp mf mn mi mc mq mr mw mk ml mt ma mx mh) (zQi (fun r w => ∃ (s2 : IA), ∃ (v : Int), (s2 = zmix 49 (fun k => clip (mn k)) ms) ∧ (v = S_diff s2 ms) ∧ (0 ≤ v ∧ v ≤ 49) ∧ r = zI v ∧ wM β δ s2 mb mo mp mf mn mi mc mq mr mw mk ml mt ma mx mh = w)) := by
  refine z_ofM (cc := cX10_takes) (maxL := 4) (ret := (some .int)) (by decide +kernel) rfl (Nat.le_of_ble_eq_true rfl) ?_
  intro pg e s m args below meth c hC hr hlk hnm hK hP A hD hG hA hS ls hl Q hQ
  have hx := hC.1
  have hb := hC.2.1
  have hml := hC.2.2.1
  have hown := hC.2.2.2.1
  have hts := hC.2.2.2.2
  have hB : ∀ w ∈ W0, w ∈ wz_X10_takes := fun _ h => List.mem_cons_of_mem _ h
  have hW0 : ∀ w ∈ W0, w.before args s = true := fun w h => hts w (hB w h)
  have hl : lv_has ls 4 [(0, .ref (β 0))] := hl
  refine lv_iconst (v := zI 0) hx hb dX10_takes_0 rfl ?_
  refine lv_istore_n (lv' := [(1, .int (zI 0)), (0, .ref (β 0))]) hx hb dX10_takes_1 rfl hl (by decide) rfl (fun ls hl => ?_)
  refine lv_iconst (v := zI 0) hx hb dX10_takes_2 rfl ?_
  refine lv_istore_n (lv' := [(2, .int (zI 0)), (1, .int (zI 0)), (0, .ref (β 0))]) hx hb dX10_takes_3 rfl hl (by decide) rfl (fun ls hl => ?_)
  suffices HL_4 : ∀ (n_4 : Nat), ∀ (s1 : IA) (g : Int) (i : Int) (H : Heap) (locs : List Loc) (hP : va_P D vwCl (wM β δ s1 mb mo mp mf mn mi mc mq mr mw mk ml mt ma mx mh) H) (hD : va_D A (wM β δ s1 mb mo mp mf mn mi mc mq mr mw mk ml mt ma mx mh)) (hS : va_S A s.heap H locs) (ls : Array Slot) (hl : lv_has ls 4 [(1, .int (zI g)), (2, .int (zI i)), (0, .ref (β 0))]) (hi : 0 ≤ i ∧ i ≤ 49) (hs1 : s1 = zmix i (fun k => clip (mn k)) ms) (hg : g = zC (fun k => !decide (clip (mn k) = ms k)) i) (hgb : 0 ≤ g ∧ g ≤ i) (hm : (49 - i).toNat < n_4), W pg l e rm_X10_takes s m args below meth c H locs 0 0 Q (F0 m 4 ls []) from HL_4 _ ms 0 0 _ _ hP hD hS _ (lv_sub hl [1, 0, 2] rfl) (by first | assumption | rfl | omega) (by exact (zmix_0 _ _).symm) (by exact (zC_0 _).symm) (by first | assumption | rfl | omega) (Nat.lt_succ_self _)
  intro n_4
  induction n_4 with
  | zero => intro s1 g i H locs hP hD hS ls hl hi hs1 hg hgb hm; exact absurd hm (Nat.not_lt_zero _)
  | succ n_4 ih_4 =>
    intro s1 g i H locs hP hD hS ls hl hi hs1 hg hgb hm
    refine lv_iload_n hx hb dX10_takes_4 rfl (lv_at hl 1 rfl) ?_
    refine lv_bipush (v := zI 49) hx hb dX10_takes_5 (zI_b8 (by decide)) ?_
    refine z_icge (tgt := 51) hx hb ⟨by omega, by omega⟩ ⟨by omega, by omega⟩ dX10_takes_7 (by decide) (fun c_7 => ?_) (fun c_7 => ?_)
    · refine lv_iload_n hx hb dX10_takes_51 rfl (lv_at hl 0 rfl) ?_
      exact z_iret hC hr hlk hQ hP hD hS ⟨s1, g, (by rw [hs1, show i = 49 by omega]), (by rw [hg, hs1, show i = 49 by omega]; unfold S_diff; exact zC_congr (by omega) (fun k a b => by show (!decide (clip (mn k) = ms k)) = !decide (zmix 49 (fun k => clip (mn k)) ms k = ms k); rw [zmix_at ⟨a, b⟩])), (by first | assumption | rfl | omega), rfl, rfl⟩ dX10_takes_52
    · refine lv_aload_n hx hb dX10_takes_10 rfl (lv_at hl 2 rfl) ?_
      refine va_get (D := D) (ci := 10) (v := .ref (β 6)) (C := RX10) (T := TX10) (N := 17) hx hb hts (fun w h => List.mem_cons_of_mem _ (wx_X10 w h)) hown hK hP 0 rfl rfl 8 (by decide) (hW0 _ wf_X10_26) (fun _ h9 => h9) rfl dX10_takes_11 ?_
      refine lv_iload_n hx hb dX10_takes_14 rfl (lv_at hl 1 rfl) ?_
      refine z_iald (f := mn) hx hb hK hP 6 5 rfl rfl ⟨⟨by omega, by omega⟩, by decide⟩ dX10_takes_15 ?_
      have hb_15 := hmn i (by omega) (by omega)
      refine z_calli hP hD hS hA (va_runS (As := [.int (zI (mn i))]) (rest := []) hC (c_X10_height l D τ _ _ (mn i) (by first | assumption | rfl | omega) _) (va_cwS 1 hts (gS hB wl_X10_59 wt_X10_height wi_X10 wc_X10_height) rfl rfl rfl hd_X10_height.2 ⟨Nat.le_of_ble_eq_true rfl, Nat.le_of_ble_eq_true rfl⟩) (zp_S hK hP hD hS hA hG) rfl rfl hl.1 rfl (lv_room (Nat.le_of_ble_eq_true rfl)) dX10_takes_16 ⟨Nat.le_of_ble_eq_true rfl, Nat.le_of_ble_eq_true rfl⟩) (fun r w1 H locs hq9 hP hD hS => ?_)
      obtain ⟨v16_1, hv16_0, hv16_1, rfl, rfl⟩ := hq9
      refine lv_istore_n (lv' := [(3, .int (zI v16_1)), (1, .int (zI g)), (2, .int (zI i)), (0, .ref (β 0))]) hx hb dX10_takes_19 rfl hl (by decide) rfl (fun ls hl => ?_)
      refine lv_iload_n hx hb dX10_takes_20 rfl (lv_at hl 1 rfl) ?_
      have e26 : s1 i = ms i := by rw [hs1]; exact zmix_ge (Int.le_refl _)
      have hb26 := hms i (by omega) (by omega)
      refine lv_aload_n hx hb dX10_takes_21 rfl (lv_at hl 3 rfl) ?_
      refine va_get (D := D) (ci := 10) (v := .ref (β 1)) (C := RX10) (T := TX10) (N := 17) hx hb hts (fun w h => List.mem_cons_of_mem _ (wx_X10 w h)) hown hK hP 0 rfl rfl 0 (by decide) (hW0 _ wf_X10_7) (fun _ h9 => h9) rfl dX10_takes_22 ?_
      refine lv_iload_n hx hb dX10_takes_25 rfl (lv_at hl 2 rfl) ?_
      refine z_iald (f := s1) hx hb hK hP 1 0 rfl rfl ⟨⟨by omega, by omega⟩, by decide⟩ dX10_takes_26 ?_
      refine lv_iload_n hx hb dX10_takes_27 rfl (lv_at hl 0 rfl) ?_
      refine z_icne (tgt := 35) hx hb ⟨by omega, by omega⟩ ⟨by omega, by omega⟩ dX10_takes_28 (by decide) (fun c_28 => ?_) (fun c_28 => ?_)
      · refine lv_iconst (v := zI 1) hx hb dX10_takes_35 rfl ?_
        refine z_iadd hx hb dX10_takes_36 ?_
        refine lv_istore_n (lv' := [(1, .int (zI (g + 1))), (3, .int (zI v16_1)), (2, .int (zI i)), (0, .ref (β 0))]) hx hb dX10_takes_37 rfl hl (by decide) rfl (fun ls hl => ?_)
        refine lv_aload_n hx hb dX10_takes_38 rfl (lv_at hl 3 rfl) ?_
        refine va_get (D := D) (ci := 10) (v := .ref (β 1)) (C := RX10) (T := TX10) (N := 17) hx hb hts (fun w h => List.mem_cons_of_mem _ (wx_X10 w h)) hown hK hP 0 rfl rfl 0 (by decide) (hW0 _ wf_X10_7) (fun _ h9 => h9) rfl dX10_takes_39 ?_
        refine lv_iload_n hx hb dX10_takes_42 rfl (lv_at hl 2 rfl) ?_
        refine lv_iload_n hx hb dX10_takes_43 rfl (lv_at hl 1 rfl) ?_
        refine z_iast (f := s1) (v := v16_1) hx hb hK hP hD hS 1 0 rfl rfl ⟨⟨by omega, by omega⟩, by decide⟩ dX10_takes_44 (fun H locs hP hD hS => ?_)
        have hP : va_P D vwCl (wM β δ (zu s1 i v16_1) mb mo mp mf mn mi mc mq mr mw mk ml mt ma mx mh) H := hP
        have hD : va_D A (wM β δ (zu s1 i v16_1) mb mo mp mf mn mi mc mq mr mw mk ml mt ma mx mh) := hD
        refine z_iinc (k := 2) (v := i + 1) (lv' := [(2, .int (zI (i + 1))), (1, .int (zI (g + 1))), (3, .int (zI v16_1)), (0, .ref (β 0))]) hx hb dX10_takes_45 hl rfl rfl (by decide) rfl (fun ls hl => ?_)
        refine lv_goto (tgt := 4) hx hb dX10_takes_48 (by decide) ?_
        exact ih_4 (zu s1 i v16_1) (g + 1) (i + 1) _ _ hP hD hS _ (lv_sub hl [1, 0, 3] rfl) (by first | assumption | rfl | omega) (by rw [hs1]; exact zmix_up hi.1 hv16_0) (by rw [zC_up hi.1, ← hg]; first | (rw [z1_f (by show (!decide (clip (mn i) = ms i)) = false; rw [← hv16_0, ← e26, c_28]; simp)]; omega) | (rw [z1_t (by show (!decide (clip (mn i) = ms i)) = true; rw [← hv16_0, ← e26]; simp; exact fun h9 => c_28 h9.symm)])) (by first | assumption | rfl | omega) (by omega)
      · refine lv_iconst (v := zI 0) hx hb dX10_takes_31 rfl ?_
        refine lv_goto (tgt := 36) hx hb dX10_takes_32 (by decide) ?_
        refine z_iadd hx hb dX10_takes_36 ?_
        refine lv_istore_n (lv' := [(1, .int (zI (g + 0))), (3, .int (zI v16_1)), (2, .int (zI i)), (0, .ref (β 0))]) hx hb dX10_takes_37 rfl hl (by decide) rfl (fun ls hl => ?_)
        refine lv_aload_n hx hb dX10_takes_38 rfl (lv_at hl 3 rfl) ?_
        refine va_get (D := D) (ci := 10) (v := .ref (β 1)) (C := RX10) (T := TX10) (N := 17) hx hb hts (fun w h => List.mem_cons_of_mem _ (wx_X10 w h)) hown hK hP 0 rfl rfl 0 (by decide) (hW0 _ wf_X10_7) (fun _ h9 => h9) rfl dX10_takes_39 ?_
        refine lv_iload_n hx hb dX10_takes_42 rfl (lv_at hl 2 rfl) ?_
        refine lv_iload_n hx hb dX10_takes_43 rfl (lv_at hl 1 rfl) ?_
        refine z_iast (f := s1) (v := v16_1) hx hb hK hP hD hS 1 0 rfl rfl ⟨⟨by omega, by omega⟩, by decide⟩ dX10_takes_44 (fun H locs hP hD hS => ?_)
        have hP : va_P D vwCl (wM β δ (zu s1 i v16_1) mb mo mp mf mn mi mc mq mr mw mk ml mt ma mx mh) H := hP
        have hD : va_D A (wM β δ (zu s1 i v16_1) mb mo mp mf mn mi mc mq mr mw mk ml mt ma mx mh) := hD
        refine z_iinc (k := 2) (v := i + 1) (lv' := [(2, .int (zI (i + 1))), (1, .int (zI (g + 0))), (3, .int (zI v16_1)), (0, .ref (β 0))]) hx hb dX10_takes_45 hl rfl rfl (by decide) rfl (fun ls hl => ?_)
        refine lv_goto (tgt := 4) hx hb dX10_takes_48 (by decide) ?_
        exact ih_4 (zu s1 i v16_1) (g + 0) (i + 1) _ _ hP hD hS _ (lv_sub hl [1, 0, 3] rfl) (by first | assumption | rfl | omega) (by rw [hs1]; exact zmix_up hi.1 hv16_0) (by rw [zC_up hi.1, ← hg]; first | (rw [z1_f (by show (!decide (clip (mn i) = ms i)) = false; rw [← hv16_0, ← e26, c_28]; simp)]; omega) | (rw [z1_t (by show (!decide (clip (mn i) = ms i)) = true; rw [← hv16_0, ← e26]; simp; exact fun h9 => c_28 h9.symm)])) (by first | assumption | rfl | omega) (by omega)

abbrev wz_X10_heaps : List Cond := .code yX10_heaps cX10_heaps 8 (some .int) :: W0
abbrev rm_X10_heaps : Room := { frames := 2, cells := 0, slots := 0, locals := 43 }
theorem hd_X10_heaps : yX10_heaps.cls = RX10 ∧ yX10_heaps.cls ≠ "java/lang/invoke/MethodHandle" ∧ yX10_heaps.cls ≠ "java/lang/invoke/VarHandle" ∧ (parseMethodDescriptor yX10_heaps.desc).map (fun d => d.parameters.length) = some 3 := by decide +kernel
set_option maxHeartbeats 4000000 in
set_option maxRecDepth 100000 in
theorem c_X10_heaps (l : Launch) (D : va_G) (τ : Nat → Nat) (β : Nat → Nat) (δ : Nat → ClassId) (ms : IA) (mb : IA) (mo : IA) (mp : BA) (mf : IA) (mn : IA) (mi : IA) (mc : IA) (mq : BA) (mr : IA) (mw : IA) (mk : Int) (ml : Int) (mt : Int) (ma : Int) (mx : Bool) (mh : Int64) (r9 : Int) (c9 : Int) (a : Int) (hr9 : 0 ≤ r9 ∧ r9 ≤ 6) (hc9 : 0 ≤ c9 ∧ c9 ≤ 6) (ham : -60 ≤ a ∧ a ≤ 60) (hms : ∀ k, 0 ≤ k → k < 49 → 0 ≤ ms k ∧ ms k ≤ 99) : cM l yX10_heaps wz_X10_heaps rm_X10_heaps D τ (tyM δ) [.ref (β 0), .int (zI r9), .int (zI c9), .int (zI a)] (wM β δ ms mb mo mp mf mn mi mc mq mr mw mk ml mt ma mx mh) (zQi (fun r w => ∃ (s2 : IA), ∃ (n2 : IA), ∃ (v : Int), (s2 = S_heap ms (7 * r9 + c9) a) ∧ (v = S_diff (S_heap ms (7 * r9 + c9) a) ms) ∧ (0 ≤ v ∧ v ≤ 49) ∧ r = zI v ∧ wM β δ s2 mb mo mp mf n2 mi mc mq mr mw mk ml mt ma mx mh = w)) := by
  refine z_ofM (cc := cX10_heaps) (maxL := 8) (ret := (some .int)) (by decide +kernel) rfl (Nat.le_of_ble_eq_true rfl) ?_
  intro pg e s m args below meth c hC hr hlk hnm hK hP A hD hG hA hS ls hl Q hQ
  have hx := hC.1
  have hb := hC.2.1
  have hml := hC.2.2.1
  have hown := hC.2.2.2.1
  have hts := hC.2.2.2.2
  have hB : ∀ w ∈ W0, w ∈ wz_X10_heaps := fun _ h => List.mem_cons_of_mem _ h
  have hW0 : ∀ w ∈ W0, w.before args s = true := fun w h => hts w (hB w h)
  have hl : lv_has ls 8 [(0, .ref (β 0)), (1, .int (zI r9)), (2, .int (zI c9)), (3, .int (zI a))] := hl
  have hza := zabs_spec a
  refine lv_iload_n hx hb dX10_heaps_0 rfl (lv_at hl 3 rfl) ?_
  refine z_calli hP hD hS hA (va_runS (As := [.int (zI a)]) (rest := []) hC (c_X10_size l D τ _ _ a (by first | assumption | rfl | omega) _) (va_cwS 1 hts (gS hB wl_X10_63 wt_X10_size wi_X10 wc_X10_size) rfl rfl rfl hd_X10_size.2 ⟨Nat.le_of_ble_eq_true rfl, Nat.le_of_ble_eq_true rfl⟩) (zp_S hK hP hD hS hA hG) rfl rfl hl.1 rfl (lv_room (Nat.le_of_ble_eq_true rfl)) dX10_heaps_1 ⟨Nat.le_of_ble_eq_true rfl, Nat.le_of_ble_eq_true rfl⟩) (fun r w1 H locs hq9 hP hD hS => ?_)
  obtain ⟨v1_1, hv1_0, rfl, rfl⟩ := hq9
  refine lv_istore (lv' := [(4, .int (zI v1_1)), (0, .ref (β 0)), (1, .int (zI r9)), (2, .int (zI c9)), (3, .int (zI a))]) hx hb dX10_heaps_4 hl (by decide) rfl (fun ls hl => ?_)
  refine lv_iconst (v := zI 0) hx hb dX10_heaps_6 rfl ?_
  refine lv_istore (lv' := [(5, .int (zI 0)), (4, .int (zI v1_1)), (0, .ref (β 0)), (1, .int (zI r9)), (2, .int (zI c9)), (3, .int (zI a))]) hx hb dX10_heaps_7 hl (by decide) rfl (fun ls hl => ?_)
  suffices HL_9 : ∀ (n_9 : Nat), ∀ (n1 : IA) (i : Int) (H : Heap) (locs : List Loc) (hP : va_P D vwCl (wM β δ ms mb mo mp mf n1 mi mc mq mr mw mk ml mt ma mx mh) H) (hD : va_D A (wM β δ ms mb mo mp mf n1 mi mc mq mr mw mk ml mt ma mx mh)) (hS : va_S A s.heap H locs) (ls : Array Slot) (hl : lv_has ls 8 [(5, .int (zI i)), (4, .int (zI v1_1)), (0, .ref (β 0)), (1, .int (zI r9)), (2, .int (zI c9)), (3, .int (zI a))]) (hi : 0 ≤ i ∧ i ≤ 49) (hn1 : ∀ k, 0 ≤ k → k < i → n1 k = ms k + (if S_left (7 * r9 + c9) a k ≤ 0 then 0 else if a < 0 then -(S_left (7 * r9 + c9) a k) else S_left (7 * r9 + c9) a k) ∧ (-2000 ≤ n1 k ∧ n1 k ≤ 2000)) (hm : (49 - i).toNat < n_9), W pg l e rm_X10_heaps s m args below meth c H locs 0 0 Q (F0 m 9 ls []) from HL_9 _ mn 0 _ _ hP hD hS _ (lv_sub hl [0, 1, 2, 3, 4, 5] rfl) (by first | assumption | rfl | omega) (by intro k q1 q2; omega) (Nat.lt_succ_self _)
  intro n_9
  induction n_9 with
  | zero => intro n1 i H locs hP hD hS ls hl hi hn1 hm; exact absurd hm (Nat.not_lt_zero _)
  | succ n_9 ih_9 =>
    intro n1 i H locs hP hD hS ls hl hi hn1 hm
    refine lv_iload hx hb dX10_heaps_9 (lv_at hl 0 rfl) ?_
    refine lv_bipush (v := zI 49) hx hb dX10_heaps_11 (zI_b8 (by decide)) ?_
    refine z_icge (tgt := 95) hx hb ⟨by omega, by omega⟩ ⟨by omega, by omega⟩ dX10_heaps_13 (by decide) (fun c_13 => ?_) (fun c_13 => ?_)
    · refine lv_aload_n hx hb dX10_heaps_95 rfl (lv_at hl 2 rfl) ?_
      refine z_calli hP hD hS hA (va_runV (As := []) (rest := []) hC (c_X10_takes l D τ β δ ms mb mo mp mf n1 mi mc mq mr mw mk ml mt ma mx mh (by exact hms) (by intro k q1 q2; have z9 := (hn1 k q1 (by omega)).2; omega) _) (cwV 0 hts (gV hB wl_X10_66 wn_X10_takes ws_X10_takes wi_X10 wc_X10_takes) rfl rfl rfl hd_X10_takes ⟨Nat.le_of_ble_eq_true rfl, Nat.le_of_ble_eq_true rfl⟩) (zp_V hK hP hD hS hA hG (ci := 10) (q0 := 0) rfl rfl rfl) rfl rfl hl.1 rfl (lv_room (Nat.le_of_ble_eq_true rfl)) dX10_heaps_96 ⟨Nat.le_of_ble_eq_true rfl, Nat.le_of_ble_eq_true rfl⟩) (fun r w1 H locs hq9 hP hD hS => ?_)
      obtain ⟨s96_2, v96_3, hv96_0, hv96_1, hv96_2, rfl, rfl⟩ := hq9
      have hP : va_P D vwCl (wM β δ s96_2 mb mo mp mf n1 mi mc mq mr mw mk ml mt ma mx mh) H := hP
      have hD : va_D A (wM β δ s96_2 mb mo mp mf n1 mi mc mq mr mw mk ml mt ma mx mh) := hD
      have hze : zmix 49 (fun k => clip (n1 k)) ms = S_heap ms (7 * r9 + c9) a := zmix_cg (fun k q1 q2 => by show clip (n1 k) = S_heapv ms (7 * r9 + c9) a k; unfold S_heapv; rw [(hn1 k q1 (by omega)).1])
      exact z_iret hC hr hlk hQ hP hD hS ⟨s96_2, n1, v96_3, (by rw [hv96_0]; exact hze), (by rw [hv96_1, hv96_0, hze]), (by exact hv96_2), rfl, rfl⟩ dX10_heaps_99
    · refine lv_iload hx hb dX10_heaps_16 (lv_at hl 0 rfl) ?_
      refine lv_bipush (v := zI 7) hx hb dX10_heaps_18 (zI_b8 (by decide)) ?_
      refine z_idiv hx hb ⟨⟨by omega, by omega⟩, by omega, by omega⟩ dX10_heaps_20 ?_
      refine lv_iload_n hx hb dX10_heaps_21 rfl (lv_at hl 3 rfl) ?_
      refine z_isub hx hb dX10_heaps_22 ?_
      refine z_calli hP hD hS hA (va_runS (As := [.int (zI ((i / 7) - r9))]) (rest := []) hC (c_X10_size l D τ _ _ ((i / 7) - r9) (by first | assumption | rfl | omega) _) (va_cwS 1 hts (gS hB wl_X10_63 wt_X10_size wi_X10 wc_X10_size) rfl rfl rfl hd_X10_size.2 ⟨Nat.le_of_ble_eq_true rfl, Nat.le_of_ble_eq_true rfl⟩) (zp_S hK hP hD hS hA hG) rfl rfl hl.1 rfl (lv_room (Nat.le_of_ble_eq_true rfl)) dX10_heaps_23 ⟨Nat.le_of_ble_eq_true rfl, Nat.le_of_ble_eq_true rfl⟩) (fun r w1 H locs hq9 hP hD hS => ?_)
      obtain ⟨v23_4, hv23_0, rfl, rfl⟩ := hq9
      refine lv_iload hx hb dX10_heaps_26 (lv_at hl 0 rfl) ?_
      refine lv_bipush (v := zI 7) hx hb dX10_heaps_28 (zI_b8 (by decide)) ?_
      refine z_irem hx hb ⟨⟨by omega, by omega⟩, by omega, by omega⟩ dX10_heaps_30 ?_
      refine lv_iload_n hx hb dX10_heaps_31 rfl (lv_at hl 4 rfl) ?_
      refine z_isub hx hb dX10_heaps_32 ?_
      refine z_calli hP hD hS hA (va_runS (As := [.int (zI ((i % 7) - c9))]) (rest := [.int (zI v23_4)]) hC (c_X10_size l D τ _ _ ((i % 7) - c9) (by first | assumption | rfl | omega) _) (va_cwS 1 hts (gS hB wl_X10_63 wt_X10_size wi_X10 wc_X10_size) rfl rfl rfl hd_X10_size.2 ⟨Nat.le_of_ble_eq_true rfl, Nat.le_of_ble_eq_true rfl⟩) (zp_S hK hP hD hS hA hG) rfl rfl hl.1 rfl (lv_room (Nat.le_of_ble_eq_true rfl)) dX10_heaps_33 ⟨Nat.le_of_ble_eq_true rfl, Nat.le_of_ble_eq_true rfl⟩) (fun r w1 H locs hq9 hP hD hS => ?_)
      obtain ⟨v33_5, hv33_0, rfl, rfl⟩ := hq9
      refine z_iadd hx hb dX10_heaps_36 ?_
      refine lv_istore (lv' := [(6, .int (zI (v23_4 + v33_5))), (5, .int (zI i)), (4, .int (zI v1_1)), (0, .ref (β 0)), (1, .int (zI r9)), (2, .int (zI c9)), (3, .int (zI a))]) hx hb dX10_heaps_37 hl (by decide) rfl (fun ls hl => ?_)
      have q1 := zabs_spec (i / 7 - r9)
      have q2 := zabs_spec (i % 7 - c9)
      have hzl := zmul_b (x := (none_ + 2) / 3) (y := v23_4 + v33_5) (a := 20) (b := 12) (by omega) (by omega)
      refine lv_iload hx hb dX10_heaps_39 (lv_at hl 2 rfl) ?_
      refine lv_iload hx hb dX10_heaps_41 (lv_at hl 2 rfl) ?_
      refine lv_iconst (v := zI 2) hx hb dX10_heaps_43 rfl ?_
      refine z_iadd hx hb dX10_heaps_44 ?_
      refine lv_iconst (v := zI 3) hx hb dX10_heaps_45 rfl ?_
      refine z_idiv hx hb ⟨⟨by omega, by omega⟩, by omega, by omega⟩ dX10_heaps_46 ?_
      refine lv_iload hx hb dX10_heaps_47 (lv_at hl 0 rfl) ?_
      refine z_imul hx hb dX10_heaps_49 ?_
      refine z_isub hx hb dX10_heaps_50 ?_
      refine lv_istore (lv' := [(7, .int (zI (v1_1 - (((v1_1 + 2) / 3) * (v23_4 + v33_5))))), (6, .int (zI (v23_4 + v33_5))), (5, .int (zI i)), (4, .int (zI v1_1)), (0, .ref (β 0)), (1, .int (zI r9)), (2, .int (zI c9)), (3, .int (zI a))]) hx hb dX10_heaps_51 hl (by decide) rfl (fun ls hl => ?_)
      have hL : (v1_1 - (((v1_1 + 2) / 3) * (v23_4 + v33_5))) = S_left (7 * r9 + c9) a i := by unfold S_left; rw [show (7 * r9 + c9) / 7 = r9 by omega, show (7 * r9 + c9) % 7 = c9 by omega, ← hv4_0, ← hv23_0, ← hv33_0, Int.mul_comm]
      refine lv_aload_n hx hb dX10_heaps_53 rfl (lv_at hl 4 rfl) ?_
      refine va_get (D := D) (ci := 10) (v := .ref (β 6)) (C := RX10) (T := TX10) (N := 17) hx hb hts (fun w h => List.mem_cons_of_mem _ (wx_X10 w h)) hown hK hP 0 rfl rfl 8 (by decide) (hW0 _ wf_X10_26) (fun _ h9 => h9) rfl dX10_heaps_54 ?_
      refine lv_iload hx hb dX10_heaps_57 (lv_at hl 2 rfl) ?_
      refine lv_aload_n hx hb dX10_heaps_59 rfl (lv_at hl 4 rfl) ?_
      refine va_get (D := D) (ci := 10) (v := .ref (β 1)) (C := RX10) (T := TX10) (N := 17) hx hb hts (fun w h => List.mem_cons_of_mem _ (wx_X10 w h)) hown hK hP 0 rfl rfl 0 (by decide) (hW0 _ wf_X10_7) (fun _ h9 => h9) rfl dX10_heaps_60 ?_
      refine lv_iload hx hb dX10_heaps_63 (lv_at hl 2 rfl) ?_
      refine z_iald (f := ms) hx hb hK hP 1 0 rfl rfl ⟨⟨by omega, by omega⟩, by decide⟩ dX10_heaps_65 ?_
      have hb_65 := hms i (by omega) (by omega)
      refine lv_iload hx hb dX10_heaps_66 (lv_at hl 0 rfl) ?_
      refine z_ifgt (tgt := 75) hx hb ⟨by omega, by omega⟩ dX10_heaps_68 (by decide) (fun c_68 => ?_) (fun c_68 => ?_)
      · refine lv_iload_n hx hb dX10_heaps_75 rfl (lv_at hl 7 rfl) ?_
        refine z_ifge (tgt := 85) hx hb ⟨by omega, by omega⟩ dX10_heaps_76 (by decide) (fun c_76 => ?_) (fun c_76 => ?_)
        · refine lv_iload hx hb dX10_heaps_85 (lv_at hl 0 rfl) ?_
          refine z_iadd hx hb dX10_heaps_87 ?_
          refine z_iast (f := n1) (v := (ms i) + (v1_1 - (((v1_1 + 2) / 3) * (v23_4 + v33_5)))) hx hb hK hP hD hS 6 5 rfl rfl ⟨⟨by omega, by omega⟩, by decide⟩ dX10_heaps_88 (fun H locs hP hD hS => ?_)
          have hP : va_P D vwCl (wM β δ ms mb mo mp mf ((zu n1 i ((ms i) + (v1_1 - (((v1_1 + 2) / 3) * (v23_4 + v33_5)))))) mi mc mq mr mw mk ml mt ma mx mh) H := hP
          have hD : va_D A (wM β δ ms mb mo mp mf ((zu n1 i ((ms i) + (v1_1 - (((v1_1 + 2) / 3) * (v23_4 + v33_5)))))) mi mc mq mr mw mk ml mt ma mx mh) := hD
          refine z_iinc (k := 2) (v := i + 1) (lv' := [(5, .int (zI (i + 1))), (7, .int (zI (v1_1 - (((v1_1 + 2) / 3) * (v23_4 + v33_5))))), (6, .int (zI (v23_4 + v33_5))), (4, .int (zI v1_1)), (0, .ref (β 0)), (1, .int (zI r9)), (2, .int (zI c9)), (3, .int (zI a))]) hx hb dX10_heaps_89 hl rfl rfl (by decide) rfl (fun ls hl => ?_)
          refine lv_goto (tgt := 9) hx hb dX10_heaps_92 (by decide) ?_
          exact ih_9 (zu n1 i ((ms i) + (v1_1 - (((v1_1 + 2) / 3) * (v23_4 + v33_5))))) (i + 1) _ _ hP hD hS _ (lv_sub hl [0, 3, 4, 5, 6, 7] rfl) (by first | assumption | rfl | omega) (by intro k q1 q2; by_cases e9 : k = i; (rw [e9, zu_s, ← hL]; refine ⟨?_, by omega⟩; first | (rw [if_pos (by omega)]; done) | (rw [if_neg (by omega), if_pos (by omega)]; done) | (rw [if_neg (by omega), if_neg (by omega)]; done)); (rw [zu_n e9]; exact hn1 k q1 (by omega))) (by omega)
        · refine lv_iload hx hb dX10_heaps_79 (lv_at hl 0 rfl) ?_
          refine z_ineg hx hb dX10_heaps_81 ?_
          refine lv_goto (tgt := 87) hx hb dX10_heaps_82 (by decide) ?_
          refine z_iadd hx hb dX10_heaps_87 ?_
          refine z_iast (f := n1) (v := (ms i) + (-(v1_1 - (((v1_1 + 2) / 3) * (v23_4 + v33_5))))) hx hb hK hP hD hS 6 5 rfl rfl ⟨⟨by omega, by omega⟩, by decide⟩ dX10_heaps_88 (fun H locs hP hD hS => ?_)
          have hP : va_P D vwCl (wM β δ ms mb mo mp mf ((zu n1 i ((ms i) + (-(v1_1 - (((v1_1 + 2) / 3) * (v23_4 + v33_5))))))) mi mc mq mr mw mk ml mt ma mx mh) H := hP
          have hD : va_D A (wM β δ ms mb mo mp mf ((zu n1 i ((ms i) + (-(v1_1 - (((v1_1 + 2) / 3) * (v23_4 + v33_5))))))) mi mc mq mr mw mk ml mt ma mx mh) := hD
          refine z_iinc (k := 2) (v := i + 1) (lv' := [(5, .int (zI (i + 1))), (7, .int (zI (v1_1 - (((v1_1 + 2) / 3) * (v23_4 + v33_5))))), (6, .int (zI (v23_4 + v33_5))), (4, .int (zI v1_1)), (0, .ref (β 0)), (1, .int (zI r9)), (2, .int (zI c9)), (3, .int (zI a))]) hx hb dX10_heaps_89 hl rfl rfl (by decide) rfl (fun ls hl => ?_)
          refine lv_goto (tgt := 9) hx hb dX10_heaps_92 (by decide) ?_
          exact ih_9 (zu n1 i ((ms i) + (-(v1_1 - (((v1_1 + 2) / 3) * (v23_4 + v33_5)))))) (i + 1) _ _ hP hD hS _ (lv_sub hl [0, 3, 4, 5, 6, 7] rfl) (by first | assumption | rfl | omega) (by intro k q1 q2; by_cases e9 : k = i; (rw [e9, zu_s, ← hL]; refine ⟨?_, by omega⟩; first | (rw [if_pos (by omega)]; done) | (rw [if_neg (by omega), if_pos (by omega)]; done) | (rw [if_neg (by omega), if_neg (by omega)]; done)); (rw [zu_n e9]; exact hn1 k q1 (by omega))) (by omega)
      · refine lv_iconst (v := zI 0) hx hb dX10_heaps_71 rfl ?_
        refine lv_goto (tgt := 87) hx hb dX10_heaps_72 (by decide) ?_
        refine z_iadd hx hb dX10_heaps_87 ?_
        refine z_iast (f := n1) (v := (ms i) + 0) hx hb hK hP hD hS 6 5 rfl rfl ⟨⟨by omega, by omega⟩, by decide⟩ dX10_heaps_88 (fun H locs hP hD hS => ?_)
        have hP : va_P D vwCl (wM β δ ms mb mo mp mf ((zu n1 i ((ms i) + 0))) mi mc mq mr mw mk ml mt ma mx mh) H := hP
        have hD : va_D A (wM β δ ms mb mo mp mf ((zu n1 i ((ms i) + 0))) mi mc mq mr mw mk ml mt ma mx mh) := hD
        refine z_iinc (k := 2) (v := i + 1) (lv' := [(5, .int (zI (i + 1))), (7, .int (zI (v1_1 - (((v1_1 + 2) / 3) * (v23_4 + v33_5))))), (6, .int (zI (v23_4 + v33_5))), (4, .int (zI v1_1)), (0, .ref (β 0)), (1, .int (zI r9)), (2, .int (zI c9)), (3, .int (zI a))]) hx hb dX10_heaps_89 hl rfl rfl (by decide) rfl (fun ls hl => ?_)
        refine lv_goto (tgt := 9) hx hb dX10_heaps_92 (by decide) ?_
        exact ih_9 (zu n1 i ((ms i) + 0)) (i + 1) _ _ hP hD hS _ (lv_sub hl [0, 3, 4, 5, 6, 7] rfl) (by first | assumption | rfl | omega) (by intro k q1 q2; by_cases e9 : k = i; (rw [e9, zu_s, ← hL]; refine ⟨?_, by omega⟩; first | (rw [if_pos (by omega)]; done) | (rw [if_neg (by omega), if_pos (by omega)]; done) | (rw [if_neg (by omega), if_neg (by omega)]; done)); (rw [zu_n e9]; exact hn1 k q1 (by omega))) (by omega)

abbrev wz_X10_smooths : List Cond := .code yX10_smooths cX10_smooths 6 (some .int) :: W0
abbrev rm_X10_smooths : Room := { frames := 3, cells := 0, slots := 0, locals := 66 }
theorem hd_X10_smooths : yX10_smooths.cls = RX10 ∧ yX10_smooths.cls ≠ "java/lang/invoke/MethodHandle" ∧ yX10_smooths.cls ≠ "java/lang/invoke/VarHandle" ∧ (parseMethodDescriptor yX10_smooths.desc).map (fun d => d.parameters.length) = some 0 := by decide +kernel
set_option maxHeartbeats 4000000 in
set_option maxRecDepth 100000 in
theorem c_X10_smooths (l : Launch) (D : va_G) (τ : Nat → Nat) (β : Nat → Nat) (δ : Nat → ClassId) (ms : IA) (mb : IA) (mo : IA) (mp : BA) (mf : IA) (mn : IA) (mi : IA) (mc : IA) (mq : BA) (mr : IA) (mw : IA) (mk : Int) (ml : Int) (mt : Int) (ma : Int) (mx : Bool) (mh : Int64) (hms : ∀ k, 0 ≤ k → k < 49 → 0 ≤ ms k ∧ ms k ≤ 99) : cM l yX10_smooths wz_X10_smooths rm_X10_smooths D τ (tyM δ) [.ref (β 0)] (wM β δ ms mb mo mp mf mn mi mc mq mr mw mk ml mt ma mx mh) (zQi (fun r w => ∃ (s2 : IA), ∃ (n2 : IA), ∃ (v : Int), (s2 = S_smooth ms) ∧ (v = S_diff (S_smooth ms) ms) ∧ (0 ≤ v ∧ v ≤ 49) ∧ r = zI v ∧ wM β δ s2 mb mo mp mf n2 mi mc mq mr mw mk ml mt ma mx mh = w)) := by
  refine z_ofM (cc := cX10_smooths) (maxL := 6) (ret := (some .int)) (by decide +kernel) rfl (Nat.le_of_ble_eq_true rfl) ?_
  intro pg e s m args below meth c hC hr hlk hnm hK hP A hD hG hA hS ls hl Q hQ
  have hx := hC.1
  have hb := hC.2.1
  have hml := hC.2.2.1
  have hown := hC.2.2.2.1
  have hts := hC.2.2.2.2
  have hB : ∀ w ∈ W0, w ∈ wz_X10_smooths := fun _ h => List.mem_cons_of_mem _ h
  have hW0 : ∀ w ∈ W0, w.before args s = true := fun w h => hts w (hB w h)
  have hl : lv_has ls 6 [(0, .ref (β 0))] := hl
  refine lv_iconst (v := zI 0) hx hb dX10_smooths_0 rfl ?_
  refine lv_istore_n (lv' := [(1, .int (zI 0)), (0, .ref (β 0))]) hx hb dX10_smooths_1 rfl hl (by decide) rfl (fun ls hl => ?_)
  suffices HL_2 : ∀ (n_2 : Nat), ∀ (n1 : IA) (i : Int) (H : Heap) (locs : List Loc) (hP : va_P D vwCl (wM β δ ms mb mo mp mf n1 mi mc mq mr mw mk ml mt ma mx mh) H) (hD : va_D A (wM β δ ms mb mo mp mf n1 mi mc mq mr mw mk ml mt ma mx mh)) (hS : va_S A s.heap H locs) (ls : Array Slot) (hl : lv_has ls 6 [(1, .int (zI i)), (0, .ref (β 0))]) (hi : 0 ≤ i ∧ i ≤ 49) (hn1 : ∀ k, 0 ≤ k → k < i → n1 k = S_mean ms k ∧ (0 ≤ n1 k ∧ n1 k ≤ 99)) (hm : (49 - i).toNat < n_2), W pg l e rm_X10_smooths s m args below meth c H locs 0 0 Q (F0 m 2 ls []) from HL_2 _ mn 0 _ _ hP hD hS _ (lv_sub hl [0, 1] rfl) (by first | assumption | rfl | omega) (by intro k q1 q2; omega) (Nat.lt_succ_self _)
  intro n_2
  induction n_2 with
  | zero => intro n1 i H locs hP hD hS ls hl hi hn1 hm; exact absurd hm (Nat.not_lt_zero _)
  | succ n_2 ih_2 =>
    intro n1 i H locs hP hD hS ls hl hi hn1 hm
    refine lv_iload_n hx hb dX10_smooths_2 rfl (lv_at hl 0 rfl) ?_
    refine lv_bipush (v := zI 49) hx hb dX10_smooths_3 (zI_b8 (by decide)) ?_
    refine z_icge (tgt := 89) hx hb ⟨by omega, by omega⟩ ⟨by omega, by omega⟩ dX10_smooths_5 (by decide) (fun c_5 => ?_) (fun c_5 => ?_)
    · refine lv_aload_n hx hb dX10_smooths_89 rfl (lv_at hl 1 rfl) ?_
      refine z_calli hP hD hS hA (va_runV (As := []) (rest := []) hC (c_X10_takes l D τ β δ ms mb mo mp mf n1 mi mc mq mr mw mk ml mt ma mx mh (by exact hms) (by intro k q1 q2; have z9 := (hn1 k q1 (by omega)).2; omega) _) (cwV 0 hts (gV hB wl_X10_66 wn_X10_takes ws_X10_takes wi_X10 wc_X10_takes) rfl rfl rfl hd_X10_takes ⟨Nat.le_of_ble_eq_true rfl, Nat.le_of_ble_eq_true rfl⟩) (zp_V hK hP hD hS hA hG (ci := 10) (q0 := 0) rfl rfl rfl) rfl rfl hl.1 rfl (lv_room (Nat.le_of_ble_eq_true rfl)) dX10_smooths_90 ⟨Nat.le_of_ble_eq_true rfl, Nat.le_of_ble_eq_true rfl⟩) (fun r w1 H locs hq9 hP hD hS => ?_)
      obtain ⟨s90_1, v90_2, hv90_0, hv90_1, hv90_2, rfl, rfl⟩ := hq9
      have hP : va_P D vwCl (wM β δ s90_1 mb mo mp mf n1 mi mc mq mr mw mk ml mt ma mx mh) H := hP
      have hD : va_D A (wM β δ s90_1 mb mo mp mf n1 mi mc mq mr mw mk ml mt ma mx mh) := hD
      have hze : zmix 49 (fun k => clip (n1 k)) ms = S_smooth ms := zmix_cg (fun k q1 q2 => by show clip (n1 k) = clip (S_mean ms k); rw [(hn1 k q1 (by omega)).1])
      exact z_iret hC hr hlk hQ hP hD hS ⟨s90_1, n1, v90_2, (by rw [hv90_0]; exact hze), (by rw [hv90_1, hv90_0, hze]), (by exact hv90_2), rfl, rfl⟩ dX10_smooths_93
    · refine lv_aload_n hx hb dX10_smooths_8 rfl (lv_at hl 1 rfl) ?_
      refine va_get (D := D) (ci := 10) (v := .ref (β 1)) (C := RX10) (T := TX10) (N := 17) hx hb hts (fun w h => List.mem_cons_of_mem _ (wx_X10 w h)) hown hK hP 0 rfl rfl 0 (by decide) (hW0 _ wf_X10_7) (fun _ h9 => h9) rfl dX10_smooths_9 ?_
      refine lv_iload_n hx hb dX10_smooths_12 rfl (lv_at hl 0 rfl) ?_
      refine z_iald (f := ms) hx hb hK hP 1 0 rfl rfl ⟨⟨by omega, by omega⟩, by decide⟩ dX10_smooths_13 ?_
      have hb_13 := hms i (by omega) (by omega)
      refine lv_istore_n (lv' := [(2, .int (zI (ms i))), (1, .int (zI i)), (0, .ref (β 0))]) hx hb dX10_smooths_14 rfl hl (by decide) rfl (fun ls hl => ?_)
      refine lv_iconst (v := zI 1) hx hb dX10_smooths_15 rfl ?_
      refine lv_istore_n (lv' := [(3, .int (zI 1)), (2, .int (zI (ms i))), (1, .int (zI i)), (0, .ref (β 0))]) hx hb dX10_smooths_16 rfl hl (by decide) rfl (fun ls hl => ?_)
      refine lv_iconst (v := zI 0) hx hb dX10_smooths_17 rfl ?_
      refine lv_istore (lv' := [(4, .int (zI 0)), (3, .int (zI 1)), (2, .int (zI (ms i))), (1, .int (zI i)), (0, .ref (β 0))]) hx hb dX10_smooths_18 hl (by decide) rfl (fun ls hl => ?_)
      suffices HL_20 : ∀ (n_20 : Nat), ∀ (t : Int) (cn : Int) (j : Int) (H : Heap) (locs : List Loc) (hP : va_P D vwCl (wM β δ ms mb mo mp mf n1 mi mc mq mr mw mk ml mt ma mx mh) H) (hD : va_D A (wM β δ ms mb mo mp mf n1 mi mc mq mr mw mk ml mt ma mx mh)) (hS : va_S A s.heap H locs) (ls : Array Slot) (hl : lv_has ls 6 [(2, .int (zI t)), (3, .int (zI cn)), (4, .int (zI j)), (1, .int (zI i)), (0, .ref (β 0))]) (hj : 0 ≤ j ∧ j ≤ 4) (ht : t = ms i + zS (S_mt ms i) j) (hcn : cn = 1 + zS (S_mc i) j) (htb : 0 ≤ t ∧ t ≤ 99 * cn) (hcb : 1 ≤ cn ∧ cn ≤ 1 + j) (hm : (4 - j).toNat < n_20), W pg l e rm_X10_smooths s m args below meth c H locs 0 0 Q (F0 m 20 ls []) from HL_20 _ (ms i) 1 0 _ _ hP hD hS _ (lv_sub hl [2, 1, 0, 3, 4] rfl) (by first | assumption | rfl | omega) (by rw [zS_0]; omega) (by rw [zS_0]; rfl) (by first | assumption | rfl | omega) (by first | assumption | rfl | omega) (Nat.lt_succ_self _)
      intro n_20
      induction n_20 with
      | zero => intro t cn j H locs hP hD hS ls hl hj ht hcn htb hcb hm; exact absurd hm (Nat.not_lt_zero _)
      | succ n_20 ih_20 =>
        intro t cn j H locs hP hD hS ls hl hj ht hcn htb hcb hm
        refine lv_iload hx hb dX10_smooths_20 (lv_at hl 2 rfl) ?_
        refine lv_iconst (v := zI 4) hx hb dX10_smooths_22 rfl ?_
        refine z_icge (tgt := 74) hx hb ⟨by omega, by omega⟩ ⟨by omega, by omega⟩ dX10_smooths_23 (by decide) (fun c_23 => ?_) (fun c_23 => ?_)
        · refine lv_aload_n hx hb dX10_smooths_74 rfl (lv_at hl 4 rfl) ?_
          refine va_get (D := D) (ci := 10) (v := .ref (β 6)) (C := RX10) (T := TX10) (N := 17) hx hb hts (fun w h => List.mem_cons_of_mem _ (wx_X10 w h)) hown hK hP 0 rfl rfl 8 (by decide) (hW0 _ wf_X10_26) (fun _ h9 => h9) rfl dX10_smooths_75 ?_
          refine lv_iload_n hx hb dX10_smooths_78 rfl (lv_at hl 3 rfl) ?_
          refine lv_iload_n hx hb dX10_smooths_79 rfl (lv_at hl 0 rfl) ?_
          refine lv_iload_n hx hb dX10_smooths_80 rfl (lv_at hl 1 rfl) ?_
          refine z_idiv hx hb ⟨⟨by omega, by omega⟩, by omega, by omega⟩ dX10_smooths_81 ?_
          refine z_iast (f := n1) (v := t / cn) hx hb hK hP hD hS 6 5 rfl rfl ⟨⟨by omega, by omega⟩, by decide⟩ dX10_smooths_82 (fun H locs hP hD hS => ?_)
          have hP : va_P D vwCl (wM β δ ms mb mo mp mf ((zu n1 i (t / cn))) mi mc mq mr mw mk ml mt ma mx mh) H := hP
          have hD : va_D A (wM β δ ms mb mo mp mf ((zu n1 i (t / cn))) mi mc mq mr mw mk ml mt ma mx mh) := hD
          refine z_iinc (k := 3) (v := i + 1) (lv' := [(1, .int (zI (i + 1))), (2, .int (zI t)), (3, .int (zI cn)), (4, .int (zI j)), (0, .ref (β 0))]) hx hb dX10_smooths_83 hl rfl rfl (by decide) rfl (fun ls hl => ?_)
          refine lv_goto (tgt := 2) hx hb dX10_smooths_86 (by decide) ?_
          exact ih_2 (zu n1 i (t / cn)) (i + 1) _ _ hP hD hS _ (lv_sub hl [0, 4] rfl) (by first | assumption | rfl | omega) (by intro k q1 q2; by_cases e9 : k = i; (rw [e9, zu_s]; exact ⟨by unfold S_mean; rw [ht, hcn, show j = 4 by omega], S_mean_b htb hcb.1⟩); (rw [zu_n e9]; exact hn1 k q1 (by omega))) (by omega)
        · refine lv_iload_n hx hb dX10_smooths_26 rfl (lv_at hl 3 rfl) ?_
          refine lv_iload hx hb dX10_smooths_27 (lv_at hl 2 rfl) ?_
          refine z_calli hP hD hS hA (va_runS (As := [.int (zI i), .int (zI j)]) (rest := []) hC (c_X10_next l D τ _ _ i j (by first | assumption | rfl | omega) (by first | assumption | rfl | omega) _) (va_cwS 2 hts (gS hB wl_X10_70 wt_X10_next wi_X10 wc_X10_next) rfl rfl rfl hd_X10_next.2 ⟨Nat.le_of_ble_eq_true rfl, Nat.le_of_ble_eq_true rfl⟩) (zp_S hK hP hD hS hA hG) rfl rfl hl.1 rfl (lv_room (Nat.le_of_ble_eq_true rfl)) dX10_smooths_29 ⟨Nat.le_of_ble_eq_true rfl, Nat.le_of_ble_eq_true rfl⟩) (fun r w1 H locs hq9 hP hD hS => ?_)
          obtain ⟨v29_3, hv29_0, hv29_1, rfl, rfl⟩ := hq9
          refine lv_istore (lv' := [(5, .int (zI v29_3)), (2, .int (zI t)), (3, .int (zI cn)), (4, .int (zI j)), (1, .int (zI i)), (0, .ref (β 0))]) hx hb dX10_smooths_32 hl (by decide) rfl (fun ls hl => ?_)
          refine lv_iload_n hx hb dX10_smooths_34 rfl (lv_at hl 1 rfl) ?_
          refine lv_iload hx hb dX10_smooths_35 (lv_at hl 0 rfl) ?_
          refine lv_iconst (v := zI (-1)) hx hb dX10_smooths_37 rfl ?_
          refine z_icne (tgt := 45) hx hb ⟨by omega, by omega⟩ ⟨by omega, by omega⟩ dX10_smooths_38 (by decide) (fun c_38 => ?_) (fun c_38 => ?_)
          · refine lv_aload_n hx hb dX10_smooths_45 rfl (lv_at hl 5 rfl) ?_
            refine va_get (D := D) (ci := 10) (v := .ref (β 1)) (C := RX10) (T := TX10) (N := 17) hx hb hts (fun w h => List.mem_cons_of_mem _ (wx_X10 w h)) hown hK hP 0 rfl rfl 0 (by decide) (hW0 _ wf_X10_7) (fun _ h9 => h9) rfl dX10_smooths_46 ?_
            refine lv_iload hx hb dX10_smooths_49 (lv_at hl 0 rfl) ?_
            refine z_iald (f := ms) hx hb hK hP 1 0 rfl rfl ⟨⟨by omega, by omega⟩, by decide⟩ dX10_smooths_51 ?_
            have hb_51 := hms v29_3 (by omega) (by omega)
            refine z_iadd hx hb dX10_smooths_52 ?_
            refine lv_istore_n (lv' := [(2, .int (zI (t + (ms v29_3)))), (5, .int (zI v29_3)), (3, .int (zI cn)), (4, .int (zI j)), (1, .int (zI i)), (0, .ref (β 0))]) hx hb dX10_smooths_53 rfl hl (by decide) rfl (fun ls hl => ?_)
            refine lv_iload_n hx hb dX10_smooths_54 rfl (lv_at hl 2 rfl) ?_
            refine lv_iload hx hb dX10_smooths_55 (lv_at hl 1 rfl) ?_
            refine lv_iconst (v := zI (-1)) hx hb dX10_smooths_57 rfl ?_
            refine z_icne (tgt := 65) hx hb ⟨by omega, by omega⟩ ⟨by omega, by omega⟩ dX10_smooths_58 (by decide) (fun c_58 => ?_) (fun c_58 => ?_)
            · refine lv_iconst (v := zI 1) hx hb dX10_smooths_65 rfl ?_
              refine z_iadd hx hb dX10_smooths_66 ?_
              refine lv_istore_n (lv' := [(3, .int (zI (cn + 1))), (2, .int (zI (t + (ms v29_3)))), (5, .int (zI v29_3)), (4, .int (zI j)), (1, .int (zI i)), (0, .ref (β 0))]) hx hb dX10_smooths_67 rfl hl (by decide) rfl (fun ls hl => ?_)
              refine z_iinc (k := 3) (v := j + 1) (lv' := [(4, .int (zI (j + 1))), (3, .int (zI (cn + 1))), (2, .int (zI (t + (ms v29_3)))), (5, .int (zI v29_3)), (1, .int (zI i)), (0, .ref (β 0))]) hx hb dX10_smooths_68 hl rfl rfl (by decide) rfl (fun ls hl => ?_)
              refine lv_goto (tgt := 20) hx hb dX10_smooths_71 (by decide) ?_
              exact ih_20 (t + (ms v29_3)) (cn + 1) (j + 1) _ _ hP hD hS _ (lv_sub hl [2, 1, 0, 4, 5] rfl) (by first | assumption | rfl | omega) (by rw [zS_up hj.1, ht]; unfold S_mt; rw [← hv29_0]; first | (rw [if_pos (by omega)]; omega) | (rw [if_neg (by omega)]; omega)) (by rw [zS_up hj.1, hcn]; unfold S_mc; rw [← hv29_0]; first | (rw [if_pos (by omega)]; omega) | (rw [if_neg (by omega)]; omega)) (by first | assumption | rfl | omega) (by first | assumption | rfl | omega) (by omega)
            · refine lv_iconst (v := zI 0) hx hb dX10_smooths_61 rfl ?_
              refine lv_goto (tgt := 66) hx hb dX10_smooths_62 (by decide) ?_
              refine z_iadd hx hb dX10_smooths_66 ?_
              refine lv_istore_n (lv' := [(3, .int (zI (cn + 0))), (2, .int (zI (t + (ms v29_3)))), (5, .int (zI v29_3)), (4, .int (zI j)), (1, .int (zI i)), (0, .ref (β 0))]) hx hb dX10_smooths_67 rfl hl (by decide) rfl (fun ls hl => ?_)
              refine z_iinc (k := 3) (v := j + 1) (lv' := [(4, .int (zI (j + 1))), (3, .int (zI (cn + 0))), (2, .int (zI (t + (ms v29_3)))), (5, .int (zI v29_3)), (1, .int (zI i)), (0, .ref (β 0))]) hx hb dX10_smooths_68 hl rfl rfl (by decide) rfl (fun ls hl => ?_)
              refine lv_goto (tgt := 20) hx hb dX10_smooths_71 (by decide) ?_
              exact ih_20 (t + (ms v29_3)) (cn + 0) (j + 1) _ _ hP hD hS _ (lv_sub hl [2, 1, 0, 4, 5] rfl) (by first | assumption | rfl | omega) (by rw [zS_up hj.1, ht]; unfold S_mt; rw [← hv29_0]; first | (rw [if_pos (by omega)]; omega) | (rw [if_neg (by omega)]; omega)) (by rw [zS_up hj.1, hcn]; unfold S_mc; rw [← hv29_0]; first | (rw [if_pos (by omega)]; omega) | (rw [if_neg (by omega)]; omega)) (by first | assumption | rfl | omega) (by first | assumption | rfl | omega) (by omega)
          · refine lv_iconst (v := zI 0) hx hb dX10_smooths_41 rfl ?_
            refine lv_goto (tgt := 52) hx hb dX10_smooths_42 (by decide) ?_
            refine z_iadd hx hb dX10_smooths_52 ?_
            refine lv_istore_n (lv' := [(2, .int (zI (t + 0))), (5, .int (zI v29_3)), (3, .int (zI cn)), (4, .int (zI j)), (1, .int (zI i)), (0, .ref (β 0))]) hx hb dX10_smooths_53 rfl hl (by decide) rfl (fun ls hl => ?_)
            refine lv_iload_n hx hb dX10_smooths_54 rfl (lv_at hl 2 rfl) ?_
            refine lv_iload hx hb dX10_smooths_55 (lv_at hl 1 rfl) ?_
            refine lv_iconst (v := zI (-1)) hx hb dX10_smooths_57 rfl ?_
            refine z_icne (tgt := 65) hx hb ⟨by omega, by omega⟩ ⟨by omega, by omega⟩ dX10_smooths_58 (by decide) (fun c_58 => ?_) (fun c_58 => ?_)
            · refine lv_iconst (v := zI 1) hx hb dX10_smooths_65 rfl ?_
              refine z_iadd hx hb dX10_smooths_66 ?_
              refine lv_istore_n (lv' := [(3, .int (zI (cn + 1))), (2, .int (zI (t + 0))), (5, .int (zI v29_3)), (4, .int (zI j)), (1, .int (zI i)), (0, .ref (β 0))]) hx hb dX10_smooths_67 rfl hl (by decide) rfl (fun ls hl => ?_)
              refine z_iinc (k := 3) (v := j + 1) (lv' := [(4, .int (zI (j + 1))), (3, .int (zI (cn + 1))), (2, .int (zI (t + 0))), (5, .int (zI v29_3)), (1, .int (zI i)), (0, .ref (β 0))]) hx hb dX10_smooths_68 hl rfl rfl (by decide) rfl (fun ls hl => ?_)
              refine lv_goto (tgt := 20) hx hb dX10_smooths_71 (by decide) ?_
              exact ih_20 (t + 0) (cn + 1) (j + 1) _ _ hP hD hS _ (lv_sub hl [2, 1, 0, 4, 5] rfl) (by first | assumption | rfl | omega) (by rw [zS_up hj.1, ht]; unfold S_mt; rw [← hv29_0]; first | (rw [if_pos (by omega)]; omega) | (rw [if_neg (by omega)]; omega)) (by rw [zS_up hj.1, hcn]; unfold S_mc; rw [← hv29_0]; first | (rw [if_pos (by omega)]; omega) | (rw [if_neg (by omega)]; omega)) (by first | assumption | rfl | omega) (by first | assumption | rfl | omega) (by omega)
            · refine lv_iconst (v := zI 0) hx hb dX10_smooths_61 rfl ?_
              refine lv_goto (tgt := 66) hx hb dX10_smooths_62 (by decide) ?_
              refine z_iadd hx hb dX10_smooths_66 ?_
              refine lv_istore_n (lv' := [(3, .int (zI (cn + 0))), (2, .int (zI (t + 0))), (5, .int (zI v29_3)), (4, .int (zI j)), (1, .int (zI i)), (0, .ref (β 0))]) hx hb dX10_smooths_67 rfl hl (by decide) rfl (fun ls hl => ?_)
              refine z_iinc (k := 3) (v := j + 1) (lv' := [(4, .int (zI (j + 1))), (3, .int (zI (cn + 0))), (2, .int (zI (t + 0))), (5, .int (zI v29_3)), (1, .int (zI i)), (0, .ref (β 0))]) hx hb dX10_smooths_68 hl rfl rfl (by decide) rfl (fun ls hl => ?_)
              refine lv_goto (tgt := 20) hx hb dX10_smooths_71 (by decide) ?_
              exact ih_20 (t + 0) (cn + 0) (j + 1) _ _ hP hD hS _ (lv_sub hl [2, 1, 0, 4, 5] rfl) (by first | assumption | rfl | omega) (by rw [zS_up hj.1, ht]; unfold S_mt; rw [← hv29_0]; first | (rw [if_pos (by omega)]; omega) | (rw [if_neg (by omega)]; omega)) (by rw [zS_up hj.1, hcn]; unfold S_mc; rw [← hv29_0]; first | (rw [if_pos (by omega)]; omega) | (rw [if_neg (by omega)]; omega)) (by first | assumption | rfl | omega) (by first | assumption | rfl | omega) (by omega)

abbrev wz_X10_drain : List Cond := .code yX10_drain cX10_drain 6 (some .int) :: W0
abbrev rm_X10_drain : Room := { frames := 3, cells := 0, slots := 0, locals := 66 }
theorem hd_X10_drain : yX10_drain.cls = RX10 ∧ yX10_drain.cls ≠ "java/lang/invoke/MethodHandle" ∧ yX10_drain.cls ≠ "java/lang/invoke/VarHandle" ∧ (parseMethodDescriptor yX10_drain.desc).map (fun d => d.parameters.length) = some 1 := by decide +kernel
set_option maxHeartbeats 4000000 in
set_option maxRecDepth 100000 in
theorem c_X10_drain (l : Launch) (D : va_G) (τ : Nat → Nat) (β : Nat → Nat) (δ : Nat → ClassId) (ms : IA) (mb : IA) (mo : IA) (mp : BA) (mf : IA) (mn : IA) (mi : IA) (mc : IA) (mq : BA) (mr : IA) (mw : IA) (mk : Int) (ml : Int) (mt : Int) (ma : Int) (mx : Bool) (mh : Int64) (p : Int) (hp : 0 ≤ p ∧ p < 49) (hms : ∀ k, 0 ≤ k → k < 49 → 0 ≤ ms k ∧ ms k ≤ 99) : cM l yX10_drain wz_X10_drain rm_X10_drain D τ (tyM δ) [.ref (β 0), .int (zI p)] (wM β δ ms mb mo mp mf mn mi mc mq mr mw mk ml mt ma mx mh) (zQi (fun r w => ∃ (v : Int), (v = S_next ms p) ∧ (-1 ≤ v ∧ v < 49) ∧ r = zI v ∧ wM β δ ms mb mo mp mf mn mi mc mq mr mw mk ml mt ma mx mh = w)) := by
  refine z_ofM (cc := cX10_drain) (maxL := 6) (ret := (some .int)) (by decide +kernel) rfl (Nat.le_of_ble_eq_true rfl) ?_
  intro pg e s m args below meth c hC hr hlk hnm hK hP A hD hG hA hS ls hl Q hQ
  have hx := hC.1
  have hb := hC.2.1
  have hml := hC.2.2.1
  have hown := hC.2.2.2.1
  have hts := hC.2.2.2.2
  have hB : ∀ w ∈ W0, w ∈ wz_X10_drain := fun _ h => List.mem_cons_of_mem _ h
  have hW0 : ∀ w ∈ W0, w.before args s = true := fun w h => hts w (hB w h)
  have hl : lv_has ls 6 [(0, .ref (β 0)), (1, .int (zI p))] := hl
  refine lv_iconst (v := zI (-1)) hx hb dX10_drain_0 rfl ?_
  refine lv_istore_n (lv' := [(2, .int (zI (-1))), (0, .ref (β 0)), (1, .int (zI p))]) hx hb dX10_drain_1 rfl hl (by decide) rfl (fun ls hl => ?_)
  refine lv_iconst (v := zI 0) hx hb dX10_drain_2 rfl ?_
  refine lv_istore_n (lv' := [(3, .int (zI 0)), (2, .int (zI (-1))), (0, .ref (β 0)), (1, .int (zI p))]) hx hb dX10_drain_3 rfl hl (by decide) rfl (fun ls hl => ?_)
  suffices HL_4 : ∀ (n_4 : Nat), ∀ (f9 : Int) (w : Int) (H : Heap) (locs : List Loc) (hP : va_P D vwCl (wM β δ ms mb mo mp mf mn mi mc mq mr mw mk ml mt ma mx mh) H) (hD : va_D A (wM β δ ms mb mo mp mf mn mi mc mq mr mw mk ml mt ma mx mh)) (hS : va_S A s.heap H locs) (ls : Array Slot) (hl : lv_has ls 6 [(2, .int (zI f9)), (3, .int (zI w)), (0, .ref (β 0)), (1, .int (zI p))]) (hw : 0 ≤ w ∧ w ≤ 4) (hf : (f9 = -1 ∧ S_lowI ms p w = p) ∨ (0 ≤ f9 ∧ f9 < 49 ∧ S_lowI ms p w = f9 ∧ ms f9 < ms p)) (hm : (4 - w).toNat < n_4), W pg l e rm_X10_drain s m args below meth c H locs 0 0 Q (F0 m 4 ls []) from HL_4 _ (-1) 0 _ _ hP hD hS _ (lv_sub hl [1, 0, 2, 3] rfl) (by first | assumption | rfl | omega) (by exact Or.inl ⟨rfl, S_lowI_0 _ _⟩) (Nat.lt_succ_self _)
  intro n_4
  induction n_4 with
  | zero => intro f9 w H locs hP hD hS ls hl hw hf hm; exact absurd hm (Nat.not_lt_zero _)
  | succ n_4 ih_4 =>
    intro f9 w H locs hP hD hS ls hl hw hf hm
    refine lv_iload_n hx hb dX10_drain_4 rfl (lv_at hl 1 rfl) ?_
    refine lv_iconst (v := zI 4) hx hb dX10_drain_5 rfl ?_
    refine z_icge (tgt := 84) hx hb ⟨by omega, by omega⟩ ⟨by omega, by omega⟩ dX10_drain_6 (by decide) (fun c_6 => ?_) (fun c_6 => ?_)
    · have hf4 := hf
      rw [show w = 4 by omega] at hf4
      refine lv_iload_n hx hb dX10_drain_84 rfl (lv_at hl 0 rfl) ?_
      exact z_iret hC hr hlk hQ hP hD hS ⟨f9, (by unfold S_next S_low; rcases hf4 with ⟨q1, q2⟩ | ⟨q1, q2, q3, q4⟩; (rw [if_pos q2]; exact q1); (rw [if_neg (fun h9 => by rw [q3] at h9; rw [h9] at q4; omega), q3])), (by omega), rfl, rfl⟩ dX10_drain_85
    · refine lv_iload_n hx hb dX10_drain_9 rfl (lv_at hl 3 rfl) ?_
      refine lv_iload_n hx hb dX10_drain_10 rfl (lv_at hl 1 rfl) ?_
      refine z_calli hP hD hS hA (va_runS (As := [.int (zI p), .int (zI w)]) (rest := []) hC (c_X10_next l D τ _ _ p w (by first | assumption | rfl | omega) (by first | assumption | rfl | omega) _) (va_cwS 2 hts (gS hB wl_X10_70 wt_X10_next wi_X10 wc_X10_next) rfl rfl rfl hd_X10_next.2 ⟨Nat.le_of_ble_eq_true rfl, Nat.le_of_ble_eq_true rfl⟩) (zp_S hK hP hD hS hA hG) rfl rfl hl.1 rfl (lv_room (Nat.le_of_ble_eq_true rfl)) dX10_drain_11 ⟨Nat.le_of_ble_eq_true rfl, Nat.le_of_ble_eq_true rfl⟩) (fun r w1 H locs hq9 hP hD hS => ?_)
      obtain ⟨v11_1, hv11_0, hv11_1, rfl, rfl⟩ := hq9
      refine lv_istore (lv' := [(4, .int (zI v11_1)), (2, .int (zI f9)), (3, .int (zI w)), (0, .ref (β 0)), (1, .int (zI p))]) hx hb dX10_drain_14 hl (by decide) rfl (fun ls hl => ?_)
      refine lv_iload hx hb dX10_drain_16 (lv_at hl 0 rfl) ?_
      refine lv_iconst (v := zI (-1)) hx hb dX10_drain_18 rfl ?_
      refine z_iceq (tgt := 63) hx hb ⟨by omega, by omega⟩ ⟨by omega, by omega⟩ dX10_drain_19 (by decide) (fun c_19 => ?_) (fun c_19 => ?_)
      · refine lv_iconst (v := zI 0) hx hb dX10_drain_63 rfl ?_
        refine lv_istore (lv' := [(5, .int (zI 0)), (4, .int (zI v11_1)), (2, .int (zI f9)), (3, .int (zI w)), (0, .ref (β 0)), (1, .int (zI p))]) hx hb dX10_drain_64 hl (by decide) rfl (fun ls hl => ?_)
        refine lv_iload hx hb dX10_drain_66 (lv_at hl 0 rfl) ?_
        refine z_ifeq (tgt := 76) hx hb ⟨by omega, by omega⟩ dX10_drain_68 (by decide) (fun c_68 => ?_) (fun c_68 => ?_)
        · refine lv_iload_n hx hb dX10_drain_76 rfl (lv_at hl 2 rfl) ?_
          refine lv_istore_n (lv' := [(2, .int (zI f9)), (5, .int (zI 0)), (4, .int (zI v11_1)), (3, .int (zI w)), (0, .ref (β 0)), (1, .int (zI p))]) hx hb dX10_drain_77 rfl hl (by decide) rfl (fun ls hl => ?_)
          refine z_iinc (k := 3) (v := w + 1) (lv' := [(3, .int (zI (w + 1))), (2, .int (zI f9)), (5, .int (zI 0)), (4, .int (zI v11_1)), (0, .ref (β 0)), (1, .int (zI p))]) hx hb dX10_drain_78 hl rfl rfl (by decide) rfl (fun ls hl => ?_)
          refine lv_goto (tgt := 4) hx hb dX10_drain_81 (by decide) ?_
          exact ih_4 f9 (w + 1) _ _ hP hD hS _ (lv_sub hl [1, 0, 4, 5] rfl) (by first | assumption | rfl | omega) (by rw [S_lowI_up hw.1]; unfold lowStep; rw [← hv11_0]; rcases hf with ⟨q1, q2⟩ | ⟨q1, q2, q3, q4⟩; (rw [q2]; (repeat' split) <;> omega); (rw [q3]; (repeat' split) <;> omega)) (by omega)
        · exact absurd c_68 (by decide)
      · refine lv_aload_n hx hb dX10_drain_22 rfl (lv_at hl 3 rfl) ?_
        refine va_get (D := D) (ci := 10) (v := .ref (β 1)) (C := RX10) (T := TX10) (N := 17) hx hb hts (fun w h => List.mem_cons_of_mem _ (wx_X10 w h)) hown hK hP 0 rfl rfl 0 (by decide) (hW0 _ wf_X10_7) (fun _ h9 => h9) rfl dX10_drain_23 ?_
        refine lv_iload hx hb dX10_drain_26 (lv_at hl 0 rfl) ?_
        refine z_iald (f := ms) hx hb hK hP 1 0 rfl rfl ⟨⟨by omega, by omega⟩, by decide⟩ dX10_drain_28 ?_
        have hb_28 := hms v11_1 (by omega) (by omega)
        refine lv_aload_n hx hb dX10_drain_29 rfl (lv_at hl 3 rfl) ?_
        refine va_get (D := D) (ci := 10) (v := .ref (β 1)) (C := RX10) (T := TX10) (N := 17) hx hb hts (fun w h => List.mem_cons_of_mem _ (wx_X10 w h)) hown hK hP 0 rfl rfl 0 (by decide) (hW0 _ wf_X10_7) (fun _ h9 => h9) rfl dX10_drain_30 ?_
        refine lv_iload_n hx hb dX10_drain_33 rfl (lv_at hl 4 rfl) ?_
        refine z_iald (f := ms) hx hb hK hP 1 0 rfl rfl ⟨⟨by omega, by omega⟩, by decide⟩ dX10_drain_34 ?_
        have hb_34 := hms p (by omega) (by omega)
        refine z_icge (tgt := 63) hx hb ⟨by omega, by omega⟩ ⟨by omega, by omega⟩ dX10_drain_35 (by decide) (fun c_35 => ?_) (fun c_35 => ?_)
        · refine lv_iconst (v := zI 0) hx hb dX10_drain_63 rfl ?_
          refine lv_istore (lv' := [(5, .int (zI 0)), (4, .int (zI v11_1)), (2, .int (zI f9)), (3, .int (zI w)), (0, .ref (β 0)), (1, .int (zI p))]) hx hb dX10_drain_64 hl (by decide) rfl (fun ls hl => ?_)
          refine lv_iload hx hb dX10_drain_66 (lv_at hl 0 rfl) ?_
          refine z_ifeq (tgt := 76) hx hb ⟨by omega, by omega⟩ dX10_drain_68 (by decide) (fun c_68 => ?_) (fun c_68 => ?_)
          · refine lv_iload_n hx hb dX10_drain_76 rfl (lv_at hl 2 rfl) ?_
            refine lv_istore_n (lv' := [(2, .int (zI f9)), (5, .int (zI 0)), (4, .int (zI v11_1)), (3, .int (zI w)), (0, .ref (β 0)), (1, .int (zI p))]) hx hb dX10_drain_77 rfl hl (by decide) rfl (fun ls hl => ?_)
            refine z_iinc (k := 3) (v := w + 1) (lv' := [(3, .int (zI (w + 1))), (2, .int (zI f9)), (5, .int (zI 0)), (4, .int (zI v11_1)), (0, .ref (β 0)), (1, .int (zI p))]) hx hb dX10_drain_78 hl rfl rfl (by decide) rfl (fun ls hl => ?_)
            refine lv_goto (tgt := 4) hx hb dX10_drain_81 (by decide) ?_
            exact ih_4 f9 (w + 1) _ _ hP hD hS _ (lv_sub hl [1, 0, 4, 5] rfl) (by first | assumption | rfl | omega) (by rw [S_lowI_up hw.1]; unfold lowStep; rw [← hv11_0]; rcases hf with ⟨q1, q2⟩ | ⟨q1, q2, q3, q4⟩; (rw [q2]; (repeat' split) <;> omega); (rw [q3]; (repeat' split) <;> omega)) (by omega)
          · exact absurd c_68 (by decide)
        · refine lv_iload_n hx hb dX10_drain_38 rfl (lv_at hl 1 rfl) ?_
          refine lv_iconst (v := zI (-1)) hx hb dX10_drain_39 rfl ?_
          refine z_iceq (tgt := 59) hx hb ⟨by omega, by omega⟩ ⟨by omega, by omega⟩ dX10_drain_40 (by decide) (fun c_40 => ?_) (fun c_40 => ?_)
          · refine lv_iconst (v := zI 1) hx hb dX10_drain_59 rfl ?_
            refine lv_goto (tgt := 64) hx hb dX10_drain_60 (by decide) ?_
            refine lv_istore (lv' := [(5, .int (zI 1)), (4, .int (zI v11_1)), (2, .int (zI f9)), (3, .int (zI w)), (0, .ref (β 0)), (1, .int (zI p))]) hx hb dX10_drain_64 hl (by decide) rfl (fun ls hl => ?_)
            refine lv_iload hx hb dX10_drain_66 (lv_at hl 0 rfl) ?_
            refine z_ifeq (tgt := 76) hx hb ⟨by omega, by omega⟩ dX10_drain_68 (by decide) (fun c_68 => ?_) (fun c_68 => ?_)
            · exact absurd c_68 (by decide)
            · refine lv_iload hx hb dX10_drain_71 (lv_at hl 1 rfl) ?_
              refine lv_goto (tgt := 77) hx hb dX10_drain_73 (by decide) ?_
              refine lv_istore_n (lv' := [(2, .int (zI v11_1)), (5, .int (zI 1)), (4, .int (zI v11_1)), (3, .int (zI w)), (0, .ref (β 0)), (1, .int (zI p))]) hx hb dX10_drain_77 rfl hl (by decide) rfl (fun ls hl => ?_)
              refine z_iinc (k := 3) (v := w + 1) (lv' := [(3, .int (zI (w + 1))), (2, .int (zI v11_1)), (5, .int (zI 1)), (4, .int (zI v11_1)), (0, .ref (β 0)), (1, .int (zI p))]) hx hb dX10_drain_78 hl rfl rfl (by decide) rfl (fun ls hl => ?_)
              refine lv_goto (tgt := 4) hx hb dX10_drain_81 (by decide) ?_
              exact ih_4 v11_1 (w + 1) _ _ hP hD hS _ (lv_sub hl [1, 0, 4, 5] rfl) (by first | assumption | rfl | omega) (by rw [S_lowI_up hw.1]; unfold lowStep; rw [← hv11_0]; rcases hf with ⟨q1, q2⟩ | ⟨q1, q2, q3, q4⟩; (rw [q2]; (repeat' split) <;> omega); (rw [q3]; (repeat' split) <;> omega)) (by omega)
          · refine lv_aload_n hx hb dX10_drain_43 rfl (lv_at hl 3 rfl) ?_
            refine va_get (D := D) (ci := 10) (v := .ref (β 1)) (C := RX10) (T := TX10) (N := 17) hx hb hts (fun w h => List.mem_cons_of_mem _ (wx_X10 w h)) hown hK hP 0 rfl rfl 0 (by decide) (hW0 _ wf_X10_7) (fun _ h9 => h9) rfl dX10_drain_44 ?_
            refine lv_iload hx hb dX10_drain_47 (lv_at hl 0 rfl) ?_
            refine z_iald (f := ms) hx hb hK hP 1 0 rfl rfl ⟨⟨by omega, by omega⟩, by decide⟩ dX10_drain_49 ?_
            have hb_49 := hms v11_1 (by omega) (by omega)
            refine lv_aload_n hx hb dX10_drain_50 rfl (lv_at hl 3 rfl) ?_
            refine va_get (D := D) (ci := 10) (v := .ref (β 1)) (C := RX10) (T := TX10) (N := 17) hx hb hts (fun w h => List.mem_cons_of_mem _ (wx_X10 w h)) hown hK hP 0 rfl rfl 0 (by decide) (hW0 _ wf_X10_7) (fun _ h9 => h9) rfl dX10_drain_51 ?_
            refine lv_iload_n hx hb dX10_drain_54 rfl (lv_at hl 1 rfl) ?_
            refine z_iald (f := ms) hx hb hK hP 1 0 rfl rfl ⟨⟨by omega, by omega⟩, by decide⟩ dX10_drain_55 ?_
            have hb_55 := hms f9 (by omega) (by omega)
            refine z_icge (tgt := 63) hx hb ⟨by omega, by omega⟩ ⟨by omega, by omega⟩ dX10_drain_56 (by decide) (fun c_56 => ?_) (fun c_56 => ?_)
            · refine lv_iconst (v := zI 0) hx hb dX10_drain_63 rfl ?_
              refine lv_istore (lv' := [(5, .int (zI 0)), (4, .int (zI v11_1)), (2, .int (zI f9)), (3, .int (zI w)), (0, .ref (β 0)), (1, .int (zI p))]) hx hb dX10_drain_64 hl (by decide) rfl (fun ls hl => ?_)
              refine lv_iload hx hb dX10_drain_66 (lv_at hl 0 rfl) ?_
              refine z_ifeq (tgt := 76) hx hb ⟨by omega, by omega⟩ dX10_drain_68 (by decide) (fun c_68 => ?_) (fun c_68 => ?_)
              · refine lv_iload_n hx hb dX10_drain_76 rfl (lv_at hl 2 rfl) ?_
                refine lv_istore_n (lv' := [(2, .int (zI f9)), (5, .int (zI 0)), (4, .int (zI v11_1)), (3, .int (zI w)), (0, .ref (β 0)), (1, .int (zI p))]) hx hb dX10_drain_77 rfl hl (by decide) rfl (fun ls hl => ?_)
                refine z_iinc (k := 3) (v := w + 1) (lv' := [(3, .int (zI (w + 1))), (2, .int (zI f9)), (5, .int (zI 0)), (4, .int (zI v11_1)), (0, .ref (β 0)), (1, .int (zI p))]) hx hb dX10_drain_78 hl rfl rfl (by decide) rfl (fun ls hl => ?_)
                refine lv_goto (tgt := 4) hx hb dX10_drain_81 (by decide) ?_
                exact ih_4 f9 (w + 1) _ _ hP hD hS _ (lv_sub hl [1, 0, 4, 5] rfl) (by first | assumption | rfl | omega) (by rw [S_lowI_up hw.1]; unfold lowStep; rw [← hv11_0]; rcases hf with ⟨q1, q2⟩ | ⟨q1, q2, q3, q4⟩; (rw [q2]; (repeat' split) <;> omega); (rw [q3]; (repeat' split) <;> omega)) (by omega)
              · exact absurd c_68 (by decide)
            · refine lv_iconst (v := zI 1) hx hb dX10_drain_59 rfl ?_
              refine lv_goto (tgt := 64) hx hb dX10_drain_60 (by decide) ?_
              refine lv_istore (lv' := [(5, .int (zI 1)), (4, .int (zI v11_1)), (2, .int (zI f9)), (3, .int (zI w)), (0, .ref (β 0)), (1, .int (zI p))]) hx hb dX10_drain_64 hl (by decide) rfl (fun ls hl => ?_)
              refine lv_iload hx hb dX10_drain_66 (lv_at hl 0 rfl) ?_
              refine z_ifeq (tgt := 76) hx hb ⟨by omega, by omega⟩ dX10_drain_68 (by decide) (fun c_68 => ?_) (fun c_68 => ?_)
              · exact absurd c_68 (by decide)
              · refine lv_iload hx hb dX10_drain_71 (lv_at hl 1 rfl) ?_
                refine lv_goto (tgt := 77) hx hb dX10_drain_73 (by decide) ?_
                refine lv_istore_n (lv' := [(2, .int (zI v11_1)), (5, .int (zI 1)), (4, .int (zI v11_1)), (3, .int (zI w)), (0, .ref (β 0)), (1, .int (zI p))]) hx hb dX10_drain_77 rfl hl (by decide) rfl (fun ls hl => ?_)
                refine z_iinc (k := 3) (v := w + 1) (lv' := [(3, .int (zI (w + 1))), (2, .int (zI v11_1)), (5, .int (zI 1)), (4, .int (zI v11_1)), (0, .ref (β 0)), (1, .int (zI p))]) hx hb dX10_drain_78 hl rfl rfl (by decide) rfl (fun ls hl => ?_)
                refine lv_goto (tgt := 4) hx hb dX10_drain_81 (by decide) ?_
                exact ih_4 v11_1 (w + 1) _ _ hP hD hS _ (lv_sub hl [1, 0, 4, 5] rfl) (by first | assumption | rfl | omega) (by rw [S_lowI_up hw.1]; unfold lowStep; rw [← hv11_0]; rcases hf with ⟨q1, q2⟩ | ⟨q1, q2, q3, q4⟩; (rw [q2]; (repeat' split) <;> omega); (rw [q3]; (repeat' split) <;> omega)) (by omega)

abbrev wz_X10_drop : List Cond := .code yX10_drop cX10_drop 3 (some .int) :: W0
abbrev rm_X10_drop : Room := { frames := 4, cells := 0, slots := 0, locals := 91 }
theorem hd_X10_drop : yX10_drop.cls = RX10 ∧ yX10_drop.cls ≠ "java/lang/invoke/MethodHandle" ∧ yX10_drop.cls ≠ "java/lang/invoke/VarHandle" ∧ (parseMethodDescriptor yX10_drop.desc).map (fun d => d.parameters.length) = some 1 := by decide +kernel
set_option maxHeartbeats 4000000 in
set_option maxRecDepth 100000 in
theorem c_X10_drop (l : Launch) (D : va_G) (τ : Nat → Nat) (β : Nat → Nat) (δ : Nat → ClassId) (ms : IA) (mb : IA) (mo : IA) (mp : BA) (mf : IA) (mn : IA) (mi : IA) (mc : IA) (mq : BA) (mr : IA) (mw : IA) (mk : Int) (ml : Int) (mt : Int) (ma : Int) (mx : Bool) (mh : Int64) (p : Int) (hp : 0 ≤ p ∧ p < 49) (hms : ∀ k, 0 ≤ k → k < 49 → 0 ≤ ms k ∧ ms k ≤ 99) : cM l yX10_drop wz_X10_drop rm_X10_drop D τ (tyM δ) [.ref (β 0), .int (zI p)] (wM β δ ms mb mo mp mf mn mi mc mq mr mw mk ml mt ma mx mh) (zQi (fun r w => ∃ (v : Int), (v = S_drop ms p) ∧ (0 ≤ v ∧ v ≤ 99) ∧ r = zI v ∧ wM β δ ms mb mo mp mf mn mi mc mq mr mw mk ml mt ma mx mh = w)) := by
  refine z_ofM (cc := cX10_drop) (maxL := 3) (ret := (some .int)) (by decide +kernel) rfl (Nat.le_of_ble_eq_true rfl) ?_
  intro pg e s m args below meth c hC hr hlk hnm hK hP A hD hG hA hS ls hl Q hQ
  have hx := hC.1
  have hb := hC.2.1
  have hml := hC.2.2.1
  have hown := hC.2.2.2.1
  have hts := hC.2.2.2.2
  have hB : ∀ w ∈ W0, w ∈ wz_X10_drop := fun _ h => List.mem_cons_of_mem _ h
  have hW0 : ∀ w ∈ W0, w.before args s = true := fun w h => hts w (hB w h)
  have hl : lv_has ls 3 [(0, .ref (β 0)), (1, .int (zI p))] := hl
  refine lv_aload_n hx hb dX10_drop_0 rfl (lv_at hl 0 rfl) ?_
  refine lv_iload_n hx hb dX10_drop_1 rfl (lv_at hl 1 rfl) ?_
  refine z_calli hP hD hS hA (va_runV (As := [.int (zI p)]) (rest := []) hC (c_X10_drain l D τ β δ ms mb mo mp mf mn mi mc mq mr mw mk ml mt ma mx mh p (by first | assumption | rfl | omega) (by first | assumption | rfl | omega) _) (cwV 1 hts (gV hB wl_X10_74 wn_X10_drain ws_X10_drain wi_X10 wc_X10_drain) rfl rfl rfl hd_X10_drain ⟨Nat.le_of_ble_eq_true rfl, Nat.le_of_ble_eq_true rfl⟩) (zp_V hK hP hD hS hA hG (ci := 10) (q0 := 0) rfl rfl rfl) rfl rfl hl.1 rfl (lv_room (Nat.le_of_ble_eq_true rfl)) dX10_drop_2 ⟨Nat.le_of_ble_eq_true rfl, Nat.le_of_ble_eq_true rfl⟩) (fun r w1 H locs hq9 hP hD hS => ?_)
  obtain ⟨v2_1, hv2_0, hv2_1, rfl, rfl⟩ := hq9
  have hP : va_P D vwCl (wM β δ ms mb mo mp mf mn mi mc mq mr mw mk ml mt ma mx mh) H := hP
  have hD : va_D A (wM β δ ms mb mo mp mf mn mi mc mq mr mw mk ml mt ma mx mh) := hD
  refine lv_istore_n (lv' := [(2, .int (zI v2_1)), (0, .ref (β 0)), (1, .int (zI p))]) hx hb dX10_drop_5 rfl hl (by decide) rfl (fun ls hl => ?_)
  refine lv_iload_n hx hb dX10_drop_6 rfl (lv_at hl 0 rfl) ?_
  refine lv_iconst (v := zI (-1)) hx hb dX10_drop_7 rfl ?_
  refine z_icne (tgt := 15) hx hb ⟨by omega, by omega⟩ ⟨by omega, by omega⟩ dX10_drop_8 (by decide) (fun c_8 => ?_) (fun c_8 => ?_)
  · refine lv_aload_n hx hb dX10_drop_15 rfl (lv_at hl 1 rfl) ?_
    refine va_get (D := D) (ci := 10) (v := .ref (β 1)) (C := RX10) (T := TX10) (N := 17) hx hb hts (fun w h => List.mem_cons_of_mem _ (wx_X10 w h)) hown hK hP 0 rfl rfl 0 (by decide) (hW0 _ wf_X10_7) (fun _ h9 => h9) rfl dX10_drop_16 ?_
    refine lv_iload_n hx hb dX10_drop_19 rfl (lv_at hl 2 rfl) ?_
    refine z_iald (f := ms) hx hb hK hP 1 0 rfl rfl ⟨⟨by omega, by omega⟩, by decide⟩ dX10_drop_20 ?_
    have hb_20 := hms p (by omega) (by omega)
    refine lv_aload_n hx hb dX10_drop_21 rfl (lv_at hl 1 rfl) ?_
    refine va_get (D := D) (ci := 10) (v := .ref (β 1)) (C := RX10) (T := TX10) (N := 17) hx hb hts (fun w h => List.mem_cons_of_mem _ (wx_X10 w h)) hown hK hP 0 rfl rfl 0 (by decide) (hW0 _ wf_X10_7) (fun _ h9 => h9) rfl dX10_drop_22 ?_
    refine lv_iload_n hx hb dX10_drop_25 rfl (lv_at hl 0 rfl) ?_
    refine z_iald (f := ms) hx hb hK hP 1 0 rfl rfl ⟨⟨by omega, by omega⟩, by decide⟩ dX10_drop_26 ?_
    have hb_26 := hms v2_1 (by omega) (by omega)
    refine z_isub hx hb dX10_drop_27 ?_
    exact z_iret hC hr hlk hQ hP hD hS ⟨(ms p) - (ms v2_1), (by first | exact (S_drop_next hp (hv2_0.symm.trans c_7)).symm | (rw [S_drop_to (fun h9 => c_7 (hv2_0.trans h9)), ← hv2_0])), (by first | omega | (have z8 := S_drop_to (h := ms) (k := p) (fun h9 => c_7 (hv2_0.trans h9)); have z9 := S_drop_b hms hp; rw [z8, ← hv2_0] at z9; exact z9)), rfl, rfl⟩ dX10_drop_28
  · refine lv_iconst (v := zI 0) hx hb dX10_drop_11 rfl ?_
    refine lv_goto (tgt := 28) hx hb dX10_drop_12 (by decide) ?_
    exact z_iret hC hr hlk hQ hP hD hS ⟨0, (by first | exact (S_drop_next hp (hv2_0.symm.trans c_7)).symm | (rw [S_drop_to (fun h9 => c_7 (hv2_0.trans h9)), ← hv2_0])), (by first | omega | (have z8 := S_drop_to (h := ms) (k := p) (fun h9 => c_7 (hv2_0.trans h9)); have z9 := S_drop_b hms hp; rw [z8, ← hv2_0] at z9; exact z9)), rfl, rfl⟩ dX10_drop_28

abbrev wz_X10_showers : List Cond := .code yX10_showers cX10_showers 3 (some .int) :: W0
abbrev rm_X10_showers : Room := { frames := 5, cells := 0, slots := 0, locals := 113 }
theorem hd_X10_showers : yX10_showers.cls = RX10 ∧ yX10_showers.cls ≠ "java/lang/invoke/MethodHandle" ∧ yX10_showers.cls ≠ "java/lang/invoke/VarHandle" ∧ (parseMethodDescriptor yX10_showers.desc).map (fun d => d.parameters.length) = some 0 := by decide +kernel
set_option maxHeartbeats 4000000 in
set_option maxRecDepth 100000 in
theorem c_X10_showers (l : Launch) (D : va_G) (τ : Nat → Nat) (β : Nat → Nat) (δ : Nat → ClassId) (ms : IA) (mb : IA) (mo : IA) (mp : BA) (mf : IA) (mn : IA) (mi : IA) (mc : IA) (mq : BA) (mr : IA) (mw : IA) (mk : Int) (ml : Int) (mt : Int) (ma : Int) (mx : Bool) (mh : Int64) (hms : ∀ k, 0 ≤ k → k < 49 → 0 ≤ ms k ∧ ms k ≤ 99) : cM l yX10_showers wz_X10_showers rm_X10_showers D τ (tyM δ) [.ref (β 0)] (wM β δ ms mb mo mp mf mn mi mc mq mr mw mk ml mt ma mx mh) (zQi (fun r w => ∃ (s2 : IA), ∃ (n2 : IA), ∃ (v : Int), (s2 = S_wash1 ms) ∧ (v = S_given1 ms) ∧ (0 ≤ v ∧ v ≤ 49) ∧ r = zI v ∧ wM β δ s2 mb mo mp mf n2 mi mc mq mr mw mk ml mt ma mx mh = w)) := by
  refine z_ofM (cc := cX10_showers) (maxL := 3) (ret := (some .int)) (by decide +kernel) rfl (Nat.le_of_ble_eq_true rfl) ?_
  intro pg e s m args below meth c hC hr hlk hnm hK hP A hD hG hA hS ls hl Q hQ
  have hx := hC.1
  have hb := hC.2.1
  have hml := hC.2.2.1
  have hown := hC.2.2.2.1
  have hts := hC.2.2.2.2
  have hB : ∀ w ∈ W0, w ∈ wz_X10_showers := fun _ h => List.mem_cons_of_mem _ h
  have hW0 : ∀ w ∈ W0, w.before args s = true := fun w h => hts w (hB w h)
  have hl : lv_has ls 3 [(0, .ref (β 0))] := hl
  refine lv_iconst (v := zI 0) hx hb dX10_showers_0 rfl ?_
  refine lv_istore_n (lv' := [(1, .int (zI 0)), (0, .ref (β 0))]) hx hb dX10_showers_1 rfl hl (by decide) rfl (fun ls hl => ?_)
  refine lv_iconst (v := zI 0) hx hb dX10_showers_2 rfl ?_
  refine lv_istore_n (lv' := [(2, .int (zI 0)), (1, .int (zI 0)), (0, .ref (β 0))]) hx hb dX10_showers_3 rfl hl (by decide) rfl (fun ls hl => ?_)
  suffices HL_4 : ∀ (n_4 : Nat), ∀ (n1 : IA) (i : Int) (H : Heap) (locs : List Loc) (hP : va_P D vwCl (wM β δ ms mb mo mp mf n1 mi mc mq mr mw mk ml mt ma mx mh) H) (hD : va_D A (wM β δ ms mb mo mp mf n1 mi mc mq mr mw mk ml mt ma mx mh)) (hS : va_S A s.heap H locs) (ls : Array Slot) (hl : lv_has ls 3 [(2, .int (zI i)), (1, .int (zI 0)), (0, .ref (β 0))]) (hi : 0 ≤ i ∧ i ≤ 49) (hn1 : n1 = zmix i ms mn) (hm : (49 - i).toNat < n_4), W pg l e rm_X10_showers s m args below meth c H locs 0 0 Q (F0 m 4 ls []) from HL_4 _ mn 0 _ _ hP hD hS _ (lv_sub hl [0, 1, 2] rfl) (by first | assumption | rfl | omega) (by exact (zmix_0 _ _).symm) (Nat.lt_succ_self _)
  intro n_4
  induction n_4 with
  | zero => intro n1 i H locs hP hD hS ls hl hi hn1 hm; exact absurd hm (Nat.not_lt_zero _)
  | succ n_4 ih_4 =>
    intro n1 i H locs hP hD hS ls hl hi hn1 hm
    refine lv_iload_n hx hb dX10_showers_4 rfl (lv_at hl 0 rfl) ?_
    refine lv_bipush (v := zI 49) hx hb dX10_showers_5 (zI_b8 (by decide)) ?_
    refine z_icge (tgt := 28) hx hb ⟨by omega, by omega⟩ ⟨by omega, by omega⟩ dX10_showers_7 (by decide) (fun c_7 => ?_) (fun c_7 => ?_)
    · refine lv_iconst (v := zI 0) hx hb dX10_showers_28 rfl ?_
      refine lv_istore_n (lv' := [(2, .int (zI 0)), (1, .int (zI 0)), (0, .ref (β 0))]) hx hb dX10_showers_29 rfl hl (by decide) rfl (fun ls hl => ?_)
      suffices HL_30 : ∀ (n_30 : Nat), ∀ (n3 : IA) (g : Int) (j : Int) (H : Heap) (locs : List Loc) (hP : va_P D vwCl (wM β δ ms mb mo mp mf n3 mi mc mq mr mw mk ml mt ma mx mh) H) (hD : va_D A (wM β δ ms mb mo mp mf n3 mi mc mq mr mw mk ml mt ma mx mh)) (hS : va_S A s.heap H locs) (ls : Array Slot) (hl : lv_has ls 3 [(1, .int (zI g)), (2, .int (zI j)), (0, .ref (β 0))]) (hj : 0 ≤ j ∧ j ≤ 49) (hn3 : ∀ k, 0 ≤ k → k < 49 → n3 k = ms k + S_wc ms j k) (hg : g = zC (S_steep ms) j) (hgb : 0 ≤ g ∧ g ≤ j) (hm : (49 - j).toNat < n_30), W pg l e rm_X10_showers s m args below meth c H locs 0 0 Q (F0 m 30 ls []) from HL_30 _ n1 0 0 _ _ hP hD hS _ (lv_sub hl [1, 0, 2] rfl) (by first | assumption | rfl | omega) (by intro k q1 q2; rw [hn1, show i = 49 by omega, zmix_at ⟨q1, q2⟩, S_wc_0]; exact (Int.add_zero _).symm) (by exact (zC_0 _).symm) (by first | assumption | rfl | omega) (Nat.lt_succ_self _)
      intro n_30
      induction n_30 with
      | zero => intro n3 g j H locs hP hD hS ls hl hj hn3 hg hgb hm; exact absurd hm (Nat.not_lt_zero _)
      | succ n_30 ih_30 =>
        intro n3 g j H locs hP hD hS ls hl hj hn3 hg hgb hm
        refine lv_iload_n hx hb dX10_showers_30 rfl (lv_at hl 1 rfl) ?_
        refine lv_bipush (v := zI 49) hx hb dX10_showers_31 (zI_b8 (by decide)) ?_
        refine z_icge (tgt := 78) hx hb ⟨by omega, by omega⟩ ⟨by omega, by omega⟩ dX10_showers_33 (by decide) (fun c_33 => ?_) (fun c_33 => ?_)
        · refine lv_aload_n hx hb dX10_showers_78 rfl (lv_at hl 2 rfl) ?_
          refine z_calli hP hD hS hA (va_runV (As := []) (rest := []) hC (c_X10_takes l D τ β δ ms mb mo mp mf n3 mi mc mq mr mw mk ml mt ma mx mh (by exact hms) (by intro k q1 q2; have z1 := hn3 k q1 q2; have z2 := S_wc_b (h := ms) j hj.1 k; have z3 := hms k q1 q2; omega) _) (cwV 0 hts (gV hB wl_X10_66 wn_X10_takes ws_X10_takes wi_X10 wc_X10_takes) rfl rfl rfl hd_X10_takes ⟨Nat.le_of_ble_eq_true rfl, Nat.le_of_ble_eq_true rfl⟩) (zp_V hK hP hD hS hA hG (ci := 10) (q0 := 0) rfl rfl rfl) rfl rfl hl.1 rfl (lv_room (Nat.le_of_ble_eq_true rfl)) dX10_showers_79 ⟨Nat.le_of_ble_eq_true rfl, Nat.le_of_ble_eq_true rfl⟩) (fun r w1 H locs hq9 hP hD hS => ?_)
          obtain ⟨s79_1, v79_2, hv79_0, hv79_1, hv79_2, rfl, rfl⟩ := hq9
          have hP : va_P D vwCl (wM β δ s79_1 mb mo mp mf n3 mi mc mq mr mw mk ml mt ma mx mh) H := hP
          have hD : va_D A (wM β δ s79_1 mb mo mp mf n3 mi mc mq mr mw mk ml mt ma mx mh) := hD
          refine lv_istore_n (lv' := [(2, .int (zI v79_2)), (1, .int (zI g)), (0, .ref (β 0))]) hx hb dX10_showers_82 rfl hl (by decide) rfl (fun ls hl => ?_)
          have hze : zmix 49 (fun k => clip (n3 k)) ms = S_wash1 ms := zmix_cg (fun k q1 q2 => by show clip (n3 k) = clip (ms k + S_wc ms 49 k); rw [hn3 k q1 q2, show j = 49 by omega])
          refine lv_iload_n hx hb dX10_showers_83 rfl (lv_at hl 1 rfl) ?_
          exact z_iret hC hr hlk hQ hP hD hS ⟨s79_1, n3, g, (by rw [hv79_0]; exact hze), (by rw [hg, show j = 49 by omega]; rfl), (by omega), rfl, rfl⟩ dX10_showers_84
        · refine lv_aload_n hx hb dX10_showers_36 rfl (lv_at hl 2 rfl) ?_
          refine lv_iload_n hx hb dX10_showers_37 rfl (lv_at hl 1 rfl) ?_
          refine z_calli hP hD hS hA (va_runV (As := [.int (zI j)]) (rest := []) hC (c_X10_drop l D τ β δ ms mb mo mp mf n3 mi mc mq mr mw mk ml mt ma mx mh j (by first | assumption | rfl | omega) (by first | assumption | rfl | omega) _) (cwV 1 hts (gV hB wl_X10_77 wn_X10_drop ws_X10_drop wi_X10 wc_X10_drop) rfl rfl rfl hd_X10_drop ⟨Nat.le_of_ble_eq_true rfl, Nat.le_of_ble_eq_true rfl⟩) (zp_V hK hP hD hS hA hG (ci := 10) (q0 := 0) rfl rfl rfl) rfl rfl hl.1 rfl (lv_room (Nat.le_of_ble_eq_true rfl)) dX10_showers_38 ⟨Nat.le_of_ble_eq_true rfl, Nat.le_of_ble_eq_true rfl⟩) (fun r w1 H locs hq9 hP hD hS => ?_)
          obtain ⟨v38_3, hv38_0, hv38_1, rfl, rfl⟩ := hq9
          have hP : va_P D vwCl (wM β δ ms mb mo mp mf n3 mi mc mq mr mw mk ml mt ma mx mh) H := hP
          have hD : va_D A (wM β δ ms mb mo mp mf n3 mi mc mq mr mw mk ml mt ma mx mh) := hD
          refine lv_iconst (v := zI 1) hx hb dX10_showers_41 rfl ?_
          refine z_icle (tgt := 72) hx hb ⟨by omega, by omega⟩ ⟨by omega, by omega⟩ dX10_showers_42 (by decide) (fun c_42 => ?_) (fun c_42 => ?_)
          · refine z_iinc (k := 1) (v := j + 1) (lv' := [(2, .int (zI (j + 1))), (1, .int (zI g)), (0, .ref (β 0))]) hx hb dX10_showers_72 hl rfl rfl (by decide) rfl (fun ls hl => ?_)
            refine lv_goto (tgt := 30) hx hb dX10_showers_75 (by decide) ?_
            exact ih_30 n3 g (j + 1) _ _ hP hD hS _ (lv_sub hl [1, 0, 2] rfl) (by first | assumption | rfl | omega) (by intro k q1 q2; rw [S_wc_up hj.1]; first | (rw [if_neg (by unfold S_steep; simp only [decide_eq_true_eq]; omega)]; exact hn3 k q1 q2) | (rw [if_pos (by unfold S_steep; simp only [decide_eq_true_eq]; omega), ← hv61_0]; exact wc_step hne hn3 (by omega) (by omega) ⟨q1, q2⟩)) (by rw [zC_up hj.1, ← hg]; first | (rw [z1_f (by unfold S_steep; simp only [decide_eq_false_iff_not]; omega)]; omega) | (rw [z1_t (by unfold S_steep; simp only [decide_eq_true_eq]; omega)])) (by first | assumption | rfl | omega) (by omega)
          · refine lv_aload_n hx hb dX10_showers_45 rfl (lv_at hl 2 rfl) ?_
            refine va_get (D := D) (ci := 10) (v := .ref (β 6)) (C := RX10) (T := TX10) (N := 17) hx hb hts (fun w h => List.mem_cons_of_mem _ (wx_X10 w h)) hown hK hP 0 rfl rfl 8 (by decide) (hW0 _ wf_X10_26) (fun _ h9 => h9) rfl dX10_showers_46 ?_
            refine lv_iload_n hx hb dX10_showers_49 rfl (lv_at hl 1 rfl) ?_
            refine lv_dup2_11 hx hb dX10_showers_50 rfl rfl ?_
            refine z_iald (f := n3) hx hb hK hP 6 5 rfl rfl ⟨⟨by omega, by omega⟩, by decide⟩ dX10_showers_51 ?_
            refine lv_iconst (v := zI 1) hx hb dX10_showers_52 rfl ?_
            refine z_isub hx hb dX10_showers_53 ?_
            refine z_iast (f := n3) (v := (n3 j) - 1) hx hb hK hP hD hS 6 5 rfl rfl ⟨⟨by omega, by omega⟩, by decide⟩ dX10_showers_54 (fun H locs hP hD hS => ?_)
            have hP : va_P D vwCl (wM β δ ms mb mo mp mf ((zu n3 j ((n3 j) - 1))) mi mc mq mr mw mk ml mt ma mx mh) H := hP
            have hD : va_D A (wM β δ ms mb mo mp mf ((zu n3 j ((n3 j) - 1))) mi mc mq mr mw mk ml mt ma mx mh) := hD
            refine lv_aload_n hx hb dX10_showers_55 rfl (lv_at hl 2 rfl) ?_
            refine va_get (D := D) (ci := 10) (v := .ref (β 6)) (C := RX10) (T := TX10) (N := 17) hx hb hts (fun w h => List.mem_cons_of_mem _ (wx_X10 w h)) hown hK hP 0 rfl rfl 8 (by decide) (hW0 _ wf_X10_26) (fun _ h9 => h9) rfl dX10_showers_56 ?_
            refine lv_aload_n hx hb dX10_showers_59 rfl (lv_at hl 2 rfl) ?_
            refine lv_iload_n hx hb dX10_showers_60 rfl (lv_at hl 1 rfl) ?_
            refine z_calli hP hD hS hA (va_runV (As := [.int (zI j)]) (rest := [.ref (β 6)]) hC (c_X10_drain l D τ β δ ms mb mo mp mf (zu n3 j ((n3 j) - 1)) mi mc mq mr mw mk ml mt ma mx mh j (by first | assumption | rfl | omega) (by first | assumption | rfl | omega) _) (cwV 1 hts (gV hB wl_X10_74 wn_X10_drain ws_X10_drain wi_X10 wc_X10_drain) rfl rfl rfl hd_X10_drain ⟨Nat.le_of_ble_eq_true rfl, Nat.le_of_ble_eq_true rfl⟩) (zp_V hK hP hD hS hA hG (ci := 10) (q0 := 0) rfl rfl rfl) rfl rfl hl.1 rfl (lv_room (Nat.le_of_ble_eq_true rfl)) dX10_showers_61 ⟨Nat.le_of_ble_eq_true rfl, Nat.le_of_ble_eq_true rfl⟩) (fun r w1 H locs hq9 hP hD hS => ?_)
            obtain ⟨v61_4, hv61_0, hv61_1, rfl, rfl⟩ := hq9
            have hP : va_P D vwCl (wM β δ ms mb mo mp mf ((zu n3 j ((n3 j) - 1))) mi mc mq mr mw mk ml mt ma mx mh) H := hP
            have hD : va_D A (wM β δ ms mb mo mp mf ((zu n3 j ((n3 j) - 1))) mi mc mq mr mw mk ml mt ma mx mh) := hD
            have hn61 : v61_4 ≠ -1 := fun h9 => by have z9 := S_drop_next (h := ms) (k := j) (by omega) (hv61_0.symm.trans h9); omega
            have hne : v61_4 ≠ j := by rw [hv61_0]; exact S_next_ne (by omega)
            refine lv_dup2_11 hx hb dX10_showers_64 rfl rfl ?_
            refine z_iald (f := zu n3 j ((n3 j) - 1)) hx hb hK hP 6 5 rfl rfl ⟨⟨by omega, by omega⟩, by decide⟩ dX10_showers_65 ?_
            refine lv_iconst (v := zI 1) hx hb dX10_showers_66 rfl ?_
            refine z_iadd hx hb dX10_showers_67 ?_
            refine z_iast (f := zu n3 j ((n3 j) - 1)) (v := ((zu n3 j ((n3 j) - 1)) v61_4) + 1) hx hb hK hP hD hS 6 5 rfl rfl ⟨⟨by omega, by omega⟩, by decide⟩ dX10_showers_68 (fun H locs hP hD hS => ?_)
            have hP : va_P D vwCl (wM β δ ms mb mo mp mf ((zu (zu n3 j ((n3 j) - 1)) v61_4 (((zu n3 j ((n3 j) - 1)) v61_4) + 1))) mi mc mq mr mw mk ml mt ma mx mh) H := hP
            have hD : va_D A (wM β δ ms mb mo mp mf ((zu (zu n3 j ((n3 j) - 1)) v61_4 (((zu n3 j ((n3 j) - 1)) v61_4) + 1))) mi mc mq mr mw mk ml mt ma mx mh) := hD
            refine z_iinc (k := 0) (v := g + 1) (lv' := [(1, .int (zI (g + 1))), (2, .int (zI j)), (0, .ref (β 0))]) hx hb dX10_showers_69 hl rfl rfl (by decide) rfl (fun ls hl => ?_)
            refine z_iinc (k := 1) (v := j + 1) (lv' := [(2, .int (zI (j + 1))), (1, .int (zI (g + 1))), (0, .ref (β 0))]) hx hb dX10_showers_72 hl rfl rfl (by decide) rfl (fun ls hl => ?_)
            refine lv_goto (tgt := 30) hx hb dX10_showers_75 (by decide) ?_
            exact ih_30 (zu (zu n3 j ((n3 j) - 1)) v61_4 (((zu n3 j ((n3 j) - 1)) v61_4) + 1)) (g + 1) (j + 1) _ _ hP hD hS _ (lv_sub hl [1, 0, 2] rfl) (by first | assumption | rfl | omega) (by intro k q1 q2; rw [S_wc_up hj.1]; first | (rw [if_neg (by unfold S_steep; simp only [decide_eq_true_eq]; omega)]; exact hn3 k q1 q2) | (rw [if_pos (by unfold S_steep; simp only [decide_eq_true_eq]; omega), ← hv61_0]; exact wc_step hne hn3 (by omega) (by omega) ⟨q1, q2⟩)) (by rw [zC_up hj.1, ← hg]; first | (rw [z1_f (by unfold S_steep; simp only [decide_eq_false_iff_not]; omega)]; omega) | (rw [z1_t (by unfold S_steep; simp only [decide_eq_true_eq]; omega)])) (by first | assumption | rfl | omega) (by omega)
    · refine lv_aload_n hx hb dX10_showers_10 rfl (lv_at hl 2 rfl) ?_
      refine va_get (D := D) (ci := 10) (v := .ref (β 6)) (C := RX10) (T := TX10) (N := 17) hx hb hts (fun w h => List.mem_cons_of_mem _ (wx_X10 w h)) hown hK hP 0 rfl rfl 8 (by decide) (hW0 _ wf_X10_26) (fun _ h9 => h9) rfl dX10_showers_11 ?_
      refine lv_iload_n hx hb dX10_showers_14 rfl (lv_at hl 0 rfl) ?_
      refine lv_aload_n hx hb dX10_showers_15 rfl (lv_at hl 2 rfl) ?_
      refine va_get (D := D) (ci := 10) (v := .ref (β 1)) (C := RX10) (T := TX10) (N := 17) hx hb hts (fun w h => List.mem_cons_of_mem _ (wx_X10 w h)) hown hK hP 0 rfl rfl 0 (by decide) (hW0 _ wf_X10_7) (fun _ h9 => h9) rfl dX10_showers_16 ?_
      refine lv_iload_n hx hb dX10_showers_19 rfl (lv_at hl 0 rfl) ?_
      refine z_iald (f := ms) hx hb hK hP 1 0 rfl rfl ⟨⟨by omega, by omega⟩, by decide⟩ dX10_showers_20 ?_
      refine z_iast (f := n1) (v := ms i) hx hb hK hP hD hS 6 5 rfl rfl ⟨⟨by omega, by omega⟩, by decide⟩ dX10_showers_21 (fun H locs hP hD hS => ?_)
      have hP : va_P D vwCl (wM β δ ms mb mo mp mf ((zu n1 i (ms i))) mi mc mq mr mw mk ml mt ma mx mh) H := hP
      have hD : va_D A (wM β δ ms mb mo mp mf ((zu n1 i (ms i))) mi mc mq mr mw mk ml mt ma mx mh) := hD
      refine z_iinc (k := 0) (v := i + 1) (lv' := [(2, .int (zI (i + 1))), (1, .int (zI 0)), (0, .ref (β 0))]) hx hb dX10_showers_22 hl rfl rfl (by decide) rfl (fun ls hl => ?_)
      refine lv_goto (tgt := 4) hx hb dX10_showers_25 (by decide) ?_
      exact ih_4 (zu n1 i (ms i)) (i + 1) _ _ hP hD hS _ (lv_sub hl [0, 1, 2] rfl) (by first | assumption | rfl | omega) (by rw [hn1]; exact zmix_up hi.1 rfl) (by omega)

abbrev wz_X10_thrown : List Cond := .code yX10_thrown cX10_thrown 1 (some .int) :: W0
abbrev rm_X10_thrown : Room := { frames := 0, cells := 0, slots := 0, locals := 0 }
theorem hd_X10_thrown : yX10_thrown.cls = RX10 ∧ yX10_thrown.cls ≠ "java/lang/invoke/MethodHandle" ∧ yX10_thrown.cls ≠ "java/lang/invoke/VarHandle" ∧ (parseMethodDescriptor yX10_thrown.desc).map (fun d => d.parameters.length) = some 0 := by decide +kernel
set_option maxHeartbeats 4000000 in
set_option maxRecDepth 100000 in
theorem c_X10_thrown (l : Launch) (D : va_G) (τ : Nat → Nat) (β : Nat → Nat) (δ : Nat → ClassId) (ms : IA) (mb : IA) (mo : IA) (mp : BA) (mf : IA) (mn : IA) (mi : IA) (mc : IA) (mq : BA) (mr : IA) (mw : IA) (mk : Int) (ml : Int) (mt : Int) (ma : Int) (mx : Bool) (mh : Int64) : cM l yX10_thrown wz_X10_thrown rm_X10_thrown D τ (tyM δ) [.ref (β 0)] (wM β δ ms mb mo mp mf mn mi mc mq mr mw mk ml mt ma mx mh) (zQi (fun r w => ∃ (v : Int), (v = mt) ∧ r = zI v ∧ wM β δ ms mb mo mp mf mn mi mc mq mr mw mk ml mt ma mx mh = w)) := by
  refine z_ofM (cc := cX10_thrown) (maxL := 1) (ret := (some .int)) (by decide +kernel) rfl (Nat.le_of_ble_eq_true rfl) ?_
  intro pg e s m args below meth c hC hr hlk hnm hK hP A hD hG hA hS ls hl Q hQ
  have hx := hC.1
  have hb := hC.2.1
  have hml := hC.2.2.1
  have hown := hC.2.2.2.1
  have hts := hC.2.2.2.2
  have hB : ∀ w ∈ W0, w ∈ wz_X10_thrown := fun _ h => List.mem_cons_of_mem _ h
  have hW0 : ∀ w ∈ W0, w.before args s = true := fun w h => hts w (hB w h)
  have hl : lv_has ls 1 [(0, .ref (β 0))] := hl
  refine lv_aload_n hx hb dX10_thrown_0 rfl (lv_at hl 0 rfl) ?_
  refine va_get (D := D) (ci := 10) (v := .int (zI mt)) (C := RX10) (T := TX10) (N := 17) hx hb hts (fun w h => List.mem_cons_of_mem _ (wx_X10 w h)) hown hK hP 0 rfl rfl 7 (by decide) (hW0 _ wf_X10_44) (fun _ h9 => h9) rfl dX10_thrown_1 ?_
  exact z_iret hC hr hlk hQ hP hD hS ⟨mt, (by first | assumption | rfl | omega), rfl, rfl⟩ dX10_thrown_4

abbrev wz_X10_throwing : List Cond := .code yX10_throwing cX10_throwing 2 (some .int) :: W0
abbrev rm_X10_throwing : Room := { frames := 0, cells := 0, slots := 0, locals := 0 }
theorem hd_X10_throwing : yX10_throwing.cls = RX10 ∧ yX10_throwing.cls ≠ "java/lang/invoke/MethodHandle" ∧ yX10_throwing.cls ≠ "java/lang/invoke/VarHandle" ∧ (parseMethodDescriptor yX10_throwing.desc).map (fun d => d.parameters.length) = some 1 := by decide +kernel
set_option maxHeartbeats 4000000 in
set_option maxRecDepth 100000 in
theorem c_X10_throwing (l : Launch) (D : va_G) (τ : Nat → Nat) (β : Nat → Nat) (δ : Nat → ClassId) (ms : IA) (mb : IA) (mo : IA) (mp : BA) (mf : IA) (mn : IA) (mi : IA) (mc : IA) (mq : BA) (mr : IA) (mw : IA) (mk : Int) (ml : Int) (mt : Int) (ma : Int) (mx : Bool) (mh : Int64) (k9 : Int) : cM l yX10_throwing wz_X10_throwing rm_X10_throwing D τ (tyM δ) [.ref (β 0), .int (zI k9)] (wM β δ ms mb mo mp mf mn mi mc mq mr mw mk ml mt ma mx mh) (zQi (fun r w => ∃ (t2 : Int), ∃ (v : Int), (v = 0) ∧ (t2 = k9) ∧ r = zI v ∧ wM β δ ms mb mo mp mf mn mi mc mq mr mw mk ml t2 ma mx mh = w)) := by
  refine z_ofM (cc := cX10_throwing) (maxL := 2) (ret := (some .int)) (by decide +kernel) rfl (Nat.le_of_ble_eq_true rfl) ?_
  intro pg e s m args below meth c hC hr hlk hnm hK hP A hD hG hA hS ls hl Q hQ
  have hx := hC.1
  have hb := hC.2.1
  have hml := hC.2.2.1
  have hown := hC.2.2.2.1
  have hts := hC.2.2.2.2
  have hB : ∀ w ∈ W0, w ∈ wz_X10_throwing := fun _ h => List.mem_cons_of_mem _ h
  have hW0 : ∀ w ∈ W0, w.before args s = true := fun w h => hts w (hB w h)
  have hl : lv_has ls 2 [(0, .ref (β 0)), (1, .int (zI k9))] := hl
  refine lv_aload_n hx hb dX10_throwing_0 rfl (lv_at hl 0 rfl) ?_
  refine lv_iload_n hx hb dX10_throwing_1 rfl (lv_at hl 1 rfl) ?_
  refine va_put (D := D) (ci := 10) (v := .int (zI k9)) (ty := .int) (C := RX10) (T := TX10) (N := 17) hx hb hts (fun w h => List.mem_cons_of_mem _ (wx_X10 w h)) tyX10 tyX10_ok nmX10 hown hK hP hD hS 0 rfl rfl 7 (by decide) (hW0 _ wf_X10_44) (fun _ h9 => h9) rfl (by decide +kernel) rfl rfl (Nat.le_of_ble_eq_true rfl) dX10_throwing_2 (fun H locs hP hD hS => ?_)
  have hP : va_P D vwCl (wM β δ ms mb mo mp mf mn mi mc mq mr mw mk ml k9 ma mx mh) H := hP
  have hD : va_D A (wM β δ ms mb mo mp mf mn mi mc mq mr mw mk ml k9 ma mx mh) := hD
  refine lv_iconst (v := zI 0) hx hb dX10_throwing_5 rfl ?_
  exact z_iret hC hr hlk hQ hP hD hS ⟨k9, 0, (by first | assumption | rfl | omega), (by first | assumption | rfl | omega), rfl, rfl⟩ dX10_throwing_6

abbrev wz_X10_set : List Cond := .code yX10_set cX10_set 5 (some .int) :: W0
abbrev rm_X10_set : Room := { frames := 2, cells := 0, slots := 0, locals := 43 }
theorem hd_X10_set : yX10_set.cls = RX10 ∧ yX10_set.cls ≠ "java/lang/invoke/MethodHandle" ∧ yX10_set.cls ≠ "java/lang/invoke/VarHandle" ∧ (parseMethodDescriptor yX10_set.desc).map (fun d => d.parameters.length) = some 3 := by decide +kernel
set_option maxHeartbeats 4000000 in
set_option maxRecDepth 100000 in
theorem c_X10_set (l : Launch) (D : va_G) (τ : Nat → Nat) (β : Nat → Nat) (δ : Nat → ClassId) (ms : IA) (mb : IA) (mo : IA) (mp : BA) (mf : IA) (mn : IA) (mi : IA) (mc : IA) (mq : BA) (mr : IA) (mw : IA) (mk : Int) (ml : Int) (mt : Int) (ma : Int) (mx : Bool) (mh : Int64) (r9 : Int) (c9 : Int) (g9 : Int) (hr9 : -2147483648 ≤ r9 ∧ r9 < 2147483648) (hc9 : -2147483648 ≤ c9 ∧ c9 < 2147483648) (hg9 : -2147483648 ≤ g9 ∧ g9 < 2147483648) (hmk : 0 ≤ mk ∧ mk ≤ 6) : cM l yX10_set wz_X10_set rm_X10_set D τ (tyM δ) [.ref (β 0), .int (zI r9), .int (zI c9), .int (zI g9)] (wM β δ ms mb mo mp mf mn mi mc mq mr mw mk ml mt ma mx mh) (zQi (fun r w => ∃ (s2 : IA), ∃ (b2 : IA), ∃ (k2 : Int), ∃ (t2 : Int), ∃ (v : Int), (t2 = S_tset r9 c9 g9) ∧ (t2 = 0 → v = ms (7 * r9 + c9)) ∧ (s2 = (if S_tset r9 c9 g9 = 0 then zu ms (7 * r9 + c9) g9 else ms)) ∧ (b2 = (if S_tset r9 c9 g9 = 0 then S_sv mb ms mk else mb)) ∧ (k2 = (if S_tset r9 c9 g9 = 0 then S_svC mk else mk)) ∧ r = zI v ∧ wM β δ s2 b2 mo mp mf mn mi mc mq mr mw k2 ml t2 ma mx mh = w)) := by
  refine z_ofM (cc := cX10_set) (maxL := 5) (ret := (some .int)) (by decide +kernel) rfl (Nat.le_of_ble_eq_true rfl) ?_
  intro pg e s m args below meth c hC hr hlk hnm hK hP A hD hG hA hS ls hl Q hQ
  have hx := hC.1
  have hb := hC.2.1
  have hml := hC.2.2.1
  have hown := hC.2.2.2.1
  have hts := hC.2.2.2.2
  have hB : ∀ w ∈ W0, w ∈ wz_X10_set := fun _ h => List.mem_cons_of_mem _ h
  have hW0 : ∀ w ∈ W0, w.before args s = true := fun w h => hts w (hB w h)
  have hl : lv_has ls 5 [(0, .ref (β 0)), (1, .int (zI r9)), (2, .int (zI c9)), (3, .int (zI g9))] := hl
  refine lv_aload_n hx hb dX10_set_0 rfl (lv_at hl 0 rfl) ?_
  refine lv_iload_n hx hb dX10_set_1 rfl (lv_at hl 1 rfl) ?_
  refine lv_iload_n hx hb dX10_set_2 rfl (lv_at hl 2 rfl) ?_
  refine z_calli hP hD hS hA (va_runS (As := [.int (zI r9), .int (zI c9)]) (rest := [.ref (β 0)]) hC (c_X10_isPoint l D τ _ _ r9 c9 (by first | assumption | rfl | omega) (by first | assumption | rfl | omega) _) (va_cwS 2 hts (gS hB wl_X10_55 wt_X10_isPoint wi_X10 wc_X10_isPoint) rfl rfl rfl hd_X10_isPoint.2 ⟨Nat.le_of_ble_eq_true rfl, Nat.le_of_ble_eq_true rfl⟩) (zp_S hK hP hD hS hA hG) rfl rfl hl.1 rfl (lv_room (Nat.le_of_ble_eq_true rfl)) dX10_set_3 ⟨Nat.le_of_ble_eq_true rfl, Nat.le_of_ble_eq_true rfl⟩) (fun r w1 H locs hq9 hP hD hS => ?_)
  obtain ⟨v3_1, hv3_0, rfl, rfl⟩ := hq9
  refine z_ifneB (tgt := 13) hx hb dX10_set_6 (by decide) (fun c_6 => ?_) (fun c_6 => ?_)
  · have hb_6 := hv3_0.mp c_6
    refine lv_iload_n hx hb dX10_set_13 rfl (lv_at hl 3 rfl) ?_
    refine lv_iconst (v := zI 0) hx hb dX10_set_14 rfl ?_
    refine lv_bipush (v := zI 99) hx hb dX10_set_15 (zI_b8 (by decide)) ?_
    refine z_calli hP hD hS hA (va_runS (As := [.int (zI g9), .int (zI 0), .int (zI 99)]) (rest := [.ref (β 0)]) hC (c_X10_in l D τ _ _ g9 0 99 (by first | assumption | rfl | omega) (by first | assumption | rfl | omega) (by first | assumption | rfl | omega) _) (va_cwS 3 hts (gS hB wl_X10_48 wt_X10_in wi_X10 wc_X10_in) rfl rfl rfl hd_X10_in.2 ⟨Nat.le_of_ble_eq_true rfl, Nat.le_of_ble_eq_true rfl⟩) (zp_S hK hP hD hS hA hG) rfl rfl hl.1 rfl (lv_room (Nat.le_of_ble_eq_true rfl)) dX10_set_17 ⟨Nat.le_of_ble_eq_true rfl, Nat.le_of_ble_eq_true rfl⟩) (fun r w1 H locs hq9 hP hD hS => ?_)
    obtain ⟨v17_2, hv17_0, rfl, rfl⟩ := hq9
    refine z_ifeqB (tgt := 27) hx hb dX10_set_20 (by decide) (fun c_20 => ?_) (fun c_20 => ?_)
    · have hb_20 := zb_neg hv17_0 c_20
      refine lv_iconst (v := zI 2) hx hb dX10_set_27 rfl ?_
      have ht : S_tset r9 c9 g9 = 2 := by unfold S_tset; first | (rw [if_pos hb_6, if_pos hb_20]; done) | (rw [if_pos hb_6, if_neg hb_20]; done) | (rw [if_neg hb_6]; done)
      refine va_put (D := D) (ci := 10) (v := .int (zI 2)) (ty := .int) (C := RX10) (T := TX10) (N := 17) hx hb hts (fun w h => List.mem_cons_of_mem _ (wx_X10 w h)) tyX10 tyX10_ok nmX10 hown hK hP hD hS 0 rfl rfl 7 (by decide) (hW0 _ wf_X10_44) (fun _ h9 => h9) rfl (by decide +kernel) rfl rfl (Nat.le_of_ble_eq_true rfl) dX10_set_28 (fun H locs hP hD hS => ?_)
      have hP : va_P D vwCl (wM β δ ms mb mo mp mf mn mi mc mq mr mw mk ml 2 ma mx mh) H := hP
      have hD : va_D A (wM β δ ms mb mo mp mf mn mi mc mq mr mw mk ml 2 ma mx mh) := hD
      refine lv_aload_n hx hb dX10_set_31 rfl (lv_at hl 0 rfl) ?_
      refine va_get (D := D) (ci := 10) (v := .int (zI 2)) (C := RX10) (T := TX10) (N := 17) hx hb hts (fun w h => List.mem_cons_of_mem _ (wx_X10 w h)) hown hK hP 0 rfl rfl 7 (by decide) (hW0 _ wf_X10_44) (fun _ h9 => h9) rfl dX10_set_32 ?_
      refine z_ifle (tgt := 40) hx hb ⟨by omega, by omega⟩ dX10_set_35 (by decide) (fun c_35 => ?_) (fun c_35 => ?_)
      · exact absurd c_35 (by decide)
      · refine lv_iconst (v := zI 0) hx hb dX10_set_38 rfl ?_
        exact z_iret hC hr hlk hQ hP hD hS ⟨ms, mb, mk, 2, 0, (by exact ht.symm), (by first | exact fun _ => rfl | exact fun h9 => absurd h9 (by decide)), (by first | (rw [ht, if_pos rfl]; done) | (rw [ht, if_neg (by decide)]; done)), (by rw [ht]; first | (rw [if_pos rfl]; exact hv41_0) | (rw [if_neg (by decide)]; done)), (by rw [ht]; first | (rw [if_pos rfl]; exact hv41_1) | (rw [if_neg (by decide)]; done)), rfl, rfl⟩ dX10_set_39
    · have hb_20 := hv17_0.mp c_20
      refine lv_iconst (v := zI 0) hx hb dX10_set_23 rfl ?_
      refine lv_goto (tgt := 28) hx hb dX10_set_24 (by decide) ?_
      have ht : S_tset r9 c9 g9 = 0 := by unfold S_tset; first | (rw [if_pos hb_6, if_pos hb_20]; done) | (rw [if_pos hb_6, if_neg hb_20]; done) | (rw [if_neg hb_6]; done)
      refine va_put (D := D) (ci := 10) (v := .int (zI 0)) (ty := .int) (C := RX10) (T := TX10) (N := 17) hx hb hts (fun w h => List.mem_cons_of_mem _ (wx_X10 w h)) tyX10 tyX10_ok nmX10 hown hK hP hD hS 0 rfl rfl 7 (by decide) (hW0 _ wf_X10_44) (fun _ h9 => h9) rfl (by decide +kernel) rfl rfl (Nat.le_of_ble_eq_true rfl) dX10_set_28 (fun H locs hP hD hS => ?_)
      have hP : va_P D vwCl (wM β δ ms mb mo mp mf mn mi mc mq mr mw mk ml 0 ma mx mh) H := hP
      have hD : va_D A (wM β δ ms mb mo mp mf mn mi mc mq mr mw mk ml 0 ma mx mh) := hD
      refine lv_aload_n hx hb dX10_set_31 rfl (lv_at hl 0 rfl) ?_
      refine va_get (D := D) (ci := 10) (v := .int (zI 0)) (C := RX10) (T := TX10) (N := 17) hx hb hts (fun w h => List.mem_cons_of_mem _ (wx_X10 w h)) hown hK hP 0 rfl rfl 7 (by decide) (hW0 _ wf_X10_44) (fun _ h9 => h9) rfl dX10_set_32 ?_
      refine z_ifle (tgt := 40) hx hb ⟨by omega, by omega⟩ dX10_set_35 (by decide) (fun c_35 => ?_) (fun c_35 => ?_)
      · refine lv_aload_n hx hb dX10_set_40 rfl (lv_at hl 0 rfl) ?_
        refine z_callv hP hD hS hA (va_runV (As := []) (rest := []) hC (c_X10_save l D τ β δ ms mb mo mp mf mn mi mc mq mr mw mk ml 0 ma mx mh (by first | assumption | rfl | omega) _) (cwV 0 hts (gV hB wl_X10_80 wn_X10_save ws_X10_save wi_X10 wc_X10_save) rfl rfl rfl hd_X10_save ⟨Nat.le_of_ble_eq_true rfl, Nat.le_of_ble_eq_true rfl⟩) (zp_V hK hP hD hS hA hG (ci := 10) (q0 := 0) rfl rfl rfl) rfl rfl hl.1 rfl (lv_room (Nat.le_of_ble_eq_true rfl)) dX10_set_41 ⟨Nat.le_of_ble_eq_true rfl, Nat.le_of_ble_eq_true rfl⟩) (fun w1 H locs hq9 hP hD hS => ?_)
        obtain ⟨b41_3, k41_4, hv41_0, hv41_1, rfl⟩ := hq9
        have hP : va_P D vwCl (wM β δ ms b41_3 mo mp mf mn mi mc mq mr mw k41_4 ml 0 ma mx mh) H := hP
        have hD : va_D A (wM β δ ms b41_3 mo mp mf mn mi mc mq mr mw k41_4 ml 0 ma mx mh) := hD
        refine lv_aload_n hx hb dX10_set_44 rfl (lv_at hl 0 rfl) ?_
        refine va_get (D := D) (ci := 10) (v := .ref (β 1)) (C := RX10) (T := TX10) (N := 17) hx hb hts (fun w h => List.mem_cons_of_mem _ (wx_X10 w h)) hown hK hP 0 rfl rfl 0 (by decide) (hW0 _ wf_X10_7) (fun _ h9 => h9) rfl dX10_set_45 ?_
        refine lv_bipush (v := zI 7) hx hb dX10_set_48 (zI_b8 (by decide)) ?_
        refine lv_iload_n hx hb dX10_set_50 rfl (lv_at hl 1 rfl) ?_
        refine z_imul hx hb dX10_set_51 ?_
        refine lv_iload_n hx hb dX10_set_52 rfl (lv_at hl 2 rfl) ?_
        refine z_iadd hx hb dX10_set_53 ?_
        refine z_iald (f := ms) hx hb hK hP 1 0 rfl rfl ⟨⟨by omega, by omega⟩, by decide⟩ dX10_set_54 ?_
        refine lv_istore (lv' := [(4, .int (zI (ms ((7 * r9) + c9)))), (0, .ref (β 0)), (1, .int (zI r9)), (2, .int (zI c9)), (3, .int (zI g9))]) hx hb dX10_set_55 hl (by decide) rfl (fun ls hl => ?_)
        refine lv_aload_n hx hb dX10_set_57 rfl (lv_at hl 1 rfl) ?_
        refine va_get (D := D) (ci := 10) (v := .ref (β 1)) (C := RX10) (T := TX10) (N := 17) hx hb hts (fun w h => List.mem_cons_of_mem _ (wx_X10 w h)) hown hK hP 0 rfl rfl 0 (by decide) (hW0 _ wf_X10_7) (fun _ h9 => h9) rfl dX10_set_58 ?_
        refine lv_bipush (v := zI 7) hx hb dX10_set_61 (zI_b8 (by decide)) ?_
        refine lv_iload_n hx hb dX10_set_63 rfl (lv_at hl 2 rfl) ?_
        refine z_imul hx hb dX10_set_64 ?_
        refine lv_iload_n hx hb dX10_set_65 rfl (lv_at hl 3 rfl) ?_
        refine z_iadd hx hb dX10_set_66 ?_
        refine lv_iload_n hx hb dX10_set_67 rfl (lv_at hl 4 rfl) ?_
        refine z_iast (f := ms) (v := g9) hx hb hK hP hD hS 1 0 rfl rfl ⟨⟨by omega, by omega⟩, by decide⟩ dX10_set_68 (fun H locs hP hD hS => ?_)
        have hP : va_P D vwCl (wM β δ ((zu ms ((7 * r9) + c9) g9)) b41_3 mo mp mf mn mi mc mq mr mw k41_4 ml 0 ma mx mh) H := hP
        have hD : va_D A (wM β δ ((zu ms ((7 * r9) + c9) g9)) b41_3 mo mp mf mn mi mc mq mr mw k41_4 ml 0 ma mx mh) := hD
        refine lv_iload hx hb dX10_set_69 (lv_at hl 0 rfl) ?_
        exact z_iret hC hr hlk hQ hP hD hS ⟨zu ms ((7 * r9) + c9) g9, b41_3, k41_4, 0, ms ((7 * r9) + c9), (by exact ht.symm), (by first | exact fun _ => rfl | exact fun h9 => absurd h9 (by decide)), (by first | (rw [ht, if_pos rfl]; done) | (rw [ht, if_neg (by decide)]; done)), (by rw [ht]; first | (rw [if_pos rfl]; exact hv41_0) | (rw [if_neg (by decide)]; done)), (by rw [ht]; first | (rw [if_pos rfl]; exact hv41_1) | (rw [if_neg (by decide)]; done)), rfl, rfl⟩ dX10_set_71
      · exact absurd c_35 (by decide)
  · have hb_6 := zb_neg hv3_0 c_6
    refine lv_iconst (v := zI 1) hx hb dX10_set_9 rfl ?_
    refine lv_goto (tgt := 28) hx hb dX10_set_10 (by decide) ?_
    have ht : S_tset r9 c9 g9 = 1 := by unfold S_tset; first | (rw [if_pos hb_6, if_pos hb_20]; done) | (rw [if_pos hb_6, if_neg hb_20]; done) | (rw [if_neg hb_6]; done)
    refine va_put (D := D) (ci := 10) (v := .int (zI 1)) (ty := .int) (C := RX10) (T := TX10) (N := 17) hx hb hts (fun w h => List.mem_cons_of_mem _ (wx_X10 w h)) tyX10 tyX10_ok nmX10 hown hK hP hD hS 0 rfl rfl 7 (by decide) (hW0 _ wf_X10_44) (fun _ h9 => h9) rfl (by decide +kernel) rfl rfl (Nat.le_of_ble_eq_true rfl) dX10_set_28 (fun H locs hP hD hS => ?_)
    have hP : va_P D vwCl (wM β δ ms mb mo mp mf mn mi mc mq mr mw mk ml 1 ma mx mh) H := hP
    have hD : va_D A (wM β δ ms mb mo mp mf mn mi mc mq mr mw mk ml 1 ma mx mh) := hD
    refine lv_aload_n hx hb dX10_set_31 rfl (lv_at hl 0 rfl) ?_
    refine va_get (D := D) (ci := 10) (v := .int (zI 1)) (C := RX10) (T := TX10) (N := 17) hx hb hts (fun w h => List.mem_cons_of_mem _ (wx_X10 w h)) hown hK hP 0 rfl rfl 7 (by decide) (hW0 _ wf_X10_44) (fun _ h9 => h9) rfl dX10_set_32 ?_
    refine z_ifle (tgt := 40) hx hb ⟨by omega, by omega⟩ dX10_set_35 (by decide) (fun c_35 => ?_) (fun c_35 => ?_)
    · exact absurd c_35 (by decide)
    · refine lv_iconst (v := zI 0) hx hb dX10_set_38 rfl ?_
      exact z_iret hC hr hlk hQ hP hD hS ⟨ms, mb, mk, 1, 0, (by exact ht.symm), (by first | exact fun _ => rfl | exact fun h9 => absurd h9 (by decide)), (by first | (rw [ht, if_pos rfl]; done) | (rw [ht, if_neg (by decide)]; done)), (by rw [ht]; first | (rw [if_pos rfl]; exact hv41_0) | (rw [if_neg (by decide)]; done)), (by rw [ht]; first | (rw [if_pos rfl]; exact hv41_1) | (rw [if_neg (by decide)]; done)), rfl, rfl⟩ dX10_set_39

abbrev wz_X10_heap : List Cond := .code yX10_heap cX10_heap 4 (some .int) :: W0
abbrev rm_X10_heap : Room := { frames := 3, cells := 0, slots := 0, locals := 70 }
theorem hd_X10_heap : yX10_heap.cls = RX10 ∧ yX10_heap.cls ≠ "java/lang/invoke/MethodHandle" ∧ yX10_heap.cls ≠ "java/lang/invoke/VarHandle" ∧ (parseMethodDescriptor yX10_heap.desc).map (fun d => d.parameters.length) = some 3 := by decide +kernel
set_option maxHeartbeats 4000000 in
set_option maxRecDepth 100000 in
theorem c_X10_heap (l : Launch) (D : va_G) (τ : Nat → Nat) (β : Nat → Nat) (δ : Nat → ClassId) (ms : IA) (mb : IA) (mo : IA) (mp : BA) (mf : IA) (mn : IA) (mi : IA) (mc : IA) (mq : BA) (mr : IA) (mw : IA) (mk : Int) (ml : Int) (mt : Int) (ma : Int) (mx : Bool) (mh : Int64) (r9 : Int) (c9 : Int) (a : Int) (hr9 : -2147483648 ≤ r9 ∧ r9 < 2147483648) (hc9 : -2147483648 ≤ c9 ∧ c9 < 2147483648) (ham : -2147483648 ≤ a ∧ a < 2147483648) (hmk : 0 ≤ mk ∧ mk ≤ 6) (hms : ∀ k, 0 ≤ k → k < 49 → 0 ≤ ms k ∧ ms k ≤ 99) : cM l yX10_heap wz_X10_heap rm_X10_heap D τ (tyM δ) [.ref (β 0), .int (zI r9), .int (zI c9), .int (zI a)] (wM β δ ms mb mo mp mf mn mi mc mq mr mw mk ml mt ma mx mh) (zQi (fun r w => ∃ (s2 : IA), ∃ (n2 : IA), ∃ (b2 : IA), ∃ (k2 : Int), ∃ (t2 : Int), ∃ (v : Int), (t2 = S_theap r9 c9 a) ∧ (t2 = 0 → v = S_diff (S_heap ms (7 * r9 + c9) a) ms) ∧ (s2 = (if S_theap r9 c9 a = 0 then S_heap ms (7 * r9 + c9) a else ms)) ∧ (b2 = (if S_theap r9 c9 a = 0 then S_sv mb ms mk else mb)) ∧ (k2 = (if S_theap r9 c9 a = 0 then S_svC mk else mk)) ∧ r = zI v ∧ wM β δ s2 b2 mo mp mf n2 mi mc mq mr mw k2 ml t2 ma mx mh = w)) := by
  refine z_ofM (cc := cX10_heap) (maxL := 4) (ret := (some .int)) (by decide +kernel) rfl (Nat.le_of_ble_eq_true rfl) ?_
  intro pg e s m args below meth c hC hr hlk hnm hK hP A hD hG hA hS ls hl Q hQ
  have hx := hC.1
  have hb := hC.2.1
  have hml := hC.2.2.1
  have hown := hC.2.2.2.1
  have hts := hC.2.2.2.2
  have hB : ∀ w ∈ W0, w ∈ wz_X10_heap := fun _ h => List.mem_cons_of_mem _ h
  have hW0 : ∀ w ∈ W0, w.before args s = true := fun w h => hts w (hB w h)
  have hl : lv_has ls 4 [(0, .ref (β 0)), (1, .int (zI r9)), (2, .int (zI c9)), (3, .int (zI a))] := hl
  refine lv_aload_n hx hb dX10_heap_0 rfl (lv_at hl 0 rfl) ?_
  refine lv_iload_n hx hb dX10_heap_1 rfl (lv_at hl 1 rfl) ?_
  refine lv_iload_n hx hb dX10_heap_2 rfl (lv_at hl 2 rfl) ?_
  refine z_calli hP hD hS hA (va_runS (As := [.int (zI r9), .int (zI c9)]) (rest := [.ref (β 0)]) hC (c_X10_isPoint l D τ _ _ r9 c9 (by first | assumption | rfl | omega) (by first | assumption | rfl | omega) _) (va_cwS 2 hts (gS hB wl_X10_55 wt_X10_isPoint wi_X10 wc_X10_isPoint) rfl rfl rfl hd_X10_isPoint.2 ⟨Nat.le_of_ble_eq_true rfl, Nat.le_of_ble_eq_true rfl⟩) (zp_S hK hP hD hS hA hG) rfl rfl hl.1 rfl (lv_room (Nat.le_of_ble_eq_true rfl)) dX10_heap_3 ⟨Nat.le_of_ble_eq_true rfl, Nat.le_of_ble_eq_true rfl⟩) (fun r w1 H locs hq9 hP hD hS => ?_)
  obtain ⟨v3_1, hv3_0, rfl, rfl⟩ := hq9
  refine z_ifneB (tgt := 13) hx hb dX10_heap_6 (by decide) (fun c_6 => ?_) (fun c_6 => ?_)
  · have hb_6 := hv3_0.mp c_6
    refine lv_iload_n hx hb dX10_heap_13 rfl (lv_at hl 3 rfl) ?_
    refine lv_bipush (v := zI (-60)) hx hb dX10_heap_14 (zI_b8 (by decide)) ?_
    refine lv_bipush (v := zI 60) hx hb dX10_heap_16 (zI_b8 (by decide)) ?_
    refine z_calli hP hD hS hA (va_runS (As := [.int (zI a), .int (zI (-60)), .int (zI 60)]) (rest := [.ref (β 0)]) hC (c_X10_in l D τ _ _ a (-60) 60 (by first | assumption | rfl | omega) (by first | assumption | rfl | omega) (by first | assumption | rfl | omega) _) (va_cwS 3 hts (gS hB wl_X10_48 wt_X10_in wi_X10 wc_X10_in) rfl rfl rfl hd_X10_in.2 ⟨Nat.le_of_ble_eq_true rfl, Nat.le_of_ble_eq_true rfl⟩) (zp_S hK hP hD hS hA hG) rfl rfl hl.1 rfl (lv_room (Nat.le_of_ble_eq_true rfl)) dX10_heap_18 ⟨Nat.le_of_ble_eq_true rfl, Nat.le_of_ble_eq_true rfl⟩) (fun r w1 H locs hq9 hP hD hS => ?_)
    obtain ⟨v18_2, hv18_0, rfl, rfl⟩ := hq9
    refine z_ifeqB (tgt := 32) hx hb dX10_heap_21 (by decide) (fun c_21 => ?_) (fun c_21 => ?_)
    · have hb_21 := zb_neg hv18_0 c_21
      refine lv_iconst (v := zI 2) hx hb dX10_heap_32 rfl ?_
      have ht : S_theap r9 c9 a = 2 := by unfold S_theap; first | (rw [if_pos hb_6, if_pos ⟨hb_21, c_25⟩]; done) | (rw [if_pos hb_6, if_neg (fun h9 => h9.2 c_25)]; done) | (rw [if_pos hb_6, if_neg (fun h9 => hb_21 h9.1)]; done) | (rw [if_neg hb_6]; done)
      refine va_put (D := D) (ci := 10) (v := .int (zI 2)) (ty := .int) (C := RX10) (T := TX10) (N := 17) hx hb hts (fun w h => List.mem_cons_of_mem _ (wx_X10 w h)) tyX10 tyX10_ok nmX10 hown hK hP hD hS 0 rfl rfl 7 (by decide) (hW0 _ wf_X10_44) (fun _ h9 => h9) rfl (by decide +kernel) rfl rfl (Nat.le_of_ble_eq_true rfl) dX10_heap_33 (fun H locs hP hD hS => ?_)
      have hP : va_P D vwCl (wM β δ ms mb mo mp mf mn mi mc mq mr mw mk ml 2 ma mx mh) H := hP
      have hD : va_D A (wM β δ ms mb mo mp mf mn mi mc mq mr mw mk ml 2 ma mx mh) := hD
      refine lv_aload_n hx hb dX10_heap_36 rfl (lv_at hl 0 rfl) ?_
      refine va_get (D := D) (ci := 10) (v := .int (zI 2)) (C := RX10) (T := TX10) (N := 17) hx hb hts (fun w h => List.mem_cons_of_mem _ (wx_X10 w h)) hown hK hP 0 rfl rfl 7 (by decide) (hW0 _ wf_X10_44) (fun _ h9 => h9) rfl dX10_heap_37 ?_
      refine z_ifle (tgt := 45) hx hb ⟨by omega, by omega⟩ dX10_heap_40 (by decide) (fun c_40 => ?_) (fun c_40 => ?_)
      · exact absurd c_40 (by decide)
      · refine lv_iconst (v := zI 0) hx hb dX10_heap_43 rfl ?_
        exact z_iret hC hr hlk hQ hP hD hS ⟨ms, mn, mb, mk, 2, 0, (by exact ht.symm), (by first | exact fun _ => hv53_1 | exact fun h9 => absurd h9 (by decide)), (by rw [ht]; first | (rw [if_pos rfl]; exact hv53_0) | (rw [if_neg (by decide)]; done)), (by rw [ht]; first | (rw [if_pos rfl]; exact hv46_0) | (rw [if_neg (by decide)]; done)), (by rw [ht]; first | (rw [if_pos rfl]; exact hv46_1) | (rw [if_neg (by decide)]; done)), rfl, rfl⟩ dX10_heap_44
    · have hb_21 := hv18_0.mp c_21
      refine lv_iload_n hx hb dX10_heap_24 rfl (lv_at hl 3 rfl) ?_
      refine z_ifeq (tgt := 32) hx hb ⟨by omega, by omega⟩ dX10_heap_25 (by decide) (fun c_25 => ?_) (fun c_25 => ?_)
      · refine lv_iconst (v := zI 2) hx hb dX10_heap_32 rfl ?_
        have ht : S_theap r9 c9 a = 2 := by unfold S_theap; first | (rw [if_pos hb_6, if_pos ⟨hb_21, c_25⟩]; done) | (rw [if_pos hb_6, if_neg (fun h9 => h9.2 c_25)]; done) | (rw [if_pos hb_6, if_neg (fun h9 => hb_21 h9.1)]; done) | (rw [if_neg hb_6]; done)
        refine va_put (D := D) (ci := 10) (v := .int (zI 2)) (ty := .int) (C := RX10) (T := TX10) (N := 17) hx hb hts (fun w h => List.mem_cons_of_mem _ (wx_X10 w h)) tyX10 tyX10_ok nmX10 hown hK hP hD hS 0 rfl rfl 7 (by decide) (hW0 _ wf_X10_44) (fun _ h9 => h9) rfl (by decide +kernel) rfl rfl (Nat.le_of_ble_eq_true rfl) dX10_heap_33 (fun H locs hP hD hS => ?_)
        have hP : va_P D vwCl (wM β δ ms mb mo mp mf mn mi mc mq mr mw mk ml 2 ma mx mh) H := hP
        have hD : va_D A (wM β δ ms mb mo mp mf mn mi mc mq mr mw mk ml 2 ma mx mh) := hD
        refine lv_aload_n hx hb dX10_heap_36 rfl (lv_at hl 0 rfl) ?_
        refine va_get (D := D) (ci := 10) (v := .int (zI 2)) (C := RX10) (T := TX10) (N := 17) hx hb hts (fun w h => List.mem_cons_of_mem _ (wx_X10 w h)) hown hK hP 0 rfl rfl 7 (by decide) (hW0 _ wf_X10_44) (fun _ h9 => h9) rfl dX10_heap_37 ?_
        refine z_ifle (tgt := 45) hx hb ⟨by omega, by omega⟩ dX10_heap_40 (by decide) (fun c_40 => ?_) (fun c_40 => ?_)
        · exact absurd c_40 (by decide)
        · refine lv_iconst (v := zI 0) hx hb dX10_heap_43 rfl ?_
          exact z_iret hC hr hlk hQ hP hD hS ⟨ms, mn, mb, mk, 2, 0, (by exact ht.symm), (by first | exact fun _ => hv53_1 | exact fun h9 => absurd h9 (by decide)), (by rw [ht]; first | (rw [if_pos rfl]; exact hv53_0) | (rw [if_neg (by decide)]; done)), (by rw [ht]; first | (rw [if_pos rfl]; exact hv46_0) | (rw [if_neg (by decide)]; done)), (by rw [ht]; first | (rw [if_pos rfl]; exact hv46_1) | (rw [if_neg (by decide)]; done)), rfl, rfl⟩ dX10_heap_44
      · refine lv_iconst (v := zI 0) hx hb dX10_heap_28 rfl ?_
        refine lv_goto (tgt := 33) hx hb dX10_heap_29 (by decide) ?_
        have ht : S_theap r9 c9 a = 0 := by unfold S_theap; first | (rw [if_pos hb_6, if_pos ⟨hb_21, c_25⟩]; done) | (rw [if_pos hb_6, if_neg (fun h9 => h9.2 c_25)]; done) | (rw [if_pos hb_6, if_neg (fun h9 => hb_21 h9.1)]; done) | (rw [if_neg hb_6]; done)
        refine va_put (D := D) (ci := 10) (v := .int (zI 0)) (ty := .int) (C := RX10) (T := TX10) (N := 17) hx hb hts (fun w h => List.mem_cons_of_mem _ (wx_X10 w h)) tyX10 tyX10_ok nmX10 hown hK hP hD hS 0 rfl rfl 7 (by decide) (hW0 _ wf_X10_44) (fun _ h9 => h9) rfl (by decide +kernel) rfl rfl (Nat.le_of_ble_eq_true rfl) dX10_heap_33 (fun H locs hP hD hS => ?_)
        have hP : va_P D vwCl (wM β δ ms mb mo mp mf mn mi mc mq mr mw mk ml 0 ma mx mh) H := hP
        have hD : va_D A (wM β δ ms mb mo mp mf mn mi mc mq mr mw mk ml 0 ma mx mh) := hD
        refine lv_aload_n hx hb dX10_heap_36 rfl (lv_at hl 0 rfl) ?_
        refine va_get (D := D) (ci := 10) (v := .int (zI 0)) (C := RX10) (T := TX10) (N := 17) hx hb hts (fun w h => List.mem_cons_of_mem _ (wx_X10 w h)) hown hK hP 0 rfl rfl 7 (by decide) (hW0 _ wf_X10_44) (fun _ h9 => h9) rfl dX10_heap_37 ?_
        refine z_ifle (tgt := 45) hx hb ⟨by omega, by omega⟩ dX10_heap_40 (by decide) (fun c_40 => ?_) (fun c_40 => ?_)
        · refine lv_aload_n hx hb dX10_heap_45 rfl (lv_at hl 0 rfl) ?_
          refine z_callv hP hD hS hA (va_runV (As := []) (rest := []) hC (c_X10_save l D τ β δ ms mb mo mp mf mn mi mc mq mr mw mk ml 0 ma mx mh (by first | assumption | rfl | omega) _) (cwV 0 hts (gV hB wl_X10_80 wn_X10_save ws_X10_save wi_X10 wc_X10_save) rfl rfl rfl hd_X10_save ⟨Nat.le_of_ble_eq_true rfl, Nat.le_of_ble_eq_true rfl⟩) (zp_V hK hP hD hS hA hG (ci := 10) (q0 := 0) rfl rfl rfl) rfl rfl hl.1 rfl (lv_room (Nat.le_of_ble_eq_true rfl)) dX10_heap_46 ⟨Nat.le_of_ble_eq_true rfl, Nat.le_of_ble_eq_true rfl⟩) (fun w1 H locs hq9 hP hD hS => ?_)
          obtain ⟨b46_3, k46_4, hv46_0, hv46_1, rfl⟩ := hq9
          have hP : va_P D vwCl (wM β δ ms b46_3 mo mp mf mn mi mc mq mr mw k46_4 ml 0 ma mx mh) H := hP
          have hD : va_D A (wM β δ ms b46_3 mo mp mf mn mi mc mq mr mw k46_4 ml 0 ma mx mh) := hD
          refine lv_aload_n hx hb dX10_heap_49 rfl (lv_at hl 0 rfl) ?_
          refine lv_iload_n hx hb dX10_heap_50 rfl (lv_at hl 1 rfl) ?_
          refine lv_iload_n hx hb dX10_heap_51 rfl (lv_at hl 2 rfl) ?_
          refine lv_iload_n hx hb dX10_heap_52 rfl (lv_at hl 3 rfl) ?_
          refine z_calli hP hD hS hA (va_runV (As := [.int (zI r9), .int (zI c9), .int (zI a)]) (rest := []) hC (c_X10_heaps l D τ β δ ms b46_3 mo mp mf mn mi mc mq mr mw k46_4 ml 0 ma mx mh r9 c9 a (by first | assumption | rfl | omega) (by first | assumption | rfl | omega) (by first | assumption | rfl | omega) (by first | assumption | rfl | omega) _) (cwV 3 hts (gV hB wl_X10_83 wn_X10_heaps ws_X10_heaps wi_X10 wc_X10_heaps) rfl rfl rfl hd_X10_heaps ⟨Nat.le_of_ble_eq_true rfl, Nat.le_of_ble_eq_true rfl⟩) (zp_V hK hP hD hS hA hG (ci := 10) (q0 := 0) rfl rfl rfl) rfl rfl hl.1 rfl (lv_room (Nat.le_of_ble_eq_true rfl)) dX10_heap_53 ⟨Nat.le_of_ble_eq_true rfl, Nat.le_of_ble_eq_true rfl⟩) (fun r w1 H locs hq9 hP hD hS => ?_)
          obtain ⟨s53_5, n53_6, v53_7, hv53_0, hv53_1, hv53_2, rfl, rfl⟩ := hq9
          have hP : va_P D vwCl (wM β δ s53_5 b46_3 mo mp mf n53_6 mi mc mq mr mw k46_4 ml 0 ma mx mh) H := hP
          have hD : va_D A (wM β δ s53_5 b46_3 mo mp mf n53_6 mi mc mq mr mw k46_4 ml 0 ma mx mh) := hD
          exact z_iret hC hr hlk hQ hP hD hS ⟨s53_5, n53_6, b46_3, k46_4, 0, v53_7, (by exact ht.symm), (by first | exact fun _ => hv53_1 | exact fun h9 => absurd h9 (by decide)), (by rw [ht]; first | (rw [if_pos rfl]; exact hv53_0) | (rw [if_neg (by decide)]; done)), (by rw [ht]; first | (rw [if_pos rfl]; exact hv46_0) | (rw [if_neg (by decide)]; done)), (by rw [ht]; first | (rw [if_pos rfl]; exact hv46_1) | (rw [if_neg (by decide)]; done)), rfl, rfl⟩ dX10_heap_56
        · exact absurd c_40 (by decide)
  · have hb_6 := zb_neg hv3_0 c_6
    refine lv_iconst (v := zI 1) hx hb dX10_heap_9 rfl ?_
    refine lv_goto (tgt := 33) hx hb dX10_heap_10 (by decide) ?_
    have ht : S_theap r9 c9 a = 1 := by unfold S_theap; first | (rw [if_pos hb_6, if_pos ⟨hb_21, c_25⟩]; done) | (rw [if_pos hb_6, if_neg (fun h9 => h9.2 c_25)]; done) | (rw [if_pos hb_6, if_neg (fun h9 => hb_21 h9.1)]; done) | (rw [if_neg hb_6]; done)
    refine va_put (D := D) (ci := 10) (v := .int (zI 1)) (ty := .int) (C := RX10) (T := TX10) (N := 17) hx hb hts (fun w h => List.mem_cons_of_mem _ (wx_X10 w h)) tyX10 tyX10_ok nmX10 hown hK hP hD hS 0 rfl rfl 7 (by decide) (hW0 _ wf_X10_44) (fun _ h9 => h9) rfl (by decide +kernel) rfl rfl (Nat.le_of_ble_eq_true rfl) dX10_heap_33 (fun H locs hP hD hS => ?_)
    have hP : va_P D vwCl (wM β δ ms mb mo mp mf mn mi mc mq mr mw mk ml 1 ma mx mh) H := hP
    have hD : va_D A (wM β δ ms mb mo mp mf mn mi mc mq mr mw mk ml 1 ma mx mh) := hD
    refine lv_aload_n hx hb dX10_heap_36 rfl (lv_at hl 0 rfl) ?_
    refine va_get (D := D) (ci := 10) (v := .int (zI 1)) (C := RX10) (T := TX10) (N := 17) hx hb hts (fun w h => List.mem_cons_of_mem _ (wx_X10 w h)) hown hK hP 0 rfl rfl 7 (by decide) (hW0 _ wf_X10_44) (fun _ h9 => h9) rfl dX10_heap_37 ?_
    refine z_ifle (tgt := 45) hx hb ⟨by omega, by omega⟩ dX10_heap_40 (by decide) (fun c_40 => ?_) (fun c_40 => ?_)
    · exact absurd c_40 (by decide)
    · refine lv_iconst (v := zI 0) hx hb dX10_heap_43 rfl ?_
      exact z_iret hC hr hlk hQ hP hD hS ⟨ms, mn, mb, mk, 1, 0, (by exact ht.symm), (by first | exact fun _ => hv53_1 | exact fun h9 => absurd h9 (by decide)), (by rw [ht]; first | (rw [if_pos rfl]; exact hv53_0) | (rw [if_neg (by decide)]; done)), (by rw [ht]; first | (rw [if_pos rfl]; exact hv46_0) | (rw [if_neg (by decide)]; done)), (by rw [ht]; first | (rw [if_pos rfl]; exact hv46_1) | (rw [if_neg (by decide)]; done)), rfl, rfl⟩ dX10_heap_44

abbrev wz_X10_smooth : List Cond := .code yX10_smooth cX10_smooth 1 (some .int) :: W0
abbrev rm_X10_smooth : Room := { frames := 4, cells := 0, slots := 0, locals := 91 }
theorem hd_X10_smooth : yX10_smooth.cls = RX10 ∧ yX10_smooth.cls ≠ "java/lang/invoke/MethodHandle" ∧ yX10_smooth.cls ≠ "java/lang/invoke/VarHandle" ∧ (parseMethodDescriptor yX10_smooth.desc).map (fun d => d.parameters.length) = some 0 := by decide +kernel
set_option maxHeartbeats 4000000 in
set_option maxRecDepth 100000 in
theorem c_X10_smooth (l : Launch) (D : va_G) (τ : Nat → Nat) (β : Nat → Nat) (δ : Nat → ClassId) (ms : IA) (mb : IA) (mo : IA) (mp : BA) (mf : IA) (mn : IA) (mi : IA) (mc : IA) (mq : BA) (mr : IA) (mw : IA) (mk : Int) (ml : Int) (mt : Int) (ma : Int) (mx : Bool) (mh : Int64) (hmk : 0 ≤ mk ∧ mk ≤ 6) (hms : ∀ k, 0 ≤ k → k < 49 → 0 ≤ ms k ∧ ms k ≤ 99) : cM l yX10_smooth wz_X10_smooth rm_X10_smooth D τ (tyM δ) [.ref (β 0)] (wM β δ ms mb mo mp mf mn mi mc mq mr mw mk ml mt ma mx mh) (zQi (fun r w => ∃ (s2 : IA), ∃ (n2 : IA), ∃ (b2 : IA), ∃ (k2 : Int), ∃ (v : Int), (s2 = S_smooth ms) ∧ (v = S_diff (S_smooth ms) ms) ∧ (b2 = S_sv mb ms mk) ∧ (k2 = S_svC mk) ∧ r = zI v ∧ wM β δ s2 b2 mo mp mf n2 mi mc mq mr mw k2 ml 0 ma mx mh = w)) := by
  refine z_ofM (cc := cX10_smooth) (maxL := 1) (ret := (some .int)) (by decide +kernel) rfl (Nat.le_of_ble_eq_true rfl) ?_
  intro pg e s m args below meth c hC hr hlk hnm hK hP A hD hG hA hS ls hl Q hQ
  have hx := hC.1
  have hb := hC.2.1
  have hml := hC.2.2.1
  have hown := hC.2.2.2.1
  have hts := hC.2.2.2.2
  have hB : ∀ w ∈ W0, w ∈ wz_X10_smooth := fun _ h => List.mem_cons_of_mem _ h
  have hW0 : ∀ w ∈ W0, w.before args s = true := fun w h => hts w (hB w h)
  have hl : lv_has ls 1 [(0, .ref (β 0))] := hl
  refine lv_aload_n hx hb dX10_smooth_0 rfl (lv_at hl 0 rfl) ?_
  refine lv_iconst (v := zI 0) hx hb dX10_smooth_1 rfl ?_
  refine va_put (D := D) (ci := 10) (v := .int (zI 0)) (ty := .int) (C := RX10) (T := TX10) (N := 17) hx hb hts (fun w h => List.mem_cons_of_mem _ (wx_X10 w h)) tyX10 tyX10_ok nmX10 hown hK hP hD hS 0 rfl rfl 7 (by decide) (hW0 _ wf_X10_44) (fun _ h9 => h9) rfl (by decide +kernel) rfl rfl (Nat.le_of_ble_eq_true rfl) dX10_smooth_2 (fun H locs hP hD hS => ?_)
  have hP : va_P D vwCl (wM β δ ms mb mo mp mf mn mi mc mq mr mw mk ml 0 ma mx mh) H := hP
  have hD : va_D A (wM β δ ms mb mo mp mf mn mi mc mq mr mw mk ml 0 ma mx mh) := hD
  refine lv_aload_n hx hb dX10_smooth_5 rfl (lv_at hl 0 rfl) ?_
  refine z_callv hP hD hS hA (va_runV (As := []) (rest := []) hC (c_X10_save l D τ β δ ms mb mo mp mf mn mi mc mq mr mw mk ml 0 ma mx mh (by first | assumption | rfl | omega) _) (cwV 0 hts (gV hB wl_X10_80 wn_X10_save ws_X10_save wi_X10 wc_X10_save) rfl rfl rfl hd_X10_save ⟨Nat.le_of_ble_eq_true rfl, Nat.le_of_ble_eq_true rfl⟩) (zp_V hK hP hD hS hA hG (ci := 10) (q0 := 0) rfl rfl rfl) rfl rfl hl.1 rfl (lv_room (Nat.le_of_ble_eq_true rfl)) dX10_smooth_6 ⟨Nat.le_of_ble_eq_true rfl, Nat.le_of_ble_eq_true rfl⟩) (fun w1 H locs hq9 hP hD hS => ?_)
  obtain ⟨b6_1, k6_2, hv6_0, hv6_1, rfl⟩ := hq9
  have hP : va_P D vwCl (wM β δ ms b6_1 mo mp mf mn mi mc mq mr mw k6_2 ml 0 ma mx mh) H := hP
  have hD : va_D A (wM β δ ms b6_1 mo mp mf mn mi mc mq mr mw k6_2 ml 0 ma mx mh) := hD
  refine lv_aload_n hx hb dX10_smooth_9 rfl (lv_at hl 0 rfl) ?_
  refine z_calli hP hD hS hA (va_runV (As := []) (rest := []) hC (c_X10_smooths l D τ β δ ms b6_1 mo mp mf mn mi mc mq mr mw k6_2 ml 0 ma mx mh (by first | assumption | rfl | omega) _) (cwV 0 hts (gV hB wl_X10_87 wn_X10_smooths ws_X10_smooths wi_X10 wc_X10_smooths) rfl rfl rfl hd_X10_smooths ⟨Nat.le_of_ble_eq_true rfl, Nat.le_of_ble_eq_true rfl⟩) (zp_V hK hP hD hS hA hG (ci := 10) (q0 := 0) rfl rfl rfl) rfl rfl hl.1 rfl (lv_room (Nat.le_of_ble_eq_true rfl)) dX10_smooth_10 ⟨Nat.le_of_ble_eq_true rfl, Nat.le_of_ble_eq_true rfl⟩) (fun r w1 H locs hq9 hP hD hS => ?_)
  obtain ⟨s10_3, n10_4, v10_5, hv10_0, hv10_1, hv10_2, rfl, rfl⟩ := hq9
  have hP : va_P D vwCl (wM β δ s10_3 b6_1 mo mp mf n10_4 mi mc mq mr mw k6_2 ml 0 ma mx mh) H := hP
  have hD : va_D A (wM β δ s10_3 b6_1 mo mp mf n10_4 mi mc mq mr mw k6_2 ml 0 ma mx mh) := hD
  exact z_iret hC hr hlk hQ hP hD hS ⟨s10_3, n10_4, b6_1, k6_2, v10_5, (by exact hv10_0), (by exact hv10_1), (by exact hv6_0), (by exact hv6_1), rfl, rfl⟩ dX10_smooth_13

abbrev wz_X10_wash : List Cond := .code yX10_wash cX10_wash 4 (some .int) :: W0
abbrev rm_X10_wash : Room := { frames := 6, cells := 0, slots := 0, locals := 135 }
theorem hd_X10_wash : yX10_wash.cls = RX10 ∧ yX10_wash.cls ≠ "java/lang/invoke/MethodHandle" ∧ yX10_wash.cls ≠ "java/lang/invoke/VarHandle" ∧ (parseMethodDescriptor yX10_wash.desc).map (fun d => d.parameters.length) = some 1 := by decide +kernel
set_option maxHeartbeats 4000000 in
set_option maxRecDepth 100000 in
theorem c_X10_wash (l : Launch) (D : va_G) (τ : Nat → Nat) (β : Nat → Nat) (δ : Nat → ClassId) (ms : IA) (mb : IA) (mo : IA) (mp : BA) (mf : IA) (mn : IA) (mi : IA) (mc : IA) (mq : BA) (mr : IA) (mw : IA) (mk : Int) (ml : Int) (mt : Int) (ma : Int) (mx : Bool) (mh : Int64) (n9 : Int) (hn9 : -2147483648 ≤ n9 ∧ n9 < 2147483648) (hmk : 0 ≤ mk ∧ mk ≤ 6) (hms : ∀ k, 0 ≤ k → k < 49 → 0 ≤ ms k ∧ ms k ≤ 99) : cM l yX10_wash wz_X10_wash rm_X10_wash D τ (tyM δ) [.ref (β 0), .int (zI n9)] (wM β δ ms mb mo mp mf mn mi mc mq mr mw mk ml mt ma mx mh) (zQi (fun r w => ∃ (s2 : IA), ∃ (n2 : IA), ∃ (b2 : IA), ∃ (k2 : Int), ∃ (t2 : Int), ∃ (v : Int), (t2 = S_twash n9) ∧ (t2 = 0 → v = S_given ms n9) ∧ (s2 = (if S_twash n9 = 0 then S_wash ms n9 else ms)) ∧ (b2 = (if S_twash n9 = 0 then S_sv mb ms mk else mb)) ∧ (k2 = (if S_twash n9 = 0 then S_svC mk else mk)) ∧ r = zI v ∧ wM β δ s2 b2 mo mp mf n2 mi mc mq mr mw k2 ml t2 ma mx mh = w)) := by
  refine z_ofM (cc := cX10_wash) (maxL := 4) (ret := (some .int)) (by decide +kernel) rfl (Nat.le_of_ble_eq_true rfl) ?_
  intro pg e s m args below meth c hC hr hlk hnm hK hP A hD hG hA hS ls hl Q hQ
  have hx := hC.1
  have hb := hC.2.1
  have hml := hC.2.2.1
  have hown := hC.2.2.2.1
  have hts := hC.2.2.2.2
  have hB : ∀ w ∈ W0, w ∈ wz_X10_wash := fun _ h => List.mem_cons_of_mem _ h
  have hW0 : ∀ w ∈ W0, w.before args s = true := fun w h => hts w (hB w h)
  have hl : lv_has ls 4 [(0, .ref (β 0)), (1, .int (zI n9))] := hl
  refine lv_aload_n hx hb dX10_wash_0 rfl (lv_at hl 0 rfl) ?_
  refine lv_iconst (v := zI 0) hx hb dX10_wash_1 rfl ?_
  refine va_put (D := D) (ci := 10) (v := .int (zI 0)) (ty := .int) (C := RX10) (T := TX10) (N := 17) hx hb hts (fun w h => List.mem_cons_of_mem _ (wx_X10 w h)) tyX10 tyX10_ok nmX10 hown hK hP hD hS 0 rfl rfl 7 (by decide) (hW0 _ wf_X10_44) (fun _ h9 => h9) rfl (by decide +kernel) rfl rfl (Nat.le_of_ble_eq_true rfl) dX10_wash_2 (fun H locs hP hD hS => ?_)
  have hP : va_P D vwCl (wM β δ ms mb mo mp mf mn mi mc mq mr mw mk ml 0 ma mx mh) H := hP
  have hD : va_D A (wM β δ ms mb mo mp mf mn mi mc mq mr mw mk ml 0 ma mx mh) := hD
  refine lv_iload_n hx hb dX10_wash_5 rfl (lv_at hl 1 rfl) ?_
  refine lv_iconst (v := zI 1) hx hb dX10_wash_6 rfl ?_
  refine lv_bipush (v := zI 50) hx hb dX10_wash_7 (zI_b8 (by decide)) ?_
  refine z_calli hP hD hS hA (va_runS (As := [.int (zI n9), .int (zI 1), .int (zI 50)]) (rest := []) hC (c_X10_in l D τ _ _ n9 1 50 (by first | assumption | rfl | omega) (by first | assumption | rfl | omega) (by first | assumption | rfl | omega) _) (va_cwS 3 hts (gS hB wl_X10_48 wt_X10_in wi_X10 wc_X10_in) rfl rfl rfl hd_X10_in.2 ⟨Nat.le_of_ble_eq_true rfl, Nat.le_of_ble_eq_true rfl⟩) (zp_S hK hP hD hS hA hG) rfl rfl hl.1 rfl (lv_room (Nat.le_of_ble_eq_true rfl)) dX10_wash_9 ⟨Nat.le_of_ble_eq_true rfl, Nat.le_of_ble_eq_true rfl⟩) (fun r w1 H locs hq9 hP hD hS => ?_)
  obtain ⟨v9_1, hv9_0, rfl, rfl⟩ := hq9
  refine z_ifneB (tgt := 21) hx hb dX10_wash_12 (by decide) (fun c_12 => ?_) (fun c_12 => ?_)
  · have hb_12 := hv9_0.mp c_12
    have ht : S_twash n9 = 0 := if_pos hb_12
    refine lv_aload_n hx hb dX10_wash_21 rfl (lv_at hl 0 rfl) ?_
    refine z_callv hP hD hS hA (va_runV (As := []) (rest := []) hC (c_X10_save l D τ β δ ms mb mo mp mf mn mi mc mq mr mw mk ml 0 ma mx mh (by first | assumption | rfl | omega) _) (cwV 0 hts (gV hB wl_X10_80 wn_X10_save ws_X10_save wi_X10 wc_X10_save) rfl rfl rfl hd_X10_save ⟨Nat.le_of_ble_eq_true rfl, Nat.le_of_ble_eq_true rfl⟩) (zp_V hK hP hD hS hA hG (ci := 10) (q0 := 0) rfl rfl rfl) rfl rfl hl.1 rfl (lv_room (Nat.le_of_ble_eq_true rfl)) dX10_wash_22 ⟨Nat.le_of_ble_eq_true rfl, Nat.le_of_ble_eq_true rfl⟩) (fun w1 H locs hq9 hP hD hS => ?_)
    obtain ⟨b22_2, k22_3, hv22_0, hv22_1, rfl⟩ := hq9
    have hP : va_P D vwCl (wM β δ ms b22_2 mo mp mf mn mi mc mq mr mw k22_3 ml 0 ma mx mh) H := hP
    have hD : va_D A (wM β δ ms b22_2 mo mp mf mn mi mc mq mr mw k22_3 ml 0 ma mx mh) := hD
    refine lv_iconst (v := zI 0) hx hb dX10_wash_25 rfl ?_
    refine lv_istore_n (lv' := [(2, .int (zI 0)), (0, .ref (β 0)), (1, .int (zI n9))]) hx hb dX10_wash_26 rfl hl (by decide) rfl (fun ls hl => ?_)
    refine lv_iconst (v := zI 0) hx hb dX10_wash_27 rfl ?_
    refine lv_istore_n (lv' := [(3, .int (zI 0)), (2, .int (zI 0)), (0, .ref (β 0)), (1, .int (zI n9))]) hx hb dX10_wash_28 rfl hl (by decide) rfl (fun ls hl => ?_)
    suffices HL_29 : ∀ (n_29 : Nat), ∀ (s1 : IA) (n1 : IA) (g : Int) (i : Int) (H : Heap) (locs : List Loc) (hP : va_P D vwCl (wM β δ s1 b22_2 mo mp mf n1 mi mc mq mr mw k22_3 ml 0 ma mx mh) H) (hD : va_D A (wM β δ s1 b22_2 mo mp mf n1 mi mc mq mr mw k22_3 ml 0 ma mx mh)) (hS : va_S A s.heap H locs) (ls : Array Slot) (hl : lv_has ls 4 [(2, .int (zI g)), (3, .int (zI i)), (0, .ref (β 0)), (1, .int (zI n9))]) (hi : 0 ≤ i ∧ i ≤ n9) (hs1 : s1 = S_wash ms i) (hg : g = S_given ms i) (hsb : ∀ k, 0 ≤ k → k < 49 → 0 ≤ s1 k ∧ s1 k ≤ 99) (hm : (n9 - i).toNat < n_29), W pg l e rm_X10_wash s m args below meth c H locs 0 0 Q (F0 m 29 ls []) from HL_29 _ ms mn 0 0 _ _ hP hD hS _ (lv_sub hl [1, 0, 2, 3] rfl) (by first | assumption | rfl | omega) (by rfl) (by rfl) (by exact hms) (Nat.lt_succ_self _)
    intro n_29
    induction n_29 with
    | zero => intro s1 n1 g i H locs hP hD hS ls hl hi hs1 hg hsb hm; exact absurd hm (Nat.not_lt_zero _)
    | succ n_29 ih_29 =>
      intro s1 n1 g i H locs hP hD hS ls hl hi hs1 hg hsb hm
      refine lv_iload_n hx hb dX10_wash_29 rfl (lv_at hl 1 rfl) ?_
      refine lv_iload_n hx hb dX10_wash_30 rfl (lv_at hl 3 rfl) ?_
      refine z_icge (tgt := 47) hx hb ⟨by omega, by omega⟩ ⟨by omega, by omega⟩ dX10_wash_31 (by decide) (fun c_31 => ?_) (fun c_31 => ?_)
      · refine lv_iload_n hx hb dX10_wash_47 rfl (lv_at hl 0 rfl) ?_
        exact z_iret hC hr hlk hQ hP hD hS ⟨s1, n1, b22_2, k22_3, 0, g, (by first | exact hv17_1.trans ht.symm | exact ht.symm), (by first | (intro _; rw [hg, show i = n9 by omega]; done) | (intro h9; exfalso; omega)), (by rw [ht]; first | (rw [if_pos rfl, hs1, show i = n9 by omega]; done) | (rw [if_neg (by decide)]; done)), (by rw [ht]; first | (rw [if_pos rfl]; exact hv22_0) | (rw [if_neg (by decide)]; done)), (by rw [ht]; first | (rw [if_pos rfl]; exact hv22_1) | (rw [if_neg (by decide)]; done)), rfl, rfl⟩ dX10_wash_48
      · refine lv_iload_n hx hb dX10_wash_34 rfl (lv_at hl 0 rfl) ?_
        refine lv_aload_n hx hb dX10_wash_35 rfl (lv_at hl 2 rfl) ?_
        refine z_calli hP hD hS hA (va_runV (As := []) (rest := [.int (zI g)]) hC (c_X10_showers l D τ β δ s1 b22_2 mo mp mf n1 mi mc mq mr mw k22_3 ml 0 ma mx mh (by exact hsb) _) (cwV 0 hts (gV hB wl_X10_93 wn_X10_showers ws_X10_showers wi_X10 wc_X10_showers) rfl rfl rfl hd_X10_showers ⟨Nat.le_of_ble_eq_true rfl, Nat.le_of_ble_eq_true rfl⟩) (zp_V hK hP hD hS hA hG (ci := 10) (q0 := 0) rfl rfl rfl) rfl rfl hl.1 rfl (lv_room (Nat.le_of_ble_eq_true rfl)) dX10_wash_36 ⟨Nat.le_of_ble_eq_true rfl, Nat.le_of_ble_eq_true rfl⟩) (fun r w1 H locs hq9 hP hD hS => ?_)
        obtain ⟨s36_4, n36_5, v36_6, hv36_0, hv36_1, hv36_2, rfl, rfl⟩ := hq9
        have hP : va_P D vwCl (wM β δ s36_4 b22_2 mo mp mf n36_5 mi mc mq mr mw k22_3 ml 0 ma mx mh) H := hP
        have hD : va_D A (wM β δ s36_4 b22_2 mo mp mf n36_5 mi mc mq mr mw k22_3 ml 0 ma mx mh) := hD
        refine z_iadd hx hb dX10_wash_39 ?_
        refine lv_istore_n (lv' := [(2, .int (zI (g + v36_6))), (3, .int (zI i)), (0, .ref (β 0)), (1, .int (zI n9))]) hx hb dX10_wash_40 rfl hl (by decide) rfl (fun ls hl => ?_)
        refine z_iinc (k := 1) (v := i + 1) (lv' := [(3, .int (zI (i + 1))), (2, .int (zI (g + v36_6))), (0, .ref (β 0)), (1, .int (zI n9))]) hx hb dX10_wash_41 hl rfl rfl (by decide) rfl (fun ls hl => ?_)
        refine lv_goto (tgt := 29) hx hb dX10_wash_44 (by decide) ?_
        exact ih_29 s36_4 n36_5 (g + v36_6) (i + 1) _ _ hP hD hS _ (lv_sub hl [1, 0, 2, 3] rfl) (by first | assumption | rfl | omega) (by rw [S_wash_up hi.1, ← hs1]; exact hv36_0) (by rw [S_given_up hi.1, ← hg, ← hs1, hv36_1]) (by rw [hv36_0]; exact S_wash1_b hsb) (by omega)
  · have hb_12 := zb_neg hv9_0 c_12
    have ht : S_twash n9 = 1 := if_neg hb_12
    refine lv_aload_n hx hb dX10_wash_15 rfl (lv_at hl 0 rfl) ?_
    refine lv_iconst (v := zI 1) hx hb dX10_wash_16 rfl ?_
    refine z_calli hP hD hS hA (va_runV (As := [.int (zI 1)]) (rest := []) hC (c_X10_throwing l D τ β δ ms mb mo mp mf mn mi mc mq mr mw mk ml 0 ma mx mh 1 _) (cwV 1 hts (gV hB wl_X10_90 wn_X10_throwing ws_X10_throwing wi_X10 wc_X10_throwing) rfl rfl rfl hd_X10_throwing ⟨Nat.le_of_ble_eq_true rfl, Nat.le_of_ble_eq_true rfl⟩) (zp_V hK hP hD hS hA hG (ci := 10) (q0 := 0) rfl rfl rfl) rfl rfl hl.1 rfl (lv_room (Nat.le_of_ble_eq_true rfl)) dX10_wash_17 ⟨Nat.le_of_ble_eq_true rfl, Nat.le_of_ble_eq_true rfl⟩) (fun r w1 H locs hq9 hP hD hS => ?_)
    obtain ⟨t17_7, v17_8, hv17_0, hv17_1, rfl, rfl⟩ := hq9
    have hP : va_P D vwCl (wM β δ ms mb mo mp mf mn mi mc mq mr mw mk ml t17_7 ma mx mh) H := hP
    have hD : va_D A (wM β δ ms mb mo mp mf mn mi mc mq mr mw mk ml t17_7 ma mx mh) := hD
    exact z_iret hC hr hlk hQ hP hD hS ⟨ms, mn, mb, mk, t17_7, v17_8, (by first | exact hv17_1.trans ht.symm | exact ht.symm), (by first | (intro _; rw [hg, show i = n9 by omega]; done) | (intro h9; exfalso; omega)), (by rw [ht]; first | (rw [if_pos rfl, hs1, show i = n9 by omega]; done) | (rw [if_neg (by decide)]; done)), (by rw [ht]; first | (rw [if_pos rfl]; exact hv22_0) | (rw [if_neg (by decide)]; done)), (by rw [ht]; first | (rw [if_pos rfl]; exact hv22_1) | (rw [if_neg (by decide)]; done)), rfl, rfl⟩ dX10_wash_20

abbrev wz_X10_turnMap : List Cond := .code yX10_turnMap cX10_turnMap 2 (some .int) :: W0
abbrev rm_X10_turnMap : Room := { frames := 2, cells := 0, slots := 0, locals := 43 }
theorem hd_X10_turnMap : yX10_turnMap.cls = RX10 ∧ yX10_turnMap.cls ≠ "java/lang/invoke/MethodHandle" ∧ yX10_turnMap.cls ≠ "java/lang/invoke/VarHandle" ∧ (parseMethodDescriptor yX10_turnMap.desc).map (fun d => d.parameters.length) = some 0 := by decide +kernel
set_option maxHeartbeats 4000000 in
set_option maxRecDepth 100000 in
theorem c_X10_turnMap (l : Launch) (D : va_G) (τ : Nat → Nat) (β : Nat → Nat) (δ : Nat → ClassId) (ms : IA) (mb : IA) (mo : IA) (mp : BA) (mf : IA) (mn : IA) (mi : IA) (mc : IA) (mq : BA) (mr : IA) (mw : IA) (mk : Int) (ml : Int) (mt : Int) (ma : Int) (mx : Bool) (mh : Int64) (hmk : 0 ≤ mk ∧ mk ≤ 6) (hms : ∀ k, 0 ≤ k → k < 49 → 0 ≤ ms k ∧ ms k ≤ 99) : cM l yX10_turnMap wz_X10_turnMap rm_X10_turnMap D τ (tyM δ) [.ref (β 0)] (wM β δ ms mb mo mp mf mn mi mc mq mr mw mk ml mt ma mx mh) (zQi (fun r w => ∃ (s2 : IA), ∃ (n2 : IA), ∃ (b2 : IA), ∃ (k2 : Int), ∃ (v : Int), (s2 = S_turn ms) ∧ (v = S_diff (S_turn ms) ms) ∧ (b2 = S_sv mb ms mk) ∧ (k2 = S_svC mk) ∧ r = zI v ∧ wM β δ s2 b2 mo mp mf n2 mi mc mq mr mw k2 ml 0 ma mx mh = w)) := by
  refine z_ofM (cc := cX10_turnMap) (maxL := 2) (ret := (some .int)) (by decide +kernel) rfl (Nat.le_of_ble_eq_true rfl) ?_
  intro pg e s m args below meth c hC hr hlk hnm hK hP A hD hG hA hS ls hl Q hQ
  have hx := hC.1
  have hb := hC.2.1
  have hml := hC.2.2.1
  have hown := hC.2.2.2.1
  have hts := hC.2.2.2.2
  have hB : ∀ w ∈ W0, w ∈ wz_X10_turnMap := fun _ h => List.mem_cons_of_mem _ h
  have hW0 : ∀ w ∈ W0, w.before args s = true := fun w h => hts w (hB w h)
  have hl : lv_has ls 2 [(0, .ref (β 0))] := hl
  refine lv_aload_n hx hb dX10_turnMap_0 rfl (lv_at hl 0 rfl) ?_
  refine lv_iconst (v := zI 0) hx hb dX10_turnMap_1 rfl ?_
  refine va_put (D := D) (ci := 10) (v := .int (zI 0)) (ty := .int) (C := RX10) (T := TX10) (N := 17) hx hb hts (fun w h => List.mem_cons_of_mem _ (wx_X10 w h)) tyX10 tyX10_ok nmX10 hown hK hP hD hS 0 rfl rfl 7 (by decide) (hW0 _ wf_X10_44) (fun _ h9 => h9) rfl (by decide +kernel) rfl rfl (Nat.le_of_ble_eq_true rfl) dX10_turnMap_2 (fun H locs hP hD hS => ?_)
  have hP : va_P D vwCl (wM β δ ms mb mo mp mf mn mi mc mq mr mw mk ml 0 ma mx mh) H := hP
  have hD : va_D A (wM β δ ms mb mo mp mf mn mi mc mq mr mw mk ml 0 ma mx mh) := hD
  refine lv_aload_n hx hb dX10_turnMap_5 rfl (lv_at hl 0 rfl) ?_
  refine z_callv hP hD hS hA (va_runV (As := []) (rest := []) hC (c_X10_save l D τ β δ ms mb mo mp mf mn mi mc mq mr mw mk ml 0 ma mx mh (by first | assumption | rfl | omega) _) (cwV 0 hts (gV hB wl_X10_80 wn_X10_save ws_X10_save wi_X10 wc_X10_save) rfl rfl rfl hd_X10_save ⟨Nat.le_of_ble_eq_true rfl, Nat.le_of_ble_eq_true rfl⟩) (zp_V hK hP hD hS hA hG (ci := 10) (q0 := 0) rfl rfl rfl) rfl rfl hl.1 rfl (lv_room (Nat.le_of_ble_eq_true rfl)) dX10_turnMap_6 ⟨Nat.le_of_ble_eq_true rfl, Nat.le_of_ble_eq_true rfl⟩) (fun w1 H locs hq9 hP hD hS => ?_)
  obtain ⟨b6_1, k6_2, hv6_0, hv6_1, rfl⟩ := hq9
  have hP : va_P D vwCl (wM β δ ms b6_1 mo mp mf mn mi mc mq mr mw k6_2 ml 0 ma mx mh) H := hP
  have hD : va_D A (wM β δ ms b6_1 mo mp mf mn mi mc mq mr mw k6_2 ml 0 ma mx mh) := hD
  refine lv_iconst (v := zI 0) hx hb dX10_turnMap_9 rfl ?_
  refine lv_istore_n (lv' := [(1, .int (zI 0)), (0, .ref (β 0))]) hx hb dX10_turnMap_10 rfl hl (by decide) rfl (fun ls hl => ?_)
  suffices HL_11 : ∀ (n_11 : Nat), ∀ (n1 : IA) (i : Int) (H : Heap) (locs : List Loc) (hP : va_P D vwCl (wM β δ ms b6_1 mo mp mf n1 mi mc mq mr mw k6_2 ml 0 ma mx mh) H) (hD : va_D A (wM β δ ms b6_1 mo mp mf n1 mi mc mq mr mw k6_2 ml 0 ma mx mh)) (hS : va_S A s.heap H locs) (ls : Array Slot) (hl : lv_has ls 2 [(1, .int (zI i)), (0, .ref (β 0))]) (hi : 0 ≤ i ∧ i ≤ 49) (hn1 : ∀ k, 0 ≤ k → k < i → n1 k = ms (S_pointAt (6 - k % 7) (k / 7)) ∧ (0 ≤ n1 k ∧ n1 k ≤ 99)) (hm : (49 - i).toNat < n_11), W pg l e rm_X10_turnMap s m args below meth c H locs 0 0 Q (F0 m 11 ls []) from HL_11 _ mn 0 _ _ hP hD hS _ (lv_sub hl [0, 1] rfl) (by first | assumption | rfl | omega) (by intro k q1 q2; omega) (Nat.lt_succ_self _)
  intro n_11
  induction n_11 with
  | zero => intro n1 i H locs hP hD hS ls hl hi hn1 hm; exact absurd hm (Nat.not_lt_zero _)
  | succ n_11 ih_11 =>
    intro n1 i H locs hP hD hS ls hl hi hn1 hm
    refine lv_iload_n hx hb dX10_turnMap_11 rfl (lv_at hl 0 rfl) ?_
    refine lv_bipush (v := zI 49) hx hb dX10_turnMap_12 (zI_b8 (by decide)) ?_
    refine z_icge (tgt := 49) hx hb ⟨by omega, by omega⟩ ⟨by omega, by omega⟩ dX10_turnMap_14 (by decide) (fun c_14 => ?_) (fun c_14 => ?_)
    · refine lv_aload_n hx hb dX10_turnMap_49 rfl (lv_at hl 1 rfl) ?_
      refine z_calli hP hD hS hA (va_runV (As := []) (rest := []) hC (c_X10_takes l D τ β δ ms b6_1 mo mp mf n1 mi mc mq mr mw k6_2 ml 0 ma mx mh (by exact hms) (by intro k q1 q2; have z9 := (hn1 k q1 (by omega)).2; omega) _) (cwV 0 hts (gV hB wl_X10_66 wn_X10_takes ws_X10_takes wi_X10 wc_X10_takes) rfl rfl rfl hd_X10_takes ⟨Nat.le_of_ble_eq_true rfl, Nat.le_of_ble_eq_true rfl⟩) (zp_V hK hP hD hS hA hG (ci := 10) (q0 := 0) rfl rfl rfl) rfl rfl hl.1 rfl (lv_room (Nat.le_of_ble_eq_true rfl)) dX10_turnMap_50 ⟨Nat.le_of_ble_eq_true rfl, Nat.le_of_ble_eq_true rfl⟩) (fun r w1 H locs hq9 hP hD hS => ?_)
      obtain ⟨s50_3, v50_4, hv50_0, hv50_1, hv50_2, rfl, rfl⟩ := hq9
      have hP : va_P D vwCl (wM β δ s50_3 b6_1 mo mp mf n1 mi mc mq mr mw k6_2 ml 0 ma mx mh) H := hP
      have hD : va_D A (wM β δ s50_3 b6_1 mo mp mf n1 mi mc mq mr mw k6_2 ml 0 ma mx mh) := hD
      have hze : zmix 49 (fun k => clip (n1 k)) ms = S_turn ms := zmix_cg (fun k q1 q2 => by show clip (n1 k) = clip (ms (S_pointAt (6 - k % 7) (k / 7))); rw [(hn1 k q1 (by omega)).1])
      exact z_iret hC hr hlk hQ hP hD hS ⟨s50_3, n1, b6_1, k6_2, v50_4, (by rw [hv50_0]; exact hze), (by rw [hv50_1, hv50_0, hze]), (by exact hv6_0), (by exact hv6_1), rfl, rfl⟩ dX10_turnMap_53
    · refine lv_aload_n hx hb dX10_turnMap_17 rfl (lv_at hl 1 rfl) ?_
      refine va_get (D := D) (ci := 10) (v := .ref (β 6)) (C := RX10) (T := TX10) (N := 17) hx hb hts (fun w h => List.mem_cons_of_mem _ (wx_X10 w h)) hown hK hP 0 rfl rfl 8 (by decide) (hW0 _ wf_X10_26) (fun _ h9 => h9) rfl dX10_turnMap_18 ?_
      refine lv_iload_n hx hb dX10_turnMap_21 rfl (lv_at hl 0 rfl) ?_
      refine lv_aload_n hx hb dX10_turnMap_22 rfl (lv_at hl 1 rfl) ?_
      refine va_get (D := D) (ci := 10) (v := .ref (β 1)) (C := RX10) (T := TX10) (N := 17) hx hb hts (fun w h => List.mem_cons_of_mem _ (wx_X10 w h)) hown hK hP 0 rfl rfl 0 (by decide) (hW0 _ wf_X10_7) (fun _ h9 => h9) rfl dX10_turnMap_23 ?_
      refine lv_bipush (v := zI 7) hx hb dX10_turnMap_26 (zI_b8 (by decide)) ?_
      refine lv_bipush (v := zI 6) hx hb dX10_turnMap_28 (zI_b8 (by decide)) ?_
      refine lv_iload_n hx hb dX10_turnMap_30 rfl (lv_at hl 0 rfl) ?_
      refine lv_bipush (v := zI 7) hx hb dX10_turnMap_31 (zI_b8 (by decide)) ?_
      refine z_irem hx hb ⟨⟨by omega, by omega⟩, by omega, by omega⟩ dX10_turnMap_33 ?_
      refine z_isub hx hb dX10_turnMap_34 ?_
      refine z_imul hx hb dX10_turnMap_35 ?_
      refine lv_iload_n hx hb dX10_turnMap_36 rfl (lv_at hl 0 rfl) ?_
      refine lv_bipush (v := zI 7) hx hb dX10_turnMap_37 (zI_b8 (by decide)) ?_
      refine z_idiv hx hb ⟨⟨by omega, by omega⟩, by omega, by omega⟩ dX10_turnMap_39 ?_
      refine z_iadd hx hb dX10_turnMap_40 ?_
      refine z_iald (f := ms) hx hb hK hP 1 0 rfl rfl ⟨⟨by omega, by omega⟩, by decide⟩ dX10_turnMap_41 ?_
      have hb_41 := hms ((7 * (6 - (i % 7))) + (i / 7)) (by omega) (by omega)
      refine z_iast (f := n1) (v := ms ((7 * (6 - (i % 7))) + (i / 7))) hx hb hK hP hD hS 6 5 rfl rfl ⟨⟨by omega, by omega⟩, by decide⟩ dX10_turnMap_42 (fun H locs hP hD hS => ?_)
      have hP : va_P D vwCl (wM β δ ms b6_1 mo mp mf ((zu n1 i (ms ((7 * (6 - (i % 7))) + (i / 7))))) mi mc mq mr mw k6_2 ml 0 ma mx mh) H := hP
      have hD : va_D A (wM β δ ms b6_1 mo mp mf ((zu n1 i (ms ((7 * (6 - (i % 7))) + (i / 7))))) mi mc mq mr mw k6_2 ml 0 ma mx mh) := hD
      refine z_iinc (k := 0) (v := i + 1) (lv' := [(1, .int (zI (i + 1))), (0, .ref (β 0))]) hx hb dX10_turnMap_43 hl rfl rfl (by decide) rfl (fun ls hl => ?_)
      refine lv_goto (tgt := 11) hx hb dX10_turnMap_46 (by decide) ?_
      exact ih_11 (zu n1 i (ms ((7 * (6 - (i % 7))) + (i / 7)))) (i + 1) _ _ hP hD hS _ (lv_sub hl [0, 1] rfl) (by first | assumption | rfl | omega) (by intro k q1 q2; by_cases e9 : k = i; (rw [e9, zu_s, S_pointAt_in (by omega) (by omega)]; exact ⟨congrArg ms (by omega), hb_41⟩); (rw [zu_n e9]; exact hn1 k q1 (by omega))) (by omega)

abbrev wz_X10_append : List Cond := .code yX10_append cX10_append 2 (some .int) :: W0
abbrev rm_X10_append : Room := { frames := 1, cells := 0, slots := 0, locals := 22 }
theorem hd_X10_append : yX10_append.cls = RX10 ∧ yX10_append.cls ≠ "java/lang/invoke/MethodHandle" ∧ yX10_append.cls ≠ "java/lang/invoke/VarHandle" ∧ (parseMethodDescriptor yX10_append.desc).map (fun d => d.parameters.length) = some 1 := by decide +kernel
set_option maxHeartbeats 4000000 in
set_option maxRecDepth 100000 in
theorem c_X10_append (l : Launch) (D : va_G) (τ : Nat → Nat) (β : Nat → Nat) (δ : Nat → ClassId) (ms : IA) (mb : IA) (mo : IA) (mp : BA) (mf : IA) (mn : IA) (mi : IA) (mc : IA) (mq : BA) (mr : IA) (mw : IA) (mk : Int) (ml : Int) (mt : Int) (ma : Int) (mx : Bool) (mh : Int64) (a : Int) (ha : -2147483648 ≤ a ∧ a < 2147483648) (hml9 : 0 ≤ ml ∧ ml ≤ 60) : cM l yX10_append wz_X10_append rm_X10_append D τ (tyM δ) [.ref (β 0), .int (zI a)] (wM β δ ms mb mo mp mf mn mi mc mq mr mw mk ml mt ma mx mh) (zQi (fun r w => ∃ (f2 : IA), ∃ (l2 : Int), ∃ (t2 : Int), ∃ (v : Int), (t2 = S_tapp a ml) ∧ (t2 = 0 → v = ml + 1) ∧ (f2 = (if S_tapp a ml = 0 then zu mf ml a else mf)) ∧ (l2 = (if S_tapp a ml = 0 then ml + 1 else ml)) ∧ r = zI v ∧ wM β δ ms mb mo mp f2 mn mi mc mq mr mw mk l2 t2 ma mx mh = w)) := by
  refine z_ofM (cc := cX10_append) (maxL := 2) (ret := (some .int)) (by decide +kernel) rfl (Nat.le_of_ble_eq_true rfl) ?_
  intro pg e s m args below meth c hC hr hlk hnm hK hP A hD hG hA hS ls hl Q hQ
  have hx := hC.1
  have hb := hC.2.1
  have hml := hC.2.2.1
  have hown := hC.2.2.2.1
  have hts := hC.2.2.2.2
  have hB : ∀ w ∈ W0, w ∈ wz_X10_append := fun _ h => List.mem_cons_of_mem _ h
  have hW0 : ∀ w ∈ W0, w.before args s = true := fun w h => hts w (hB w h)
  have hl : lv_has ls 2 [(0, .ref (β 0)), (1, .int (zI a))] := hl
  refine lv_aload_n hx hb dX10_append_0 rfl (lv_at hl 0 rfl) ?_
  refine lv_iconst (v := zI 0) hx hb dX10_append_1 rfl ?_
  refine va_put (D := D) (ci := 10) (v := .int (zI 0)) (ty := .int) (C := RX10) (T := TX10) (N := 17) hx hb hts (fun w h => List.mem_cons_of_mem _ (wx_X10 w h)) tyX10 tyX10_ok nmX10 hown hK hP hD hS 0 rfl rfl 7 (by decide) (hW0 _ wf_X10_44) (fun _ h9 => h9) rfl (by decide +kernel) rfl rfl (Nat.le_of_ble_eq_true rfl) dX10_append_2 (fun H locs hP hD hS => ?_)
  have hP : va_P D vwCl (wM β δ ms mb mo mp mf mn mi mc mq mr mw mk ml 0 ma mx mh) H := hP
  have hD : va_D A (wM β δ ms mb mo mp mf mn mi mc mq mr mw mk ml 0 ma mx mh) := hD
  refine lv_iload_n hx hb dX10_append_5 rfl (lv_at hl 1 rfl) ?_
  refine lv_bipush (v := zI 33) hx hb dX10_append_6 (zI_b8 (by decide)) ?_
  refine lv_bipush (v := zI 126) hx hb dX10_append_8 (zI_b8 (by decide)) ?_
  refine z_calli hP hD hS hA (va_runS (As := [.int (zI a), .int (zI 33), .int (zI 126)]) (rest := []) hC (c_X10_in l D τ _ _ a 33 126 (by first | assumption | rfl | omega) (by first | assumption | rfl | omega) (by first | assumption | rfl | omega) _) (va_cwS 3 hts (gS hB wl_X10_48 wt_X10_in wi_X10 wc_X10_in) rfl rfl rfl hd_X10_in.2 ⟨Nat.le_of_ble_eq_true rfl, Nat.le_of_ble_eq_true rfl⟩) (zp_S hK hP hD hS hA hG) rfl rfl hl.1 rfl (lv_room (Nat.le_of_ble_eq_true rfl)) dX10_append_10 ⟨Nat.le_of_ble_eq_true rfl, Nat.le_of_ble_eq_true rfl⟩) (fun r w1 H locs hq9 hP hD hS => ?_)
  obtain ⟨v10_1, hv10_0, rfl, rfl⟩ := hq9
  refine z_ifneB (tgt := 22) hx hb dX10_append_13 (by decide) (fun c_13 => ?_) (fun c_13 => ?_)
  · have hb_13 := hv10_0.mp c_13
    refine lv_aload_n hx hb dX10_append_22 rfl (lv_at hl 0 rfl) ?_
    refine va_get (D := D) (ci := 10) (v := .int (zI ml)) (C := RX10) (T := TX10) (N := 17) hx hb hts (fun w h => List.mem_cons_of_mem _ (wx_X10 w h)) hown hK hP 0 rfl rfl 6 (by decide) (hW0 _ wf_X10_96) (fun _ h9 => h9) rfl dX10_append_23 ?_
    refine lv_bipush (v := zI 60) hx hb dX10_append_26 (zI_b8 (by decide)) ?_
    refine z_icne (tgt := 37) hx hb ⟨by omega, by omega⟩ ⟨by omega, by omega⟩ dX10_append_28 (by decide) (fun c_28 => ?_) (fun c_28 => ?_)
    · have ht : S_tapp a ml = 0 := by unfold S_tapp; rw [if_pos hb_13, if_neg c_28]
      refine lv_aload_n hx hb dX10_append_37 rfl (lv_at hl 0 rfl) ?_
      refine va_get (D := D) (ci := 10) (v := .ref (β 5)) (C := RX10) (T := TX10) (N := 17) hx hb hts (fun w h => List.mem_cons_of_mem _ (wx_X10 w h)) hown hK hP 0 rfl rfl 5 (by decide) (hW0 _ wf_X10_23) (fun _ h9 => h9) rfl dX10_append_38 ?_
      refine lv_aload_n hx hb dX10_append_41 rfl (lv_at hl 0 rfl) ?_
      refine va_get (D := D) (ci := 10) (v := .int (zI ml)) (C := RX10) (T := TX10) (N := 17) hx hb hts (fun w h => List.mem_cons_of_mem _ (wx_X10 w h)) hown hK hP 0 rfl rfl 6 (by decide) (hW0 _ wf_X10_96) (fun _ h9 => h9) rfl dX10_append_42 ?_
      refine lv_iload_n hx hb dX10_append_45 rfl (lv_at hl 1 rfl) ?_
      refine z_iast (f := mf) (v := a) hx hb hK hP hD hS 5 4 rfl rfl ⟨⟨by omega, by omega⟩, by decide⟩ dX10_append_46 (fun H locs hP hD hS => ?_)
      have hP : va_P D vwCl (wM β δ ms mb mo mp (zu mf ml a) mn mi mc mq mr mw mk ml 0 ma mx mh) H := hP
      have hD : va_D A (wM β δ ms mb mo mp (zu mf ml a) mn mi mc mq mr mw mk ml 0 ma mx mh) := hD
      refine lv_aload_n hx hb dX10_append_47 rfl (lv_at hl 0 rfl) ?_
      refine lv_dup hx hb dX10_append_48 rfl ?_
      refine va_get (D := D) (ci := 10) (v := .int (zI ml)) (C := RX10) (T := TX10) (N := 17) hx hb hts (fun w h => List.mem_cons_of_mem _ (wx_X10 w h)) hown hK hP 0 rfl rfl 6 (by decide) (hW0 _ wf_X10_96) (fun _ h9 => h9) rfl dX10_append_49 ?_
      refine lv_iconst (v := zI 1) hx hb dX10_append_52 rfl ?_
      refine z_iadd hx hb dX10_append_53 ?_
      refine va_put (D := D) (ci := 10) (v := .int (zI (ml + 1))) (ty := .int) (C := RX10) (T := TX10) (N := 17) hx hb hts (fun w h => List.mem_cons_of_mem _ (wx_X10 w h)) tyX10 tyX10_ok nmX10 hown hK hP hD hS 0 rfl rfl 6 (by decide) (hW0 _ wf_X10_96) (fun _ h9 => h9) rfl (by decide +kernel) rfl rfl (Nat.le_of_ble_eq_true rfl) dX10_append_54 (fun H locs hP hD hS => ?_)
      have hP : va_P D vwCl (wM β δ ms mb mo mp (zu mf ml a) mn mi mc mq mr mw mk (ml + 1) 0 ma mx mh) H := hP
      have hD : va_D A (wM β δ ms mb mo mp (zu mf ml a) mn mi mc mq mr mw mk (ml + 1) 0 ma mx mh) := hD
      refine lv_aload_n hx hb dX10_append_57 rfl (lv_at hl 0 rfl) ?_
      refine va_get (D := D) (ci := 10) (v := .int (zI (ml + 1))) (C := RX10) (T := TX10) (N := 17) hx hb hts (fun w h => List.mem_cons_of_mem _ (wx_X10 w h)) hown hK hP 0 rfl rfl 6 (by decide) (hW0 _ wf_X10_96) (fun _ h9 => h9) rfl dX10_append_58 ?_
      exact z_iret hC hr hlk hQ hP hD hS ⟨zu mf ml a, ml + 1, 0, ml + 1, (by first | exact hv17_1.trans ht.symm | exact hv33_1.trans ht.symm | exact ht.symm), (by first | exact fun _ => rfl | (intro h9; exfalso; omega)), (by first | (rw [ht, if_pos rfl]; done) | (rw [ht, if_neg (by decide)]; done)), (by first | (rw [ht, if_pos rfl]; done) | (rw [ht, if_neg (by decide)]; done)), rfl, rfl⟩ dX10_append_61
    · have ht : S_tapp a ml = 2 := by unfold S_tapp; rw [if_pos hb_13, if_pos c_28]
      refine lv_aload_n hx hb dX10_append_31 rfl (lv_at hl 0 rfl) ?_
      refine lv_iconst (v := zI 2) hx hb dX10_append_32 rfl ?_
      refine z_calli hP hD hS hA (va_runV (As := [.int (zI 2)]) (rest := []) hC (c_X10_throwing l D τ β δ ms mb mo mp mf mn mi mc mq mr mw mk ml 0 ma mx mh 2 _) (cwV 1 hts (gV hB wl_X10_90 wn_X10_throwing ws_X10_throwing wi_X10 wc_X10_throwing) rfl rfl rfl hd_X10_throwing ⟨Nat.le_of_ble_eq_true rfl, Nat.le_of_ble_eq_true rfl⟩) (zp_V hK hP hD hS hA hG (ci := 10) (q0 := 0) rfl rfl rfl) rfl rfl hl.1 rfl (lv_room (Nat.le_of_ble_eq_true rfl)) dX10_append_33 ⟨Nat.le_of_ble_eq_true rfl, Nat.le_of_ble_eq_true rfl⟩) (fun r w1 H locs hq9 hP hD hS => ?_)
      obtain ⟨t33_2, v33_3, hv33_0, hv33_1, rfl, rfl⟩ := hq9
      have hP : va_P D vwCl (wM β δ ms mb mo mp mf mn mi mc mq mr mw mk ml t33_2 ma mx mh) H := hP
      have hD : va_D A (wM β δ ms mb mo mp mf mn mi mc mq mr mw mk ml t33_2 ma mx mh) := hD
      exact z_iret hC hr hlk hQ hP hD hS ⟨mf, ml, t33_2, v33_3, (by first | exact hv17_1.trans ht.symm | exact hv33_1.trans ht.symm | exact ht.symm), (by first | exact fun _ => rfl | (intro h9; exfalso; omega)), (by first | (rw [ht, if_pos rfl]; done) | (rw [ht, if_neg (by decide)]; done)), (by first | (rw [ht, if_pos rfl]; done) | (rw [ht, if_neg (by decide)]; done)), rfl, rfl⟩ dX10_append_36
  · have hb_13 := zb_neg hv10_0 c_13
    have ht : S_tapp a ml = 1 := if_neg hb_13
    refine lv_aload_n hx hb dX10_append_16 rfl (lv_at hl 0 rfl) ?_
    refine lv_iconst (v := zI 1) hx hb dX10_append_17 rfl ?_
    refine z_calli hP hD hS hA (va_runV (As := [.int (zI 1)]) (rest := []) hC (c_X10_throwing l D τ β δ ms mb mo mp mf mn mi mc mq mr mw mk ml 0 ma mx mh 1 _) (cwV 1 hts (gV hB wl_X10_90 wn_X10_throwing ws_X10_throwing wi_X10 wc_X10_throwing) rfl rfl rfl hd_X10_throwing ⟨Nat.le_of_ble_eq_true rfl, Nat.le_of_ble_eq_true rfl⟩) (zp_V hK hP hD hS hA hG (ci := 10) (q0 := 0) rfl rfl rfl) rfl rfl hl.1 rfl (lv_room (Nat.le_of_ble_eq_true rfl)) dX10_append_18 ⟨Nat.le_of_ble_eq_true rfl, Nat.le_of_ble_eq_true rfl⟩) (fun r w1 H locs hq9 hP hD hS => ?_)
    obtain ⟨t18_4, v18_5, hv18_0, hv18_1, rfl, rfl⟩ := hq9
    have hP : va_P D vwCl (wM β δ ms mb mo mp mf mn mi mc mq mr mw mk ml t18_4 ma mx mh) H := hP
    have hD : va_D A (wM β δ ms mb mo mp mf mn mi mc mq mr mw mk ml t18_4 ma mx mh) := hD
    exact z_iret hC hr hlk hQ hP hD hS ⟨mf, ml, t18_4, v18_5, (by first | exact hv17_1.trans ht.symm | exact hv33_1.trans ht.symm | exact ht.symm), (by first | exact fun _ => rfl | (intro h9; exfalso; omega)), (by first | (rw [ht, if_pos rfl]; done) | (rw [ht, if_neg (by decide)]; done)), (by first | (rw [ht, if_pos rfl]; done) | (rw [ht, if_neg (by decide)]; done)), rfl, rfl⟩ dX10_append_21

abbrev wz_X10_clearBuffer : List Cond := .code yX10_clearBuffer cX10_clearBuffer 2 (some .int) :: W0
abbrev rm_X10_clearBuffer : Room := { frames := 0, cells := 0, slots := 0, locals := 0 }
theorem hd_X10_clearBuffer : yX10_clearBuffer.cls = RX10 ∧ yX10_clearBuffer.cls ≠ "java/lang/invoke/MethodHandle" ∧ yX10_clearBuffer.cls ≠ "java/lang/invoke/VarHandle" ∧ (parseMethodDescriptor yX10_clearBuffer.desc).map (fun d => d.parameters.length) = some 0 := by decide +kernel
set_option maxHeartbeats 4000000 in
set_option maxRecDepth 100000 in
theorem c_X10_clearBuffer (l : Launch) (D : va_G) (τ : Nat → Nat) (β : Nat → Nat) (δ : Nat → ClassId) (ms : IA) (mb : IA) (mo : IA) (mp : BA) (mf : IA) (mn : IA) (mi : IA) (mc : IA) (mq : BA) (mr : IA) (mw : IA) (mk : Int) (ml : Int) (mt : Int) (ma : Int) (mx : Bool) (mh : Int64) : cM l yX10_clearBuffer wz_X10_clearBuffer rm_X10_clearBuffer D τ (tyM δ) [.ref (β 0)] (wM β δ ms mb mo mp mf mn mi mc mq mr mw mk ml mt ma mx mh) (zQi (fun r w => ∃ (v : Int), (v = ml) ∧ r = zI v ∧ wM β δ ms mb mo mp mf mn mi mc mq mr mw mk 0 0 ma mx mh = w)) := by
  refine z_ofM (cc := cX10_clearBuffer) (maxL := 2) (ret := (some .int)) (by decide +kernel) rfl (Nat.le_of_ble_eq_true rfl) ?_
  intro pg e s m args below meth c hC hr hlk hnm hK hP A hD hG hA hS ls hl Q hQ
  have hx := hC.1
  have hb := hC.2.1
  have hml := hC.2.2.1
  have hown := hC.2.2.2.1
  have hts := hC.2.2.2.2
  have hB : ∀ w ∈ W0, w ∈ wz_X10_clearBuffer := fun _ h => List.mem_cons_of_mem _ h
  have hW0 : ∀ w ∈ W0, w.before args s = true := fun w h => hts w (hB w h)
  have hl : lv_has ls 2 [(0, .ref (β 0))] := hl
  refine lv_aload_n hx hb dX10_clearBuffer_0 rfl (lv_at hl 0 rfl) ?_
  refine lv_iconst (v := zI 0) hx hb dX10_clearBuffer_1 rfl ?_
  refine va_put (D := D) (ci := 10) (v := .int (zI 0)) (ty := .int) (C := RX10) (T := TX10) (N := 17) hx hb hts (fun w h => List.mem_cons_of_mem _ (wx_X10 w h)) tyX10 tyX10_ok nmX10 hown hK hP hD hS 0 rfl rfl 7 (by decide) (hW0 _ wf_X10_44) (fun _ h9 => h9) rfl (by decide +kernel) rfl rfl (Nat.le_of_ble_eq_true rfl) dX10_clearBuffer_2 (fun H locs hP hD hS => ?_)
  have hP : va_P D vwCl (wM β δ ms mb mo mp mf mn mi mc mq mr mw mk ml 0 ma mx mh) H := hP
  have hD : va_D A (wM β δ ms mb mo mp mf mn mi mc mq mr mw mk ml 0 ma mx mh) := hD
  refine lv_aload_n hx hb dX10_clearBuffer_5 rfl (lv_at hl 0 rfl) ?_
  refine va_get (D := D) (ci := 10) (v := .int (zI ml)) (C := RX10) (T := TX10) (N := 17) hx hb hts (fun w h => List.mem_cons_of_mem _ (wx_X10 w h)) hown hK hP 0 rfl rfl 6 (by decide) (hW0 _ wf_X10_96) (fun _ h9 => h9) rfl dX10_clearBuffer_6 ?_
  refine lv_istore_n (lv' := [(1, .int (zI ml)), (0, .ref (β 0))]) hx hb dX10_clearBuffer_9 rfl hl (by decide) rfl (fun ls hl => ?_)
  refine lv_aload_n hx hb dX10_clearBuffer_10 rfl (lv_at hl 1 rfl) ?_
  refine lv_iconst (v := zI 0) hx hb dX10_clearBuffer_11 rfl ?_
  refine va_put (D := D) (ci := 10) (v := .int (zI 0)) (ty := .int) (C := RX10) (T := TX10) (N := 17) hx hb hts (fun w h => List.mem_cons_of_mem _ (wx_X10 w h)) tyX10 tyX10_ok nmX10 hown hK hP hD hS 0 rfl rfl 6 (by decide) (hW0 _ wf_X10_96) (fun _ h9 => h9) rfl (by decide +kernel) rfl rfl (Nat.le_of_ble_eq_true rfl) dX10_clearBuffer_12 (fun H locs hP hD hS => ?_)
  have hP : va_P D vwCl (wM β δ ms mb mo mp mf mn mi mc mq mr mw mk 0 0 ma mx mh) H := hP
  have hD : va_D A (wM β δ ms mb mo mp mf mn mi mc mq mr mw mk 0 0 ma mx mh) := hD
  refine lv_iload_n hx hb dX10_clearBuffer_15 rfl (lv_at hl 0 rfl) ?_
  exact z_iret hC hr hlk hQ hP hD hS ⟨ml, (by first | assumption | rfl | omega), rfl, rfl⟩ dX10_clearBuffer_16

abbrev wz_X10_keep : List Cond := .code yX10_keep cX10_keep 3 none :: W0
abbrev rm_X10_keep : Room := { frames := 1, cells := 0, slots := 0, locals := 22 }
theorem hd_X10_keep : yX10_keep.cls = RX10 ∧ yX10_keep.cls ≠ "java/lang/invoke/MethodHandle" ∧ yX10_keep.cls ≠ "java/lang/invoke/VarHandle" ∧ (parseMethodDescriptor yX10_keep.desc).map (fun d => d.parameters.length) = some 1 := by decide +kernel
set_option maxHeartbeats 4000000 in
set_option maxRecDepth 100000 in
theorem c_X10_keep (l : Launch) (D : va_G) (τ : Nat → Nat) (β : Nat → Nat) (δ : Nat → ClassId) (ms : IA) (mb : IA) (mo : IA) (mp : BA) (mf : IA) (mn : IA) (mi : IA) (mc : IA) (mq : BA) (mr : IA) (mw : IA) (mk : Int) (ml : Int) (mt : Int) (ma : Int) (mx : Bool) (mh : Int64) (k9 : Int) (hk9 : -2147483648 ≤ k9 ∧ k9 < 2147483648) : cM l yX10_keep wz_X10_keep rm_X10_keep D τ (tyM δ) [.ref (β 0), .int (zI k9)] (wM β δ ms mb mo mp mf mn mi mc mq mr mw mk ml mt ma mx mh) (zQv (fun w => ∃ (o2 : IA), ∃ (p2 : BA), ∃ (t2 : Int), (t2 = S_tslot k9) ∧ (o2 = (if S_tslot k9 = 0 then zcpy ms mo 0 (49 * k9) 49 else mo)) ∧ (p2 = (if S_tslot k9 = 0 then bu mp k9 true else mp)) ∧ wM β δ ms mb o2 p2 mf mn mi mc mq mr mw mk ml t2 ma mx mh = w)) := by
  refine z_ofM (cc := cX10_keep) (maxL := 3) (ret := none) (by decide +kernel) rfl (Nat.le_of_ble_eq_true rfl) ?_
  intro pg e s m args below meth c hC hr hlk hnm hK hP A hD hG hA hS ls hl Q hQ
  have hx := hC.1
  have hb := hC.2.1
  have hml := hC.2.2.1
  have hown := hC.2.2.2.1
  have hts := hC.2.2.2.2
  have hB : ∀ w ∈ W0, w ∈ wz_X10_keep := fun _ h => List.mem_cons_of_mem _ h
  have hW0 : ∀ w ∈ W0, w.before args s = true := fun w h => hts w (hB w h)
  have hl : lv_has ls 3 [(0, .ref (β 0)), (1, .int (zI k9))] := hl
  refine lv_aload_n hx hb dX10_keep_0 rfl (lv_at hl 0 rfl) ?_
  refine lv_iload_n hx hb dX10_keep_1 rfl (lv_at hl 1 rfl) ?_
  refine lv_iconst (v := zI 0) hx hb dX10_keep_2 rfl ?_
  refine lv_iconst (v := zI 1) hx hb dX10_keep_3 rfl ?_
  refine z_calli hP hD hS hA (va_runS (As := [.int (zI k9), .int (zI 0), .int (zI 1)]) (rest := [.ref (β 0)]) hC (c_X10_in l D τ _ _ k9 0 1 (by first | assumption | rfl | omega) (by first | assumption | rfl | omega) (by first | assumption | rfl | omega) _) (va_cwS 3 hts (gS hB wl_X10_48 wt_X10_in wi_X10 wc_X10_in) rfl rfl rfl hd_X10_in.2 ⟨Nat.le_of_ble_eq_true rfl, Nat.le_of_ble_eq_true rfl⟩) (zp_S hK hP hD hS hA hG) rfl rfl hl.1 rfl (lv_room (Nat.le_of_ble_eq_true rfl)) dX10_keep_4 ⟨Nat.le_of_ble_eq_true rfl, Nat.le_of_ble_eq_true rfl⟩) (fun r w1 H locs hq9 hP hD hS => ?_)
  obtain ⟨v4_1, hv4_0, rfl, rfl⟩ := hq9
  refine z_ifeqB (tgt := 14) hx hb dX10_keep_7 (by decide) (fun c_7 => ?_) (fun c_7 => ?_)
  · have hb_7 := zb_neg hv4_0 c_7
    refine lv_iconst (v := zI 1) hx hb dX10_keep_14 rfl ?_
    have ht : S_tslot k9 = 1 := by unfold S_tslot; first | (rw [if_pos hb_7]; done) | (rw [if_neg hb_7]; done)
    refine va_put (D := D) (ci := 10) (v := .int (zI 1)) (ty := .int) (C := RX10) (T := TX10) (N := 17) hx hb hts (fun w h => List.mem_cons_of_mem _ (wx_X10 w h)) tyX10 tyX10_ok nmX10 hown hK hP hD hS 0 rfl rfl 7 (by decide) (hW0 _ wf_X10_44) (fun _ h9 => h9) rfl (by decide +kernel) rfl rfl (Nat.le_of_ble_eq_true rfl) dX10_keep_15 (fun H locs hP hD hS => ?_)
    have hP : va_P D vwCl (wM β δ ms mb mo mp mf mn mi mc mq mr mw mk ml 1 ma mx mh) H := hP
    have hD : va_D A (wM β δ ms mb mo mp mf mn mi mc mq mr mw mk ml 1 ma mx mh) := hD
    refine lv_iconst (v := zI 0) hx hb dX10_keep_18 rfl ?_
    refine lv_istore_n (lv' := [(2, .int (zI 0)), (0, .ref (β 0)), (1, .int (zI k9))]) hx hb dX10_keep_19 rfl hl (by decide) rfl (fun ls hl => ?_)
    suffices HL_20 : ∀ (n_20 : Nat), ∀ (o1 : IA) (i : Int) (H : Heap) (locs : List Loc) (hP : va_P D vwCl (wM β δ ms mb o1 mp mf mn mi mc mq mr mw mk ml 1 ma mx mh) H) (hD : va_D A (wM β δ ms mb o1 mp mf mn mi mc mq mr mw mk ml 1 ma mx mh)) (hS : va_S A s.heap H locs) (ls : Array Slot) (hl : lv_has ls 3 [(2, .int (zI i)), (0, .ref (β 0)), (1, .int (zI k9))]) (hi : 0 ≤ i ∧ i ≤ 49) (ho1 : o1 = zcpy ms mo 0 (49 * k9) i) (hz : (0 ≤ k9 ∧ k9 ≤ 1) ∨ i = 0) (hm : (49 - i).toNat < n_20), W pg l e rm_X10_keep s m args below meth c H locs 0 0 Q (F0 m 20 ls []) from HL_20 _ mo 0 _ _ hP hD hS _ (lv_sub hl [0, 1, 2] rfl) (by first | assumption | rfl | omega) (by exact (zcpy_0 _ _ _ _).symm) (by first | assumption | rfl | omega) (Nat.lt_succ_self _)
    intro n_20
    induction n_20 with
    | zero => intro o1 i H locs hP hD hS ls hl hi ho1 hz hm; exact absurd hm (Nat.not_lt_zero _)
    | succ n_20 ih_20 =>
      intro o1 i H locs hP hD hS ls hl hi ho1 hz hm
      refine lv_iload_n hx hb dX10_keep_20 rfl (lv_at hl 0 rfl) ?_
      refine lv_bipush (v := zI 49) hx hb dX10_keep_21 (zI_b8 (by decide)) ?_
      refine z_icge (tgt := 56) hx hb ⟨by omega, by omega⟩ ⟨by omega, by omega⟩ dX10_keep_23 (by decide) (fun c_23 => ?_) (fun c_23 => ?_)
      · refine lv_aload_n hx hb dX10_keep_56 rfl (lv_at hl 1 rfl) ?_
        refine va_get (D := D) (ci := 10) (v := .int (zI 1)) (C := RX10) (T := TX10) (N := 17) hx hb hts (fun w h => List.mem_cons_of_mem _ (wx_X10 w h)) hown hK hP 0 rfl rfl 7 (by decide) (hW0 _ wf_X10_44) (fun _ h9 => h9) rfl dX10_keep_57 ?_
        refine z_ifne (tgt := 70) hx hb ⟨by omega, by omega⟩ dX10_keep_60 (by decide) (fun c_60 => ?_) (fun c_60 => ?_)
        · exact z_vret hC hr hlk hQ hP hD hS ⟨o1, mp, 1, (by exact ht.symm), (by rw [ht]; first | (rw [if_pos rfl, ho1, show i = 49 by omega]; done) | (rw [if_neg (by decide), ho1, show i = 0 by omega]; exact zcpy_0 _ _ _ _)), (by first | (rw [ht, if_pos rfl]; done) | (rw [ht, if_neg (by decide)]; done)), rfl⟩ dX10_keep_70
        · exact absurd c_60 (by decide)
      · refine lv_aload_n hx hb dX10_keep_26 rfl (lv_at hl 1 rfl) ?_
        refine va_get (D := D) (ci := 10) (v := .int (zI 1)) (C := RX10) (T := TX10) (N := 17) hx hb hts (fun w h => List.mem_cons_of_mem _ (wx_X10 w h)) hown hK hP 0 rfl rfl 7 (by decide) (hW0 _ wf_X10_44) (fun _ h9 => h9) rfl dX10_keep_27 ?_
        refine z_ifne (tgt := 56) hx hb ⟨by omega, by omega⟩ dX10_keep_30 (by decide) (fun c_30 => ?_) (fun c_30 => ?_)
        · refine lv_aload_n hx hb dX10_keep_56 rfl (lv_at hl 1 rfl) ?_
          refine va_get (D := D) (ci := 10) (v := .int (zI 1)) (C := RX10) (T := TX10) (N := 17) hx hb hts (fun w h => List.mem_cons_of_mem _ (wx_X10 w h)) hown hK hP 0 rfl rfl 7 (by decide) (hW0 _ wf_X10_44) (fun _ h9 => h9) rfl dX10_keep_57 ?_
          refine z_ifne (tgt := 70) hx hb ⟨by omega, by omega⟩ dX10_keep_60 (by decide) (fun c_60 => ?_) (fun c_60 => ?_)
          · exact z_vret hC hr hlk hQ hP hD hS ⟨o1, mp, 1, (by exact ht.symm), (by rw [ht]; first | (rw [if_pos rfl, ho1, show i = 49 by omega]; done) | (rw [if_neg (by decide), ho1, show i = 0 by omega]; exact zcpy_0 _ _ _ _)), (by first | (rw [ht, if_pos rfl]; done) | (rw [ht, if_neg (by decide)]; done)), rfl⟩ dX10_keep_70
          · exact absurd c_60 (by decide)
        · exact absurd c_30 (by decide)
  · have hb_7 := hv4_0.mp c_7
    refine lv_iconst (v := zI 0) hx hb dX10_keep_10 rfl ?_
    refine lv_goto (tgt := 15) hx hb dX10_keep_11 (by decide) ?_
    have ht : S_tslot k9 = 0 := by unfold S_tslot; first | (rw [if_pos hb_7]; done) | (rw [if_neg hb_7]; done)
    refine va_put (D := D) (ci := 10) (v := .int (zI 0)) (ty := .int) (C := RX10) (T := TX10) (N := 17) hx hb hts (fun w h => List.mem_cons_of_mem _ (wx_X10 w h)) tyX10 tyX10_ok nmX10 hown hK hP hD hS 0 rfl rfl 7 (by decide) (hW0 _ wf_X10_44) (fun _ h9 => h9) rfl (by decide +kernel) rfl rfl (Nat.le_of_ble_eq_true rfl) dX10_keep_15 (fun H locs hP hD hS => ?_)
    have hP : va_P D vwCl (wM β δ ms mb mo mp mf mn mi mc mq mr mw mk ml 0 ma mx mh) H := hP
    have hD : va_D A (wM β δ ms mb mo mp mf mn mi mc mq mr mw mk ml 0 ma mx mh) := hD
    refine lv_iconst (v := zI 0) hx hb dX10_keep_18 rfl ?_
    refine lv_istore_n (lv' := [(2, .int (zI 0)), (0, .ref (β 0)), (1, .int (zI k9))]) hx hb dX10_keep_19 rfl hl (by decide) rfl (fun ls hl => ?_)
    suffices HL_20 : ∀ (n_20 : Nat), ∀ (o1 : IA) (i : Int) (H : Heap) (locs : List Loc) (hP : va_P D vwCl (wM β δ ms mb o1 mp mf mn mi mc mq mr mw mk ml 0 ma mx mh) H) (hD : va_D A (wM β δ ms mb o1 mp mf mn mi mc mq mr mw mk ml 0 ma mx mh)) (hS : va_S A s.heap H locs) (ls : Array Slot) (hl : lv_has ls 3 [(2, .int (zI i)), (0, .ref (β 0)), (1, .int (zI k9))]) (hi : 0 ≤ i ∧ i ≤ 49) (ho1 : o1 = zcpy ms mo 0 (49 * k9) i) (hz : (0 ≤ k9 ∧ k9 ≤ 1) ∨ i = 0) (hm : (49 - i).toNat < n_20), W pg l e rm_X10_keep s m args below meth c H locs 0 0 Q (F0 m 20 ls []) from HL_20 _ mo 0 _ _ hP hD hS _ (lv_sub hl [0, 1, 2] rfl) (by first | assumption | rfl | omega) (by exact (zcpy_0 _ _ _ _).symm) (by first | assumption | rfl | omega) (Nat.lt_succ_self _)
    intro n_20
    induction n_20 with
    | zero => intro o1 i H locs hP hD hS ls hl hi ho1 hz hm; exact absurd hm (Nat.not_lt_zero _)
    | succ n_20 ih_20 =>
      intro o1 i H locs hP hD hS ls hl hi ho1 hz hm
      refine lv_iload_n hx hb dX10_keep_20 rfl (lv_at hl 0 rfl) ?_
      refine lv_bipush (v := zI 49) hx hb dX10_keep_21 (zI_b8 (by decide)) ?_
      refine z_icge (tgt := 56) hx hb ⟨by omega, by omega⟩ ⟨by omega, by omega⟩ dX10_keep_23 (by decide) (fun c_23 => ?_) (fun c_23 => ?_)
      · refine lv_aload_n hx hb dX10_keep_56 rfl (lv_at hl 1 rfl) ?_
        refine va_get (D := D) (ci := 10) (v := .int (zI 0)) (C := RX10) (T := TX10) (N := 17) hx hb hts (fun w h => List.mem_cons_of_mem _ (wx_X10 w h)) hown hK hP 0 rfl rfl 7 (by decide) (hW0 _ wf_X10_44) (fun _ h9 => h9) rfl dX10_keep_57 ?_
        refine z_ifne (tgt := 70) hx hb ⟨by omega, by omega⟩ dX10_keep_60 (by decide) (fun c_60 => ?_) (fun c_60 => ?_)
        · exact absurd c_60 (by decide)
        · refine lv_aload_n hx hb dX10_keep_63 rfl (lv_at hl 1 rfl) ?_
          refine va_get (D := D) (ci := 10) (v := .ref (β 4)) (C := RX10) (T := TX10) (N := 17) hx hb hts (fun w h => List.mem_cons_of_mem _ (wx_X10 w h)) hown hK hP 0 rfl rfl 4 (by decide) (hW0 _ wf_X10_19) (fun _ h9 => h9) rfl dX10_keep_64 ?_
          refine lv_iload_n hx hb dX10_keep_67 rfl (lv_at hl 2 rfl) ?_
          refine lv_iconst (v := zI 1) hx hb dX10_keep_68 rfl ?_
          refine z_zast (f := mp) (v := true) hx hb hK hP hD hS 4 3 rfl rfl ⟨⟨by omega, by omega⟩, by decide⟩ dX10_keep_69 (fun H locs hP hD hS => ?_)
          have hP : va_P D vwCl (wM β δ ms mb o1 (bu mp k9 true) mf mn mi mc mq mr mw mk ml 0 ma mx mh) H := hP
          have hD : va_D A (wM β δ ms mb o1 (bu mp k9 true) mf mn mi mc mq mr mw mk ml 0 ma mx mh) := hD
          exact z_vret hC hr hlk hQ hP hD hS ⟨o1, bu mp k9 true, 0, (by exact ht.symm), (by rw [ht]; first | (rw [if_pos rfl, ho1, show i = 49 by omega]; done) | (rw [if_neg (by decide), ho1, show i = 0 by omega]; exact zcpy_0 _ _ _ _)), (by first | (rw [ht, if_pos rfl]; done) | (rw [ht, if_neg (by decide)]; done)), rfl⟩ dX10_keep_70
      · refine lv_aload_n hx hb dX10_keep_26 rfl (lv_at hl 1 rfl) ?_
        refine va_get (D := D) (ci := 10) (v := .int (zI 0)) (C := RX10) (T := TX10) (N := 17) hx hb hts (fun w h => List.mem_cons_of_mem _ (wx_X10 w h)) hown hK hP 0 rfl rfl 7 (by decide) (hW0 _ wf_X10_44) (fun _ h9 => h9) rfl dX10_keep_27 ?_
        refine z_ifne (tgt := 56) hx hb ⟨by omega, by omega⟩ dX10_keep_30 (by decide) (fun c_30 => ?_) (fun c_30 => ?_)
        · exact absurd c_30 (by decide)
        · refine lv_aload_n hx hb dX10_keep_33 rfl (lv_at hl 1 rfl) ?_
          refine va_get (D := D) (ci := 10) (v := .ref (β 3)) (C := RX10) (T := TX10) (N := 17) hx hb hts (fun w h => List.mem_cons_of_mem _ (wx_X10 w h)) hown hK hP 0 rfl rfl 3 (by decide) (hW0 _ wf_X10_16) (fun _ h9 => h9) rfl dX10_keep_34 ?_
          refine lv_bipush (v := zI 49) hx hb dX10_keep_37 (zI_b8 (by decide)) ?_
          refine lv_iload_n hx hb dX10_keep_39 rfl (lv_at hl 2 rfl) ?_
          refine z_imul hx hb dX10_keep_40 ?_
          refine lv_iload_n hx hb dX10_keep_41 rfl (lv_at hl 0 rfl) ?_
          refine z_iadd hx hb dX10_keep_42 ?_
          refine lv_aload_n hx hb dX10_keep_43 rfl (lv_at hl 1 rfl) ?_
          refine va_get (D := D) (ci := 10) (v := .ref (β 1)) (C := RX10) (T := TX10) (N := 17) hx hb hts (fun w h => List.mem_cons_of_mem _ (wx_X10 w h)) hown hK hP 0 rfl rfl 0 (by decide) (hW0 _ wf_X10_7) (fun _ h9 => h9) rfl dX10_keep_44 ?_
          refine lv_iload_n hx hb dX10_keep_47 rfl (lv_at hl 0 rfl) ?_
          refine z_iald (f := ms) hx hb hK hP 1 0 rfl rfl ⟨⟨by omega, by omega⟩, by decide⟩ dX10_keep_48 ?_
          refine z_iast (f := o1) (v := ms i) hx hb hK hP hD hS 3 2 rfl rfl ⟨⟨by omega, by omega⟩, by decide⟩ dX10_keep_49 (fun H locs hP hD hS => ?_)
          have hP : va_P D vwCl (wM β δ ms mb ((zu o1 ((49 * k9) + i) (ms i))) mp mf mn mi mc mq mr mw mk ml 0 ma mx mh) H := hP
          have hD : va_D A (wM β δ ms mb ((zu o1 ((49 * k9) + i) (ms i))) mp mf mn mi mc mq mr mw mk ml 0 ma mx mh) := hD
          refine z_iinc (k := 0) (v := i + 1) (lv' := [(2, .int (zI (i + 1))), (0, .ref (β 0)), (1, .int (zI k9))]) hx hb dX10_keep_50 hl rfl rfl (by decide) rfl (fun ls hl => ?_)
          refine lv_goto (tgt := 20) hx hb dX10_keep_53 (by decide) ?_
          exact ih_20 (zu o1 ((49 * k9) + i) (ms i)) (i + 1) _ _ hP hD hS _ (lv_sub hl [0, 1, 2] rfl) (by first | assumption | rfl | omega) (by rw [ho1]; exact zcpy_up hi.1 rfl (by rw [Int.zero_add])) (by exact Or.inl hb_7) (by omega)

abbrev wz_X10_goBack : List Cond := .code yX10_goBack cX10_goBack 3 none :: W0
abbrev rm_X10_goBack : Room := { frames := 1, cells := 0, slots := 0, locals := 22 }
theorem hd_X10_goBack : yX10_goBack.cls = RX10 ∧ yX10_goBack.cls ≠ "java/lang/invoke/MethodHandle" ∧ yX10_goBack.cls ≠ "java/lang/invoke/VarHandle" ∧ (parseMethodDescriptor yX10_goBack.desc).map (fun d => d.parameters.length) = some 1 := by decide +kernel
set_option maxHeartbeats 4000000 in
set_option maxRecDepth 100000 in
theorem c_X10_goBack (l : Launch) (D : va_G) (τ : Nat → Nat) (β : Nat → Nat) (δ : Nat → ClassId) (ms : IA) (mb : IA) (mo : IA) (mp : BA) (mf : IA) (mn : IA) (mi : IA) (mc : IA) (mq : BA) (mr : IA) (mw : IA) (mk : Int) (ml : Int) (mt : Int) (ma : Int) (mx : Bool) (mh : Int64) (k9 : Int) (hk9 : -2147483648 ≤ k9 ∧ k9 < 2147483648) (hmk : 0 ≤ mk ∧ mk ≤ 6) : cM l yX10_goBack wz_X10_goBack rm_X10_goBack D τ (tyM δ) [.ref (β 0), .int (zI k9)] (wM β δ ms mb mo mp mf mn mi mc mq mr mw mk ml mt ma mx mh) (zQv (fun w => ∃ (s2 : IA), ∃ (b2 : IA), ∃ (k2 : Int), ∃ (t2 : Int), (t2 = S_tback k9 mp) ∧ (s2 = (if S_tback k9 mp = 0 then zcpy mo ms (49 * k9) 0 49 else ms)) ∧ (b2 = (if S_tback k9 mp = 0 then S_sv mb ms mk else mb)) ∧ (k2 = (if S_tback k9 mp = 0 then S_svC mk else mk)) ∧ wM β δ s2 b2 mo mp mf mn mi mc mq mr mw k2 ml t2 ma mx mh = w)) := by
  refine z_ofM (cc := cX10_goBack) (maxL := 3) (ret := none) (by decide +kernel) rfl (Nat.le_of_ble_eq_true rfl) ?_
  intro pg e s m args below meth c hC hr hlk hnm hK hP A hD hG hA hS ls hl Q hQ
  have hx := hC.1
  have hb := hC.2.1
  have hml := hC.2.2.1
  have hown := hC.2.2.2.1
  have hts := hC.2.2.2.2
  have hB : ∀ w ∈ W0, w ∈ wz_X10_goBack := fun _ h => List.mem_cons_of_mem _ h
  have hW0 : ∀ w ∈ W0, w.before args s = true := fun w h => hts w (hB w h)
  have hl : lv_has ls 3 [(0, .ref (β 0)), (1, .int (zI k9))] := hl
  refine lv_aload_n hx hb dX10_goBack_0 rfl (lv_at hl 0 rfl) ?_
  refine lv_iload_n hx hb dX10_goBack_1 rfl (lv_at hl 1 rfl) ?_
  refine lv_iconst (v := zI 0) hx hb dX10_goBack_2 rfl ?_
  refine lv_iconst (v := zI 1) hx hb dX10_goBack_3 rfl ?_
  refine z_calli hP hD hS hA (va_runS (As := [.int (zI k9), .int (zI 0), .int (zI 1)]) (rest := [.ref (β 0)]) hC (c_X10_in l D τ _ _ k9 0 1 (by first | assumption | rfl | omega) (by first | assumption | rfl | omega) (by first | assumption | rfl | omega) _) (va_cwS 3 hts (gS hB wl_X10_48 wt_X10_in wi_X10 wc_X10_in) rfl rfl rfl hd_X10_in.2 ⟨Nat.le_of_ble_eq_true rfl, Nat.le_of_ble_eq_true rfl⟩) (zp_S hK hP hD hS hA hG) rfl rfl hl.1 rfl (lv_room (Nat.le_of_ble_eq_true rfl)) dX10_goBack_4 ⟨Nat.le_of_ble_eq_true rfl, Nat.le_of_ble_eq_true rfl⟩) (fun r w1 H locs hq9 hP hD hS => ?_)
  obtain ⟨v4_1, hv4_0, rfl, rfl⟩ := hq9
  refine z_ifneB (tgt := 14) hx hb dX10_goBack_7 (by decide) (fun c_7 => ?_) (fun c_7 => ?_)
  · have hb_7 := hv4_0.mp c_7
    refine lv_aload_n hx hb dX10_goBack_14 rfl (lv_at hl 0 rfl) ?_
    refine va_get (D := D) (ci := 10) (v := .ref (β 4)) (C := RX10) (T := TX10) (N := 17) hx hb hts (fun w h => List.mem_cons_of_mem _ (wx_X10 w h)) hown hK hP 0 rfl rfl 4 (by decide) (hW0 _ wf_X10_19) (fun _ h9 => h9) rfl dX10_goBack_15 ?_
    refine lv_iload_n hx hb dX10_goBack_18 rfl (lv_at hl 1 rfl) ?_
    refine z_zald (f := mp) hx hb hK hP 4 3 rfl rfl ⟨⟨by omega, by omega⟩, by decide⟩ dX10_goBack_19 ?_
    refine z_ifeqB (tgt := 27) hx hb dX10_goBack_20 (by decide) (fun c_20 => ?_) (fun c_20 => ?_)
    · refine lv_iconst (v := zI 2) hx hb dX10_goBack_27 rfl ?_
      have ht : S_tback k9 mp = 2 := by unfold S_tback; first | (rw [if_pos hb_7, if_pos c_20]; done) | (rw [if_pos hb_7, if_neg (by rw [c_20]; decide)]; done) | (rw [if_neg hb_7]; done)
      refine va_put (D := D) (ci := 10) (v := .int (zI 2)) (ty := .int) (C := RX10) (T := TX10) (N := 17) hx hb hts (fun w h => List.mem_cons_of_mem _ (wx_X10 w h)) tyX10 tyX10_ok nmX10 hown hK hP hD hS 0 rfl rfl 7 (by decide) (hW0 _ wf_X10_44) (fun _ h9 => h9) rfl (by decide +kernel) rfl rfl (Nat.le_of_ble_eq_true rfl) dX10_goBack_28 (fun H locs hP hD hS => ?_)
      have hP : va_P D vwCl (wM β δ ms mb mo mp mf mn mi mc mq mr mw mk ml 2 ma mx mh) H := hP
      have hD : va_D A (wM β δ ms mb mo mp mf mn mi mc mq mr mw mk ml 2 ma mx mh) := hD
      refine lv_aload_n hx hb dX10_goBack_31 rfl (lv_at hl 0 rfl) ?_
      refine va_get (D := D) (ci := 10) (v := .int (zI 2)) (C := RX10) (T := TX10) (N := 17) hx hb hts (fun w h => List.mem_cons_of_mem _ (wx_X10 w h)) hown hK hP 0 rfl rfl 7 (by decide) (hW0 _ wf_X10_44) (fun _ h9 => h9) rfl dX10_goBack_32 ?_
      refine z_ifne (tgt := 73) hx hb ⟨by omega, by omega⟩ dX10_goBack_35 (by decide) (fun c_35 => ?_) (fun c_35 => ?_)
      · exact z_vret hC hr hlk hQ hP hD hS ⟨ms, mb, mk, 2, (by exact ht.symm), (by rw [ht]; first | (rw [if_pos rfl, hs1, show i = 49 by omega]; done) | (rw [if_neg (by decide)]; done)), (by rw [ht]; first | (rw [if_pos rfl]; exact hv39_0) | (rw [if_neg (by decide)]; done)), (by rw [ht]; first | (rw [if_pos rfl]; exact hv39_1) | (rw [if_neg (by decide)]; done)), rfl⟩ dX10_goBack_73
      · exact absurd c_35 (by decide)
    · refine lv_iconst (v := zI 0) hx hb dX10_goBack_23 rfl ?_
      refine lv_goto (tgt := 28) hx hb dX10_goBack_24 (by decide) ?_
      have ht : S_tback k9 mp = 0 := by unfold S_tback; first | (rw [if_pos hb_7, if_pos c_20]; done) | (rw [if_pos hb_7, if_neg (by rw [c_20]; decide)]; done) | (rw [if_neg hb_7]; done)
      refine va_put (D := D) (ci := 10) (v := .int (zI 0)) (ty := .int) (C := RX10) (T := TX10) (N := 17) hx hb hts (fun w h => List.mem_cons_of_mem _ (wx_X10 w h)) tyX10 tyX10_ok nmX10 hown hK hP hD hS 0 rfl rfl 7 (by decide) (hW0 _ wf_X10_44) (fun _ h9 => h9) rfl (by decide +kernel) rfl rfl (Nat.le_of_ble_eq_true rfl) dX10_goBack_28 (fun H locs hP hD hS => ?_)
      have hP : va_P D vwCl (wM β δ ms mb mo mp mf mn mi mc mq mr mw mk ml 0 ma mx mh) H := hP
      have hD : va_D A (wM β δ ms mb mo mp mf mn mi mc mq mr mw mk ml 0 ma mx mh) := hD
      refine lv_aload_n hx hb dX10_goBack_31 rfl (lv_at hl 0 rfl) ?_
      refine va_get (D := D) (ci := 10) (v := .int (zI 0)) (C := RX10) (T := TX10) (N := 17) hx hb hts (fun w h => List.mem_cons_of_mem _ (wx_X10 w h)) hown hK hP 0 rfl rfl 7 (by decide) (hW0 _ wf_X10_44) (fun _ h9 => h9) rfl dX10_goBack_32 ?_
      refine z_ifne (tgt := 73) hx hb ⟨by omega, by omega⟩ dX10_goBack_35 (by decide) (fun c_35 => ?_) (fun c_35 => ?_)
      · exact absurd c_35 (by decide)
      · refine lv_aload_n hx hb dX10_goBack_38 rfl (lv_at hl 0 rfl) ?_
        refine z_callv hP hD hS hA (va_runV (As := []) (rest := []) hC (c_X10_save l D τ β δ ms mb mo mp mf mn mi mc mq mr mw mk ml 0 ma mx mh (by first | assumption | rfl | omega) _) (cwV 0 hts (gV hB wl_X10_80 wn_X10_save ws_X10_save wi_X10 wc_X10_save) rfl rfl rfl hd_X10_save ⟨Nat.le_of_ble_eq_true rfl, Nat.le_of_ble_eq_true rfl⟩) (zp_V hK hP hD hS hA hG (ci := 10) (q0 := 0) rfl rfl rfl) rfl rfl hl.1 rfl (lv_room (Nat.le_of_ble_eq_true rfl)) dX10_goBack_39 ⟨Nat.le_of_ble_eq_true rfl, Nat.le_of_ble_eq_true rfl⟩) (fun w1 H locs hq9 hP hD hS => ?_)
        obtain ⟨b39_2, k39_3, hv39_0, hv39_1, rfl⟩ := hq9
        have hP : va_P D vwCl (wM β δ ms b39_2 mo mp mf mn mi mc mq mr mw k39_3 ml 0 ma mx mh) H := hP
        have hD : va_D A (wM β δ ms b39_2 mo mp mf mn mi mc mq mr mw k39_3 ml 0 ma mx mh) := hD
        refine lv_iconst (v := zI 0) hx hb dX10_goBack_42 rfl ?_
        refine lv_istore_n (lv' := [(2, .int (zI 0)), (0, .ref (β 0)), (1, .int (zI k9))]) hx hb dX10_goBack_43 rfl hl (by decide) rfl (fun ls hl => ?_)
        suffices HL_44 : ∀ (n_44 : Nat), ∀ (s1 : IA) (i : Int) (H : Heap) (locs : List Loc) (hP : va_P D vwCl (wM β δ s1 b39_2 mo mp mf mn mi mc mq mr mw k39_3 ml 0 ma mx mh) H) (hD : va_D A (wM β δ s1 b39_2 mo mp mf mn mi mc mq mr mw k39_3 ml 0 ma mx mh)) (hS : va_S A s.heap H locs) (ls : Array Slot) (hl : lv_has ls 3 [(2, .int (zI i)), (0, .ref (β 0)), (1, .int (zI k9))]) (hi : 0 ≤ i ∧ i ≤ 49) (hs1 : s1 = zcpy mo ms (49 * k9) 0 i) (hm : (49 - i).toNat < n_44), W pg l e rm_X10_goBack s m args below meth c H locs 0 0 Q (F0 m 44 ls []) from HL_44 _ ms 0 _ _ hP hD hS _ (lv_sub hl [0, 1, 2] rfl) (by first | assumption | rfl | omega) (by exact (zcpy_0 _ _ _ _).symm) (Nat.lt_succ_self _)
        intro n_44
        induction n_44 with
        | zero => intro s1 i H locs hP hD hS ls hl hi hs1 hm; exact absurd hm (Nat.not_lt_zero _)
        | succ n_44 ih_44 =>
          intro s1 i H locs hP hD hS ls hl hi hs1 hm
          refine lv_iload_n hx hb dX10_goBack_44 rfl (lv_at hl 0 rfl) ?_
          refine lv_bipush (v := zI 49) hx hb dX10_goBack_45 (zI_b8 (by decide)) ?_
          refine z_icge (tgt := 73) hx hb ⟨by omega, by omega⟩ ⟨by omega, by omega⟩ dX10_goBack_47 (by decide) (fun c_47 => ?_) (fun c_47 => ?_)
          · exact z_vret hC hr hlk hQ hP hD hS ⟨s1, b39_2, k39_3, 0, (by exact ht.symm), (by rw [ht]; first | (rw [if_pos rfl, hs1, show i = 49 by omega]; done) | (rw [if_neg (by decide)]; done)), (by rw [ht]; first | (rw [if_pos rfl]; exact hv39_0) | (rw [if_neg (by decide)]; done)), (by rw [ht]; first | (rw [if_pos rfl]; exact hv39_1) | (rw [if_neg (by decide)]; done)), rfl⟩ dX10_goBack_73
          · refine lv_aload_n hx hb dX10_goBack_50 rfl (lv_at hl 1 rfl) ?_
            refine va_get (D := D) (ci := 10) (v := .ref (β 1)) (C := RX10) (T := TX10) (N := 17) hx hb hts (fun w h => List.mem_cons_of_mem _ (wx_X10 w h)) hown hK hP 0 rfl rfl 0 (by decide) (hW0 _ wf_X10_7) (fun _ h9 => h9) rfl dX10_goBack_51 ?_
            refine lv_iload_n hx hb dX10_goBack_54 rfl (lv_at hl 0 rfl) ?_
            refine lv_aload_n hx hb dX10_goBack_55 rfl (lv_at hl 1 rfl) ?_
            refine va_get (D := D) (ci := 10) (v := .ref (β 3)) (C := RX10) (T := TX10) (N := 17) hx hb hts (fun w h => List.mem_cons_of_mem _ (wx_X10 w h)) hown hK hP 0 rfl rfl 3 (by decide) (hW0 _ wf_X10_16) (fun _ h9 => h9) rfl dX10_goBack_56 ?_
            refine lv_bipush (v := zI 49) hx hb dX10_goBack_59 (zI_b8 (by decide)) ?_
            refine lv_iload_n hx hb dX10_goBack_61 rfl (lv_at hl 2 rfl) ?_
            refine z_imul hx hb dX10_goBack_62 ?_
            refine lv_iload_n hx hb dX10_goBack_63 rfl (lv_at hl 0 rfl) ?_
            refine z_iadd hx hb dX10_goBack_64 ?_
            refine z_iald (f := mo) hx hb hK hP 3 2 rfl rfl ⟨⟨by omega, by omega⟩, by decide⟩ dX10_goBack_65 ?_
            refine z_iast (f := s1) (v := mo ((49 * k9) + i)) hx hb hK hP hD hS 1 0 rfl rfl ⟨⟨by omega, by omega⟩, by decide⟩ dX10_goBack_66 (fun H locs hP hD hS => ?_)
            have hP : va_P D vwCl (wM β δ ((zu s1 i (mo ((49 * k9) + i)))) b39_2 mo mp mf mn mi mc mq mr mw k39_3 ml 0 ma mx mh) H := hP
            have hD : va_D A (wM β δ ((zu s1 i (mo ((49 * k9) + i)))) b39_2 mo mp mf mn mi mc mq mr mw k39_3 ml 0 ma mx mh) := hD
            refine z_iinc (k := 0) (v := i + 1) (lv' := [(2, .int (zI (i + 1))), (0, .ref (β 0)), (1, .int (zI k9))]) hx hb dX10_goBack_67 hl rfl rfl (by decide) rfl (fun ls hl => ?_)
            refine lv_goto (tgt := 44) hx hb dX10_goBack_70 (by decide) ?_
            exact ih_44 (zu s1 i (mo ((49 * k9) + i))) (i + 1) _ _ hP hD hS _ (lv_sub hl [0, 1, 2] rfl) (by first | assumption | rfl | omega) (by rw [hs1]; exact zcpy_up hi.1 (by omega) rfl) (by omega)
  · have hb_7 := zb_neg hv4_0 c_7
    refine lv_iconst (v := zI 1) hx hb dX10_goBack_10 rfl ?_
    refine lv_goto (tgt := 28) hx hb dX10_goBack_11 (by decide) ?_
    have ht : S_tback k9 mp = 1 := by unfold S_tback; first | (rw [if_pos hb_7, if_pos c_20]; done) | (rw [if_pos hb_7, if_neg (by rw [c_20]; decide)]; done) | (rw [if_neg hb_7]; done)
    refine va_put (D := D) (ci := 10) (v := .int (zI 1)) (ty := .int) (C := RX10) (T := TX10) (N := 17) hx hb hts (fun w h => List.mem_cons_of_mem _ (wx_X10 w h)) tyX10 tyX10_ok nmX10 hown hK hP hD hS 0 rfl rfl 7 (by decide) (hW0 _ wf_X10_44) (fun _ h9 => h9) rfl (by decide +kernel) rfl rfl (Nat.le_of_ble_eq_true rfl) dX10_goBack_28 (fun H locs hP hD hS => ?_)
    have hP : va_P D vwCl (wM β δ ms mb mo mp mf mn mi mc mq mr mw mk ml 1 ma mx mh) H := hP
    have hD : va_D A (wM β δ ms mb mo mp mf mn mi mc mq mr mw mk ml 1 ma mx mh) := hD
    refine lv_aload_n hx hb dX10_goBack_31 rfl (lv_at hl 0 rfl) ?_
    refine va_get (D := D) (ci := 10) (v := .int (zI 1)) (C := RX10) (T := TX10) (N := 17) hx hb hts (fun w h => List.mem_cons_of_mem _ (wx_X10 w h)) hown hK hP 0 rfl rfl 7 (by decide) (hW0 _ wf_X10_44) (fun _ h9 => h9) rfl dX10_goBack_32 ?_
    refine z_ifne (tgt := 73) hx hb ⟨by omega, by omega⟩ dX10_goBack_35 (by decide) (fun c_35 => ?_) (fun c_35 => ?_)
    · exact z_vret hC hr hlk hQ hP hD hS ⟨ms, mb, mk, 1, (by exact ht.symm), (by rw [ht]; first | (rw [if_pos rfl, hs1, show i = 49 by omega]; done) | (rw [if_neg (by decide)]; done)), (by rw [ht]; first | (rw [if_pos rfl]; exact hv39_0) | (rw [if_neg (by decide)]; done)), (by rw [ht]; first | (rw [if_pos rfl]; exact hv39_1) | (rw [if_neg (by decide)]; done)), rfl⟩ dX10_goBack_73
    · exact absurd c_35 (by decide)

abbrev wz_X10_undo : List Cond := .code yX10_undo cX10_undo 2 none :: W0
abbrev rm_X10_undo : Room := { frames := 0, cells := 0, slots := 0, locals := 0 }
theorem hd_X10_undo : yX10_undo.cls = RX10 ∧ yX10_undo.cls ≠ "java/lang/invoke/MethodHandle" ∧ yX10_undo.cls ≠ "java/lang/invoke/VarHandle" ∧ (parseMethodDescriptor yX10_undo.desc).map (fun d => d.parameters.length) = some 0 := by decide +kernel
set_option maxHeartbeats 4000000 in
set_option maxRecDepth 100000 in
theorem c_X10_undo (l : Launch) (D : va_G) (τ : Nat → Nat) (β : Nat → Nat) (δ : Nat → ClassId) (ms : IA) (mb : IA) (mo : IA) (mp : BA) (mf : IA) (mn : IA) (mi : IA) (mc : IA) (mq : BA) (mr : IA) (mw : IA) (mk : Int) (ml : Int) (mt : Int) (ma : Int) (mx : Bool) (mh : Int64) (hmk : 0 ≤ mk ∧ mk ≤ 6) : cM l yX10_undo wz_X10_undo rm_X10_undo D τ (tyM δ) [.ref (β 0)] (wM β δ ms mb mo mp mf mn mi mc mq mr mw mk ml mt ma mx mh) (zQv (fun w => ∃ (s2 : IA), ∃ (k2 : Int), ∃ (t2 : Int), (t2 = S_tundo mk) ∧ (s2 = (if S_tundo mk = 0 then zcpy mb ms (49 * (mk - 1)) 0 49 else ms)) ∧ (k2 = (if S_tundo mk = 0 then mk - 1 else mk)) ∧ wM β δ s2 mb mo mp mf mn mi mc mq mr mw k2 ml t2 ma mx mh = w)) := by
  refine z_ofM (cc := cX10_undo) (maxL := 2) (ret := none) (by decide +kernel) rfl (Nat.le_of_ble_eq_true rfl) ?_
  intro pg e s m args below meth c hC hr hlk hnm hK hP A hD hG hA hS ls hl Q hQ
  have hx := hC.1
  have hb := hC.2.1
  have hml := hC.2.2.1
  have hown := hC.2.2.2.1
  have hts := hC.2.2.2.2
  have hB : ∀ w ∈ W0, w ∈ wz_X10_undo := fun _ h => List.mem_cons_of_mem _ h
  have hW0 : ∀ w ∈ W0, w.before args s = true := fun w h => hts w (hB w h)
  have hl : lv_has ls 2 [(0, .ref (β 0))] := hl
  refine lv_aload_n hx hb dX10_undo_0 rfl (lv_at hl 0 rfl) ?_
  refine lv_aload_n hx hb dX10_undo_1 rfl (lv_at hl 0 rfl) ?_
  refine va_get (D := D) (ci := 10) (v := .int (zI mk)) (C := RX10) (T := TX10) (N := 17) hx hb hts (fun w h => List.mem_cons_of_mem _ (wx_X10 w h)) hown hK hP 0 rfl rfl 2 (by decide) (hW0 _ wf_X10_52) (fun _ h9 => h9) rfl dX10_undo_2 ?_
  refine z_ifne (tgt := 12) hx hb ⟨by omega, by omega⟩ dX10_undo_5 (by decide) (fun c_5 => ?_) (fun c_5 => ?_)
  · refine lv_iconst (v := zI 0) hx hb dX10_undo_12 rfl ?_
    have ht : S_tundo mk = 0 := by unfold S_tundo; first | (rw [if_pos c_5]; done) | (rw [if_neg c_5]; done)
    refine va_put (D := D) (ci := 10) (v := .int (zI 0)) (ty := .int) (C := RX10) (T := TX10) (N := 17) hx hb hts (fun w h => List.mem_cons_of_mem _ (wx_X10 w h)) tyX10 tyX10_ok nmX10 hown hK hP hD hS 0 rfl rfl 7 (by decide) (hW0 _ wf_X10_44) (fun _ h9 => h9) rfl (by decide +kernel) rfl rfl (Nat.le_of_ble_eq_true rfl) dX10_undo_13 (fun H locs hP hD hS => ?_)
    have hP : va_P D vwCl (wM β δ ms mb mo mp mf mn mi mc mq mr mw mk ml 0 ma mx mh) H := hP
    have hD : va_D A (wM β δ ms mb mo mp mf mn mi mc mq mr mw mk ml 0 ma mx mh) := hD
    refine lv_aload_n hx hb dX10_undo_16 rfl (lv_at hl 0 rfl) ?_
    refine va_get (D := D) (ci := 10) (v := .int (zI 0)) (C := RX10) (T := TX10) (N := 17) hx hb hts (fun w h => List.mem_cons_of_mem _ (wx_X10 w h)) hown hK hP 0 rfl rfl 7 (by decide) (hW0 _ wf_X10_44) (fun _ h9 => h9) rfl dX10_undo_17 ?_
    refine z_ifne (tgt := 67) hx hb ⟨by omega, by omega⟩ dX10_undo_20 (by decide) (fun c_20 => ?_) (fun c_20 => ?_)
    · exact absurd c_20 (by decide)
    · refine lv_aload_n hx hb dX10_undo_23 rfl (lv_at hl 0 rfl) ?_
      refine lv_dup hx hb dX10_undo_24 rfl ?_
      refine va_get (D := D) (ci := 10) (v := .int (zI mk)) (C := RX10) (T := TX10) (N := 17) hx hb hts (fun w h => List.mem_cons_of_mem _ (wx_X10 w h)) hown hK hP 0 rfl rfl 2 (by decide) (hW0 _ wf_X10_52) (fun _ h9 => h9) rfl dX10_undo_25 ?_
      refine lv_iconst (v := zI 1) hx hb dX10_undo_28 rfl ?_
      refine z_isub hx hb dX10_undo_29 ?_
      refine va_put (D := D) (ci := 10) (v := .int (zI (mk - 1))) (ty := .int) (C := RX10) (T := TX10) (N := 17) hx hb hts (fun w h => List.mem_cons_of_mem _ (wx_X10 w h)) tyX10 tyX10_ok nmX10 hown hK hP hD hS 0 rfl rfl 2 (by decide) (hW0 _ wf_X10_52) (fun _ h9 => h9) rfl (by decide +kernel) rfl rfl (Nat.le_of_ble_eq_true rfl) dX10_undo_30 (fun H locs hP hD hS => ?_)
      have hP : va_P D vwCl (wM β δ ms mb mo mp mf mn mi mc mq mr mw (mk - 1) ml 0 ma mx mh) H := hP
      have hD : va_D A (wM β δ ms mb mo mp mf mn mi mc mq mr mw (mk - 1) ml 0 ma mx mh) := hD
      refine lv_iconst (v := zI 0) hx hb dX10_undo_33 rfl ?_
      refine lv_istore_n (lv' := [(1, .int (zI 0)), (0, .ref (β 0))]) hx hb dX10_undo_34 rfl hl (by decide) rfl (fun ls hl => ?_)
      suffices HL_35 : ∀ (n_35 : Nat), ∀ (s1 : IA) (i : Int) (H : Heap) (locs : List Loc) (hP : va_P D vwCl (wM β δ s1 mb mo mp mf mn mi mc mq mr mw (mk - 1) ml 0 ma mx mh) H) (hD : va_D A (wM β δ s1 mb mo mp mf mn mi mc mq mr mw (mk - 1) ml 0 ma mx mh)) (hS : va_S A s.heap H locs) (ls : Array Slot) (hl : lv_has ls 2 [(1, .int (zI i)), (0, .ref (β 0))]) (hi : 0 ≤ i ∧ i ≤ 49) (hs1 : s1 = zcpy mb ms (49 * (mk - 1)) 0 i) (hm : (49 - i).toNat < n_35), W pg l e rm_X10_undo s m args below meth c H locs 0 0 Q (F0 m 35 ls []) from HL_35 _ ms 0 _ _ hP hD hS _ (lv_sub hl [0, 1] rfl) (by first | assumption | rfl | omega) (by exact (zcpy_0 _ _ _ _).symm) (Nat.lt_succ_self _)
      intro n_35
      induction n_35 with
      | zero => intro s1 i H locs hP hD hS ls hl hi hs1 hm; exact absurd hm (Nat.not_lt_zero _)
      | succ n_35 ih_35 =>
        intro s1 i H locs hP hD hS ls hl hi hs1 hm
        refine lv_iload_n hx hb dX10_undo_35 rfl (lv_at hl 0 rfl) ?_
        refine lv_bipush (v := zI 49) hx hb dX10_undo_36 (zI_b8 (by decide)) ?_
        refine z_icge (tgt := 67) hx hb ⟨by omega, by omega⟩ ⟨by omega, by omega⟩ dX10_undo_38 (by decide) (fun c_38 => ?_) (fun c_38 => ?_)
        · exact z_vret hC hr hlk hQ hP hD hS ⟨s1, mk - 1, 0, (by exact ht.symm), (by rw [ht]; first | (rw [if_pos rfl, hs1, show i = 49 by omega]; done) | (rw [if_neg (by decide)]; done)), (by first | (rw [ht, if_pos rfl]; done) | (rw [ht, if_neg (by decide)]; done)), rfl⟩ dX10_undo_67
        · refine lv_aload_n hx hb dX10_undo_41 rfl (lv_at hl 1 rfl) ?_
          refine va_get (D := D) (ci := 10) (v := .ref (β 1)) (C := RX10) (T := TX10) (N := 17) hx hb hts (fun w h => List.mem_cons_of_mem _ (wx_X10 w h)) hown hK hP 0 rfl rfl 0 (by decide) (hW0 _ wf_X10_7) (fun _ h9 => h9) rfl dX10_undo_42 ?_
          refine lv_iload_n hx hb dX10_undo_45 rfl (lv_at hl 0 rfl) ?_
          refine lv_aload_n hx hb dX10_undo_46 rfl (lv_at hl 1 rfl) ?_
          refine va_get (D := D) (ci := 10) (v := .ref (β 2)) (C := RX10) (T := TX10) (N := 17) hx hb hts (fun w h => List.mem_cons_of_mem _ (wx_X10 w h)) hown hK hP 0 rfl rfl 1 (by decide) (hW0 _ wf_X10_13) (fun _ h9 => h9) rfl dX10_undo_47 ?_
          refine lv_bipush (v := zI 49) hx hb dX10_undo_50 (zI_b8 (by decide)) ?_
          refine lv_aload_n hx hb dX10_undo_52 rfl (lv_at hl 1 rfl) ?_
          refine va_get (D := D) (ci := 10) (v := .int (zI (mk - 1))) (C := RX10) (T := TX10) (N := 17) hx hb hts (fun w h => List.mem_cons_of_mem _ (wx_X10 w h)) hown hK hP 0 rfl rfl 2 (by decide) (hW0 _ wf_X10_52) (fun _ h9 => h9) rfl dX10_undo_53 ?_
          refine z_imul hx hb dX10_undo_56 ?_
          refine lv_iload_n hx hb dX10_undo_57 rfl (lv_at hl 0 rfl) ?_
          refine z_iadd hx hb dX10_undo_58 ?_
          refine z_iald (f := mb) hx hb hK hP 2 1 rfl rfl ⟨⟨by omega, by omega⟩, by decide⟩ dX10_undo_59 ?_
          refine z_iast (f := s1) (v := mb ((49 * (mk - 1)) + i)) hx hb hK hP hD hS 1 0 rfl rfl ⟨⟨by omega, by omega⟩, by decide⟩ dX10_undo_60 (fun H locs hP hD hS => ?_)
          have hP : va_P D vwCl (wM β δ ((zu s1 i (mb ((49 * (mk - 1)) + i)))) mb mo mp mf mn mi mc mq mr mw (mk - 1) ml 0 ma mx mh) H := hP
          have hD : va_D A (wM β δ ((zu s1 i (mb ((49 * (mk - 1)) + i)))) mb mo mp mf mn mi mc mq mr mw (mk - 1) ml 0 ma mx mh) := hD
          refine z_iinc (k := 0) (v := i + 1) (lv' := [(1, .int (zI (i + 1))), (0, .ref (β 0))]) hx hb dX10_undo_61 hl rfl rfl (by decide) rfl (fun ls hl => ?_)
          refine lv_goto (tgt := 35) hx hb dX10_undo_64 (by decide) ?_
          exact ih_35 (zu s1 i (mb ((49 * (mk - 1)) + i))) (i + 1) _ _ hP hD hS _ (lv_sub hl [0, 1] rfl) (by first | assumption | rfl | omega) (by rw [hs1]; exact zcpy_up hi.1 (by omega) rfl) (by omega)
  · refine lv_iconst (v := zI 1) hx hb dX10_undo_8 rfl ?_
    refine lv_goto (tgt := 13) hx hb dX10_undo_9 (by decide) ?_
    have ht : S_tundo mk = 1 := by unfold S_tundo; first | (rw [if_pos c_5]; done) | (rw [if_neg c_5]; done)
    refine va_put (D := D) (ci := 10) (v := .int (zI 1)) (ty := .int) (C := RX10) (T := TX10) (N := 17) hx hb hts (fun w h => List.mem_cons_of_mem _ (wx_X10 w h)) tyX10 tyX10_ok nmX10 hown hK hP hD hS 0 rfl rfl 7 (by decide) (hW0 _ wf_X10_44) (fun _ h9 => h9) rfl (by decide +kernel) rfl rfl (Nat.le_of_ble_eq_true rfl) dX10_undo_13 (fun H locs hP hD hS => ?_)
    have hP : va_P D vwCl (wM β δ ms mb mo mp mf mn mi mc mq mr mw mk ml 1 ma mx mh) H := hP
    have hD : va_D A (wM β δ ms mb mo mp mf mn mi mc mq mr mw mk ml 1 ma mx mh) := hD
    refine lv_aload_n hx hb dX10_undo_16 rfl (lv_at hl 0 rfl) ?_
    refine va_get (D := D) (ci := 10) (v := .int (zI 1)) (C := RX10) (T := TX10) (N := 17) hx hb hts (fun w h => List.mem_cons_of_mem _ (wx_X10 w h)) hown hK hP 0 rfl rfl 7 (by decide) (hW0 _ wf_X10_44) (fun _ h9 => h9) rfl dX10_undo_17 ?_
    refine z_ifne (tgt := 67) hx hb ⟨by omega, by omega⟩ dX10_undo_20 (by decide) (fun c_20 => ?_) (fun c_20 => ?_)
    · exact z_vret hC hr hlk hQ hP hD hS ⟨ms, mk, 1, (by exact ht.symm), (by rw [ht]; first | (rw [if_pos rfl, hs1, show i = 49 by omega]; done) | (rw [if_neg (by decide)]; done)), (by first | (rw [ht, if_pos rfl]; done) | (rw [ht, if_neg (by decide)]; done)), rfl⟩ dX10_undo_67
    · exact absurd c_20 (by decide)

abbrev wz_X10_savedStates : List Cond := .code yX10_savedStates cX10_savedStates 1 (some .int) :: W0
abbrev rm_X10_savedStates : Room := { frames := 0, cells := 0, slots := 0, locals := 0 }
theorem hd_X10_savedStates : yX10_savedStates.cls = RX10 ∧ yX10_savedStates.cls ≠ "java/lang/invoke/MethodHandle" ∧ yX10_savedStates.cls ≠ "java/lang/invoke/VarHandle" ∧ (parseMethodDescriptor yX10_savedStates.desc).map (fun d => d.parameters.length) = some 0 := by decide +kernel
set_option maxHeartbeats 4000000 in
set_option maxRecDepth 100000 in
theorem c_X10_savedStates (l : Launch) (D : va_G) (τ : Nat → Nat) (β : Nat → Nat) (δ : Nat → ClassId) (ms : IA) (mb : IA) (mo : IA) (mp : BA) (mf : IA) (mn : IA) (mi : IA) (mc : IA) (mq : BA) (mr : IA) (mw : IA) (mk : Int) (ml : Int) (mt : Int) (ma : Int) (mx : Bool) (mh : Int64) : cM l yX10_savedStates wz_X10_savedStates rm_X10_savedStates D τ (tyM δ) [.ref (β 0)] (wM β δ ms mb mo mp mf mn mi mc mq mr mw mk ml mt ma mx mh) (zQi (fun r w => ∃ (v : Int), (v = mk) ∧ r = zI v ∧ wM β δ ms mb mo mp mf mn mi mc mq mr mw mk ml 0 ma mx mh = w)) := by
  refine z_ofM (cc := cX10_savedStates) (maxL := 1) (ret := (some .int)) (by decide +kernel) rfl (Nat.le_of_ble_eq_true rfl) ?_
  intro pg e s m args below meth c hC hr hlk hnm hK hP A hD hG hA hS ls hl Q hQ
  have hx := hC.1
  have hb := hC.2.1
  have hml := hC.2.2.1
  have hown := hC.2.2.2.1
  have hts := hC.2.2.2.2
  have hB : ∀ w ∈ W0, w ∈ wz_X10_savedStates := fun _ h => List.mem_cons_of_mem _ h
  have hW0 : ∀ w ∈ W0, w.before args s = true := fun w h => hts w (hB w h)
  have hl : lv_has ls 1 [(0, .ref (β 0))] := hl
  refine lv_aload_n hx hb dX10_savedStates_0 rfl (lv_at hl 0 rfl) ?_
  refine lv_iconst (v := zI 0) hx hb dX10_savedStates_1 rfl ?_
  refine va_put (D := D) (ci := 10) (v := .int (zI 0)) (ty := .int) (C := RX10) (T := TX10) (N := 17) hx hb hts (fun w h => List.mem_cons_of_mem _ (wx_X10 w h)) tyX10 tyX10_ok nmX10 hown hK hP hD hS 0 rfl rfl 7 (by decide) (hW0 _ wf_X10_44) (fun _ h9 => h9) rfl (by decide +kernel) rfl rfl (Nat.le_of_ble_eq_true rfl) dX10_savedStates_2 (fun H locs hP hD hS => ?_)
  have hP : va_P D vwCl (wM β δ ms mb mo mp mf mn mi mc mq mr mw mk ml 0 ma mx mh) H := hP
  have hD : va_D A (wM β δ ms mb mo mp mf mn mi mc mq mr mw mk ml 0 ma mx mh) := hD
  refine lv_aload_n hx hb dX10_savedStates_5 rfl (lv_at hl 0 rfl) ?_
  refine va_get (D := D) (ci := 10) (v := .int (zI mk)) (C := RX10) (T := TX10) (N := 17) hx hb hts (fun w h => List.mem_cons_of_mem _ (wx_X10 w h)) hown hK hP 0 rfl rfl 2 (by decide) (hW0 _ wf_X10_52) (fun _ h9 => h9) rfl dX10_savedStates_6 ?_
  exact z_iret hC hr hlk hQ hP hD hS ⟨mk, (by first | assumption | rfl | omega), rfl, rfl⟩ dX10_savedStates_9

abbrev wz_X10_isThere : List Cond := .code yX10_isThere cX10_isThere 3 (some .boolean) :: W0
abbrev rm_X10_isThere : Room := { frames := 2, cells := 0, slots := 0, locals := 43 }
theorem hd_X10_isThere : yX10_isThere.cls = RX10 ∧ yX10_isThere.cls ≠ "java/lang/invoke/MethodHandle" ∧ yX10_isThere.cls ≠ "java/lang/invoke/VarHandle" ∧ (parseMethodDescriptor yX10_isThere.desc).map (fun d => d.parameters.length) = some 2 := by decide +kernel
set_option maxHeartbeats 4000000 in
set_option maxRecDepth 100000 in
theorem c_X10_isThere (l : Launch) (D : va_G) (τ : Nat → Nat) (β : Nat → Nat) (δ : Nat → ClassId) (ms : IA) (mb : IA) (mo : IA) (mp : BA) (mf : IA) (mn : IA) (mi : IA) (mc : IA) (mq : BA) (mr : IA) (mw : IA) (mk : Int) (ml : Int) (mt : Int) (ma : Int) (mx : Bool) (mh : Int64) (r9 : Int) (c9 : Int) (hr9 : -2147483648 ≤ r9 ∧ r9 < 2147483648) (hc9 : -2147483648 ≤ c9 ∧ c9 < 2147483648) : cM l yX10_isThere wz_X10_isThere rm_X10_isThere D τ (tyM δ) [.ref (β 0), .int (zI r9), .int (zI c9)] (wM β δ ms mb mo mp mf mn mi mc mq mr mw mk ml mt ma mx mh) (zQi (fun r w => ∃ (t2 : Int), ∃ (v : Bool), (v = true ↔ ((0 ≤ r9 ∧ r9 ≤ 6) ∧ (0 ≤ c9 ∧ c9 ≤ 6))) ∧ (t2 = S_tpt r9 c9) ∧ r = bI v ∧ wM β δ ms mb mo mp mf mn mi mc mq mr mw mk ml t2 ma mx mh = w)) := by
  refine z_ofM (cc := cX10_isThere) (maxL := 3) (ret := (some .boolean)) (by decide +kernel) rfl (Nat.le_of_ble_eq_true rfl) ?_
  intro pg e s m args below meth c hC hr hlk hnm hK hP A hD hG hA hS ls hl Q hQ
  have hx := hC.1
  have hb := hC.2.1
  have hml := hC.2.2.1
  have hown := hC.2.2.2.1
  have hts := hC.2.2.2.2
  have hB : ∀ w ∈ W0, w ∈ wz_X10_isThere := fun _ h => List.mem_cons_of_mem _ h
  have hW0 : ∀ w ∈ W0, w.before args s = true := fun w h => hts w (hB w h)
  have hl : lv_has ls 3 [(0, .ref (β 0)), (1, .int (zI r9)), (2, .int (zI c9))] := hl
  refine lv_aload_n hx hb dX10_isThere_0 rfl (lv_at hl 0 rfl) ?_
  refine lv_iload_n hx hb dX10_isThere_1 rfl (lv_at hl 1 rfl) ?_
  refine lv_iload_n hx hb dX10_isThere_2 rfl (lv_at hl 2 rfl) ?_
  refine z_calli hP hD hS hA (va_runS (As := [.int (zI r9), .int (zI c9)]) (rest := [.ref (β 0)]) hC (c_X10_isPoint l D τ _ _ r9 c9 (by first | assumption | rfl | omega) (by first | assumption | rfl | omega) _) (va_cwS 2 hts (gS hB wl_X10_55 wt_X10_isPoint wi_X10 wc_X10_isPoint) rfl rfl rfl hd_X10_isPoint.2 ⟨Nat.le_of_ble_eq_true rfl, Nat.le_of_ble_eq_true rfl⟩) (zp_S hK hP hD hS hA hG) rfl rfl hl.1 rfl (lv_room (Nat.le_of_ble_eq_true rfl)) dX10_isThere_3 ⟨Nat.le_of_ble_eq_true rfl, Nat.le_of_ble_eq_true rfl⟩) (fun r w1 H locs hq9 hP hD hS => ?_)
  obtain ⟨v3_1, hv3_0, rfl, rfl⟩ := hq9
  refine z_ifeqB (tgt := 13) hx hb dX10_isThere_6 (by decide) (fun c_6 => ?_) (fun c_6 => ?_)
  · have hb_6 := zb_neg hv3_0 c_6
    refine lv_iconst (v := zI 1) hx hb dX10_isThere_13 rfl ?_
    refine va_put (D := D) (ci := 10) (v := .int (zI 1)) (ty := .int) (C := RX10) (T := TX10) (N := 17) hx hb hts (fun w h => List.mem_cons_of_mem _ (wx_X10 w h)) tyX10 tyX10_ok nmX10 hown hK hP hD hS 0 rfl rfl 7 (by decide) (hW0 _ wf_X10_44) (fun _ h9 => h9) rfl (by decide +kernel) rfl rfl (Nat.le_of_ble_eq_true rfl) dX10_isThere_14 (fun H locs hP hD hS => ?_)
    have hP : va_P D vwCl (wM β δ ms mb mo mp mf mn mi mc mq mr mw mk ml 1 ma mx mh) H := hP
    have hD : va_D A (wM β δ ms mb mo mp mf mn mi mc mq mr mw mk ml 1 ma mx mh) := hD
    refine lv_aload_n hx hb dX10_isThere_17 rfl (lv_at hl 0 rfl) ?_
    refine va_get (D := D) (ci := 10) (v := .int (zI 1)) (C := RX10) (T := TX10) (N := 17) hx hb hts (fun w h => List.mem_cons_of_mem _ (wx_X10 w h)) hown hK hP 0 rfl rfl 7 (by decide) (hW0 _ wf_X10_44) (fun _ h9 => h9) rfl dX10_isThere_18 ?_
    refine z_ifne (tgt := 28) hx hb ⟨by omega, by omega⟩ dX10_isThere_21 (by decide) (fun c_21 => ?_) (fun c_21 => ?_)
    · refine lv_iconst (v := zI 0) hx hb dX10_isThere_28 rfl ?_
      refine W.eq (g2 := F0 m 29 ls [.int (bI false)]) rfl ?_
      exact z_zret hC hr hlk hQ hP hD hS ⟨1, false, (by first | exact zb_T hb_6 | exact zb_F hb_6), (by unfold S_tpt; first | (rw [if_pos hb_6]; done) | (rw [if_neg hb_6]; done)), rfl, rfl⟩ dX10_isThere_29
    · exact absurd c_21 (by decide)
  · have hb_6 := hv3_0.mp c_6
    refine lv_iconst (v := zI 0) hx hb dX10_isThere_9 rfl ?_
    refine lv_goto (tgt := 14) hx hb dX10_isThere_10 (by decide) ?_
    refine va_put (D := D) (ci := 10) (v := .int (zI 0)) (ty := .int) (C := RX10) (T := TX10) (N := 17) hx hb hts (fun w h => List.mem_cons_of_mem _ (wx_X10 w h)) tyX10 tyX10_ok nmX10 hown hK hP hD hS 0 rfl rfl 7 (by decide) (hW0 _ wf_X10_44) (fun _ h9 => h9) rfl (by decide +kernel) rfl rfl (Nat.le_of_ble_eq_true rfl) dX10_isThere_14 (fun H locs hP hD hS => ?_)
    have hP : va_P D vwCl (wM β δ ms mb mo mp mf mn mi mc mq mr mw mk ml 0 ma mx mh) H := hP
    have hD : va_D A (wM β δ ms mb mo mp mf mn mi mc mq mr mw mk ml 0 ma mx mh) := hD
    refine lv_aload_n hx hb dX10_isThere_17 rfl (lv_at hl 0 rfl) ?_
    refine va_get (D := D) (ci := 10) (v := .int (zI 0)) (C := RX10) (T := TX10) (N := 17) hx hb hts (fun w h => List.mem_cons_of_mem _ (wx_X10 w h)) hown hK hP 0 rfl rfl 7 (by decide) (hW0 _ wf_X10_44) (fun _ h9 => h9) rfl dX10_isThere_18 ?_
    refine z_ifne (tgt := 28) hx hb ⟨by omega, by omega⟩ dX10_isThere_21 (by decide) (fun c_21 => ?_) (fun c_21 => ?_)
    · exact absurd c_21 (by decide)
    · refine lv_iconst (v := zI 1) hx hb dX10_isThere_24 rfl ?_
      refine lv_goto (tgt := 29) hx hb dX10_isThere_25 (by decide) ?_
      refine W.eq (g2 := F0 m 29 ls [.int (bI true)]) rfl ?_
      exact z_zret hC hr hlk hQ hP hD hS ⟨0, true, (by first | exact zb_T hb_6 | exact zb_F hb_6), (by unfold S_tpt; first | (rw [if_pos hb_6]; done) | (rw [if_neg hb_6]; done)), rfl, rfl⟩ dX10_isThere_29

abbrev wz_X10_isLevel : List Cond := .code yX10_isLevel cX10_isLevel 2 (some .boolean) :: W0
abbrev rm_X10_isLevel : Room := { frames := 1, cells := 0, slots := 0, locals := 22 }
theorem hd_X10_isLevel : yX10_isLevel.cls = RX10 ∧ yX10_isLevel.cls ≠ "java/lang/invoke/MethodHandle" ∧ yX10_isLevel.cls ≠ "java/lang/invoke/VarHandle" ∧ (parseMethodDescriptor yX10_isLevel.desc).map (fun d => d.parameters.length) = some 1 := by decide +kernel
set_option maxHeartbeats 4000000 in
set_option maxRecDepth 100000 in
theorem c_X10_isLevel (l : Launch) (D : va_G) (τ : Nat → Nat) (β : Nat → Nat) (δ : Nat → ClassId) (ms : IA) (mb : IA) (mo : IA) (mp : BA) (mf : IA) (mn : IA) (mi : IA) (mc : IA) (mq : BA) (mr : IA) (mw : IA) (mk : Int) (ml : Int) (mt : Int) (ma : Int) (mx : Bool) (mh : Int64) (lv9 : Int) (hlv : -2147483648 ≤ lv9 ∧ lv9 < 2147483648) : cM l yX10_isLevel wz_X10_isLevel rm_X10_isLevel D τ (tyM δ) [.ref (β 0), .int (zI lv9)] (wM β δ ms mb mo mp mf mn mi mc mq mr mw mk ml mt ma mx mh) (zQi (fun r w => ∃ (t2 : Int), ∃ (v : Bool), (v = true ↔ (0 ≤ lv9 ∧ lv9 ≤ 98)) ∧ (t2 = S_tlev lv9) ∧ r = bI v ∧ wM β δ ms mb mo mp mf mn mi mc mq mr mw mk ml t2 ma mx mh = w)) := by
  refine z_ofM (cc := cX10_isLevel) (maxL := 2) (ret := (some .boolean)) (by decide +kernel) rfl (Nat.le_of_ble_eq_true rfl) ?_
  intro pg e s m args below meth c hC hr hlk hnm hK hP A hD hG hA hS ls hl Q hQ
  have hx := hC.1
  have hb := hC.2.1
  have hml := hC.2.2.1
  have hown := hC.2.2.2.1
  have hts := hC.2.2.2.2
  have hB : ∀ w ∈ W0, w ∈ wz_X10_isLevel := fun _ h => List.mem_cons_of_mem _ h
  have hW0 : ∀ w ∈ W0, w.before args s = true := fun w h => hts w (hB w h)
  have hl : lv_has ls 2 [(0, .ref (β 0)), (1, .int (zI lv9))] := hl
  refine lv_aload_n hx hb dX10_isLevel_0 rfl (lv_at hl 0 rfl) ?_
  refine lv_iload_n hx hb dX10_isLevel_1 rfl (lv_at hl 1 rfl) ?_
  refine lv_iconst (v := zI 0) hx hb dX10_isLevel_2 rfl ?_
  refine lv_bipush (v := zI 98) hx hb dX10_isLevel_3 (zI_b8 (by decide)) ?_
  refine z_calli hP hD hS hA (va_runS (As := [.int (zI lv9), .int (zI 0), .int (zI 98)]) (rest := [.ref (β 0)]) hC (c_X10_in l D τ _ _ lv9 0 98 (by first | assumption | rfl | omega) (by first | assumption | rfl | omega) (by first | assumption | rfl | omega) _) (va_cwS 3 hts (gS hB wl_X10_48 wt_X10_in wi_X10 wc_X10_in) rfl rfl rfl hd_X10_in.2 ⟨Nat.le_of_ble_eq_true rfl, Nat.le_of_ble_eq_true rfl⟩) (zp_S hK hP hD hS hA hG) rfl rfl hl.1 rfl (lv_room (Nat.le_of_ble_eq_true rfl)) dX10_isLevel_5 ⟨Nat.le_of_ble_eq_true rfl, Nat.le_of_ble_eq_true rfl⟩) (fun r w1 H locs hq9 hP hD hS => ?_)
  obtain ⟨v5_1, hv5_0, rfl, rfl⟩ := hq9
  refine z_ifeqB (tgt := 15) hx hb dX10_isLevel_8 (by decide) (fun c_8 => ?_) (fun c_8 => ?_)
  · have hb_8 := zb_neg hv5_0 c_8
    refine lv_iconst (v := zI 1) hx hb dX10_isLevel_15 rfl ?_
    refine va_put (D := D) (ci := 10) (v := .int (zI 1)) (ty := .int) (C := RX10) (T := TX10) (N := 17) hx hb hts (fun w h => List.mem_cons_of_mem _ (wx_X10 w h)) tyX10 tyX10_ok nmX10 hown hK hP hD hS 0 rfl rfl 7 (by decide) (hW0 _ wf_X10_44) (fun _ h9 => h9) rfl (by decide +kernel) rfl rfl (Nat.le_of_ble_eq_true rfl) dX10_isLevel_16 (fun H locs hP hD hS => ?_)
    have hP : va_P D vwCl (wM β δ ms mb mo mp mf mn mi mc mq mr mw mk ml 1 ma mx mh) H := hP
    have hD : va_D A (wM β δ ms mb mo mp mf mn mi mc mq mr mw mk ml 1 ma mx mh) := hD
    refine lv_aload_n hx hb dX10_isLevel_19 rfl (lv_at hl 0 rfl) ?_
    refine va_get (D := D) (ci := 10) (v := .int (zI 1)) (C := RX10) (T := TX10) (N := 17) hx hb hts (fun w h => List.mem_cons_of_mem _ (wx_X10 w h)) hown hK hP 0 rfl rfl 7 (by decide) (hW0 _ wf_X10_44) (fun _ h9 => h9) rfl dX10_isLevel_20 ?_
    refine z_ifne (tgt := 30) hx hb ⟨by omega, by omega⟩ dX10_isLevel_23 (by decide) (fun c_23 => ?_) (fun c_23 => ?_)
    · refine lv_iconst (v := zI 0) hx hb dX10_isLevel_30 rfl ?_
      refine W.eq (g2 := F0 m 31 ls [.int (bI false)]) rfl ?_
      exact z_zret hC hr hlk hQ hP hD hS ⟨1, false, (by first | exact zb_T hb_8 | exact zb_F hb_8), (by unfold S_tlev; first | (rw [if_pos hb_8]; done) | (rw [if_neg hb_8]; done)), rfl, rfl⟩ dX10_isLevel_31
    · exact absurd c_23 (by decide)
  · have hb_8 := hv5_0.mp c_8
    refine lv_iconst (v := zI 0) hx hb dX10_isLevel_11 rfl ?_
    refine lv_goto (tgt := 16) hx hb dX10_isLevel_12 (by decide) ?_
    refine va_put (D := D) (ci := 10) (v := .int (zI 0)) (ty := .int) (C := RX10) (T := TX10) (N := 17) hx hb hts (fun w h => List.mem_cons_of_mem _ (wx_X10 w h)) tyX10 tyX10_ok nmX10 hown hK hP hD hS 0 rfl rfl 7 (by decide) (hW0 _ wf_X10_44) (fun _ h9 => h9) rfl (by decide +kernel) rfl rfl (Nat.le_of_ble_eq_true rfl) dX10_isLevel_16 (fun H locs hP hD hS => ?_)
    have hP : va_P D vwCl (wM β δ ms mb mo mp mf mn mi mc mq mr mw mk ml 0 ma mx mh) H := hP
    have hD : va_D A (wM β δ ms mb mo mp mf mn mi mc mq mr mw mk ml 0 ma mx mh) := hD
    refine lv_aload_n hx hb dX10_isLevel_19 rfl (lv_at hl 0 rfl) ?_
    refine va_get (D := D) (ci := 10) (v := .int (zI 0)) (C := RX10) (T := TX10) (N := 17) hx hb hts (fun w h => List.mem_cons_of_mem _ (wx_X10 w h)) hown hK hP 0 rfl rfl 7 (by decide) (hW0 _ wf_X10_44) (fun _ h9 => h9) rfl dX10_isLevel_20 ?_
    refine z_ifne (tgt := 30) hx hb ⟨by omega, by omega⟩ dX10_isLevel_23 (by decide) (fun c_23 => ?_) (fun c_23 => ?_)
    · exact absurd c_23 (by decide)
    · refine lv_iconst (v := zI 1) hx hb dX10_isLevel_26 rfl ?_
      refine lv_goto (tgt := 31) hx hb dX10_isLevel_27 (by decide) ?_
      refine W.eq (g2 := F0 m 31 ls [.int (bI true)]) rfl ?_
      exact z_zret hC hr hlk hQ hP hD hS ⟨0, true, (by first | exact zb_T hb_8 | exact zb_F hb_8), (by unfold S_tlev; first | (rw [if_pos hb_8]; done) | (rw [if_neg hb_8]; done)), rfl, rfl⟩ dX10_isLevel_31

abbrev wz_X10_heightOf : List Cond := .code yX10_heightOf cX10_heightOf 3 (some .int) :: W0
abbrev rm_X10_heightOf : Room := { frames := 3, cells := 0, slots := 0, locals := 65 }
theorem hd_X10_heightOf : yX10_heightOf.cls = RX10 ∧ yX10_heightOf.cls ≠ "java/lang/invoke/MethodHandle" ∧ yX10_heightOf.cls ≠ "java/lang/invoke/VarHandle" ∧ (parseMethodDescriptor yX10_heightOf.desc).map (fun d => d.parameters.length) = some 2 := by decide +kernel
set_option maxHeartbeats 4000000 in
set_option maxRecDepth 100000 in
theorem c_X10_heightOf (l : Launch) (D : va_G) (τ : Nat → Nat) (β : Nat → Nat) (δ : Nat → ClassId) (ms : IA) (mb : IA) (mo : IA) (mp : BA) (mf : IA) (mn : IA) (mi : IA) (mc : IA) (mq : BA) (mr : IA) (mw : IA) (mk : Int) (ml : Int) (mt : Int) (ma : Int) (mx : Bool) (mh : Int64) (r9 : Int) (c9 : Int) (hr9 : -2147483648 ≤ r9 ∧ r9 < 2147483648) (hc9 : -2147483648 ≤ c9 ∧ c9 < 2147483648) : cM l yX10_heightOf wz_X10_heightOf rm_X10_heightOf D τ (tyM δ) [.ref (β 0), .int (zI r9), .int (zI c9)] (wM β δ ms mb mo mp mf mn mi mc mq mr mw mk ml mt ma mx mh) (zQi (fun r w => ∃ (t2 : Int), ∃ (v : Int), (t2 = S_tpt r9 c9) ∧ (t2 = 0 → v = ms (7 * r9 + c9)) ∧ r = zI v ∧ wM β δ ms mb mo mp mf mn mi mc mq mr mw mk ml t2 ma mx mh = w)) := by
  refine z_ofM (cc := cX10_heightOf) (maxL := 3) (ret := (some .int)) (by decide +kernel) rfl (Nat.le_of_ble_eq_true rfl) ?_
  intro pg e s m args below meth c hC hr hlk hnm hK hP A hD hG hA hS ls hl Q hQ
  have hx := hC.1
  have hb := hC.2.1
  have hml := hC.2.2.1
  have hown := hC.2.2.2.1
  have hts := hC.2.2.2.2
  have hB : ∀ w ∈ W0, w ∈ wz_X10_heightOf := fun _ h => List.mem_cons_of_mem _ h
  have hW0 : ∀ w ∈ W0, w.before args s = true := fun w h => hts w (hB w h)
  have hl : lv_has ls 3 [(0, .ref (β 0)), (1, .int (zI r9)), (2, .int (zI c9))] := hl
  refine lv_aload_n hx hb dX10_heightOf_0 rfl (lv_at hl 0 rfl) ?_
  refine lv_iload_n hx hb dX10_heightOf_1 rfl (lv_at hl 1 rfl) ?_
  refine lv_iload_n hx hb dX10_heightOf_2 rfl (lv_at hl 2 rfl) ?_
  refine z_calli hP hD hS hA (va_runV (As := [.int (zI r9), .int (zI c9)]) (rest := []) hC (c_X10_isThere l D τ β δ ms mb mo mp mf mn mi mc mq mr mw mk ml mt ma mx mh r9 c9 (by first | assumption | rfl | omega) (by first | assumption | rfl | omega) _) (cwV 2 hts (gV hB wl_X10_120 wn_X10_isThere ws_X10_isThere wi_X10 wc_X10_isThere) rfl rfl rfl hd_X10_isThere ⟨Nat.le_of_ble_eq_true rfl, Nat.le_of_ble_eq_true rfl⟩) (zp_V hK hP hD hS hA hG (ci := 10) (q0 := 0) rfl rfl rfl) rfl rfl hl.1 rfl (lv_room (Nat.le_of_ble_eq_true rfl)) dX10_heightOf_3 ⟨Nat.le_of_ble_eq_true rfl, Nat.le_of_ble_eq_true rfl⟩) (fun r w1 H locs hq9 hP hD hS => ?_)
  obtain ⟨t3_1, v3_2, hv3_0, hv3_1, rfl, rfl⟩ := hq9
  have hP : va_P D vwCl (wM β δ ms mb mo mp mf mn mi mc mq mr mw mk ml t3_1 ma mx mh) H := hP
  have hD : va_D A (wM β δ ms mb mo mp mf mn mi mc mq mr mw mk ml t3_1 ma mx mh) := hD
  refine z_ifeqB (tgt := 23) hx hb dX10_heightOf_6 (by decide) (fun c_6 => ?_) (fun c_6 => ?_)
  · have hb_6 := zb_neg hv3_0 c_6
    refine lv_iconst (v := zI 0) hx hb dX10_heightOf_23 rfl ?_
    exact z_iret hC hr hlk hQ hP hD hS ⟨t3_1, 0, (by exact hv3_1), (by first | exact fun _ => rfl | (intro h9; rw [hv3_1] at h9; unfold S_tpt at h9; rw [if_neg hb_6] at h9; exact absurd h9 (by decide))), rfl, rfl⟩ dX10_heightOf_24
  · have hb_6 := hv3_0.mp c_6
    refine lv_aload_n hx hb dX10_heightOf_9 rfl (lv_at hl 0 rfl) ?_
    refine va_get (D := D) (ci := 10) (v := .ref (β 1)) (C := RX10) (T := TX10) (N := 17) hx hb hts (fun w h => List.mem_cons_of_mem _ (wx_X10 w h)) hown hK hP 0 rfl rfl 0 (by decide) (hW0 _ wf_X10_7) (fun _ h9 => h9) rfl dX10_heightOf_10 ?_
    refine lv_bipush (v := zI 7) hx hb dX10_heightOf_13 (zI_b8 (by decide)) ?_
    refine lv_iload_n hx hb dX10_heightOf_15 rfl (lv_at hl 1 rfl) ?_
    refine z_imul hx hb dX10_heightOf_16 ?_
    refine lv_iload_n hx hb dX10_heightOf_17 rfl (lv_at hl 2 rfl) ?_
    refine z_iadd hx hb dX10_heightOf_18 ?_
    refine z_iald (f := ms) hx hb hK hP 1 0 rfl rfl ⟨⟨by omega, by omega⟩, by decide⟩ dX10_heightOf_19 ?_
    refine lv_goto (tgt := 24) hx hb dX10_heightOf_20 (by decide) ?_
    exact z_iret hC hr hlk hQ hP hD hS ⟨t3_1, ms ((7 * r9) + c9), (by exact hv3_1), (by first | exact fun _ => rfl | (intro h9; rw [hv3_1] at h9; unfold S_tpt at h9; rw [if_neg hb_6] at h9; exact absurd h9 (by decide))), rfl, rfl⟩ dX10_heightOf_24

abbrev wz_X10_highest : List Cond := .code yX10_highest cX10_highest 3 (some .int) :: W0
abbrev rm_X10_highest : Room := { frames := 0, cells := 0, slots := 0, locals := 0 }
theorem hd_X10_highest : yX10_highest.cls = RX10 ∧ yX10_highest.cls ≠ "java/lang/invoke/MethodHandle" ∧ yX10_highest.cls ≠ "java/lang/invoke/VarHandle" ∧ (parseMethodDescriptor yX10_highest.desc).map (fun d => d.parameters.length) = some 0 := by decide +kernel
set_option maxHeartbeats 4000000 in
set_option maxRecDepth 100000 in
theorem c_X10_highest (l : Launch) (D : va_G) (τ : Nat → Nat) (β : Nat → Nat) (δ : Nat → ClassId) (ms : IA) (mb : IA) (mo : IA) (mp : BA) (mf : IA) (mn : IA) (mi : IA) (mc : IA) (mq : BA) (mr : IA) (mw : IA) (mk : Int) (ml : Int) (mt : Int) (ma : Int) (mx : Bool) (mh : Int64) (hms : ∀ k, 0 ≤ k → k < 49 → 0 ≤ ms k ∧ ms k ≤ 99) : cM l yX10_highest wz_X10_highest rm_X10_highest D τ (tyM δ) [.ref (β 0)] (wM β δ ms mb mo mp mf mn mi mc mq mr mw mk ml mt ma mx mh) (zQi (fun r w => ∃ (v : Int), (v = S_arg ms 49) ∧ (0 ≤ v ∧ v < 49) ∧ r = zI v ∧ wM β δ ms mb mo mp mf mn mi mc mq mr mw mk ml mt ma mx mh = w)) := by
  refine z_ofM (cc := cX10_highest) (maxL := 3) (ret := (some .int)) (by decide +kernel) rfl (Nat.le_of_ble_eq_true rfl) ?_
  intro pg e s m args below meth c hC hr hlk hnm hK hP A hD hG hA hS ls hl Q hQ
  have hx := hC.1
  have hb := hC.2.1
  have hml := hC.2.2.1
  have hown := hC.2.2.2.1
  have hts := hC.2.2.2.2
  have hB : ∀ w ∈ W0, w ∈ wz_X10_highest := fun _ h => List.mem_cons_of_mem _ h
  have hW0 : ∀ w ∈ W0, w.before args s = true := fun w h => hts w (hB w h)
  have hl : lv_has ls 3 [(0, .ref (β 0))] := hl
  refine lv_iconst (v := zI 0) hx hb dX10_highest_0 rfl ?_
  refine lv_istore_n (lv' := [(1, .int (zI 0)), (0, .ref (β 0))]) hx hb dX10_highest_1 rfl hl (by decide) rfl (fun ls hl => ?_)
  refine lv_iconst (v := zI 1) hx hb dX10_highest_2 rfl ?_
  refine lv_istore_n (lv' := [(2, .int (zI 1)), (1, .int (zI 0)), (0, .ref (β 0))]) hx hb dX10_highest_3 rfl hl (by decide) rfl (fun ls hl => ?_)
  suffices HL_4 : ∀ (n_4 : Nat), ∀ (q : Int) (i : Int) (H : Heap) (locs : List Loc) (hP : va_P D vwCl (wM β δ ms mb mo mp mf mn mi mc mq mr mw mk ml mt ma mx mh) H) (hD : va_D A (wM β δ ms mb mo mp mf mn mi mc mq mr mw mk ml mt ma mx mh)) (hS : va_S A s.heap H locs) (ls : Array Slot) (hl : lv_has ls 3 [(1, .int (zI q)), (2, .int (zI i)), (0, .ref (β 0))]) (hi : 1 ≤ i ∧ i ≤ 49) (hq : q = S_arg ms i) (hqb : 0 ≤ q ∧ q < 49) (hm : (49 - i).toNat < n_4), W pg l e rm_X10_highest s m args below meth c H locs 0 0 Q (F0 m 4 ls []) from HL_4 _ 0 1 _ _ hP hD hS _ (lv_sub hl [1, 0, 2] rfl) (by first | assumption | rfl | omega) (by exact (S_arg_1 _).symm) (by first | assumption | rfl | omega) (Nat.lt_succ_self _)
  intro n_4
  induction n_4 with
  | zero => intro q i H locs hP hD hS ls hl hi hq hqb hm; exact absurd hm (Nat.not_lt_zero _)
  | succ n_4 ih_4 =>
    intro q i H locs hP hD hS ls hl hi hq hqb hm
    refine lv_iload_n hx hb dX10_highest_4 rfl (lv_at hl 1 rfl) ?_
    refine lv_bipush (v := zI 49) hx hb dX10_highest_5 (zI_b8 (by decide)) ?_
    refine z_icge (tgt := 37) hx hb ⟨by omega, by omega⟩ ⟨by omega, by omega⟩ dX10_highest_7 (by decide) (fun c_7 => ?_) (fun c_7 => ?_)
    · refine lv_iload_n hx hb dX10_highest_37 rfl (lv_at hl 0 rfl) ?_
      exact z_iret hC hr hlk hQ hP hD hS ⟨q, (by rw [hq, show i = 49 by omega]), (by omega), rfl, rfl⟩ dX10_highest_38
    · refine lv_aload_n hx hb dX10_highest_10 rfl (lv_at hl 2 rfl) ?_
      refine va_get (D := D) (ci := 10) (v := .ref (β 1)) (C := RX10) (T := TX10) (N := 17) hx hb hts (fun w h => List.mem_cons_of_mem _ (wx_X10 w h)) hown hK hP 0 rfl rfl 0 (by decide) (hW0 _ wf_X10_7) (fun _ h9 => h9) rfl dX10_highest_11 ?_
      refine lv_iload_n hx hb dX10_highest_14 rfl (lv_at hl 1 rfl) ?_
      refine z_iald (f := ms) hx hb hK hP 1 0 rfl rfl ⟨⟨by omega, by omega⟩, by decide⟩ dX10_highest_15 ?_
      have hb_15 := hms i (by omega) (by omega)
      refine lv_aload_n hx hb dX10_highest_16 rfl (lv_at hl 2 rfl) ?_
      refine va_get (D := D) (ci := 10) (v := .ref (β 1)) (C := RX10) (T := TX10) (N := 17) hx hb hts (fun w h => List.mem_cons_of_mem _ (wx_X10 w h)) hown hK hP 0 rfl rfl 0 (by decide) (hW0 _ wf_X10_7) (fun _ h9 => h9) rfl dX10_highest_17 ?_
      refine lv_iload_n hx hb dX10_highest_20 rfl (lv_at hl 0 rfl) ?_
      refine z_iald (f := ms) hx hb hK hP 1 0 rfl rfl ⟨⟨by omega, by omega⟩, by decide⟩ dX10_highest_21 ?_
      have hb_21 := hms q (by omega) (by omega)
      refine z_icle (tgt := 29) hx hb ⟨by omega, by omega⟩ ⟨by omega, by omega⟩ dX10_highest_22 (by decide) (fun c_22 => ?_) (fun c_22 => ?_)
      · refine lv_iload_n hx hb dX10_highest_29 rfl (lv_at hl 0 rfl) ?_
        refine lv_istore_n (lv' := [(1, .int (zI q)), (2, .int (zI i)), (0, .ref (β 0))]) hx hb dX10_highest_30 rfl hl (by decide) rfl (fun ls hl => ?_)
        refine z_iinc (k := 1) (v := i + 1) (lv' := [(2, .int (zI (i + 1))), (1, .int (zI q)), (0, .ref (β 0))]) hx hb dX10_highest_31 hl rfl rfl (by decide) rfl (fun ls hl => ?_)
        refine lv_goto (tgt := 4) hx hb dX10_highest_34 (by decide) ?_
        exact ih_4 q (i + 1) _ _ hP hD hS _ (lv_sub hl [1, 0, 2] rfl) (by first | assumption | rfl | omega) (by rw [S_arg_up (by omega), ← hq]; first | (rw [if_pos (by omega)]; done) | (rw [if_neg (by omega)]; done)) (by first | assumption | rfl | omega) (by omega)
      · refine lv_iload_n hx hb dX10_highest_25 rfl (lv_at hl 1 rfl) ?_
        refine lv_goto (tgt := 30) hx hb dX10_highest_26 (by decide) ?_
        refine lv_istore_n (lv' := [(1, .int (zI i)), (2, .int (zI i)), (0, .ref (β 0))]) hx hb dX10_highest_30 rfl hl (by decide) rfl (fun ls hl => ?_)
        refine z_iinc (k := 1) (v := i + 1) (lv' := [(2, .int (zI (i + 1))), (1, .int (zI i)), (0, .ref (β 0))]) hx hb dX10_highest_31 hl rfl rfl (by decide) rfl (fun ls hl => ?_)
        refine lv_goto (tgt := 4) hx hb dX10_highest_34 (by decide) ?_
        exact ih_4 i (i + 1) _ _ hP hD hS _ (lv_sub hl [1, 0, 2] rfl) (by first | assumption | rfl | omega) (by rw [S_arg_up (by omega), ← hq]; first | (rw [if_pos (by omega)]; done) | (rw [if_neg (by omega)]; done)) (by first | assumption | rfl | omega) (by omega)

abbrev wz_X10_summit : List Cond := .code yX10_summit cX10_summit 1 (some .int) :: W0
abbrev rm_X10_summit : Room := { frames := 1, cells := 0, slots := 0, locals := 22 }
theorem hd_X10_summit : yX10_summit.cls = RX10 ∧ yX10_summit.cls ≠ "java/lang/invoke/MethodHandle" ∧ yX10_summit.cls ≠ "java/lang/invoke/VarHandle" ∧ (parseMethodDescriptor yX10_summit.desc).map (fun d => d.parameters.length) = some 0 := by decide +kernel
set_option maxHeartbeats 4000000 in
set_option maxRecDepth 100000 in
theorem c_X10_summit (l : Launch) (D : va_G) (τ : Nat → Nat) (β : Nat → Nat) (δ : Nat → ClassId) (ms : IA) (mb : IA) (mo : IA) (mp : BA) (mf : IA) (mn : IA) (mi : IA) (mc : IA) (mq : BA) (mr : IA) (mw : IA) (mk : Int) (ml : Int) (mt : Int) (ma : Int) (mx : Bool) (mh : Int64) (hms : ∀ k, 0 ≤ k → k < 49 → 0 ≤ ms k ∧ ms k ≤ 99) : cM l yX10_summit wz_X10_summit rm_X10_summit D τ (tyM δ) [.ref (β 0)] (wM β δ ms mb mo mp mf mn mi mc mq mr mw mk ml mt ma mx mh) (zQi (fun r w => ∃ (v : Int), (v = S_arg ms 49) ∧ (0 ≤ v ∧ v < 49) ∧ r = zI v ∧ wM β δ ms mb mo mp mf mn mi mc mq mr mw mk ml 0 ma mx mh = w)) := by
  refine z_ofM (cc := cX10_summit) (maxL := 1) (ret := (some .int)) (by decide +kernel) rfl (Nat.le_of_ble_eq_true rfl) ?_
  intro pg e s m args below meth c hC hr hlk hnm hK hP A hD hG hA hS ls hl Q hQ
  have hx := hC.1
  have hb := hC.2.1
  have hml := hC.2.2.1
  have hown := hC.2.2.2.1
  have hts := hC.2.2.2.2
  have hB : ∀ w ∈ W0, w ∈ wz_X10_summit := fun _ h => List.mem_cons_of_mem _ h
  have hW0 : ∀ w ∈ W0, w.before args s = true := fun w h => hts w (hB w h)
  have hl : lv_has ls 1 [(0, .ref (β 0))] := hl
  refine lv_aload_n hx hb dX10_summit_0 rfl (lv_at hl 0 rfl) ?_
  refine lv_iconst (v := zI 0) hx hb dX10_summit_1 rfl ?_
  refine va_put (D := D) (ci := 10) (v := .int (zI 0)) (ty := .int) (C := RX10) (T := TX10) (N := 17) hx hb hts (fun w h => List.mem_cons_of_mem _ (wx_X10 w h)) tyX10 tyX10_ok nmX10 hown hK hP hD hS 0 rfl rfl 7 (by decide) (hW0 _ wf_X10_44) (fun _ h9 => h9) rfl (by decide +kernel) rfl rfl (Nat.le_of_ble_eq_true rfl) dX10_summit_2 (fun H locs hP hD hS => ?_)
  have hP : va_P D vwCl (wM β δ ms mb mo mp mf mn mi mc mq mr mw mk ml 0 ma mx mh) H := hP
  have hD : va_D A (wM β δ ms mb mo mp mf mn mi mc mq mr mw mk ml 0 ma mx mh) := hD
  refine lv_aload_n hx hb dX10_summit_5 rfl (lv_at hl 0 rfl) ?_
  refine z_calli hP hD hS hA (va_runV (As := []) (rest := []) hC (c_X10_highest l D τ β δ ms mb mo mp mf mn mi mc mq mr mw mk ml 0 ma mx mh (by first | assumption | rfl | omega) _) (cwV 0 hts (gV hB wl_X10_123 wn_X10_highest ws_X10_highest wi_X10 wc_X10_highest) rfl rfl rfl hd_X10_highest ⟨Nat.le_of_ble_eq_true rfl, Nat.le_of_ble_eq_true rfl⟩) (zp_V hK hP hD hS hA hG (ci := 10) (q0 := 0) rfl rfl rfl) rfl rfl hl.1 rfl (lv_room (Nat.le_of_ble_eq_true rfl)) dX10_summit_6 ⟨Nat.le_of_ble_eq_true rfl, Nat.le_of_ble_eq_true rfl⟩) (fun r w1 H locs hq9 hP hD hS => ?_)
  obtain ⟨v6_1, hv6_0, hv6_1, rfl, rfl⟩ := hq9
  have hP : va_P D vwCl (wM β δ ms mb mo mp mf mn mi mc mq mr mw mk ml 0 ma mx mh) H := hP
  have hD : va_D A (wM β δ ms mb mo mp mf mn mi mc mq mr mw mk ml 0 ma mx mh) := hD
  exact z_iret hC hr hlk hQ hP hD hS ⟨v6_1, (by first | assumption | rfl | omega), (by first | assumption | rfl | omega), rfl, rfl⟩ dX10_summit_9

abbrev wz_X10_sum : List Cond := .code yX10_sum cX10_sum 3 (some .int) :: W0
abbrev rm_X10_sum : Room := { frames := 0, cells := 0, slots := 0, locals := 0 }
theorem hd_X10_sum : yX10_sum.cls = RX10 ∧ yX10_sum.cls ≠ "java/lang/invoke/MethodHandle" ∧ yX10_sum.cls ≠ "java/lang/invoke/VarHandle" ∧ (parseMethodDescriptor yX10_sum.desc).map (fun d => d.parameters.length) = some 0 := by decide +kernel
set_option maxHeartbeats 4000000 in
set_option maxRecDepth 100000 in
theorem c_X10_sum (l : Launch) (D : va_G) (τ : Nat → Nat) (β : Nat → Nat) (δ : Nat → ClassId) (ms : IA) (mb : IA) (mo : IA) (mp : BA) (mf : IA) (mn : IA) (mi : IA) (mc : IA) (mq : BA) (mr : IA) (mw : IA) (mk : Int) (ml : Int) (mt : Int) (ma : Int) (mx : Bool) (mh : Int64) (hms : ∀ k, 0 ≤ k → k < 49 → 0 ≤ ms k ∧ ms k ≤ 99) : cM l yX10_sum wz_X10_sum rm_X10_sum D τ (tyM δ) [.ref (β 0)] (wM β δ ms mb mo mp mf mn mi mc mq mr mw mk ml mt ma mx mh) (zQi (fun r w => ∃ (v : Int), (v = zS ms 49) ∧ (0 ≤ v ∧ v ≤ 4851) ∧ r = zI v ∧ wM β δ ms mb mo mp mf mn mi mc mq mr mw mk ml mt ma mx mh = w)) := by
  refine z_ofM (cc := cX10_sum) (maxL := 3) (ret := (some .int)) (by decide +kernel) rfl (Nat.le_of_ble_eq_true rfl) ?_
  intro pg e s m args below meth c hC hr hlk hnm hK hP A hD hG hA hS ls hl Q hQ
  have hx := hC.1
  have hb := hC.2.1
  have hml := hC.2.2.1
  have hown := hC.2.2.2.1
  have hts := hC.2.2.2.2
  have hB : ∀ w ∈ W0, w ∈ wz_X10_sum := fun _ h => List.mem_cons_of_mem _ h
  have hW0 : ∀ w ∈ W0, w.before args s = true := fun w h => hts w (hB w h)
  have hl : lv_has ls 3 [(0, .ref (β 0))] := hl
  refine lv_iconst (v := zI 0) hx hb dX10_sum_0 rfl ?_
  refine lv_istore_n (lv' := [(1, .int (zI 0)), (0, .ref (β 0))]) hx hb dX10_sum_1 rfl hl (by decide) rfl (fun ls hl => ?_)
  refine lv_iconst (v := zI 0) hx hb dX10_sum_2 rfl ?_
  refine lv_istore_n (lv' := [(2, .int (zI 0)), (1, .int (zI 0)), (0, .ref (β 0))]) hx hb dX10_sum_3 rfl hl (by decide) rfl (fun ls hl => ?_)
  suffices HL_4 : ∀ (n_4 : Nat), ∀ (g : Int) (i : Int) (H : Heap) (locs : List Loc) (hP : va_P D vwCl (wM β δ ms mb mo mp mf mn mi mc mq mr mw mk ml mt ma mx mh) H) (hD : va_D A (wM β δ ms mb mo mp mf mn mi mc mq mr mw mk ml mt ma mx mh)) (hS : va_S A s.heap H locs) (ls : Array Slot) (hl : lv_has ls 3 [(1, .int (zI g)), (2, .int (zI i)), (0, .ref (β 0))]) (hi : 0 ≤ i ∧ i ≤ 49) (hg : g = zS ms i) (hgb : 0 ≤ g ∧ g ≤ 99 * i) (hm : (49 - i).toNat < n_4), W pg l e rm_X10_sum s m args below meth c H locs 0 0 Q (F0 m 4 ls []) from HL_4 _ 0 0 _ _ hP hD hS _ (lv_sub hl [1, 0, 2] rfl) (by first | assumption | rfl | omega) (by exact (zS_0 _).symm) (by first | assumption | rfl | omega) (Nat.lt_succ_self _)
  intro n_4
  induction n_4 with
  | zero => intro g i H locs hP hD hS ls hl hi hg hgb hm; exact absurd hm (Nat.not_lt_zero _)
  | succ n_4 ih_4 =>
    intro g i H locs hP hD hS ls hl hi hg hgb hm
    refine lv_iload_n hx hb dX10_sum_4 rfl (lv_at hl 1 rfl) ?_
    refine lv_bipush (v := zI 49) hx hb dX10_sum_5 (zI_b8 (by decide)) ?_
    refine z_icge (tgt := 25) hx hb ⟨by omega, by omega⟩ ⟨by omega, by omega⟩ dX10_sum_7 (by decide) (fun c_7 => ?_) (fun c_7 => ?_)
    · refine lv_iload_n hx hb dX10_sum_25 rfl (lv_at hl 0 rfl) ?_
      exact z_iret hC hr hlk hQ hP hD hS ⟨g, (by rw [hg, show i = 49 by omega]), (by omega), rfl, rfl⟩ dX10_sum_26
    · refine lv_iload_n hx hb dX10_sum_10 rfl (lv_at hl 0 rfl) ?_
      refine lv_aload_n hx hb dX10_sum_11 rfl (lv_at hl 2 rfl) ?_
      refine va_get (D := D) (ci := 10) (v := .ref (β 1)) (C := RX10) (T := TX10) (N := 17) hx hb hts (fun w h => List.mem_cons_of_mem _ (wx_X10 w h)) hown hK hP 0 rfl rfl 0 (by decide) (hW0 _ wf_X10_7) (fun _ h9 => h9) rfl dX10_sum_12 ?_
      refine lv_iload_n hx hb dX10_sum_15 rfl (lv_at hl 1 rfl) ?_
      refine z_iald (f := ms) hx hb hK hP 1 0 rfl rfl ⟨⟨by omega, by omega⟩, by decide⟩ dX10_sum_16 ?_
      have hb_16 := hms i (by omega) (by omega)
      refine z_iadd hx hb dX10_sum_17 ?_
      refine lv_istore_n (lv' := [(1, .int (zI (g + (ms i)))), (2, .int (zI i)), (0, .ref (β 0))]) hx hb dX10_sum_18 rfl hl (by decide) rfl (fun ls hl => ?_)
      refine z_iinc (k := 1) (v := i + 1) (lv' := [(2, .int (zI (i + 1))), (1, .int (zI (g + (ms i)))), (0, .ref (β 0))]) hx hb dX10_sum_19 hl rfl rfl (by decide) rfl (fun ls hl => ?_)
      refine lv_goto (tgt := 4) hx hb dX10_sum_22 (by decide) ?_
      exact ih_4 (g + (ms i)) (i + 1) _ _ hP hD hS _ (lv_sub hl [1, 0, 2] rfl) (by first | assumption | rfl | omega) (by rw [zS_up hi.1, ← hg]) (by first | assumption | rfl | omega) (by omega)

abbrev wz_X10_bulk : List Cond := .code yX10_bulk cX10_bulk 1 (some .int) :: W0
abbrev rm_X10_bulk : Room := { frames := 1, cells := 0, slots := 0, locals := 22 }
theorem hd_X10_bulk : yX10_bulk.cls = RX10 ∧ yX10_bulk.cls ≠ "java/lang/invoke/MethodHandle" ∧ yX10_bulk.cls ≠ "java/lang/invoke/VarHandle" ∧ (parseMethodDescriptor yX10_bulk.desc).map (fun d => d.parameters.length) = some 0 := by decide +kernel
set_option maxHeartbeats 4000000 in
set_option maxRecDepth 100000 in
theorem c_X10_bulk (l : Launch) (D : va_G) (τ : Nat → Nat) (β : Nat → Nat) (δ : Nat → ClassId) (ms : IA) (mb : IA) (mo : IA) (mp : BA) (mf : IA) (mn : IA) (mi : IA) (mc : IA) (mq : BA) (mr : IA) (mw : IA) (mk : Int) (ml : Int) (mt : Int) (ma : Int) (mx : Bool) (mh : Int64) (hms : ∀ k, 0 ≤ k → k < 49 → 0 ≤ ms k ∧ ms k ≤ 99) : cM l yX10_bulk wz_X10_bulk rm_X10_bulk D τ (tyM δ) [.ref (β 0)] (wM β δ ms mb mo mp mf mn mi mc mq mr mw mk ml mt ma mx mh) (zQi (fun r w => ∃ (v : Int), (v = zS ms 49) ∧ (0 ≤ v ∧ v ≤ 4851) ∧ r = zI v ∧ wM β δ ms mb mo mp mf mn mi mc mq mr mw mk ml 0 ma mx mh = w)) := by
  refine z_ofM (cc := cX10_bulk) (maxL := 1) (ret := (some .int)) (by decide +kernel) rfl (Nat.le_of_ble_eq_true rfl) ?_
  intro pg e s m args below meth c hC hr hlk hnm hK hP A hD hG hA hS ls hl Q hQ
  have hx := hC.1
  have hb := hC.2.1
  have hml := hC.2.2.1
  have hown := hC.2.2.2.1
  have hts := hC.2.2.2.2
  have hB : ∀ w ∈ W0, w ∈ wz_X10_bulk := fun _ h => List.mem_cons_of_mem _ h
  have hW0 : ∀ w ∈ W0, w.before args s = true := fun w h => hts w (hB w h)
  have hl : lv_has ls 1 [(0, .ref (β 0))] := hl
  refine lv_aload_n hx hb dX10_bulk_0 rfl (lv_at hl 0 rfl) ?_
  refine lv_iconst (v := zI 0) hx hb dX10_bulk_1 rfl ?_
  refine va_put (D := D) (ci := 10) (v := .int (zI 0)) (ty := .int) (C := RX10) (T := TX10) (N := 17) hx hb hts (fun w h => List.mem_cons_of_mem _ (wx_X10 w h)) tyX10 tyX10_ok nmX10 hown hK hP hD hS 0 rfl rfl 7 (by decide) (hW0 _ wf_X10_44) (fun _ h9 => h9) rfl (by decide +kernel) rfl rfl (Nat.le_of_ble_eq_true rfl) dX10_bulk_2 (fun H locs hP hD hS => ?_)
  have hP : va_P D vwCl (wM β δ ms mb mo mp mf mn mi mc mq mr mw mk ml 0 ma mx mh) H := hP
  have hD : va_D A (wM β δ ms mb mo mp mf mn mi mc mq mr mw mk ml 0 ma mx mh) := hD
  refine lv_aload_n hx hb dX10_bulk_5 rfl (lv_at hl 0 rfl) ?_
  refine z_calli hP hD hS hA (va_runV (As := []) (rest := []) hC (c_X10_sum l D τ β δ ms mb mo mp mf mn mi mc mq mr mw mk ml 0 ma mx mh (by first | assumption | rfl | omega) _) (cwV 0 hts (gV hB wl_X10_126 wn_X10_sum ws_X10_sum wi_X10 wc_X10_sum) rfl rfl rfl hd_X10_sum ⟨Nat.le_of_ble_eq_true rfl, Nat.le_of_ble_eq_true rfl⟩) (zp_V hK hP hD hS hA hG (ci := 10) (q0 := 0) rfl rfl rfl) rfl rfl hl.1 rfl (lv_room (Nat.le_of_ble_eq_true rfl)) dX10_bulk_6 ⟨Nat.le_of_ble_eq_true rfl, Nat.le_of_ble_eq_true rfl⟩) (fun r w1 H locs hq9 hP hD hS => ?_)
  obtain ⟨v6_1, hv6_0, hv6_1, rfl, rfl⟩ := hq9
  have hP : va_P D vwCl (wM β δ ms mb mo mp mf mn mi mc mq mr mw mk ml 0 ma mx mh) H := hP
  have hD : va_D A (wM β δ ms mb mo mp mf mn mi mc mq mr mw mk ml 0 ma mx mh) := hD
  exact z_iret hC hr hlk hQ hP hD hS ⟨v6_1, (by first | assumption | rfl | omega), (by first | assumption | rfl | omega), rfl, rfl⟩ dX10_bulk_9

abbrev wz_X10_isAbove : List Cond := .code yX10_isAbove cX10_isAbove 3 (some .boolean) :: W0
abbrev rm_X10_isAbove : Room := { frames := 0, cells := 0, slots := 0, locals := 0 }
theorem hd_X10_isAbove : yX10_isAbove.cls = RX10 ∧ yX10_isAbove.cls ≠ "java/lang/invoke/MethodHandle" ∧ yX10_isAbove.cls ≠ "java/lang/invoke/VarHandle" ∧ (parseMethodDescriptor yX10_isAbove.desc).map (fun d => d.parameters.length) = some 2 := by decide +kernel
set_option maxHeartbeats 4000000 in
set_option maxRecDepth 100000 in
theorem c_X10_isAbove (l : Launch) (D : va_G) (τ : Nat → Nat) (β : Nat → Nat) (δ : Nat → ClassId) (ms : IA) (mb : IA) (mo : IA) (mp : BA) (mf : IA) (mn : IA) (mi : IA) (mc : IA) (mq : BA) (mr : IA) (mw : IA) (mk : Int) (ml : Int) (mt : Int) (ma : Int) (mx : Bool) (mh : Int64) (p : Int) (lv9 : Int) (hp : 0 ≤ p ∧ p < 49) (hlv : 0 ≤ lv9 ∧ lv9 ≤ 98) (hms : ∀ k, 0 ≤ k → k < 49 → 0 ≤ ms k ∧ ms k ≤ 99) : cM l yX10_isAbove wz_X10_isAbove rm_X10_isAbove D τ (tyM δ) [.ref (β 0), .int (zI p), .int (zI lv9)] (wM β δ ms mb mo mp mf mn mi mc mq mr mw mk ml mt ma mx mh) (zQi (fun r w => ∃ (v : Bool), (v = S_hi ms lv9 p) ∧ r = bI v ∧ wM β δ ms mb mo mp mf mn mi mc mq mr mw mk ml mt ma mx mh = w)) := by
  refine z_ofM (cc := cX10_isAbove) (maxL := 3) (ret := (some .boolean)) (by decide +kernel) rfl (Nat.le_of_ble_eq_true rfl) ?_
  intro pg e s m args below meth c hC hr hlk hnm hK hP A hD hG hA hS ls hl Q hQ
  have hx := hC.1
  have hb := hC.2.1
  have hml := hC.2.2.1
  have hown := hC.2.2.2.1
  have hts := hC.2.2.2.2
  have hB : ∀ w ∈ W0, w ∈ wz_X10_isAbove := fun _ h => List.mem_cons_of_mem _ h
  have hW0 : ∀ w ∈ W0, w.before args s = true := fun w h => hts w (hB w h)
  have hl : lv_has ls 3 [(0, .ref (β 0)), (1, .int (zI p)), (2, .int (zI lv9))] := hl
  refine lv_aload_n hx hb dX10_isAbove_0 rfl (lv_at hl 0 rfl) ?_
  refine va_get (D := D) (ci := 10) (v := .ref (β 1)) (C := RX10) (T := TX10) (N := 17) hx hb hts (fun w h => List.mem_cons_of_mem _ (wx_X10 w h)) hown hK hP 0 rfl rfl 0 (by decide) (hW0 _ wf_X10_7) (fun _ h9 => h9) rfl dX10_isAbove_1 ?_
  refine lv_iload_n hx hb dX10_isAbove_4 rfl (lv_at hl 1 rfl) ?_
  refine z_iald (f := ms) hx hb hK hP 1 0 rfl rfl ⟨⟨by omega, by omega⟩, by decide⟩ dX10_isAbove_5 ?_
  have hb_5 := hms p (by omega) (by omega)
  refine lv_iload_n hx hb dX10_isAbove_6 rfl (lv_at hl 2 rfl) ?_
  refine z_icle (tgt := 14) hx hb ⟨by omega, by omega⟩ ⟨by omega, by omega⟩ dX10_isAbove_7 (by decide) (fun c_7 => ?_) (fun c_7 => ?_)
  · refine lv_iconst (v := zI 0) hx hb dX10_isAbove_14 rfl ?_
    refine W.eq (g2 := F0 m 15 ls [.int (bI false)]) rfl ?_
    exact z_zret hC hr hlk hQ hP hD hS ⟨false, (by unfold S_hi; first | exact (decide_eq_true (by omega)).symm | exact (decide_eq_false (by omega)).symm), rfl, rfl⟩ dX10_isAbove_15
  · refine lv_iconst (v := zI 1) hx hb dX10_isAbove_10 rfl ?_
    refine lv_goto (tgt := 15) hx hb dX10_isAbove_11 (by decide) ?_
    refine W.eq (g2 := F0 m 15 ls [.int (bI true)]) rfl ?_
    exact z_zret hC hr hlk hQ hP hD hS ⟨true, (by unfold S_hi; first | exact (decide_eq_true (by omega)).symm | exact (decide_eq_false (by omega)).symm), rfl, rfl⟩ dX10_isAbove_15

abbrev wz_X10_above : List Cond := .code yX10_above cX10_above 4 (some .int) :: W0
abbrev rm_X10_above : Room := { frames := 1, cells := 0, slots := 0, locals := 22 }
theorem hd_X10_above : yX10_above.cls = RX10 ∧ yX10_above.cls ≠ "java/lang/invoke/MethodHandle" ∧ yX10_above.cls ≠ "java/lang/invoke/VarHandle" ∧ (parseMethodDescriptor yX10_above.desc).map (fun d => d.parameters.length) = some 1 := by decide +kernel
set_option maxHeartbeats 4000000 in
set_option maxRecDepth 100000 in
theorem c_X10_above (l : Launch) (D : va_G) (τ : Nat → Nat) (β : Nat → Nat) (δ : Nat → ClassId) (ms : IA) (mb : IA) (mo : IA) (mp : BA) (mf : IA) (mn : IA) (mi : IA) (mc : IA) (mq : BA) (mr : IA) (mw : IA) (mk : Int) (ml : Int) (mt : Int) (ma : Int) (mx : Bool) (mh : Int64) (lv9 : Int) (hlv : 0 ≤ lv9 ∧ lv9 ≤ 98) (hms : ∀ k, 0 ≤ k → k < 49 → 0 ≤ ms k ∧ ms k ≤ 99) : cM l yX10_above wz_X10_above rm_X10_above D τ (tyM δ) [.ref (β 0), .int (zI lv9)] (wM β δ ms mb mo mp mf mn mi mc mq mr mw mk ml mt ma mx mh) (zQi (fun r w => ∃ (v : Int), (v = zC (S_hi ms lv9) 49) ∧ (0 ≤ v ∧ v ≤ 49) ∧ r = zI v ∧ wM β δ ms mb mo mp mf mn mi mc mq mr mw mk ml mt ma mx mh = w)) := by
  refine z_ofM (cc := cX10_above) (maxL := 4) (ret := (some .int)) (by decide +kernel) rfl (Nat.le_of_ble_eq_true rfl) ?_
  intro pg e s m args below meth c hC hr hlk hnm hK hP A hD hG hA hS ls hl Q hQ
  have hx := hC.1
  have hb := hC.2.1
  have hml := hC.2.2.1
  have hown := hC.2.2.2.1
  have hts := hC.2.2.2.2
  have hB : ∀ w ∈ W0, w ∈ wz_X10_above := fun _ h => List.mem_cons_of_mem _ h
  have hW0 : ∀ w ∈ W0, w.before args s = true := fun w h => hts w (hB w h)
  have hl : lv_has ls 4 [(0, .ref (β 0)), (1, .int (zI lv9))] := hl
  refine lv_iconst (v := zI 0) hx hb dX10_above_0 rfl ?_
  refine lv_istore_n (lv' := [(2, .int (zI 0)), (0, .ref (β 0)), (1, .int (zI lv9))]) hx hb dX10_above_1 rfl hl (by decide) rfl (fun ls hl => ?_)
  refine lv_iconst (v := zI 0) hx hb dX10_above_2 rfl ?_
  refine lv_istore_n (lv' := [(3, .int (zI 0)), (2, .int (zI 0)), (0, .ref (β 0)), (1, .int (zI lv9))]) hx hb dX10_above_3 rfl hl (by decide) rfl (fun ls hl => ?_)
  suffices HL_4 : ∀ (n_4 : Nat), ∀ (g : Int) (i : Int) (H : Heap) (locs : List Loc) (hP : va_P D vwCl (wM β δ ms mb mo mp mf mn mi mc mq mr mw mk ml mt ma mx mh) H) (hD : va_D A (wM β δ ms mb mo mp mf mn mi mc mq mr mw mk ml mt ma mx mh)) (hS : va_S A s.heap H locs) (ls : Array Slot) (hl : lv_has ls 4 [(2, .int (zI g)), (3, .int (zI i)), (0, .ref (β 0)), (1, .int (zI lv9))]) (hi : 0 ≤ i ∧ i ≤ 49) (hg : g = zC (S_hi ms lv9) i) (hgb : 0 ≤ g ∧ g ≤ i) (hm : (49 - i).toNat < n_4), W pg l e rm_X10_above s m args below meth c H locs 0 0 Q (F0 m 4 ls []) from HL_4 _ 0 0 _ _ hP hD hS _ (lv_sub hl [1, 0, 2, 3] rfl) (by first | assumption | rfl | omega) (by exact (zC_0 _).symm) (by first | assumption | rfl | omega) (Nat.lt_succ_self _)
  intro n_4
  induction n_4 with
  | zero => intro g i H locs hP hD hS ls hl hi hg hgb hm; exact absurd hm (Nat.not_lt_zero _)
  | succ n_4 ih_4 =>
    intro g i H locs hP hD hS ls hl hi hg hgb hm
    refine lv_iload_n hx hb dX10_above_4 rfl (lv_at hl 1 rfl) ?_
    refine lv_bipush (v := zI 49) hx hb dX10_above_5 (zI_b8 (by decide)) ?_
    refine z_icge (tgt := 33) hx hb ⟨by omega, by omega⟩ ⟨by omega, by omega⟩ dX10_above_7 (by decide) (fun c_7 => ?_) (fun c_7 => ?_)
    · refine lv_iload_n hx hb dX10_above_33 rfl (lv_at hl 0 rfl) ?_
      exact z_iret hC hr hlk hQ hP hD hS ⟨g, (by rw [hg, show i = 49 by omega]), (by omega), rfl, rfl⟩ dX10_above_34
    · refine lv_iload_n hx hb dX10_above_10 rfl (lv_at hl 0 rfl) ?_
      refine lv_aload_n hx hb dX10_above_11 rfl (lv_at hl 2 rfl) ?_
      refine lv_iload_n hx hb dX10_above_12 rfl (lv_at hl 1 rfl) ?_
      refine lv_iload_n hx hb dX10_above_13 rfl (lv_at hl 3 rfl) ?_
      refine z_calli hP hD hS hA (va_runV (As := [.int (zI i), .int (zI lv9)]) (rest := [.int (zI g)]) hC (c_X10_isAbove l D τ β δ ms mb mo mp mf mn mi mc mq mr mw mk ml mt ma mx mh i lv9 (by first | assumption | rfl | omega) (by first | assumption | rfl | omega) (by first | assumption | rfl | omega) _) (cwV 2 hts (gV hB wl_X10_129 wn_X10_isAbove ws_X10_isAbove wi_X10 wc_X10_isAbove) rfl rfl rfl hd_X10_isAbove ⟨Nat.le_of_ble_eq_true rfl, Nat.le_of_ble_eq_true rfl⟩) (zp_V hK hP hD hS hA hG (ci := 10) (q0 := 0) rfl rfl rfl) rfl rfl hl.1 rfl (lv_room (Nat.le_of_ble_eq_true rfl)) dX10_above_14 ⟨Nat.le_of_ble_eq_true rfl, Nat.le_of_ble_eq_true rfl⟩) (fun r w1 H locs hq9 hP hD hS => ?_)
      obtain ⟨v14_1, hv14_0, rfl, rfl⟩ := hq9
      have hP : va_P D vwCl (wM β δ ms mb mo mp mf mn mi mc mq mr mw mk ml mt ma mx mh) H := hP
      have hD : va_D A (wM β δ ms mb mo mp mf mn mi mc mq mr mw mk ml mt ma mx mh) := hD
      refine z_ifeqB (tgt := 24) hx hb dX10_above_17 (by decide) (fun c_17 => ?_) (fun c_17 => ?_)
      · refine lv_iconst (v := zI 0) hx hb dX10_above_24 rfl ?_
        refine z_iadd hx hb dX10_above_25 ?_
        refine lv_istore_n (lv' := [(2, .int (zI (g + 0))), (3, .int (zI i)), (0, .ref (β 0)), (1, .int (zI lv9))]) hx hb dX10_above_26 rfl hl (by decide) rfl (fun ls hl => ?_)
        refine z_iinc (k := 1) (v := i + 1) (lv' := [(3, .int (zI (i + 1))), (2, .int (zI (g + 0))), (0, .ref (β 0)), (1, .int (zI lv9))]) hx hb dX10_above_27 hl rfl rfl (by decide) rfl (fun ls hl => ?_)
        refine lv_goto (tgt := 4) hx hb dX10_above_30 (by decide) ?_
        exact ih_4 (g + 0) (i + 1) _ _ hP hD hS _ (lv_sub hl [1, 0, 2, 3] rfl) (by first | assumption | rfl | omega) (by rw [zC_up hi.1, ← hg]; first | (rw [z1_t (hv14_0.symm.trans c_17)]; done) | (rw [z1_f (hv14_0.symm.trans c_17)]; done)) (by first | assumption | rfl | omega) (by omega)
      · refine lv_iconst (v := zI 1) hx hb dX10_above_20 rfl ?_
        refine lv_goto (tgt := 25) hx hb dX10_above_21 (by decide) ?_
        refine z_iadd hx hb dX10_above_25 ?_
        refine lv_istore_n (lv' := [(2, .int (zI (g + 1))), (3, .int (zI i)), (0, .ref (β 0)), (1, .int (zI lv9))]) hx hb dX10_above_26 rfl hl (by decide) rfl (fun ls hl => ?_)
        refine z_iinc (k := 1) (v := i + 1) (lv' := [(3, .int (zI (i + 1))), (2, .int (zI (g + 1))), (0, .ref (β 0)), (1, .int (zI lv9))]) hx hb dX10_above_27 hl rfl rfl (by decide) rfl (fun ls hl => ?_)
        refine lv_goto (tgt := 4) hx hb dX10_above_30 (by decide) ?_
        exact ih_4 (g + 1) (i + 1) _ _ hP hD hS _ (lv_sub hl [1, 0, 2, 3] rfl) (by first | assumption | rfl | omega) (by rw [zC_up hi.1, ← hg]; first | (rw [z1_t (hv14_0.symm.trans c_17)]; done) | (rw [z1_f (hv14_0.symm.trans c_17)]; done)) (by first | assumption | rfl | omega) (by omega)

abbrev wz_X10_pointsAbove : List Cond := .code yX10_pointsAbove cX10_pointsAbove 2 (some .int) :: W0
abbrev rm_X10_pointsAbove : Room := { frames := 2, cells := 0, slots := 0, locals := 45 }
theorem hd_X10_pointsAbove : yX10_pointsAbove.cls = RX10 ∧ yX10_pointsAbove.cls ≠ "java/lang/invoke/MethodHandle" ∧ yX10_pointsAbove.cls ≠ "java/lang/invoke/VarHandle" ∧ (parseMethodDescriptor yX10_pointsAbove.desc).map (fun d => d.parameters.length) = some 1 := by decide +kernel
set_option maxHeartbeats 4000000 in
set_option maxRecDepth 100000 in
theorem c_X10_pointsAbove (l : Launch) (D : va_G) (τ : Nat → Nat) (β : Nat → Nat) (δ : Nat → ClassId) (ms : IA) (mb : IA) (mo : IA) (mp : BA) (mf : IA) (mn : IA) (mi : IA) (mc : IA) (mq : BA) (mr : IA) (mw : IA) (mk : Int) (ml : Int) (mt : Int) (ma : Int) (mx : Bool) (mh : Int64) (lv9 : Int) (hlv : -2147483648 ≤ lv9 ∧ lv9 < 2147483648) (hms : ∀ k, 0 ≤ k → k < 49 → 0 ≤ ms k ∧ ms k ≤ 99) : cM l yX10_pointsAbove wz_X10_pointsAbove rm_X10_pointsAbove D τ (tyM δ) [.ref (β 0), .int (zI lv9)] (wM β δ ms mb mo mp mf mn mi mc mq mr mw mk ml mt ma mx mh) (zQi (fun r w => ∃ (t2 : Int), ∃ (v : Int), (t2 = S_tlev lv9) ∧ (t2 = 0 → v = zC (S_hi ms lv9) 49) ∧ r = zI v ∧ wM β δ ms mb mo mp mf mn mi mc mq mr mw mk ml t2 ma mx mh = w)) := by
  refine z_ofM (cc := cX10_pointsAbove) (maxL := 2) (ret := (some .int)) (by decide +kernel) rfl (Nat.le_of_ble_eq_true rfl) ?_
  intro pg e s m args below meth c hC hr hlk hnm hK hP A hD hG hA hS ls hl Q hQ
  have hx := hC.1
  have hb := hC.2.1
  have hml := hC.2.2.1
  have hown := hC.2.2.2.1
  have hts := hC.2.2.2.2
  have hB : ∀ w ∈ W0, w ∈ wz_X10_pointsAbove := fun _ h => List.mem_cons_of_mem _ h
  have hW0 : ∀ w ∈ W0, w.before args s = true := fun w h => hts w (hB w h)
  have hl : lv_has ls 2 [(0, .ref (β 0)), (1, .int (zI lv9))] := hl
  refine lv_aload_n hx hb dX10_pointsAbove_0 rfl (lv_at hl 0 rfl) ?_
  refine lv_iload_n hx hb dX10_pointsAbove_1 rfl (lv_at hl 1 rfl) ?_
  refine z_calli hP hD hS hA (va_runV (As := [.int (zI lv9)]) (rest := []) hC (c_X10_isLevel l D τ β δ ms mb mo mp mf mn mi mc mq mr mw mk ml mt ma mx mh lv9 (by first | assumption | rfl | omega) _) (cwV 1 hts (gV hB wl_X10_132 wn_X10_isLevel ws_X10_isLevel wi_X10 wc_X10_isLevel) rfl rfl rfl hd_X10_isLevel ⟨Nat.le_of_ble_eq_true rfl, Nat.le_of_ble_eq_true rfl⟩) (zp_V hK hP hD hS hA hG (ci := 10) (q0 := 0) rfl rfl rfl) rfl rfl hl.1 rfl (lv_room (Nat.le_of_ble_eq_true rfl)) dX10_pointsAbove_2 ⟨Nat.le_of_ble_eq_true rfl, Nat.le_of_ble_eq_true rfl⟩) (fun r w1 H locs hq9 hP hD hS => ?_)
  obtain ⟨t2_1, v2_2, hv2_0, hv2_1, rfl, rfl⟩ := hq9
  have hP : va_P D vwCl (wM β δ ms mb mo mp mf mn mi mc mq mr mw mk ml t2_1 ma mx mh) H := hP
  have hD : va_D A (wM β δ ms mb mo mp mf mn mi mc mq mr mw mk ml t2_1 ma mx mh) := hD
  refine z_ifeqB (tgt := 16) hx hb dX10_pointsAbove_5 (by decide) (fun c_5 => ?_) (fun c_5 => ?_)
  · have hb_5 := zb_neg hv2_0 c_5
    refine lv_iconst (v := zI 0) hx hb dX10_pointsAbove_16 rfl ?_
    exact z_iret hC hr hlk hQ hP hD hS ⟨t2_1, 0, (by exact hv2_1), (by first | exact fun _ => hv10_0 | (intro h9; rw [hv2_1] at h9; unfold S_tlev at h9; rw [if_neg hb_5] at h9; exact absurd h9 (by decide))), rfl, rfl⟩ dX10_pointsAbove_17
  · have hb_5 := hv2_0.mp c_5
    refine lv_aload_n hx hb dX10_pointsAbove_8 rfl (lv_at hl 0 rfl) ?_
    refine lv_iload_n hx hb dX10_pointsAbove_9 rfl (lv_at hl 1 rfl) ?_
    refine z_calli hP hD hS hA (va_runV (As := [.int (zI lv9)]) (rest := []) hC (c_X10_above l D τ β δ ms mb mo mp mf mn mi mc mq mr mw mk ml t2_1 ma mx mh lv9 (by exact hb_5) (by first | assumption | rfl | omega) _) (cwV 1 hts (gV hB wl_X10_136 wn_X10_above ws_X10_above wi_X10 wc_X10_above) rfl rfl rfl hd_X10_above ⟨Nat.le_of_ble_eq_true rfl, Nat.le_of_ble_eq_true rfl⟩) (zp_V hK hP hD hS hA hG (ci := 10) (q0 := 0) rfl rfl rfl) rfl rfl hl.1 rfl (lv_room (Nat.le_of_ble_eq_true rfl)) dX10_pointsAbove_10 ⟨Nat.le_of_ble_eq_true rfl, Nat.le_of_ble_eq_true rfl⟩) (fun r w1 H locs hq9 hP hD hS => ?_)
    obtain ⟨v10_3, hv10_0, hv10_1, rfl, rfl⟩ := hq9
    have hP : va_P D vwCl (wM β δ ms mb mo mp mf mn mi mc mq mr mw mk ml t2_1 ma mx mh) H := hP
    have hD : va_D A (wM β δ ms mb mo mp mf mn mi mc mq mr mw mk ml t2_1 ma mx mh) := hD
    refine lv_goto (tgt := 17) hx hb dX10_pointsAbove_13 (by decide) ?_
    exact z_iret hC hr hlk hQ hP hD hS ⟨t2_1, v10_3, (by exact hv2_1), (by first | exact fun _ => hv10_0 | (intro h9; rw [hv2_1] at h9; unfold S_tlev at h9; rw [if_neg hb_5] at h9; exact absurd h9 (by decide))), rfl, rfl⟩ dX10_pointsAbove_17

abbrev wz_X10_sumAbove : List Cond := .code yX10_sumAbove cX10_sumAbove 4 (some .int) :: W0
abbrev rm_X10_sumAbove : Room := { frames := 1, cells := 0, slots := 0, locals := 22 }
theorem hd_X10_sumAbove : yX10_sumAbove.cls = RX10 ∧ yX10_sumAbove.cls ≠ "java/lang/invoke/MethodHandle" ∧ yX10_sumAbove.cls ≠ "java/lang/invoke/VarHandle" ∧ (parseMethodDescriptor yX10_sumAbove.desc).map (fun d => d.parameters.length) = some 1 := by decide +kernel
set_option maxHeartbeats 4000000 in
set_option maxRecDepth 100000 in
theorem c_X10_sumAbove (l : Launch) (D : va_G) (τ : Nat → Nat) (β : Nat → Nat) (δ : Nat → ClassId) (ms : IA) (mb : IA) (mo : IA) (mp : BA) (mf : IA) (mn : IA) (mi : IA) (mc : IA) (mq : BA) (mr : IA) (mw : IA) (mk : Int) (ml : Int) (mt : Int) (ma : Int) (mx : Bool) (mh : Int64) (lv9 : Int) (hlv : 0 ≤ lv9 ∧ lv9 ≤ 98) (hms : ∀ k, 0 ≤ k → k < 49 → 0 ≤ ms k ∧ ms k ≤ 99) : cM l yX10_sumAbove wz_X10_sumAbove rm_X10_sumAbove D τ (tyM δ) [.ref (β 0), .int (zI lv9)] (wM β δ ms mb mo mp mf mn mi mc mq mr mw mk ml mt ma mx mh) (zQi (fun r w => ∃ (v : Int), (v = S_sab ms lv9) ∧ (0 ≤ v ∧ v ≤ 4851) ∧ r = zI v ∧ wM β δ ms mb mo mp mf mn mi mc mq mr mw mk ml mt ma mx mh = w)) := by
  refine z_ofM (cc := cX10_sumAbove) (maxL := 4) (ret := (some .int)) (by decide +kernel) rfl (Nat.le_of_ble_eq_true rfl) ?_
  intro pg e s m args below meth c hC hr hlk hnm hK hP A hD hG hA hS ls hl Q hQ
  have hx := hC.1
  have hb := hC.2.1
  have hml := hC.2.2.1
  have hown := hC.2.2.2.1
  have hts := hC.2.2.2.2
  have hB : ∀ w ∈ W0, w ∈ wz_X10_sumAbove := fun _ h => List.mem_cons_of_mem _ h
  have hW0 : ∀ w ∈ W0, w.before args s = true := fun w h => hts w (hB w h)
  have hl : lv_has ls 4 [(0, .ref (β 0)), (1, .int (zI lv9))] := hl
  refine lv_iconst (v := zI 0) hx hb dX10_sumAbove_0 rfl ?_
  refine lv_istore_n (lv' := [(2, .int (zI 0)), (0, .ref (β 0)), (1, .int (zI lv9))]) hx hb dX10_sumAbove_1 rfl hl (by decide) rfl (fun ls hl => ?_)
  refine lv_iconst (v := zI 0) hx hb dX10_sumAbove_2 rfl ?_
  refine lv_istore_n (lv' := [(3, .int (zI 0)), (2, .int (zI 0)), (0, .ref (β 0)), (1, .int (zI lv9))]) hx hb dX10_sumAbove_3 rfl hl (by decide) rfl (fun ls hl => ?_)
  suffices HL_4 : ∀ (n_4 : Nat), ∀ (g : Int) (i : Int) (H : Heap) (locs : List Loc) (hP : va_P D vwCl (wM β δ ms mb mo mp mf mn mi mc mq mr mw mk ml mt ma mx mh) H) (hD : va_D A (wM β δ ms mb mo mp mf mn mi mc mq mr mw mk ml mt ma mx mh)) (hS : va_S A s.heap H locs) (ls : Array Slot) (hl : lv_has ls 4 [(2, .int (zI g)), (3, .int (zI i)), (0, .ref (β 0)), (1, .int (zI lv9))]) (hi : 0 ≤ i ∧ i ≤ 49) (hg : g = zS (fun k => if lv9 < ms k then ms k - lv9 else 0) i) (hgb : 0 ≤ g ∧ g ≤ 99 * i) (hm : (49 - i).toNat < n_4), W pg l e rm_X10_sumAbove s m args below meth c H locs 0 0 Q (F0 m 4 ls []) from HL_4 _ 0 0 _ _ hP hD hS _ (lv_sub hl [1, 0, 2, 3] rfl) (by first | assumption | rfl | omega) (by exact (zS_0 _).symm) (by first | assumption | rfl | omega) (Nat.lt_succ_self _)
  intro n_4
  induction n_4 with
  | zero => intro g i H locs hP hD hS ls hl hi hg hgb hm; exact absurd hm (Nat.not_lt_zero _)
  | succ n_4 ih_4 =>
    intro g i H locs hP hD hS ls hl hi hg hgb hm
    refine lv_iload_n hx hb dX10_sumAbove_4 rfl (lv_at hl 1 rfl) ?_
    refine lv_bipush (v := zI 49) hx hb dX10_sumAbove_5 (zI_b8 (by decide)) ?_
    refine z_icge (tgt := 40) hx hb ⟨by omega, by omega⟩ ⟨by omega, by omega⟩ dX10_sumAbove_7 (by decide) (fun c_7 => ?_) (fun c_7 => ?_)
    · refine lv_iload_n hx hb dX10_sumAbove_40 rfl (lv_at hl 0 rfl) ?_
      exact z_iret hC hr hlk hQ hP hD hS ⟨g, (by rw [hg, show i = 49 by omega]; rfl), (by omega), rfl, rfl⟩ dX10_sumAbove_41
    · refine lv_iload_n hx hb dX10_sumAbove_10 rfl (lv_at hl 0 rfl) ?_
      refine lv_aload_n hx hb dX10_sumAbove_11 rfl (lv_at hl 2 rfl) ?_
      refine lv_iload_n hx hb dX10_sumAbove_12 rfl (lv_at hl 1 rfl) ?_
      refine lv_iload_n hx hb dX10_sumAbove_13 rfl (lv_at hl 3 rfl) ?_
      refine z_calli hP hD hS hA (va_runV (As := [.int (zI i), .int (zI lv9)]) (rest := [.int (zI g)]) hC (c_X10_isAbove l D τ β δ ms mb mo mp mf mn mi mc mq mr mw mk ml mt ma mx mh i lv9 (by first | assumption | rfl | omega) (by first | assumption | rfl | omega) (by first | assumption | rfl | omega) _) (cwV 2 hts (gV hB wl_X10_129 wn_X10_isAbove ws_X10_isAbove wi_X10 wc_X10_isAbove) rfl rfl rfl hd_X10_isAbove ⟨Nat.le_of_ble_eq_true rfl, Nat.le_of_ble_eq_true rfl⟩) (zp_V hK hP hD hS hA hG (ci := 10) (q0 := 0) rfl rfl rfl) rfl rfl hl.1 rfl (lv_room (Nat.le_of_ble_eq_true rfl)) dX10_sumAbove_14 ⟨Nat.le_of_ble_eq_true rfl, Nat.le_of_ble_eq_true rfl⟩) (fun r w1 H locs hq9 hP hD hS => ?_)
      obtain ⟨v14_1, hv14_0, rfl, rfl⟩ := hq9
      have hP : va_P D vwCl (wM β δ ms mb mo mp mf mn mi mc mq mr mw mk ml mt ma mx mh) H := hP
      have hD : va_D A (wM β δ ms mb mo mp mf mn mi mc mq mr mw mk ml mt ma mx mh) := hD
      refine z_ifeqB (tgt := 31) hx hb dX10_sumAbove_17 (by decide) (fun c_17 => ?_) (fun c_17 => ?_)
      · refine lv_iconst (v := zI 0) hx hb dX10_sumAbove_31 rfl ?_
        refine z_iadd hx hb dX10_sumAbove_32 ?_
        refine lv_istore_n (lv' := [(2, .int (zI (g + 0))), (3, .int (zI i)), (0, .ref (β 0)), (1, .int (zI lv9))]) hx hb dX10_sumAbove_33 rfl hl (by decide) rfl (fun ls hl => ?_)
        refine z_iinc (k := 1) (v := i + 1) (lv' := [(3, .int (zI (i + 1))), (2, .int (zI (g + 0))), (0, .ref (β 0)), (1, .int (zI lv9))]) hx hb dX10_sumAbove_34 hl rfl rfl (by decide) rfl (fun ls hl => ?_)
        refine lv_goto (tgt := 4) hx hb dX10_sumAbove_37 (by decide) ?_
        exact ih_4 (g + 0) (i + 1) _ _ hP hD hS _ (lv_sub hl [1, 0, 2, 3] rfl) (by first | assumption | rfl | omega) (by rw [zS_up hi.1, ← hg]; have z9 := hv14_0.symm.trans c_17; unfold S_hi at z9; first | (rw [if_pos (of_decide_eq_true z9)]; done) | (rw [if_neg (of_decide_eq_false z9)]; done)) (by have z9 := hv14_0.symm.trans c_17; unfold S_hi at z9; first | (have z8 := of_decide_eq_true z9; clear z9; omega) | omega) (by omega)
      · refine lv_aload_n hx hb dX10_sumAbove_20 rfl (lv_at hl 2 rfl) ?_
        refine va_get (D := D) (ci := 10) (v := .ref (β 1)) (C := RX10) (T := TX10) (N := 17) hx hb hts (fun w h => List.mem_cons_of_mem _ (wx_X10 w h)) hown hK hP 0 rfl rfl 0 (by decide) (hW0 _ wf_X10_7) (fun _ h9 => h9) rfl dX10_sumAbove_21 ?_
        refine lv_iload_n hx hb dX10_sumAbove_24 rfl (lv_at hl 1 rfl) ?_
        refine z_iald (f := ms) hx hb hK hP 1 0 rfl rfl ⟨⟨by omega, by omega⟩, by decide⟩ dX10_sumAbove_25 ?_
        have hb_25 := hms i (by omega) (by omega)
        refine lv_iload_n hx hb dX10_sumAbove_26 rfl (lv_at hl 3 rfl) ?_
        refine z_isub hx hb dX10_sumAbove_27 ?_
        refine lv_goto (tgt := 32) hx hb dX10_sumAbove_28 (by decide) ?_
        refine z_iadd hx hb dX10_sumAbove_32 ?_
        refine lv_istore_n (lv' := [(2, .int (zI (g + ((ms i) - lv9)))), (3, .int (zI i)), (0, .ref (β 0)), (1, .int (zI lv9))]) hx hb dX10_sumAbove_33 rfl hl (by decide) rfl (fun ls hl => ?_)
        refine z_iinc (k := 1) (v := i + 1) (lv' := [(3, .int (zI (i + 1))), (2, .int (zI (g + ((ms i) - lv9)))), (0, .ref (β 0)), (1, .int (zI lv9))]) hx hb dX10_sumAbove_34 hl rfl rfl (by decide) rfl (fun ls hl => ?_)
        refine lv_goto (tgt := 4) hx hb dX10_sumAbove_37 (by decide) ?_
        exact ih_4 (g + ((ms i) - lv9)) (i + 1) _ _ hP hD hS _ (lv_sub hl [1, 0, 2, 3] rfl) (by first | assumption | rfl | omega) (by rw [zS_up hi.1, ← hg]; have z9 := hv14_0.symm.trans c_17; unfold S_hi at z9; first | (rw [if_pos (of_decide_eq_true z9)]; done) | (rw [if_neg (of_decide_eq_false z9)]; done)) (by have z9 := hv14_0.symm.trans c_17; unfold S_hi at z9; first | (have z8 := of_decide_eq_true z9; clear z9; omega) | omega) (by omega)

abbrev wz_X10_bulkAbove : List Cond := .code yX10_bulkAbove cX10_bulkAbove 2 (some .int) :: W0
abbrev rm_X10_bulkAbove : Room := { frames := 2, cells := 0, slots := 0, locals := 45 }
theorem hd_X10_bulkAbove : yX10_bulkAbove.cls = RX10 ∧ yX10_bulkAbove.cls ≠ "java/lang/invoke/MethodHandle" ∧ yX10_bulkAbove.cls ≠ "java/lang/invoke/VarHandle" ∧ (parseMethodDescriptor yX10_bulkAbove.desc).map (fun d => d.parameters.length) = some 1 := by decide +kernel
set_option maxHeartbeats 4000000 in
set_option maxRecDepth 100000 in
theorem c_X10_bulkAbove (l : Launch) (D : va_G) (τ : Nat → Nat) (β : Nat → Nat) (δ : Nat → ClassId) (ms : IA) (mb : IA) (mo : IA) (mp : BA) (mf : IA) (mn : IA) (mi : IA) (mc : IA) (mq : BA) (mr : IA) (mw : IA) (mk : Int) (ml : Int) (mt : Int) (ma : Int) (mx : Bool) (mh : Int64) (lv9 : Int) (hlv : -2147483648 ≤ lv9 ∧ lv9 < 2147483648) (hms : ∀ k, 0 ≤ k → k < 49 → 0 ≤ ms k ∧ ms k ≤ 99) : cM l yX10_bulkAbove wz_X10_bulkAbove rm_X10_bulkAbove D τ (tyM δ) [.ref (β 0), .int (zI lv9)] (wM β δ ms mb mo mp mf mn mi mc mq mr mw mk ml mt ma mx mh) (zQi (fun r w => ∃ (t2 : Int), ∃ (v : Int), (t2 = S_tlev lv9) ∧ (t2 = 0 → v = S_sab ms lv9) ∧ r = zI v ∧ wM β δ ms mb mo mp mf mn mi mc mq mr mw mk ml t2 ma mx mh = w)) := by
  refine z_ofM (cc := cX10_bulkAbove) (maxL := 2) (ret := (some .int)) (by decide +kernel) rfl (Nat.le_of_ble_eq_true rfl) ?_
  intro pg e s m args below meth c hC hr hlk hnm hK hP A hD hG hA hS ls hl Q hQ
  have hx := hC.1
  have hb := hC.2.1
  have hml := hC.2.2.1
  have hown := hC.2.2.2.1
  have hts := hC.2.2.2.2
  have hB : ∀ w ∈ W0, w ∈ wz_X10_bulkAbove := fun _ h => List.mem_cons_of_mem _ h
  have hW0 : ∀ w ∈ W0, w.before args s = true := fun w h => hts w (hB w h)
  have hl : lv_has ls 2 [(0, .ref (β 0)), (1, .int (zI lv9))] := hl
  refine lv_aload_n hx hb dX10_bulkAbove_0 rfl (lv_at hl 0 rfl) ?_
  refine lv_iload_n hx hb dX10_bulkAbove_1 rfl (lv_at hl 1 rfl) ?_
  refine z_calli hP hD hS hA (va_runV (As := [.int (zI lv9)]) (rest := []) hC (c_X10_isLevel l D τ β δ ms mb mo mp mf mn mi mc mq mr mw mk ml mt ma mx mh lv9 (by first | assumption | rfl | omega) _) (cwV 1 hts (gV hB wl_X10_132 wn_X10_isLevel ws_X10_isLevel wi_X10 wc_X10_isLevel) rfl rfl rfl hd_X10_isLevel ⟨Nat.le_of_ble_eq_true rfl, Nat.le_of_ble_eq_true rfl⟩) (zp_V hK hP hD hS hA hG (ci := 10) (q0 := 0) rfl rfl rfl) rfl rfl hl.1 rfl (lv_room (Nat.le_of_ble_eq_true rfl)) dX10_bulkAbove_2 ⟨Nat.le_of_ble_eq_true rfl, Nat.le_of_ble_eq_true rfl⟩) (fun r w1 H locs hq9 hP hD hS => ?_)
  obtain ⟨t2_1, v2_2, hv2_0, hv2_1, rfl, rfl⟩ := hq9
  have hP : va_P D vwCl (wM β δ ms mb mo mp mf mn mi mc mq mr mw mk ml t2_1 ma mx mh) H := hP
  have hD : va_D A (wM β δ ms mb mo mp mf mn mi mc mq mr mw mk ml t2_1 ma mx mh) := hD
  refine z_ifeqB (tgt := 16) hx hb dX10_bulkAbove_5 (by decide) (fun c_5 => ?_) (fun c_5 => ?_)
  · have hb_5 := zb_neg hv2_0 c_5
    refine lv_iconst (v := zI 0) hx hb dX10_bulkAbove_16 rfl ?_
    exact z_iret hC hr hlk hQ hP hD hS ⟨t2_1, 0, (by exact hv2_1), (by first | exact fun _ => hv10_0 | (intro h9; rw [hv2_1] at h9; unfold S_tlev at h9; rw [if_neg hb_5] at h9; exact absurd h9 (by decide))), rfl, rfl⟩ dX10_bulkAbove_17
  · have hb_5 := hv2_0.mp c_5
    refine lv_aload_n hx hb dX10_bulkAbove_8 rfl (lv_at hl 0 rfl) ?_
    refine lv_iload_n hx hb dX10_bulkAbove_9 rfl (lv_at hl 1 rfl) ?_
    refine z_calli hP hD hS hA (va_runV (As := [.int (zI lv9)]) (rest := []) hC (c_X10_sumAbove l D τ β δ ms mb mo mp mf mn mi mc mq mr mw mk ml t2_1 ma mx mh lv9 (by exact hb_5) (by first | assumption | rfl | omega) _) (cwV 1 hts (gV hB wl_X10_139 wn_X10_sumAbove ws_X10_sumAbove wi_X10 wc_X10_sumAbove) rfl rfl rfl hd_X10_sumAbove ⟨Nat.le_of_ble_eq_true rfl, Nat.le_of_ble_eq_true rfl⟩) (zp_V hK hP hD hS hA hG (ci := 10) (q0 := 0) rfl rfl rfl) rfl rfl hl.1 rfl (lv_room (Nat.le_of_ble_eq_true rfl)) dX10_bulkAbove_10 ⟨Nat.le_of_ble_eq_true rfl, Nat.le_of_ble_eq_true rfl⟩) (fun r w1 H locs hq9 hP hD hS => ?_)
    obtain ⟨v10_3, hv10_0, hv10_1, rfl, rfl⟩ := hq9
    have hP : va_P D vwCl (wM β δ ms mb mo mp mf mn mi mc mq mr mw mk ml t2_1 ma mx mh) H := hP
    have hD : va_D A (wM β δ ms mb mo mp mf mn mi mc mq mr mw mk ml t2_1 ma mx mh) := hD
    refine lv_goto (tgt := 17) hx hb dX10_bulkAbove_13 (by decide) ?_
    exact z_iret hC hr hlk hQ hP hD hS ⟨t2_1, v10_3, (by exact hv2_1), (by first | exact fun _ => hv10_0 | (intro h9; rw [hv2_1] at h9; unfold S_tlev at h9; rw [if_neg hb_5] at h9; exact absurd h9 (by decide))), rfl, rfl⟩ dX10_bulkAbove_17

abbrev wz_X10_right : List Cond := .code yX10_right cX10_right 2 (some .int) :: W0
abbrev rm_X10_right : Room := { frames := 0, cells := 0, slots := 0, locals := 0 }
theorem hd_X10_right : yX10_right.cls = RX10 ∧ yX10_right.cls ≠ "java/lang/invoke/MethodHandle" ∧ yX10_right.cls ≠ "java/lang/invoke/VarHandle" ∧ (parseMethodDescriptor yX10_right.desc).map (fun d => d.parameters.length) = some 2 := by decide +kernel
set_option maxHeartbeats 4000000 in
set_option maxRecDepth 100000 in
theorem c_X10_right (l : Launch) (D : va_G) (τ : Nat → Nat) (ws : va_W) (tys : List (ClassId × FieldType)) (a : Int) (b : Int) : cM l yX10_right wz_X10_right rm_X10_right D τ tys [.int (zI a), .int (zI b)] (ws) (zQi (fun r w => ∃ (v : Int), (v = 6 * a + b) ∧ r = zI v ∧ ws = w)) := by
  refine z_ofM (cc := cX10_right) (maxL := 2) (ret := (some .int)) (by decide +kernel) rfl (Nat.le_of_ble_eq_true rfl) ?_
  intro pg e s m args below meth c hC hr hlk hnm hK hP A hD hG hA hS ls hl Q hQ
  have hx := hC.1
  have hb := hC.2.1
  have hml := hC.2.2.1
  have hown := hC.2.2.2.1
  have hts := hC.2.2.2.2
  have hB : ∀ w ∈ W0, w ∈ wz_X10_right := fun _ h => List.mem_cons_of_mem _ h
  have hW0 : ∀ w ∈ W0, w.before args s = true := fun w h => hts w (hB w h)
  have hl : lv_has ls 2 [(0, .int (zI a)), (1, .int (zI b))] := hl
  refine lv_bipush (v := zI 6) hx hb dX10_right_0 (zI_b8 (by decide)) ?_
  refine lv_iload_n hx hb dX10_right_2 rfl (lv_at hl 0 rfl) ?_
  refine z_imul hx hb dX10_right_3 ?_
  refine lv_iload_n hx hb dX10_right_4 rfl (lv_at hl 1 rfl) ?_
  refine z_iadd hx hb dX10_right_5 ?_
  exact z_iret hC hr hlk hQ hP hD hS ⟨(6 * a) + b, (by first | assumption | rfl | omega), rfl, rfl⟩ dX10_right_6

abbrev wz_X10_below : List Cond := .code yX10_below cX10_below 2 (some .int) :: W0
abbrev rm_X10_below : Room := { frames := 0, cells := 0, slots := 0, locals := 0 }
theorem hd_X10_below : yX10_below.cls = RX10 ∧ yX10_below.cls ≠ "java/lang/invoke/MethodHandle" ∧ yX10_below.cls ≠ "java/lang/invoke/VarHandle" ∧ (parseMethodDescriptor yX10_below.desc).map (fun d => d.parameters.length) = some 2 := by decide +kernel
set_option maxHeartbeats 4000000 in
set_option maxRecDepth 100000 in
theorem c_X10_below (l : Launch) (D : va_G) (τ : Nat → Nat) (ws : va_W) (tys : List (ClassId × FieldType)) (a : Int) (b : Int) : cM l yX10_below wz_X10_below rm_X10_below D τ tys [.int (zI a), .int (zI b)] (ws) (zQi (fun r w => ∃ (v : Int), (v = 42 + 7 * a + b) ∧ r = zI v ∧ ws = w)) := by
  refine z_ofM (cc := cX10_below) (maxL := 2) (ret := (some .int)) (by decide +kernel) rfl (Nat.le_of_ble_eq_true rfl) ?_
  intro pg e s m args below meth c hC hr hlk hnm hK hP A hD hG hA hS ls hl Q hQ
  have hx := hC.1
  have hb := hC.2.1
  have hml := hC.2.2.1
  have hown := hC.2.2.2.1
  have hts := hC.2.2.2.2
  have hB : ∀ w ∈ W0, w ∈ wz_X10_below := fun _ h => List.mem_cons_of_mem _ h
  have hW0 : ∀ w ∈ W0, w.before args s = true := fun w h => hts w (hB w h)
  have hl : lv_has ls 2 [(0, .int (zI a)), (1, .int (zI b))] := hl
  refine lv_bipush (v := zI 42) hx hb dX10_below_0 (zI_b8 (by decide)) ?_
  refine lv_bipush (v := zI 7) hx hb dX10_below_2 (zI_b8 (by decide)) ?_
  refine lv_iload_n hx hb dX10_below_4 rfl (lv_at hl 0 rfl) ?_
  refine z_imul hx hb dX10_below_5 ?_
  refine z_iadd hx hb dX10_below_6 ?_
  refine lv_iload_n hx hb dX10_below_7 rfl (lv_at hl 1 rfl) ?_
  refine z_iadd hx hb dX10_below_8 ?_
  exact z_iret hC hr hlk hQ hP hD hS ⟨(42 + (7 * a)) + b, (by first | assumption | rfl | omega), rfl, rfl⟩ dX10_below_9

abbrev wz_X10_isCrossed : List Cond := .code yX10_isCrossed cX10_isCrossed 4 (some .boolean) :: W0
abbrev rm_X10_isCrossed : Room := { frames := 1, cells := 0, slots := 0, locals := 22 }
theorem hd_X10_isCrossed : yX10_isCrossed.cls = RX10 ∧ yX10_isCrossed.cls ≠ "java/lang/invoke/MethodHandle" ∧ yX10_isCrossed.cls ≠ "java/lang/invoke/VarHandle" ∧ (parseMethodDescriptor yX10_isCrossed.desc).map (fun d => d.parameters.length) = some 3 := by decide +kernel
set_option maxHeartbeats 4000000 in
set_option maxRecDepth 100000 in
theorem c_X10_isCrossed (l : Launch) (D : va_G) (τ : Nat → Nat) (β : Nat → Nat) (δ : Nat → ClassId) (ms : IA) (mb : IA) (mo : IA) (mp : BA) (mf : IA) (mn : IA) (mi : IA) (mc : IA) (mq : BA) (mr : IA) (mw : IA) (mk : Int) (ml : Int) (mt : Int) (ma : Int) (mx : Bool) (mh : Int64) (p : Int) (p2 : Int) (lv9 : Int) (hp : 0 ≤ p ∧ p < 49) (hp2 : 0 ≤ p2 ∧ p2 < 49) (hlv : 0 ≤ lv9 ∧ lv9 ≤ 98) (hms : ∀ k, 0 ≤ k → k < 49 → 0 ≤ ms k ∧ ms k ≤ 99) : cM l yX10_isCrossed wz_X10_isCrossed rm_X10_isCrossed D τ (tyM δ) [.ref (β 0), .int (zI p), .int (zI p2), .int (zI lv9)] (wM β δ ms mb mo mp mf mn mi mc mq mr mw mk ml mt ma mx mh) (zQi (fun r w => ∃ (v : Bool), (v = (S_hi ms lv9 p != S_hi ms lv9 p2)) ∧ r = bI v ∧ wM β δ ms mb mo mp mf mn mi mc mq mr mw mk ml mt ma mx mh = w)) := by
  refine z_ofM (cc := cX10_isCrossed) (maxL := 4) (ret := (some .boolean)) (by decide +kernel) rfl (Nat.le_of_ble_eq_true rfl) ?_
  intro pg e s m args below meth c hC hr hlk hnm hK hP A hD hG hA hS ls hl Q hQ
  have hx := hC.1
  have hb := hC.2.1
  have hml := hC.2.2.1
  have hown := hC.2.2.2.1
  have hts := hC.2.2.2.2
  have hB : ∀ w ∈ W0, w ∈ wz_X10_isCrossed := fun _ h => List.mem_cons_of_mem _ h
  have hW0 : ∀ w ∈ W0, w.before args s = true := fun w h => hts w (hB w h)
  have hl : lv_has ls 4 [(0, .ref (β 0)), (1, .int (zI p)), (2, .int (zI p2)), (3, .int (zI lv9))] := hl
  refine lv_aload_n hx hb dX10_isCrossed_0 rfl (lv_at hl 0 rfl) ?_
  refine lv_iload_n hx hb dX10_isCrossed_1 rfl (lv_at hl 1 rfl) ?_
  refine lv_iload_n hx hb dX10_isCrossed_2 rfl (lv_at hl 3 rfl) ?_
  refine z_calli hP hD hS hA (va_runV (As := [.int (zI p), .int (zI lv9)]) (rest := []) hC (c_X10_isAbove l D τ β δ ms mb mo mp mf mn mi mc mq mr mw mk ml mt ma mx mh p lv9 (by first | assumption | rfl | omega) (by first | assumption | rfl | omega) (by first | assumption | rfl | omega) _) (cwV 2 hts (gV hB wl_X10_129 wn_X10_isAbove ws_X10_isAbove wi_X10 wc_X10_isAbove) rfl rfl rfl hd_X10_isAbove ⟨Nat.le_of_ble_eq_true rfl, Nat.le_of_ble_eq_true rfl⟩) (zp_V hK hP hD hS hA hG (ci := 10) (q0 := 0) rfl rfl rfl) rfl rfl hl.1 rfl (lv_room (Nat.le_of_ble_eq_true rfl)) dX10_isCrossed_3 ⟨Nat.le_of_ble_eq_true rfl, Nat.le_of_ble_eq_true rfl⟩) (fun r w1 H locs hq9 hP hD hS => ?_)
  obtain ⟨v3_1, hv3_0, rfl, rfl⟩ := hq9
  have hP : va_P D vwCl (wM β δ ms mb mo mp mf mn mi mc mq mr mw mk ml mt ma mx mh) H := hP
  have hD : va_D A (wM β δ ms mb mo mp mf mn mi mc mq mr mw mk ml mt ma mx mh) := hD
  refine lv_aload_n hx hb dX10_isCrossed_6 rfl (lv_at hl 0 rfl) ?_
  refine lv_iload_n hx hb dX10_isCrossed_7 rfl (lv_at hl 2 rfl) ?_
  refine lv_iload_n hx hb dX10_isCrossed_8 rfl (lv_at hl 3 rfl) ?_
  refine z_calli hP hD hS hA (va_runV (As := [.int (zI p2), .int (zI lv9)]) (rest := [.int (bI v3_1)]) hC (c_X10_isAbove l D τ β δ ms mb mo mp mf mn mi mc mq mr mw mk ml mt ma mx mh p2 lv9 (by first | assumption | rfl | omega) (by first | assumption | rfl | omega) (by first | assumption | rfl | omega) _) (cwV 2 hts (gV hB wl_X10_129 wn_X10_isAbove ws_X10_isAbove wi_X10 wc_X10_isAbove) rfl rfl rfl hd_X10_isAbove ⟨Nat.le_of_ble_eq_true rfl, Nat.le_of_ble_eq_true rfl⟩) (zp_V hK hP hD hS hA hG (ci := 10) (q0 := 0) rfl rfl rfl) rfl rfl hl.1 rfl (lv_room (Nat.le_of_ble_eq_true rfl)) dX10_isCrossed_9 ⟨Nat.le_of_ble_eq_true rfl, Nat.le_of_ble_eq_true rfl⟩) (fun r w1 H locs hq9 hP hD hS => ?_)
  obtain ⟨v9_2, hv9_0, rfl, rfl⟩ := hq9
  have hP : va_P D vwCl (wM β δ ms mb mo mp mf mn mi mc mq mr mw mk ml mt ma mx mh) H := hP
  have hD : va_D A (wM β δ ms mb mo mp mf mn mi mc mq mr mw mk ml mt ma mx mh) := hD
  refine z_iceqB (tgt := 19) hx hb dX10_isCrossed_12 (by decide) (fun c_12 => ?_) (fun c_12 => ?_)
  · refine lv_iconst (v := zI 0) hx hb dX10_isCrossed_19 rfl ?_
    refine W.eq (g2 := F0 m 20 ls [.int (bI false)]) rfl ?_
    exact z_zret hC hr hlk hQ hP hD hS ⟨false, (by rw [← hv3_0, ← hv9_0]; first | exact bne_f9 c_12 | exact bne_t9 c_12), rfl, rfl⟩ dX10_isCrossed_20
  · refine lv_iconst (v := zI 1) hx hb dX10_isCrossed_15 rfl ?_
    refine lv_goto (tgt := 20) hx hb dX10_isCrossed_16 (by decide) ?_
    refine W.eq (g2 := F0 m 20 ls [.int (bI true)]) rfl ?_
    exact z_zret hC hr hlk hQ hP hD hS ⟨true, (by rw [← hv3_0, ← hv9_0]; first | exact bne_f9 c_12 | exact bne_t9 c_12), rfl, rfl⟩ dX10_isCrossed_20

abbrev wz_X10_piecesAt : List Cond := .code yX10_piecesAt cX10_piecesAt 6 (some .int) :: W0
abbrev rm_X10_piecesAt : Room := { frames := 2, cells := 0, slots := 0, locals := 45 }
theorem hd_X10_piecesAt : yX10_piecesAt.cls = RX10 ∧ yX10_piecesAt.cls ≠ "java/lang/invoke/MethodHandle" ∧ yX10_piecesAt.cls ≠ "java/lang/invoke/VarHandle" ∧ (parseMethodDescriptor yX10_piecesAt.desc).map (fun d => d.parameters.length) = some 3 := by decide +kernel
set_option maxHeartbeats 4000000 in
set_option maxRecDepth 100000 in
theorem c_X10_piecesAt (l : Launch) (D : va_G) (τ : Nat → Nat) (β : Nat → Nat) (δ : Nat → ClassId) (ms : IA) (mb : IA) (mo : IA) (mp : BA) (mf : IA) (mn : IA) (mi : IA) (mc : IA) (mq : BA) (mr : IA) (mw : IA) (mk : Int) (ml : Int) (mt : Int) (ma : Int) (mx : Bool) (mh : Int64) (r9 : Int) (c9 : Int) (lv9 : Int) (hr9 : 0 ≤ r9 ∧ r9 < 6) (hc9 : 0 ≤ c9 ∧ c9 < 6) (hlv : 0 ≤ lv9 ∧ lv9 ≤ 98) (hms : ∀ k, 0 ≤ k → k < 49 → 0 ≤ ms k ∧ ms k ≤ 99) : cM l yX10_piecesAt wz_X10_piecesAt rm_X10_piecesAt D τ (tyM δ) [.ref (β 0), .int (zI r9), .int (zI c9), .int (zI lv9)] (wM β δ ms mb mo mp mf mn mi mc mq mr mw mk ml mt ma mx mh) (zQi (fun r w => ∃ (v : Int), (v = S_pie ms r9 c9 lv9) ∧ (0 ≤ v ∧ v ≤ 2) ∧ r = zI v ∧ wM β δ ms mb mo mp mf mn mi mc mq mr mw mk ml mt ma mx mh = w)) := by
  refine z_ofM (cc := cX10_piecesAt) (maxL := 6) (ret := (some .int)) (by decide +kernel) rfl (Nat.le_of_ble_eq_true rfl) ?_
  intro pg e s m args below meth c hC hr hlk hnm hK hP A hD hG hA hS ls hl Q hQ
  have hx := hC.1
  have hb := hC.2.1
  have hml := hC.2.2.1
  have hown := hC.2.2.2.1
  have hts := hC.2.2.2.2
  have hB : ∀ w ∈ W0, w ∈ wz_X10_piecesAt := fun _ h => List.mem_cons_of_mem _ h
  have hW0 : ∀ w ∈ W0, w.before args s = true := fun w h => hts w (hB w h)
  have hl : lv_has ls 6 [(0, .ref (β 0)), (1, .int (zI r9)), (2, .int (zI c9)), (3, .int (zI lv9))] := hl
  refine lv_bipush (v := zI 7) hx hb dX10_piecesAt_0 (zI_b8 (by decide)) ?_
  refine lv_iload_n hx hb dX10_piecesAt_2 rfl (lv_at hl 1 rfl) ?_
  refine z_imul hx hb dX10_piecesAt_3 ?_
  refine lv_iload_n hx hb dX10_piecesAt_4 rfl (lv_at hl 2 rfl) ?_
  refine z_iadd hx hb dX10_piecesAt_5 ?_
  refine lv_istore (lv' := [(4, .int (zI ((7 * r9) + c9))), (0, .ref (β 0)), (1, .int (zI r9)), (2, .int (zI c9)), (3, .int (zI lv9))]) hx hb dX10_piecesAt_6 hl (by decide) rfl (fun ls hl => ?_)
  refine lv_aload_n hx hb dX10_piecesAt_8 rfl (lv_at hl 1 rfl) ?_
  refine lv_iload hx hb dX10_piecesAt_9 (lv_at hl 0 rfl) ?_
  refine lv_iload hx hb dX10_piecesAt_11 (lv_at hl 0 rfl) ?_
  refine lv_iconst (v := zI 1) hx hb dX10_piecesAt_13 rfl ?_
  refine z_iadd hx hb dX10_piecesAt_14 ?_
  refine lv_iload_n hx hb dX10_piecesAt_15 rfl (lv_at hl 4 rfl) ?_
  refine z_calli hP hD hS hA (va_runV (As := [.int (zI ((7 * r9) + c9)), .int (zI (((7 * r9) + c9) + 1)), .int (zI lv9)]) (rest := []) hC (c_X10_isCrossed l D τ β δ ms mb mo mp mf mn mi mc mq mr mw mk ml mt ma mx mh ((7 * r9) + c9) (((7 * r9) + c9) + 1) lv9 (by first | assumption | rfl | omega) (by first | assumption | rfl | omega) (by first | assumption | rfl | omega) (by first | assumption | rfl | omega) _) (cwV 3 hts (gV hB wl_X10_142 wn_X10_isCrossed ws_X10_isCrossed wi_X10 wc_X10_isCrossed) rfl rfl rfl hd_X10_isCrossed ⟨Nat.le_of_ble_eq_true rfl, Nat.le_of_ble_eq_true rfl⟩) (zp_V hK hP hD hS hA hG (ci := 10) (q0 := 0) rfl rfl rfl) rfl rfl hl.1 rfl (lv_room (Nat.le_of_ble_eq_true rfl)) dX10_piecesAt_16 ⟨Nat.le_of_ble_eq_true rfl, Nat.le_of_ble_eq_true rfl⟩) (fun r w1 H locs hq9 hP hD hS => ?_)
  obtain ⟨v16_1, hv16_0, rfl, rfl⟩ := hq9
  have hP : va_P D vwCl (wM β δ ms mb mo mp mf mn mi mc mq mr mw mk ml mt ma mx mh) H := hP
  have hD : va_D A (wM β δ ms mb mo mp mf mn mi mc mq mr mw mk ml mt ma mx mh) := hD
  refine z_ifeqB (tgt := 26) hx hb dX10_piecesAt_19 (by decide) (fun c_19 => ?_) (fun c_19 => ?_)
  · refine lv_iconst (v := zI 0) hx hb dX10_piecesAt_26 rfl ?_
    refine lv_istore (lv' := [(5, .int (zI 0)), (4, .int (zI ((7 * r9) + c9))), (0, .ref (β 0)), (1, .int (zI r9)), (2, .int (zI c9)), (3, .int (zI lv9))]) hx hb dX10_piecesAt_27 hl (by decide) rfl (fun ls hl => ?_)
    refine lv_iload hx hb dX10_piecesAt_29 (lv_at hl 0 rfl) ?_
    refine lv_aload_n hx hb dX10_piecesAt_31 rfl (lv_at hl 2 rfl) ?_
    refine lv_iload hx hb dX10_piecesAt_32 (lv_at hl 1 rfl) ?_
    refine lv_iconst (v := zI 1) hx hb dX10_piecesAt_34 rfl ?_
    refine z_iadd hx hb dX10_piecesAt_35 ?_
    refine lv_iload hx hb dX10_piecesAt_36 (lv_at hl 1 rfl) ?_
    refine lv_bipush (v := zI 8) hx hb dX10_piecesAt_38 (zI_b8 (by decide)) ?_
    refine z_iadd hx hb dX10_piecesAt_40 ?_
    refine lv_iload_n hx hb dX10_piecesAt_41 rfl (lv_at hl 5 rfl) ?_
    refine z_calli hP hD hS hA (va_runV (As := [.int (zI (((7 * r9) + c9) + 1)), .int (zI (((7 * r9) + c9) + 8)), .int (zI lv9)]) (rest := [.int (zI 0)]) hC (c_X10_isCrossed l D τ β δ ms mb mo mp mf mn mi mc mq mr mw mk ml mt ma mx mh (((7 * r9) + c9) + 1) (((7 * r9) + c9) + 8) lv9 (by first | assumption | rfl | omega) (by first | assumption | rfl | omega) (by first | assumption | rfl | omega) (by first | assumption | rfl | omega) _) (cwV 3 hts (gV hB wl_X10_142 wn_X10_isCrossed ws_X10_isCrossed wi_X10 wc_X10_isCrossed) rfl rfl rfl hd_X10_isCrossed ⟨Nat.le_of_ble_eq_true rfl, Nat.le_of_ble_eq_true rfl⟩) (zp_V hK hP hD hS hA hG (ci := 10) (q0 := 0) rfl rfl rfl) rfl rfl hl.1 rfl (lv_room (Nat.le_of_ble_eq_true rfl)) dX10_piecesAt_42 ⟨Nat.le_of_ble_eq_true rfl, Nat.le_of_ble_eq_true rfl⟩) (fun r w1 H locs hq9 hP hD hS => ?_)
    obtain ⟨v42_2, hv42_0, rfl, rfl⟩ := hq9
    have hP : va_P D vwCl (wM β δ ms mb mo mp mf mn mi mc mq mr mw mk ml mt ma mx mh) H := hP
    have hD : va_D A (wM β δ ms mb mo mp mf mn mi mc mq mr mw mk ml mt ma mx mh) := hD
    refine z_ifeqB (tgt := 52) hx hb dX10_piecesAt_45 (by decide) (fun c_45 => ?_) (fun c_45 => ?_)
    · refine lv_iconst (v := zI 0) hx hb dX10_piecesAt_52 rfl ?_
      refine z_iadd hx hb dX10_piecesAt_53 ?_
      refine lv_istore (lv' := [(5, .int (zI (0 + 0))), (4, .int (zI ((7 * r9) + c9))), (0, .ref (β 0)), (1, .int (zI r9)), (2, .int (zI c9)), (3, .int (zI lv9))]) hx hb dX10_piecesAt_54 hl (by decide) rfl (fun ls hl => ?_)
      refine lv_iload hx hb dX10_piecesAt_56 (lv_at hl 0 rfl) ?_
      refine lv_aload_n hx hb dX10_piecesAt_58 rfl (lv_at hl 2 rfl) ?_
      refine lv_iload hx hb dX10_piecesAt_59 (lv_at hl 1 rfl) ?_
      refine lv_bipush (v := zI 7) hx hb dX10_piecesAt_61 (zI_b8 (by decide)) ?_
      refine z_iadd hx hb dX10_piecesAt_63 ?_
      refine lv_iload hx hb dX10_piecesAt_64 (lv_at hl 1 rfl) ?_
      refine lv_bipush (v := zI 8) hx hb dX10_piecesAt_66 (zI_b8 (by decide)) ?_
      refine z_iadd hx hb dX10_piecesAt_68 ?_
      refine lv_iload_n hx hb dX10_piecesAt_69 rfl (lv_at hl 5 rfl) ?_
      refine z_calli hP hD hS hA (va_runV (As := [.int (zI (((7 * r9) + c9) + 7)), .int (zI (((7 * r9) + c9) + 8)), .int (zI lv9)]) (rest := [.int (zI (0 + 0))]) hC (c_X10_isCrossed l D τ β δ ms mb mo mp mf mn mi mc mq mr mw mk ml mt ma mx mh (((7 * r9) + c9) + 7) (((7 * r9) + c9) + 8) lv9 (by first | assumption | rfl | omega) (by first | assumption | rfl | omega) (by first | assumption | rfl | omega) (by first | assumption | rfl | omega) _) (cwV 3 hts (gV hB wl_X10_142 wn_X10_isCrossed ws_X10_isCrossed wi_X10 wc_X10_isCrossed) rfl rfl rfl hd_X10_isCrossed ⟨Nat.le_of_ble_eq_true rfl, Nat.le_of_ble_eq_true rfl⟩) (zp_V hK hP hD hS hA hG (ci := 10) (q0 := 0) rfl rfl rfl) rfl rfl hl.1 rfl (lv_room (Nat.le_of_ble_eq_true rfl)) dX10_piecesAt_70 ⟨Nat.le_of_ble_eq_true rfl, Nat.le_of_ble_eq_true rfl⟩) (fun r w1 H locs hq9 hP hD hS => ?_)
      obtain ⟨v70_3, hv70_0, rfl, rfl⟩ := hq9
      have hP : va_P D vwCl (wM β δ ms mb mo mp mf mn mi mc mq mr mw mk ml mt ma mx mh) H := hP
      have hD : va_D A (wM β δ ms mb mo mp mf mn mi mc mq mr mw mk ml mt ma mx mh) := hD
      refine z_ifeqB (tgt := 80) hx hb dX10_piecesAt_73 (by decide) (fun c_73 => ?_) (fun c_73 => ?_)
      · refine lv_iconst (v := zI 0) hx hb dX10_piecesAt_80 rfl ?_
        refine z_iadd hx hb dX10_piecesAt_81 ?_
        refine lv_istore (lv' := [(5, .int (zI ((0 + 0) + 0))), (4, .int (zI ((7 * r9) + c9))), (0, .ref (β 0)), (1, .int (zI r9)), (2, .int (zI c9)), (3, .int (zI lv9))]) hx hb dX10_piecesAt_82 hl (by decide) rfl (fun ls hl => ?_)
        refine lv_iload hx hb dX10_piecesAt_84 (lv_at hl 0 rfl) ?_
        refine lv_aload_n hx hb dX10_piecesAt_86 rfl (lv_at hl 2 rfl) ?_
        refine lv_iload hx hb dX10_piecesAt_87 (lv_at hl 1 rfl) ?_
        refine lv_iload hx hb dX10_piecesAt_89 (lv_at hl 1 rfl) ?_
        refine lv_bipush (v := zI 7) hx hb dX10_piecesAt_91 (zI_b8 (by decide)) ?_
        refine z_iadd hx hb dX10_piecesAt_93 ?_
        refine lv_iload_n hx hb dX10_piecesAt_94 rfl (lv_at hl 5 rfl) ?_
        refine z_calli hP hD hS hA (va_runV (As := [.int (zI ((7 * r9) + c9)), .int (zI (((7 * r9) + c9) + 7)), .int (zI lv9)]) (rest := [.int (zI ((0 + 0) + 0))]) hC (c_X10_isCrossed l D τ β δ ms mb mo mp mf mn mi mc mq mr mw mk ml mt ma mx mh ((7 * r9) + c9) (((7 * r9) + c9) + 7) lv9 (by first | assumption | rfl | omega) (by first | assumption | rfl | omega) (by first | assumption | rfl | omega) (by first | assumption | rfl | omega) _) (cwV 3 hts (gV hB wl_X10_142 wn_X10_isCrossed ws_X10_isCrossed wi_X10 wc_X10_isCrossed) rfl rfl rfl hd_X10_isCrossed ⟨Nat.le_of_ble_eq_true rfl, Nat.le_of_ble_eq_true rfl⟩) (zp_V hK hP hD hS hA hG (ci := 10) (q0 := 0) rfl rfl rfl) rfl rfl hl.1 rfl (lv_room (Nat.le_of_ble_eq_true rfl)) dX10_piecesAt_95 ⟨Nat.le_of_ble_eq_true rfl, Nat.le_of_ble_eq_true rfl⟩) (fun r w1 H locs hq9 hP hD hS => ?_)
        obtain ⟨v95_4, hv95_0, rfl, rfl⟩ := hq9
        have hP : va_P D vwCl (wM β δ ms mb mo mp mf mn mi mc mq mr mw mk ml mt ma mx mh) H := hP
        have hD : va_D A (wM β δ ms mb mo mp mf mn mi mc mq mr mw mk ml mt ma mx mh) := hD
        refine z_ifeqB (tgt := 105) hx hb dX10_piecesAt_98 (by decide) (fun c_98 => ?_) (fun c_98 => ?_)
        · refine lv_iconst (v := zI 0) hx hb dX10_piecesAt_105 rfl ?_
          refine z_iadd hx hb dX10_piecesAt_106 ?_
          refine lv_istore (lv' := [(5, .int (zI (((0 + 0) + 0) + 0))), (4, .int (zI ((7 * r9) + c9))), (0, .ref (β 0)), (1, .int (zI r9)), (2, .int (zI c9)), (3, .int (zI lv9))]) hx hb dX10_piecesAt_107 hl (by decide) rfl (fun ls hl => ?_)
          refine lv_iload hx hb dX10_piecesAt_109 (lv_at hl 0 rfl) ?_
          refine lv_iconst (v := zI 2) hx hb dX10_piecesAt_111 rfl ?_
          refine z_idiv hx hb ⟨⟨by omega, by omega⟩, by omega, by omega⟩ dX10_piecesAt_112 ?_
          exact z_iret hC hr hlk hQ hP hD hS ⟨(((0 + 0) + 0) + 0) / 2, (by unfold S_pie; rw [pA4 hr9 hc9, ← hv16_0, ← hv42_0, ← hv70_0, ← hv95_0, c_19, c_45, c_73, c_98]; rfl), (by omega), rfl, rfl⟩ dX10_piecesAt_113
        · refine lv_iconst (v := zI 1) hx hb dX10_piecesAt_101 rfl ?_
          refine lv_goto (tgt := 106) hx hb dX10_piecesAt_102 (by decide) ?_
          refine z_iadd hx hb dX10_piecesAt_106 ?_
          refine lv_istore (lv' := [(5, .int (zI (((0 + 0) + 0) + 1))), (4, .int (zI ((7 * r9) + c9))), (0, .ref (β 0)), (1, .int (zI r9)), (2, .int (zI c9)), (3, .int (zI lv9))]) hx hb dX10_piecesAt_107 hl (by decide) rfl (fun ls hl => ?_)
          refine lv_iload hx hb dX10_piecesAt_109 (lv_at hl 0 rfl) ?_
          refine lv_iconst (v := zI 2) hx hb dX10_piecesAt_111 rfl ?_
          refine z_idiv hx hb ⟨⟨by omega, by omega⟩, by omega, by omega⟩ dX10_piecesAt_112 ?_
          exact z_iret hC hr hlk hQ hP hD hS ⟨(((0 + 0) + 0) + 1) / 2, (by unfold S_pie; rw [pA4 hr9 hc9, ← hv16_0, ← hv42_0, ← hv70_0, ← hv95_0, c_19, c_45, c_73, c_98]; rfl), (by omega), rfl, rfl⟩ dX10_piecesAt_113
      · refine lv_iconst (v := zI 1) hx hb dX10_piecesAt_76 rfl ?_
        refine lv_goto (tgt := 81) hx hb dX10_piecesAt_77 (by decide) ?_
        refine z_iadd hx hb dX10_piecesAt_81 ?_
        refine lv_istore (lv' := [(5, .int (zI ((0 + 0) + 1))), (4, .int (zI ((7 * r9) + c9))), (0, .ref (β 0)), (1, .int (zI r9)), (2, .int (zI c9)), (3, .int (zI lv9))]) hx hb dX10_piecesAt_82 hl (by decide) rfl (fun ls hl => ?_)
        refine lv_iload hx hb dX10_piecesAt_84 (lv_at hl 0 rfl) ?_
        refine lv_aload_n hx hb dX10_piecesAt_86 rfl (lv_at hl 2 rfl) ?_
        refine lv_iload hx hb dX10_piecesAt_87 (lv_at hl 1 rfl) ?_
        refine lv_iload hx hb dX10_piecesAt_89 (lv_at hl 1 rfl) ?_
        refine lv_bipush (v := zI 7) hx hb dX10_piecesAt_91 (zI_b8 (by decide)) ?_
        refine z_iadd hx hb dX10_piecesAt_93 ?_
        refine lv_iload_n hx hb dX10_piecesAt_94 rfl (lv_at hl 5 rfl) ?_
        refine z_calli hP hD hS hA (va_runV (As := [.int (zI ((7 * r9) + c9)), .int (zI (((7 * r9) + c9) + 7)), .int (zI lv9)]) (rest := [.int (zI ((0 + 0) + 1))]) hC (c_X10_isCrossed l D τ β δ ms mb mo mp mf mn mi mc mq mr mw mk ml mt ma mx mh ((7 * r9) + c9) (((7 * r9) + c9) + 7) lv9 (by first | assumption | rfl | omega) (by first | assumption | rfl | omega) (by first | assumption | rfl | omega) (by first | assumption | rfl | omega) _) (cwV 3 hts (gV hB wl_X10_142 wn_X10_isCrossed ws_X10_isCrossed wi_X10 wc_X10_isCrossed) rfl rfl rfl hd_X10_isCrossed ⟨Nat.le_of_ble_eq_true rfl, Nat.le_of_ble_eq_true rfl⟩) (zp_V hK hP hD hS hA hG (ci := 10) (q0 := 0) rfl rfl rfl) rfl rfl hl.1 rfl (lv_room (Nat.le_of_ble_eq_true rfl)) dX10_piecesAt_95 ⟨Nat.le_of_ble_eq_true rfl, Nat.le_of_ble_eq_true rfl⟩) (fun r w1 H locs hq9 hP hD hS => ?_)
        obtain ⟨v95_5, hv95_0, rfl, rfl⟩ := hq9
        have hP : va_P D vwCl (wM β δ ms mb mo mp mf mn mi mc mq mr mw mk ml mt ma mx mh) H := hP
        have hD : va_D A (wM β δ ms mb mo mp mf mn mi mc mq mr mw mk ml mt ma mx mh) := hD
        refine z_ifeqB (tgt := 105) hx hb dX10_piecesAt_98 (by decide) (fun c_98 => ?_) (fun c_98 => ?_)
        · refine lv_iconst (v := zI 0) hx hb dX10_piecesAt_105 rfl ?_
          refine z_iadd hx hb dX10_piecesAt_106 ?_
          refine lv_istore (lv' := [(5, .int (zI (((0 + 0) + 1) + 0))), (4, .int (zI ((7 * r9) + c9))), (0, .ref (β 0)), (1, .int (zI r9)), (2, .int (zI c9)), (3, .int (zI lv9))]) hx hb dX10_piecesAt_107 hl (by decide) rfl (fun ls hl => ?_)
          refine lv_iload hx hb dX10_piecesAt_109 (lv_at hl 0 rfl) ?_
          refine lv_iconst (v := zI 2) hx hb dX10_piecesAt_111 rfl ?_
          refine z_idiv hx hb ⟨⟨by omega, by omega⟩, by omega, by omega⟩ dX10_piecesAt_112 ?_
          exact z_iret hC hr hlk hQ hP hD hS ⟨(((0 + 0) + 1) + 0) / 2, (by unfold S_pie; rw [pA4 hr9 hc9, ← hv16_0, ← hv42_0, ← hv70_0, ← hv95_0, c_19, c_45, c_73, c_98]; rfl), (by omega), rfl, rfl⟩ dX10_piecesAt_113
        · refine lv_iconst (v := zI 1) hx hb dX10_piecesAt_101 rfl ?_
          refine lv_goto (tgt := 106) hx hb dX10_piecesAt_102 (by decide) ?_
          refine z_iadd hx hb dX10_piecesAt_106 ?_
          refine lv_istore (lv' := [(5, .int (zI (((0 + 0) + 1) + 1))), (4, .int (zI ((7 * r9) + c9))), (0, .ref (β 0)), (1, .int (zI r9)), (2, .int (zI c9)), (3, .int (zI lv9))]) hx hb dX10_piecesAt_107 hl (by decide) rfl (fun ls hl => ?_)
          refine lv_iload hx hb dX10_piecesAt_109 (lv_at hl 0 rfl) ?_
          refine lv_iconst (v := zI 2) hx hb dX10_piecesAt_111 rfl ?_
          refine z_idiv hx hb ⟨⟨by omega, by omega⟩, by omega, by omega⟩ dX10_piecesAt_112 ?_
          exact z_iret hC hr hlk hQ hP hD hS ⟨(((0 + 0) + 1) + 1) / 2, (by unfold S_pie; rw [pA4 hr9 hc9, ← hv16_0, ← hv42_0, ← hv70_0, ← hv95_0, c_19, c_45, c_73, c_98]; rfl), (by omega), rfl, rfl⟩ dX10_piecesAt_113
    · refine lv_iconst (v := zI 1) hx hb dX10_piecesAt_48 rfl ?_
      refine lv_goto (tgt := 53) hx hb dX10_piecesAt_49 (by decide) ?_
      refine z_iadd hx hb dX10_piecesAt_53 ?_
      refine lv_istore (lv' := [(5, .int (zI (0 + 1))), (4, .int (zI ((7 * r9) + c9))), (0, .ref (β 0)), (1, .int (zI r9)), (2, .int (zI c9)), (3, .int (zI lv9))]) hx hb dX10_piecesAt_54 hl (by decide) rfl (fun ls hl => ?_)
      refine lv_iload hx hb dX10_piecesAt_56 (lv_at hl 0 rfl) ?_
      refine lv_aload_n hx hb dX10_piecesAt_58 rfl (lv_at hl 2 rfl) ?_
      refine lv_iload hx hb dX10_piecesAt_59 (lv_at hl 1 rfl) ?_
      refine lv_bipush (v := zI 7) hx hb dX10_piecesAt_61 (zI_b8 (by decide)) ?_
      refine z_iadd hx hb dX10_piecesAt_63 ?_
      refine lv_iload hx hb dX10_piecesAt_64 (lv_at hl 1 rfl) ?_
      refine lv_bipush (v := zI 8) hx hb dX10_piecesAt_66 (zI_b8 (by decide)) ?_
      refine z_iadd hx hb dX10_piecesAt_68 ?_
      refine lv_iload_n hx hb dX10_piecesAt_69 rfl (lv_at hl 5 rfl) ?_
      refine z_calli hP hD hS hA (va_runV (As := [.int (zI (((7 * r9) + c9) + 7)), .int (zI (((7 * r9) + c9) + 8)), .int (zI lv9)]) (rest := [.int (zI (0 + 1))]) hC (c_X10_isCrossed l D τ β δ ms mb mo mp mf mn mi mc mq mr mw mk ml mt ma mx mh (((7 * r9) + c9) + 7) (((7 * r9) + c9) + 8) lv9 (by first | assumption | rfl | omega) (by first | assumption | rfl | omega) (by first | assumption | rfl | omega) (by first | assumption | rfl | omega) _) (cwV 3 hts (gV hB wl_X10_142 wn_X10_isCrossed ws_X10_isCrossed wi_X10 wc_X10_isCrossed) rfl rfl rfl hd_X10_isCrossed ⟨Nat.le_of_ble_eq_true rfl, Nat.le_of_ble_eq_true rfl⟩) (zp_V hK hP hD hS hA hG (ci := 10) (q0 := 0) rfl rfl rfl) rfl rfl hl.1 rfl (lv_room (Nat.le_of_ble_eq_true rfl)) dX10_piecesAt_70 ⟨Nat.le_of_ble_eq_true rfl, Nat.le_of_ble_eq_true rfl⟩) (fun r w1 H locs hq9 hP hD hS => ?_)
      obtain ⟨v70_6, hv70_0, rfl, rfl⟩ := hq9
      have hP : va_P D vwCl (wM β δ ms mb mo mp mf mn mi mc mq mr mw mk ml mt ma mx mh) H := hP
      have hD : va_D A (wM β δ ms mb mo mp mf mn mi mc mq mr mw mk ml mt ma mx mh) := hD
      refine z_ifeqB (tgt := 80) hx hb dX10_piecesAt_73 (by decide) (fun c_73 => ?_) (fun c_73 => ?_)
      · refine lv_iconst (v := zI 0) hx hb dX10_piecesAt_80 rfl ?_
        refine z_iadd hx hb dX10_piecesAt_81 ?_
        refine lv_istore (lv' := [(5, .int (zI ((0 + 1) + 0))), (4, .int (zI ((7 * r9) + c9))), (0, .ref (β 0)), (1, .int (zI r9)), (2, .int (zI c9)), (3, .int (zI lv9))]) hx hb dX10_piecesAt_82 hl (by decide) rfl (fun ls hl => ?_)
        refine lv_iload hx hb dX10_piecesAt_84 (lv_at hl 0 rfl) ?_
        refine lv_aload_n hx hb dX10_piecesAt_86 rfl (lv_at hl 2 rfl) ?_
        refine lv_iload hx hb dX10_piecesAt_87 (lv_at hl 1 rfl) ?_
        refine lv_iload hx hb dX10_piecesAt_89 (lv_at hl 1 rfl) ?_
        refine lv_bipush (v := zI 7) hx hb dX10_piecesAt_91 (zI_b8 (by decide)) ?_
        refine z_iadd hx hb dX10_piecesAt_93 ?_
        refine lv_iload_n hx hb dX10_piecesAt_94 rfl (lv_at hl 5 rfl) ?_
        refine z_calli hP hD hS hA (va_runV (As := [.int (zI ((7 * r9) + c9)), .int (zI (((7 * r9) + c9) + 7)), .int (zI lv9)]) (rest := [.int (zI ((0 + 1) + 0))]) hC (c_X10_isCrossed l D τ β δ ms mb mo mp mf mn mi mc mq mr mw mk ml mt ma mx mh ((7 * r9) + c9) (((7 * r9) + c9) + 7) lv9 (by first | assumption | rfl | omega) (by first | assumption | rfl | omega) (by first | assumption | rfl | omega) (by first | assumption | rfl | omega) _) (cwV 3 hts (gV hB wl_X10_142 wn_X10_isCrossed ws_X10_isCrossed wi_X10 wc_X10_isCrossed) rfl rfl rfl hd_X10_isCrossed ⟨Nat.le_of_ble_eq_true rfl, Nat.le_of_ble_eq_true rfl⟩) (zp_V hK hP hD hS hA hG (ci := 10) (q0 := 0) rfl rfl rfl) rfl rfl hl.1 rfl (lv_room (Nat.le_of_ble_eq_true rfl)) dX10_piecesAt_95 ⟨Nat.le_of_ble_eq_true rfl, Nat.le_of_ble_eq_true rfl⟩) (fun r w1 H locs hq9 hP hD hS => ?_)
        obtain ⟨v95_7, hv95_0, rfl, rfl⟩ := hq9
        have hP : va_P D vwCl (wM β δ ms mb mo mp mf mn mi mc mq mr mw mk ml mt ma mx mh) H := hP
        have hD : va_D A (wM β δ ms mb mo mp mf mn mi mc mq mr mw mk ml mt ma mx mh) := hD
        refine z_ifeqB (tgt := 105) hx hb dX10_piecesAt_98 (by decide) (fun c_98 => ?_) (fun c_98 => ?_)
        · refine lv_iconst (v := zI 0) hx hb dX10_piecesAt_105 rfl ?_
          refine z_iadd hx hb dX10_piecesAt_106 ?_
          refine lv_istore (lv' := [(5, .int (zI (((0 + 1) + 0) + 0))), (4, .int (zI ((7 * r9) + c9))), (0, .ref (β 0)), (1, .int (zI r9)), (2, .int (zI c9)), (3, .int (zI lv9))]) hx hb dX10_piecesAt_107 hl (by decide) rfl (fun ls hl => ?_)
          refine lv_iload hx hb dX10_piecesAt_109 (lv_at hl 0 rfl) ?_
          refine lv_iconst (v := zI 2) hx hb dX10_piecesAt_111 rfl ?_
          refine z_idiv hx hb ⟨⟨by omega, by omega⟩, by omega, by omega⟩ dX10_piecesAt_112 ?_
          exact z_iret hC hr hlk hQ hP hD hS ⟨(((0 + 1) + 0) + 0) / 2, (by unfold S_pie; rw [pA4 hr9 hc9, ← hv16_0, ← hv42_0, ← hv70_0, ← hv95_0, c_19, c_45, c_73, c_98]; rfl), (by omega), rfl, rfl⟩ dX10_piecesAt_113
        · refine lv_iconst (v := zI 1) hx hb dX10_piecesAt_101 rfl ?_
          refine lv_goto (tgt := 106) hx hb dX10_piecesAt_102 (by decide) ?_
          refine z_iadd hx hb dX10_piecesAt_106 ?_
          refine lv_istore (lv' := [(5, .int (zI (((0 + 1) + 0) + 1))), (4, .int (zI ((7 * r9) + c9))), (0, .ref (β 0)), (1, .int (zI r9)), (2, .int (zI c9)), (3, .int (zI lv9))]) hx hb dX10_piecesAt_107 hl (by decide) rfl (fun ls hl => ?_)
          refine lv_iload hx hb dX10_piecesAt_109 (lv_at hl 0 rfl) ?_
          refine lv_iconst (v := zI 2) hx hb dX10_piecesAt_111 rfl ?_
          refine z_idiv hx hb ⟨⟨by omega, by omega⟩, by omega, by omega⟩ dX10_piecesAt_112 ?_
          exact z_iret hC hr hlk hQ hP hD hS ⟨(((0 + 1) + 0) + 1) / 2, (by unfold S_pie; rw [pA4 hr9 hc9, ← hv16_0, ← hv42_0, ← hv70_0, ← hv95_0, c_19, c_45, c_73, c_98]; rfl), (by omega), rfl, rfl⟩ dX10_piecesAt_113
      · refine lv_iconst (v := zI 1) hx hb dX10_piecesAt_76 rfl ?_
        refine lv_goto (tgt := 81) hx hb dX10_piecesAt_77 (by decide) ?_
        refine z_iadd hx hb dX10_piecesAt_81 ?_
        refine lv_istore (lv' := [(5, .int (zI ((0 + 1) + 1))), (4, .int (zI ((7 * r9) + c9))), (0, .ref (β 0)), (1, .int (zI r9)), (2, .int (zI c9)), (3, .int (zI lv9))]) hx hb dX10_piecesAt_82 hl (by decide) rfl (fun ls hl => ?_)
        refine lv_iload hx hb dX10_piecesAt_84 (lv_at hl 0 rfl) ?_
        refine lv_aload_n hx hb dX10_piecesAt_86 rfl (lv_at hl 2 rfl) ?_
        refine lv_iload hx hb dX10_piecesAt_87 (lv_at hl 1 rfl) ?_
        refine lv_iload hx hb dX10_piecesAt_89 (lv_at hl 1 rfl) ?_
        refine lv_bipush (v := zI 7) hx hb dX10_piecesAt_91 (zI_b8 (by decide)) ?_
        refine z_iadd hx hb dX10_piecesAt_93 ?_
        refine lv_iload_n hx hb dX10_piecesAt_94 rfl (lv_at hl 5 rfl) ?_
        refine z_calli hP hD hS hA (va_runV (As := [.int (zI ((7 * r9) + c9)), .int (zI (((7 * r9) + c9) + 7)), .int (zI lv9)]) (rest := [.int (zI ((0 + 1) + 1))]) hC (c_X10_isCrossed l D τ β δ ms mb mo mp mf mn mi mc mq mr mw mk ml mt ma mx mh ((7 * r9) + c9) (((7 * r9) + c9) + 7) lv9 (by first | assumption | rfl | omega) (by first | assumption | rfl | omega) (by first | assumption | rfl | omega) (by first | assumption | rfl | omega) _) (cwV 3 hts (gV hB wl_X10_142 wn_X10_isCrossed ws_X10_isCrossed wi_X10 wc_X10_isCrossed) rfl rfl rfl hd_X10_isCrossed ⟨Nat.le_of_ble_eq_true rfl, Nat.le_of_ble_eq_true rfl⟩) (zp_V hK hP hD hS hA hG (ci := 10) (q0 := 0) rfl rfl rfl) rfl rfl hl.1 rfl (lv_room (Nat.le_of_ble_eq_true rfl)) dX10_piecesAt_95 ⟨Nat.le_of_ble_eq_true rfl, Nat.le_of_ble_eq_true rfl⟩) (fun r w1 H locs hq9 hP hD hS => ?_)
        obtain ⟨v95_8, hv95_0, rfl, rfl⟩ := hq9
        have hP : va_P D vwCl (wM β δ ms mb mo mp mf mn mi mc mq mr mw mk ml mt ma mx mh) H := hP
        have hD : va_D A (wM β δ ms mb mo mp mf mn mi mc mq mr mw mk ml mt ma mx mh) := hD
        refine z_ifeqB (tgt := 105) hx hb dX10_piecesAt_98 (by decide) (fun c_98 => ?_) (fun c_98 => ?_)
        · refine lv_iconst (v := zI 0) hx hb dX10_piecesAt_105 rfl ?_
          refine z_iadd hx hb dX10_piecesAt_106 ?_
          refine lv_istore (lv' := [(5, .int (zI (((0 + 1) + 1) + 0))), (4, .int (zI ((7 * r9) + c9))), (0, .ref (β 0)), (1, .int (zI r9)), (2, .int (zI c9)), (3, .int (zI lv9))]) hx hb dX10_piecesAt_107 hl (by decide) rfl (fun ls hl => ?_)
          refine lv_iload hx hb dX10_piecesAt_109 (lv_at hl 0 rfl) ?_
          refine lv_iconst (v := zI 2) hx hb dX10_piecesAt_111 rfl ?_
          refine z_idiv hx hb ⟨⟨by omega, by omega⟩, by omega, by omega⟩ dX10_piecesAt_112 ?_
          exact z_iret hC hr hlk hQ hP hD hS ⟨(((0 + 1) + 1) + 0) / 2, (by unfold S_pie; rw [pA4 hr9 hc9, ← hv16_0, ← hv42_0, ← hv70_0, ← hv95_0, c_19, c_45, c_73, c_98]; rfl), (by omega), rfl, rfl⟩ dX10_piecesAt_113
        · refine lv_iconst (v := zI 1) hx hb dX10_piecesAt_101 rfl ?_
          refine lv_goto (tgt := 106) hx hb dX10_piecesAt_102 (by decide) ?_
          refine z_iadd hx hb dX10_piecesAt_106 ?_
          refine lv_istore (lv' := [(5, .int (zI (((0 + 1) + 1) + 1))), (4, .int (zI ((7 * r9) + c9))), (0, .ref (β 0)), (1, .int (zI r9)), (2, .int (zI c9)), (3, .int (zI lv9))]) hx hb dX10_piecesAt_107 hl (by decide) rfl (fun ls hl => ?_)
          refine lv_iload hx hb dX10_piecesAt_109 (lv_at hl 0 rfl) ?_
          refine lv_iconst (v := zI 2) hx hb dX10_piecesAt_111 rfl ?_
          refine z_idiv hx hb ⟨⟨by omega, by omega⟩, by omega, by omega⟩ dX10_piecesAt_112 ?_
          exact z_iret hC hr hlk hQ hP hD hS ⟨(((0 + 1) + 1) + 1) / 2, (by unfold S_pie; rw [pA4 hr9 hc9, ← hv16_0, ← hv42_0, ← hv70_0, ← hv95_0, c_19, c_45, c_73, c_98]; rfl), (by omega), rfl, rfl⟩ dX10_piecesAt_113
  · refine lv_iconst (v := zI 1) hx hb dX10_piecesAt_22 rfl ?_
    refine lv_goto (tgt := 27) hx hb dX10_piecesAt_23 (by decide) ?_
    refine lv_istore (lv' := [(5, .int (zI 1)), (4, .int (zI ((7 * r9) + c9))), (0, .ref (β 0)), (1, .int (zI r9)), (2, .int (zI c9)), (3, .int (zI lv9))]) hx hb dX10_piecesAt_27 hl (by decide) rfl (fun ls hl => ?_)
    refine lv_iload hx hb dX10_piecesAt_29 (lv_at hl 0 rfl) ?_
    refine lv_aload_n hx hb dX10_piecesAt_31 rfl (lv_at hl 2 rfl) ?_
    refine lv_iload hx hb dX10_piecesAt_32 (lv_at hl 1 rfl) ?_
    refine lv_iconst (v := zI 1) hx hb dX10_piecesAt_34 rfl ?_
    refine z_iadd hx hb dX10_piecesAt_35 ?_
    refine lv_iload hx hb dX10_piecesAt_36 (lv_at hl 1 rfl) ?_
    refine lv_bipush (v := zI 8) hx hb dX10_piecesAt_38 (zI_b8 (by decide)) ?_
    refine z_iadd hx hb dX10_piecesAt_40 ?_
    refine lv_iload_n hx hb dX10_piecesAt_41 rfl (lv_at hl 5 rfl) ?_
    refine z_calli hP hD hS hA (va_runV (As := [.int (zI (((7 * r9) + c9) + 1)), .int (zI (((7 * r9) + c9) + 8)), .int (zI lv9)]) (rest := [.int (zI 1)]) hC (c_X10_isCrossed l D τ β δ ms mb mo mp mf mn mi mc mq mr mw mk ml mt ma mx mh (((7 * r9) + c9) + 1) (((7 * r9) + c9) + 8) lv9 (by first | assumption | rfl | omega) (by first | assumption | rfl | omega) (by first | assumption | rfl | omega) (by first | assumption | rfl | omega) _) (cwV 3 hts (gV hB wl_X10_142 wn_X10_isCrossed ws_X10_isCrossed wi_X10 wc_X10_isCrossed) rfl rfl rfl hd_X10_isCrossed ⟨Nat.le_of_ble_eq_true rfl, Nat.le_of_ble_eq_true rfl⟩) (zp_V hK hP hD hS hA hG (ci := 10) (q0 := 0) rfl rfl rfl) rfl rfl hl.1 rfl (lv_room (Nat.le_of_ble_eq_true rfl)) dX10_piecesAt_42 ⟨Nat.le_of_ble_eq_true rfl, Nat.le_of_ble_eq_true rfl⟩) (fun r w1 H locs hq9 hP hD hS => ?_)
    obtain ⟨v42_9, hv42_0, rfl, rfl⟩ := hq9
    have hP : va_P D vwCl (wM β δ ms mb mo mp mf mn mi mc mq mr mw mk ml mt ma mx mh) H := hP
    have hD : va_D A (wM β δ ms mb mo mp mf mn mi mc mq mr mw mk ml mt ma mx mh) := hD
    refine z_ifeqB (tgt := 52) hx hb dX10_piecesAt_45 (by decide) (fun c_45 => ?_) (fun c_45 => ?_)
    · refine lv_iconst (v := zI 0) hx hb dX10_piecesAt_52 rfl ?_
      refine z_iadd hx hb dX10_piecesAt_53 ?_
      refine lv_istore (lv' := [(5, .int (zI (1 + 0))), (4, .int (zI ((7 * r9) + c9))), (0, .ref (β 0)), (1, .int (zI r9)), (2, .int (zI c9)), (3, .int (zI lv9))]) hx hb dX10_piecesAt_54 hl (by decide) rfl (fun ls hl => ?_)
      refine lv_iload hx hb dX10_piecesAt_56 (lv_at hl 0 rfl) ?_
      refine lv_aload_n hx hb dX10_piecesAt_58 rfl (lv_at hl 2 rfl) ?_
      refine lv_iload hx hb dX10_piecesAt_59 (lv_at hl 1 rfl) ?_
      refine lv_bipush (v := zI 7) hx hb dX10_piecesAt_61 (zI_b8 (by decide)) ?_
      refine z_iadd hx hb dX10_piecesAt_63 ?_
      refine lv_iload hx hb dX10_piecesAt_64 (lv_at hl 1 rfl) ?_
      refine lv_bipush (v := zI 8) hx hb dX10_piecesAt_66 (zI_b8 (by decide)) ?_
      refine z_iadd hx hb dX10_piecesAt_68 ?_
      refine lv_iload_n hx hb dX10_piecesAt_69 rfl (lv_at hl 5 rfl) ?_
      refine z_calli hP hD hS hA (va_runV (As := [.int (zI (((7 * r9) + c9) + 7)), .int (zI (((7 * r9) + c9) + 8)), .int (zI lv9)]) (rest := [.int (zI (1 + 0))]) hC (c_X10_isCrossed l D τ β δ ms mb mo mp mf mn mi mc mq mr mw mk ml mt ma mx mh (((7 * r9) + c9) + 7) (((7 * r9) + c9) + 8) lv9 (by first | assumption | rfl | omega) (by first | assumption | rfl | omega) (by first | assumption | rfl | omega) (by first | assumption | rfl | omega) _) (cwV 3 hts (gV hB wl_X10_142 wn_X10_isCrossed ws_X10_isCrossed wi_X10 wc_X10_isCrossed) rfl rfl rfl hd_X10_isCrossed ⟨Nat.le_of_ble_eq_true rfl, Nat.le_of_ble_eq_true rfl⟩) (zp_V hK hP hD hS hA hG (ci := 10) (q0 := 0) rfl rfl rfl) rfl rfl hl.1 rfl (lv_room (Nat.le_of_ble_eq_true rfl)) dX10_piecesAt_70 ⟨Nat.le_of_ble_eq_true rfl, Nat.le_of_ble_eq_true rfl⟩) (fun r w1 H locs hq9 hP hD hS => ?_)
      obtain ⟨v70_10, hv70_0, rfl, rfl⟩ := hq9
      have hP : va_P D vwCl (wM β δ ms mb mo mp mf mn mi mc mq mr mw mk ml mt ma mx mh) H := hP
      have hD : va_D A (wM β δ ms mb mo mp mf mn mi mc mq mr mw mk ml mt ma mx mh) := hD
      refine z_ifeqB (tgt := 80) hx hb dX10_piecesAt_73 (by decide) (fun c_73 => ?_) (fun c_73 => ?_)
      · refine lv_iconst (v := zI 0) hx hb dX10_piecesAt_80 rfl ?_
        refine z_iadd hx hb dX10_piecesAt_81 ?_
        refine lv_istore (lv' := [(5, .int (zI ((1 + 0) + 0))), (4, .int (zI ((7 * r9) + c9))), (0, .ref (β 0)), (1, .int (zI r9)), (2, .int (zI c9)), (3, .int (zI lv9))]) hx hb dX10_piecesAt_82 hl (by decide) rfl (fun ls hl => ?_)
        refine lv_iload hx hb dX10_piecesAt_84 (lv_at hl 0 rfl) ?_
        refine lv_aload_n hx hb dX10_piecesAt_86 rfl (lv_at hl 2 rfl) ?_
        refine lv_iload hx hb dX10_piecesAt_87 (lv_at hl 1 rfl) ?_
        refine lv_iload hx hb dX10_piecesAt_89 (lv_at hl 1 rfl) ?_
        refine lv_bipush (v := zI 7) hx hb dX10_piecesAt_91 (zI_b8 (by decide)) ?_
        refine z_iadd hx hb dX10_piecesAt_93 ?_
        refine lv_iload_n hx hb dX10_piecesAt_94 rfl (lv_at hl 5 rfl) ?_
        refine z_calli hP hD hS hA (va_runV (As := [.int (zI ((7 * r9) + c9)), .int (zI (((7 * r9) + c9) + 7)), .int (zI lv9)]) (rest := [.int (zI ((1 + 0) + 0))]) hC (c_X10_isCrossed l D τ β δ ms mb mo mp mf mn mi mc mq mr mw mk ml mt ma mx mh ((7 * r9) + c9) (((7 * r9) + c9) + 7) lv9 (by first | assumption | rfl | omega) (by first | assumption | rfl | omega) (by first | assumption | rfl | omega) (by first | assumption | rfl | omega) _) (cwV 3 hts (gV hB wl_X10_142 wn_X10_isCrossed ws_X10_isCrossed wi_X10 wc_X10_isCrossed) rfl rfl rfl hd_X10_isCrossed ⟨Nat.le_of_ble_eq_true rfl, Nat.le_of_ble_eq_true rfl⟩) (zp_V hK hP hD hS hA hG (ci := 10) (q0 := 0) rfl rfl rfl) rfl rfl hl.1 rfl (lv_room (Nat.le_of_ble_eq_true rfl)) dX10_piecesAt_95 ⟨Nat.le_of_ble_eq_true rfl, Nat.le_of_ble_eq_true rfl⟩) (fun r w1 H locs hq9 hP hD hS => ?_)
        obtain ⟨v95_11, hv95_0, rfl, rfl⟩ := hq9
        have hP : va_P D vwCl (wM β δ ms mb mo mp mf mn mi mc mq mr mw mk ml mt ma mx mh) H := hP
        have hD : va_D A (wM β δ ms mb mo mp mf mn mi mc mq mr mw mk ml mt ma mx mh) := hD
        refine z_ifeqB (tgt := 105) hx hb dX10_piecesAt_98 (by decide) (fun c_98 => ?_) (fun c_98 => ?_)
        · refine lv_iconst (v := zI 0) hx hb dX10_piecesAt_105 rfl ?_
          refine z_iadd hx hb dX10_piecesAt_106 ?_
          refine lv_istore (lv' := [(5, .int (zI (((1 + 0) + 0) + 0))), (4, .int (zI ((7 * r9) + c9))), (0, .ref (β 0)), (1, .int (zI r9)), (2, .int (zI c9)), (3, .int (zI lv9))]) hx hb dX10_piecesAt_107 hl (by decide) rfl (fun ls hl => ?_)
          refine lv_iload hx hb dX10_piecesAt_109 (lv_at hl 0 rfl) ?_
          refine lv_iconst (v := zI 2) hx hb dX10_piecesAt_111 rfl ?_
          refine z_idiv hx hb ⟨⟨by omega, by omega⟩, by omega, by omega⟩ dX10_piecesAt_112 ?_
          exact z_iret hC hr hlk hQ hP hD hS ⟨(((1 + 0) + 0) + 0) / 2, (by unfold S_pie; rw [pA4 hr9 hc9, ← hv16_0, ← hv42_0, ← hv70_0, ← hv95_0, c_19, c_45, c_73, c_98]; rfl), (by omega), rfl, rfl⟩ dX10_piecesAt_113
        · refine lv_iconst (v := zI 1) hx hb dX10_piecesAt_101 rfl ?_
          refine lv_goto (tgt := 106) hx hb dX10_piecesAt_102 (by decide) ?_
          refine z_iadd hx hb dX10_piecesAt_106 ?_
          refine lv_istore (lv' := [(5, .int (zI (((1 + 0) + 0) + 1))), (4, .int (zI ((7 * r9) + c9))), (0, .ref (β 0)), (1, .int (zI r9)), (2, .int (zI c9)), (3, .int (zI lv9))]) hx hb dX10_piecesAt_107 hl (by decide) rfl (fun ls hl => ?_)
          refine lv_iload hx hb dX10_piecesAt_109 (lv_at hl 0 rfl) ?_
          refine lv_iconst (v := zI 2) hx hb dX10_piecesAt_111 rfl ?_
          refine z_idiv hx hb ⟨⟨by omega, by omega⟩, by omega, by omega⟩ dX10_piecesAt_112 ?_
          exact z_iret hC hr hlk hQ hP hD hS ⟨(((1 + 0) + 0) + 1) / 2, (by unfold S_pie; rw [pA4 hr9 hc9, ← hv16_0, ← hv42_0, ← hv70_0, ← hv95_0, c_19, c_45, c_73, c_98]; rfl), (by omega), rfl, rfl⟩ dX10_piecesAt_113
      · refine lv_iconst (v := zI 1) hx hb dX10_piecesAt_76 rfl ?_
        refine lv_goto (tgt := 81) hx hb dX10_piecesAt_77 (by decide) ?_
        refine z_iadd hx hb dX10_piecesAt_81 ?_
        refine lv_istore (lv' := [(5, .int (zI ((1 + 0) + 1))), (4, .int (zI ((7 * r9) + c9))), (0, .ref (β 0)), (1, .int (zI r9)), (2, .int (zI c9)), (3, .int (zI lv9))]) hx hb dX10_piecesAt_82 hl (by decide) rfl (fun ls hl => ?_)
        refine lv_iload hx hb dX10_piecesAt_84 (lv_at hl 0 rfl) ?_
        refine lv_aload_n hx hb dX10_piecesAt_86 rfl (lv_at hl 2 rfl) ?_
        refine lv_iload hx hb dX10_piecesAt_87 (lv_at hl 1 rfl) ?_
        refine lv_iload hx hb dX10_piecesAt_89 (lv_at hl 1 rfl) ?_
        refine lv_bipush (v := zI 7) hx hb dX10_piecesAt_91 (zI_b8 (by decide)) ?_
        refine z_iadd hx hb dX10_piecesAt_93 ?_
        refine lv_iload_n hx hb dX10_piecesAt_94 rfl (lv_at hl 5 rfl) ?_
        refine z_calli hP hD hS hA (va_runV (As := [.int (zI ((7 * r9) + c9)), .int (zI (((7 * r9) + c9) + 7)), .int (zI lv9)]) (rest := [.int (zI ((1 + 0) + 1))]) hC (c_X10_isCrossed l D τ β δ ms mb mo mp mf mn mi mc mq mr mw mk ml mt ma mx mh ((7 * r9) + c9) (((7 * r9) + c9) + 7) lv9 (by first | assumption | rfl | omega) (by first | assumption | rfl | omega) (by first | assumption | rfl | omega) (by first | assumption | rfl | omega) _) (cwV 3 hts (gV hB wl_X10_142 wn_X10_isCrossed ws_X10_isCrossed wi_X10 wc_X10_isCrossed) rfl rfl rfl hd_X10_isCrossed ⟨Nat.le_of_ble_eq_true rfl, Nat.le_of_ble_eq_true rfl⟩) (zp_V hK hP hD hS hA hG (ci := 10) (q0 := 0) rfl rfl rfl) rfl rfl hl.1 rfl (lv_room (Nat.le_of_ble_eq_true rfl)) dX10_piecesAt_95 ⟨Nat.le_of_ble_eq_true rfl, Nat.le_of_ble_eq_true rfl⟩) (fun r w1 H locs hq9 hP hD hS => ?_)
        obtain ⟨v95_12, hv95_0, rfl, rfl⟩ := hq9
        have hP : va_P D vwCl (wM β δ ms mb mo mp mf mn mi mc mq mr mw mk ml mt ma mx mh) H := hP
        have hD : va_D A (wM β δ ms mb mo mp mf mn mi mc mq mr mw mk ml mt ma mx mh) := hD
        refine z_ifeqB (tgt := 105) hx hb dX10_piecesAt_98 (by decide) (fun c_98 => ?_) (fun c_98 => ?_)
        · refine lv_iconst (v := zI 0) hx hb dX10_piecesAt_105 rfl ?_
          refine z_iadd hx hb dX10_piecesAt_106 ?_
          refine lv_istore (lv' := [(5, .int (zI (((1 + 0) + 1) + 0))), (4, .int (zI ((7 * r9) + c9))), (0, .ref (β 0)), (1, .int (zI r9)), (2, .int (zI c9)), (3, .int (zI lv9))]) hx hb dX10_piecesAt_107 hl (by decide) rfl (fun ls hl => ?_)
          refine lv_iload hx hb dX10_piecesAt_109 (lv_at hl 0 rfl) ?_
          refine lv_iconst (v := zI 2) hx hb dX10_piecesAt_111 rfl ?_
          refine z_idiv hx hb ⟨⟨by omega, by omega⟩, by omega, by omega⟩ dX10_piecesAt_112 ?_
          exact z_iret hC hr hlk hQ hP hD hS ⟨(((1 + 0) + 1) + 0) / 2, (by unfold S_pie; rw [pA4 hr9 hc9, ← hv16_0, ← hv42_0, ← hv70_0, ← hv95_0, c_19, c_45, c_73, c_98]; rfl), (by omega), rfl, rfl⟩ dX10_piecesAt_113
        · refine lv_iconst (v := zI 1) hx hb dX10_piecesAt_101 rfl ?_
          refine lv_goto (tgt := 106) hx hb dX10_piecesAt_102 (by decide) ?_
          refine z_iadd hx hb dX10_piecesAt_106 ?_
          refine lv_istore (lv' := [(5, .int (zI (((1 + 0) + 1) + 1))), (4, .int (zI ((7 * r9) + c9))), (0, .ref (β 0)), (1, .int (zI r9)), (2, .int (zI c9)), (3, .int (zI lv9))]) hx hb dX10_piecesAt_107 hl (by decide) rfl (fun ls hl => ?_)
          refine lv_iload hx hb dX10_piecesAt_109 (lv_at hl 0 rfl) ?_
          refine lv_iconst (v := zI 2) hx hb dX10_piecesAt_111 rfl ?_
          refine z_idiv hx hb ⟨⟨by omega, by omega⟩, by omega, by omega⟩ dX10_piecesAt_112 ?_
          exact z_iret hC hr hlk hQ hP hD hS ⟨(((1 + 0) + 1) + 1) / 2, (by unfold S_pie; rw [pA4 hr9 hc9, ← hv16_0, ← hv42_0, ← hv70_0, ← hv95_0, c_19, c_45, c_73, c_98]; rfl), (by omega), rfl, rfl⟩ dX10_piecesAt_113
    · refine lv_iconst (v := zI 1) hx hb dX10_piecesAt_48 rfl ?_
      refine lv_goto (tgt := 53) hx hb dX10_piecesAt_49 (by decide) ?_
      refine z_iadd hx hb dX10_piecesAt_53 ?_
      refine lv_istore (lv' := [(5, .int (zI (1 + 1))), (4, .int (zI ((7 * r9) + c9))), (0, .ref (β 0)), (1, .int (zI r9)), (2, .int (zI c9)), (3, .int (zI lv9))]) hx hb dX10_piecesAt_54 hl (by decide) rfl (fun ls hl => ?_)
      refine lv_iload hx hb dX10_piecesAt_56 (lv_at hl 0 rfl) ?_
      refine lv_aload_n hx hb dX10_piecesAt_58 rfl (lv_at hl 2 rfl) ?_
      refine lv_iload hx hb dX10_piecesAt_59 (lv_at hl 1 rfl) ?_
      refine lv_bipush (v := zI 7) hx hb dX10_piecesAt_61 (zI_b8 (by decide)) ?_
      refine z_iadd hx hb dX10_piecesAt_63 ?_
      refine lv_iload hx hb dX10_piecesAt_64 (lv_at hl 1 rfl) ?_
      refine lv_bipush (v := zI 8) hx hb dX10_piecesAt_66 (zI_b8 (by decide)) ?_
      refine z_iadd hx hb dX10_piecesAt_68 ?_
      refine lv_iload_n hx hb dX10_piecesAt_69 rfl (lv_at hl 5 rfl) ?_
      refine z_calli hP hD hS hA (va_runV (As := [.int (zI (((7 * r9) + c9) + 7)), .int (zI (((7 * r9) + c9) + 8)), .int (zI lv9)]) (rest := [.int (zI (1 + 1))]) hC (c_X10_isCrossed l D τ β δ ms mb mo mp mf mn mi mc mq mr mw mk ml mt ma mx mh (((7 * r9) + c9) + 7) (((7 * r9) + c9) + 8) lv9 (by first | assumption | rfl | omega) (by first | assumption | rfl | omega) (by first | assumption | rfl | omega) (by first | assumption | rfl | omega) _) (cwV 3 hts (gV hB wl_X10_142 wn_X10_isCrossed ws_X10_isCrossed wi_X10 wc_X10_isCrossed) rfl rfl rfl hd_X10_isCrossed ⟨Nat.le_of_ble_eq_true rfl, Nat.le_of_ble_eq_true rfl⟩) (zp_V hK hP hD hS hA hG (ci := 10) (q0 := 0) rfl rfl rfl) rfl rfl hl.1 rfl (lv_room (Nat.le_of_ble_eq_true rfl)) dX10_piecesAt_70 ⟨Nat.le_of_ble_eq_true rfl, Nat.le_of_ble_eq_true rfl⟩) (fun r w1 H locs hq9 hP hD hS => ?_)
      obtain ⟨v70_13, hv70_0, rfl, rfl⟩ := hq9
      have hP : va_P D vwCl (wM β δ ms mb mo mp mf mn mi mc mq mr mw mk ml mt ma mx mh) H := hP
      have hD : va_D A (wM β δ ms mb mo mp mf mn mi mc mq mr mw mk ml mt ma mx mh) := hD
      refine z_ifeqB (tgt := 80) hx hb dX10_piecesAt_73 (by decide) (fun c_73 => ?_) (fun c_73 => ?_)
      · refine lv_iconst (v := zI 0) hx hb dX10_piecesAt_80 rfl ?_
        refine z_iadd hx hb dX10_piecesAt_81 ?_
        refine lv_istore (lv' := [(5, .int (zI ((1 + 1) + 0))), (4, .int (zI ((7 * r9) + c9))), (0, .ref (β 0)), (1, .int (zI r9)), (2, .int (zI c9)), (3, .int (zI lv9))]) hx hb dX10_piecesAt_82 hl (by decide) rfl (fun ls hl => ?_)
        refine lv_iload hx hb dX10_piecesAt_84 (lv_at hl 0 rfl) ?_
        refine lv_aload_n hx hb dX10_piecesAt_86 rfl (lv_at hl 2 rfl) ?_
        refine lv_iload hx hb dX10_piecesAt_87 (lv_at hl 1 rfl) ?_
        refine lv_iload hx hb dX10_piecesAt_89 (lv_at hl 1 rfl) ?_
        refine lv_bipush (v := zI 7) hx hb dX10_piecesAt_91 (zI_b8 (by decide)) ?_
        refine z_iadd hx hb dX10_piecesAt_93 ?_
        refine lv_iload_n hx hb dX10_piecesAt_94 rfl (lv_at hl 5 rfl) ?_
        refine z_calli hP hD hS hA (va_runV (As := [.int (zI ((7 * r9) + c9)), .int (zI (((7 * r9) + c9) + 7)), .int (zI lv9)]) (rest := [.int (zI ((1 + 1) + 0))]) hC (c_X10_isCrossed l D τ β δ ms mb mo mp mf mn mi mc mq mr mw mk ml mt ma mx mh ((7 * r9) + c9) (((7 * r9) + c9) + 7) lv9 (by first | assumption | rfl | omega) (by first | assumption | rfl | omega) (by first | assumption | rfl | omega) (by first | assumption | rfl | omega) _) (cwV 3 hts (gV hB wl_X10_142 wn_X10_isCrossed ws_X10_isCrossed wi_X10 wc_X10_isCrossed) rfl rfl rfl hd_X10_isCrossed ⟨Nat.le_of_ble_eq_true rfl, Nat.le_of_ble_eq_true rfl⟩) (zp_V hK hP hD hS hA hG (ci := 10) (q0 := 0) rfl rfl rfl) rfl rfl hl.1 rfl (lv_room (Nat.le_of_ble_eq_true rfl)) dX10_piecesAt_95 ⟨Nat.le_of_ble_eq_true rfl, Nat.le_of_ble_eq_true rfl⟩) (fun r w1 H locs hq9 hP hD hS => ?_)
        obtain ⟨v95_14, hv95_0, rfl, rfl⟩ := hq9
        have hP : va_P D vwCl (wM β δ ms mb mo mp mf mn mi mc mq mr mw mk ml mt ma mx mh) H := hP
        have hD : va_D A (wM β δ ms mb mo mp mf mn mi mc mq mr mw mk ml mt ma mx mh) := hD
        refine z_ifeqB (tgt := 105) hx hb dX10_piecesAt_98 (by decide) (fun c_98 => ?_) (fun c_98 => ?_)
        · refine lv_iconst (v := zI 0) hx hb dX10_piecesAt_105 rfl ?_
          refine z_iadd hx hb dX10_piecesAt_106 ?_
          refine lv_istore (lv' := [(5, .int (zI (((1 + 1) + 0) + 0))), (4, .int (zI ((7 * r9) + c9))), (0, .ref (β 0)), (1, .int (zI r9)), (2, .int (zI c9)), (3, .int (zI lv9))]) hx hb dX10_piecesAt_107 hl (by decide) rfl (fun ls hl => ?_)
          refine lv_iload hx hb dX10_piecesAt_109 (lv_at hl 0 rfl) ?_
          refine lv_iconst (v := zI 2) hx hb dX10_piecesAt_111 rfl ?_
          refine z_idiv hx hb ⟨⟨by omega, by omega⟩, by omega, by omega⟩ dX10_piecesAt_112 ?_
          exact z_iret hC hr hlk hQ hP hD hS ⟨(((1 + 1) + 0) + 0) / 2, (by unfold S_pie; rw [pA4 hr9 hc9, ← hv16_0, ← hv42_0, ← hv70_0, ← hv95_0, c_19, c_45, c_73, c_98]; rfl), (by omega), rfl, rfl⟩ dX10_piecesAt_113
        · refine lv_iconst (v := zI 1) hx hb dX10_piecesAt_101 rfl ?_
          refine lv_goto (tgt := 106) hx hb dX10_piecesAt_102 (by decide) ?_
          refine z_iadd hx hb dX10_piecesAt_106 ?_
          refine lv_istore (lv' := [(5, .int (zI (((1 + 1) + 0) + 1))), (4, .int (zI ((7 * r9) + c9))), (0, .ref (β 0)), (1, .int (zI r9)), (2, .int (zI c9)), (3, .int (zI lv9))]) hx hb dX10_piecesAt_107 hl (by decide) rfl (fun ls hl => ?_)
          refine lv_iload hx hb dX10_piecesAt_109 (lv_at hl 0 rfl) ?_
          refine lv_iconst (v := zI 2) hx hb dX10_piecesAt_111 rfl ?_
          refine z_idiv hx hb ⟨⟨by omega, by omega⟩, by omega, by omega⟩ dX10_piecesAt_112 ?_
          exact z_iret hC hr hlk hQ hP hD hS ⟨(((1 + 1) + 0) + 1) / 2, (by unfold S_pie; rw [pA4 hr9 hc9, ← hv16_0, ← hv42_0, ← hv70_0, ← hv95_0, c_19, c_45, c_73, c_98]; rfl), (by omega), rfl, rfl⟩ dX10_piecesAt_113
      · refine lv_iconst (v := zI 1) hx hb dX10_piecesAt_76 rfl ?_
        refine lv_goto (tgt := 81) hx hb dX10_piecesAt_77 (by decide) ?_
        refine z_iadd hx hb dX10_piecesAt_81 ?_
        refine lv_istore (lv' := [(5, .int (zI ((1 + 1) + 1))), (4, .int (zI ((7 * r9) + c9))), (0, .ref (β 0)), (1, .int (zI r9)), (2, .int (zI c9)), (3, .int (zI lv9))]) hx hb dX10_piecesAt_82 hl (by decide) rfl (fun ls hl => ?_)
        refine lv_iload hx hb dX10_piecesAt_84 (lv_at hl 0 rfl) ?_
        refine lv_aload_n hx hb dX10_piecesAt_86 rfl (lv_at hl 2 rfl) ?_
        refine lv_iload hx hb dX10_piecesAt_87 (lv_at hl 1 rfl) ?_
        refine lv_iload hx hb dX10_piecesAt_89 (lv_at hl 1 rfl) ?_
        refine lv_bipush (v := zI 7) hx hb dX10_piecesAt_91 (zI_b8 (by decide)) ?_
        refine z_iadd hx hb dX10_piecesAt_93 ?_
        refine lv_iload_n hx hb dX10_piecesAt_94 rfl (lv_at hl 5 rfl) ?_
        refine z_calli hP hD hS hA (va_runV (As := [.int (zI ((7 * r9) + c9)), .int (zI (((7 * r9) + c9) + 7)), .int (zI lv9)]) (rest := [.int (zI ((1 + 1) + 1))]) hC (c_X10_isCrossed l D τ β δ ms mb mo mp mf mn mi mc mq mr mw mk ml mt ma mx mh ((7 * r9) + c9) (((7 * r9) + c9) + 7) lv9 (by first | assumption | rfl | omega) (by first | assumption | rfl | omega) (by first | assumption | rfl | omega) (by first | assumption | rfl | omega) _) (cwV 3 hts (gV hB wl_X10_142 wn_X10_isCrossed ws_X10_isCrossed wi_X10 wc_X10_isCrossed) rfl rfl rfl hd_X10_isCrossed ⟨Nat.le_of_ble_eq_true rfl, Nat.le_of_ble_eq_true rfl⟩) (zp_V hK hP hD hS hA hG (ci := 10) (q0 := 0) rfl rfl rfl) rfl rfl hl.1 rfl (lv_room (Nat.le_of_ble_eq_true rfl)) dX10_piecesAt_95 ⟨Nat.le_of_ble_eq_true rfl, Nat.le_of_ble_eq_true rfl⟩) (fun r w1 H locs hq9 hP hD hS => ?_)
        obtain ⟨v95_15, hv95_0, rfl, rfl⟩ := hq9
        have hP : va_P D vwCl (wM β δ ms mb mo mp mf mn mi mc mq mr mw mk ml mt ma mx mh) H := hP
        have hD : va_D A (wM β δ ms mb mo mp mf mn mi mc mq mr mw mk ml mt ma mx mh) := hD
        refine z_ifeqB (tgt := 105) hx hb dX10_piecesAt_98 (by decide) (fun c_98 => ?_) (fun c_98 => ?_)
        · refine lv_iconst (v := zI 0) hx hb dX10_piecesAt_105 rfl ?_
          refine z_iadd hx hb dX10_piecesAt_106 ?_
          refine lv_istore (lv' := [(5, .int (zI (((1 + 1) + 1) + 0))), (4, .int (zI ((7 * r9) + c9))), (0, .ref (β 0)), (1, .int (zI r9)), (2, .int (zI c9)), (3, .int (zI lv9))]) hx hb dX10_piecesAt_107 hl (by decide) rfl (fun ls hl => ?_)
          refine lv_iload hx hb dX10_piecesAt_109 (lv_at hl 0 rfl) ?_
          refine lv_iconst (v := zI 2) hx hb dX10_piecesAt_111 rfl ?_
          refine z_idiv hx hb ⟨⟨by omega, by omega⟩, by omega, by omega⟩ dX10_piecesAt_112 ?_
          exact z_iret hC hr hlk hQ hP hD hS ⟨(((1 + 1) + 1) + 0) / 2, (by unfold S_pie; rw [pA4 hr9 hc9, ← hv16_0, ← hv42_0, ← hv70_0, ← hv95_0, c_19, c_45, c_73, c_98]; rfl), (by omega), rfl, rfl⟩ dX10_piecesAt_113
        · refine lv_iconst (v := zI 1) hx hb dX10_piecesAt_101 rfl ?_
          refine lv_goto (tgt := 106) hx hb dX10_piecesAt_102 (by decide) ?_
          refine z_iadd hx hb dX10_piecesAt_106 ?_
          refine lv_istore (lv' := [(5, .int (zI (((1 + 1) + 1) + 1))), (4, .int (zI ((7 * r9) + c9))), (0, .ref (β 0)), (1, .int (zI r9)), (2, .int (zI c9)), (3, .int (zI lv9))]) hx hb dX10_piecesAt_107 hl (by decide) rfl (fun ls hl => ?_)
          refine lv_iload hx hb dX10_piecesAt_109 (lv_at hl 0 rfl) ?_
          refine lv_iconst (v := zI 2) hx hb dX10_piecesAt_111 rfl ?_
          refine z_idiv hx hb ⟨⟨by omega, by omega⟩, by omega, by omega⟩ dX10_piecesAt_112 ?_
          exact z_iret hC hr hlk hQ hP hD hS ⟨(((1 + 1) + 1) + 1) / 2, (by unfold S_pie; rw [pA4 hr9 hc9, ← hv16_0, ← hv42_0, ← hv70_0, ← hv95_0, c_19, c_45, c_73, c_98]; rfl), (by omega), rfl, rfl⟩ dX10_piecesAt_113

abbrev wz_X10_piecesIn : List Cond := .code yX10_piecesIn cX10_piecesIn 4 (some .int) :: W0
abbrev rm_X10_piecesIn : Room := { frames := 3, cells := 0, slots := 0, locals := 70 }
theorem hd_X10_piecesIn : yX10_piecesIn.cls = RX10 ∧ yX10_piecesIn.cls ≠ "java/lang/invoke/MethodHandle" ∧ yX10_piecesIn.cls ≠ "java/lang/invoke/VarHandle" ∧ (parseMethodDescriptor yX10_piecesIn.desc).map (fun d => d.parameters.length) = some 3 := by decide +kernel
set_option maxHeartbeats 4000000 in
set_option maxRecDepth 100000 in
theorem c_X10_piecesIn (l : Launch) (D : va_G) (τ : Nat → Nat) (β : Nat → Nat) (δ : Nat → ClassId) (ms : IA) (mb : IA) (mo : IA) (mp : BA) (mf : IA) (mn : IA) (mi : IA) (mc : IA) (mq : BA) (mr : IA) (mw : IA) (mk : Int) (ml : Int) (mt : Int) (ma : Int) (mx : Bool) (mh : Int64) (r9 : Int) (c9 : Int) (lv9 : Int) (hr9 : -2147483648 ≤ r9 ∧ r9 < 2147483648) (hc9 : -2147483648 ≤ c9 ∧ c9 < 2147483648) (hlv : -2147483648 ≤ lv9 ∧ lv9 < 2147483648) (hms : ∀ k, 0 ≤ k → k < 49 → 0 ≤ ms k ∧ ms k ≤ 99) : cM l yX10_piecesIn wz_X10_piecesIn rm_X10_piecesIn D τ (tyM δ) [.ref (β 0), .int (zI r9), .int (zI c9), .int (zI lv9)] (wM β δ ms mb mo mp mf mn mi mc mq mr mw mk ml mt ma mx mh) (zQi (fun r w => ∃ (t2 : Int), ∃ (v : Int), (t2 = S_tpie r9 c9 lv9) ∧ (t2 = 0 → v = S_pie ms r9 c9 lv9) ∧ r = zI v ∧ wM β δ ms mb mo mp mf mn mi mc mq mr mw mk ml t2 ma mx mh = w)) := by
  refine z_ofM (cc := cX10_piecesIn) (maxL := 4) (ret := (some .int)) (by decide +kernel) rfl (Nat.le_of_ble_eq_true rfl) ?_
  intro pg e s m args below meth c hC hr hlk hnm hK hP A hD hG hA hS ls hl Q hQ
  have hx := hC.1
  have hb := hC.2.1
  have hml := hC.2.2.1
  have hown := hC.2.2.2.1
  have hts := hC.2.2.2.2
  have hB : ∀ w ∈ W0, w ∈ wz_X10_piecesIn := fun _ h => List.mem_cons_of_mem _ h
  have hW0 : ∀ w ∈ W0, w.before args s = true := fun w h => hts w (hB w h)
  have hl : lv_has ls 4 [(0, .ref (β 0)), (1, .int (zI r9)), (2, .int (zI c9)), (3, .int (zI lv9))] := hl
  refine lv_aload_n hx hb dX10_piecesIn_0 rfl (lv_at hl 0 rfl) ?_
  refine lv_iconst (v := zI 0) hx hb dX10_piecesIn_1 rfl ?_
  refine va_put (D := D) (ci := 10) (v := .int (zI 0)) (ty := .int) (C := RX10) (T := TX10) (N := 17) hx hb hts (fun w h => List.mem_cons_of_mem _ (wx_X10 w h)) tyX10 tyX10_ok nmX10 hown hK hP hD hS 0 rfl rfl 7 (by decide) (hW0 _ wf_X10_44) (fun _ h9 => h9) rfl (by decide +kernel) rfl rfl (Nat.le_of_ble_eq_true rfl) dX10_piecesIn_2 (fun H locs hP hD hS => ?_)
  have hP : va_P D vwCl (wM β δ ms mb mo mp mf mn mi mc mq mr mw mk ml 0 ma mx mh) H := hP
  have hD : va_D A (wM β δ ms mb mo mp mf mn mi mc mq mr mw mk ml 0 ma mx mh) := hD
  refine lv_iload_n hx hb dX10_piecesIn_5 rfl (lv_at hl 1 rfl) ?_
  refine lv_iconst (v := zI 0) hx hb dX10_piecesIn_6 rfl ?_
  refine lv_iconst (v := zI 5) hx hb dX10_piecesIn_7 rfl ?_
  refine z_calli hP hD hS hA (va_runS (As := [.int (zI r9), .int (zI 0), .int (zI 5)]) (rest := []) hC (c_X10_in l D τ _ _ r9 0 5 (by first | assumption | rfl | omega) (by first | assumption | rfl | omega) (by first | assumption | rfl | omega) _) (va_cwS 3 hts (gS hB wl_X10_48 wt_X10_in wi_X10 wc_X10_in) rfl rfl rfl hd_X10_in.2 ⟨Nat.le_of_ble_eq_true rfl, Nat.le_of_ble_eq_true rfl⟩) (zp_S hK hP hD hS hA hG) rfl rfl hl.1 rfl (lv_room (Nat.le_of_ble_eq_true rfl)) dX10_piecesIn_8 ⟨Nat.le_of_ble_eq_true rfl, Nat.le_of_ble_eq_true rfl⟩) (fun r w1 H locs hq9 hP hD hS => ?_)
  obtain ⟨v8_1, hv8_0, rfl, rfl⟩ := hq9
  refine z_ifeqB (tgt := 23) hx hb dX10_piecesIn_11 (by decide) (fun c_11 => ?_) (fun c_11 => ?_)
  · have hb_11 := zb_neg hv8_0 c_11
    have ht : S_tpie r9 c9 lv9 = 1 := by unfold S_tpie; first | exact if_neg (fun h9 => hb_11 h9.1) | exact if_neg (fun h9 => hb_20 h9.2)
    refine lv_aload_n hx hb dX10_piecesIn_23 rfl (lv_at hl 0 rfl) ?_
    refine lv_iconst (v := zI 1) hx hb dX10_piecesIn_24 rfl ?_
    refine z_calli hP hD hS hA (va_runV (As := [.int (zI 1)]) (rest := []) hC (c_X10_throwing l D τ β δ ms mb mo mp mf mn mi mc mq mr mw mk ml 0 ma mx mh 1 _) (cwV 1 hts (gV hB wl_X10_90 wn_X10_throwing ws_X10_throwing wi_X10 wc_X10_throwing) rfl rfl rfl hd_X10_throwing ⟨Nat.le_of_ble_eq_true rfl, Nat.le_of_ble_eq_true rfl⟩) (zp_V hK hP hD hS hA hG (ci := 10) (q0 := 0) rfl rfl rfl) rfl rfl hl.1 rfl (lv_room (Nat.le_of_ble_eq_true rfl)) dX10_piecesIn_25 ⟨Nat.le_of_ble_eq_true rfl, Nat.le_of_ble_eq_true rfl⟩) (fun r w1 H locs hq9 hP hD hS => ?_)
    obtain ⟨t25_2, v25_3, hv25_0, hv25_1, rfl, rfl⟩ := hq9
    have hP : va_P D vwCl (wM β δ ms mb mo mp mf mn mi mc mq mr mw mk ml t25_2 ma mx mh) H := hP
    have hD : va_D A (wM β δ ms mb mo mp mf mn mi mc mq mr mw mk ml t25_2 ma mx mh) := hD
    exact z_iret hC hr hlk hQ hP hD hS ⟨t25_2, v25_3, (by first | exact hv25_1.trans ht.symm | exact hv51_1.trans ht.symm | exact ht.symm), (by first | exact fun _ => hv43_0 | (intro h9; exfalso; omega)), rfl, rfl⟩ dX10_piecesIn_28
  · have hb_11 := hv8_0.mp c_11
    refine lv_iload_n hx hb dX10_piecesIn_14 rfl (lv_at hl 2 rfl) ?_
    refine lv_iconst (v := zI 0) hx hb dX10_piecesIn_15 rfl ?_
    refine lv_iconst (v := zI 5) hx hb dX10_piecesIn_16 rfl ?_
    refine z_calli hP hD hS hA (va_runS (As := [.int (zI c9), .int (zI 0), .int (zI 5)]) (rest := []) hC (c_X10_in l D τ _ _ c9 0 5 (by first | assumption | rfl | omega) (by first | assumption | rfl | omega) (by first | assumption | rfl | omega) _) (va_cwS 3 hts (gS hB wl_X10_48 wt_X10_in wi_X10 wc_X10_in) rfl rfl rfl hd_X10_in.2 ⟨Nat.le_of_ble_eq_true rfl, Nat.le_of_ble_eq_true rfl⟩) (zp_S hK hP hD hS hA hG) rfl rfl hl.1 rfl (lv_room (Nat.le_of_ble_eq_true rfl)) dX10_piecesIn_17 ⟨Nat.le_of_ble_eq_true rfl, Nat.le_of_ble_eq_true rfl⟩) (fun r w1 H locs hq9 hP hD hS => ?_)
    obtain ⟨v17_4, hv17_0, rfl, rfl⟩ := hq9
    refine z_ifneB (tgt := 29) hx hb dX10_piecesIn_20 (by decide) (fun c_20 => ?_) (fun c_20 => ?_)
    · have hb_20 := hv17_0.mp c_20
      refine lv_iload_n hx hb dX10_piecesIn_29 rfl (lv_at hl 3 rfl) ?_
      refine lv_iconst (v := zI 0) hx hb dX10_piecesIn_30 rfl ?_
      refine lv_bipush (v := zI 98) hx hb dX10_piecesIn_31 (zI_b8 (by decide)) ?_
      refine z_calli hP hD hS hA (va_runS (As := [.int (zI lv9), .int (zI 0), .int (zI 98)]) (rest := []) hC (c_X10_in l D τ _ _ lv9 0 98 (by first | assumption | rfl | omega) (by first | assumption | rfl | omega) (by first | assumption | rfl | omega) _) (va_cwS 3 hts (gS hB wl_X10_48 wt_X10_in wi_X10 wc_X10_in) rfl rfl rfl hd_X10_in.2 ⟨Nat.le_of_ble_eq_true rfl, Nat.le_of_ble_eq_true rfl⟩) (zp_S hK hP hD hS hA hG) rfl rfl hl.1 rfl (lv_room (Nat.le_of_ble_eq_true rfl)) dX10_piecesIn_33 ⟨Nat.le_of_ble_eq_true rfl, Nat.le_of_ble_eq_true rfl⟩) (fun r w1 H locs hq9 hP hD hS => ?_)
      obtain ⟨v33_5, hv33_0, rfl, rfl⟩ := hq9
      refine z_ifeqB (tgt := 49) hx hb dX10_piecesIn_36 (by decide) (fun c_36 => ?_) (fun c_36 => ?_)
      · have hb_36 := zb_neg hv33_0 c_36
        have ht : S_tpie r9 c9 lv9 = 2 := by unfold S_tpie; rw [if_pos ⟨hb_11, hb_20⟩, if_neg hb_36]
        refine lv_aload_n hx hb dX10_piecesIn_49 rfl (lv_at hl 0 rfl) ?_
        refine lv_iconst (v := zI 2) hx hb dX10_piecesIn_50 rfl ?_
        refine z_calli hP hD hS hA (va_runV (As := [.int (zI 2)]) (rest := []) hC (c_X10_throwing l D τ β δ ms mb mo mp mf mn mi mc mq mr mw mk ml 0 ma mx mh 2 _) (cwV 1 hts (gV hB wl_X10_90 wn_X10_throwing ws_X10_throwing wi_X10 wc_X10_throwing) rfl rfl rfl hd_X10_throwing ⟨Nat.le_of_ble_eq_true rfl, Nat.le_of_ble_eq_true rfl⟩) (zp_V hK hP hD hS hA hG (ci := 10) (q0 := 0) rfl rfl rfl) rfl rfl hl.1 rfl (lv_room (Nat.le_of_ble_eq_true rfl)) dX10_piecesIn_51 ⟨Nat.le_of_ble_eq_true rfl, Nat.le_of_ble_eq_true rfl⟩) (fun r w1 H locs hq9 hP hD hS => ?_)
        obtain ⟨t51_6, v51_7, hv51_0, hv51_1, rfl, rfl⟩ := hq9
        have hP : va_P D vwCl (wM β δ ms mb mo mp mf mn mi mc mq mr mw mk ml t51_6 ma mx mh) H := hP
        have hD : va_D A (wM β δ ms mb mo mp mf mn mi mc mq mr mw mk ml t51_6 ma mx mh) := hD
        exact z_iret hC hr hlk hQ hP hD hS ⟨t51_6, v51_7, (by first | exact hv25_1.trans ht.symm | exact hv51_1.trans ht.symm | exact ht.symm), (by first | exact fun _ => hv43_0 | (intro h9; exfalso; omega)), rfl, rfl⟩ dX10_piecesIn_54
      · have hb_36 := hv33_0.mp c_36
        have ht : S_tpie r9 c9 lv9 = 0 := by unfold S_tpie; rw [if_pos ⟨hb_11, hb_20⟩, if_pos hb_36]
        refine lv_aload_n hx hb dX10_piecesIn_39 rfl (lv_at hl 0 rfl) ?_
        refine lv_iload_n hx hb dX10_piecesIn_40 rfl (lv_at hl 1 rfl) ?_
        refine lv_iload_n hx hb dX10_piecesIn_41 rfl (lv_at hl 2 rfl) ?_
        refine lv_iload_n hx hb dX10_piecesIn_42 rfl (lv_at hl 3 rfl) ?_
        refine z_calli hP hD hS hA (va_runV (As := [.int (zI r9), .int (zI c9), .int (zI lv9)]) (rest := []) hC (c_X10_piecesAt l D τ β δ ms mb mo mp mf mn mi mc mq mr mw mk ml 0 ma mx mh r9 c9 lv9 (by first | assumption | rfl | omega) (by first | assumption | rfl | omega) (by first | assumption | rfl | omega) (by first | assumption | rfl | omega) _) (cwV 3 hts (gV hB wl_X10_151 wn_X10_piecesAt ws_X10_piecesAt wi_X10 wc_X10_piecesAt) rfl rfl rfl hd_X10_piecesAt ⟨Nat.le_of_ble_eq_true rfl, Nat.le_of_ble_eq_true rfl⟩) (zp_V hK hP hD hS hA hG (ci := 10) (q0 := 0) rfl rfl rfl) rfl rfl hl.1 rfl (lv_room (Nat.le_of_ble_eq_true rfl)) dX10_piecesIn_43 ⟨Nat.le_of_ble_eq_true rfl, Nat.le_of_ble_eq_true rfl⟩) (fun r w1 H locs hq9 hP hD hS => ?_)
        obtain ⟨v43_8, hv43_0, hv43_1, rfl, rfl⟩ := hq9
        have hP : va_P D vwCl (wM β δ ms mb mo mp mf mn mi mc mq mr mw mk ml 0 ma mx mh) H := hP
        have hD : va_D A (wM β δ ms mb mo mp mf mn mi mc mq mr mw mk ml 0 ma mx mh) := hD
        refine lv_goto (tgt := 54) hx hb dX10_piecesIn_46 (by decide) ?_
        exact z_iret hC hr hlk hQ hP hD hS ⟨0, v43_8, (by first | exact hv25_1.trans ht.symm | exact hv51_1.trans ht.symm | exact ht.symm), (by first | exact fun _ => hv43_0 | (intro h9; exfalso; omega)), rfl, rfl⟩ dX10_piecesIn_54
    · have hb_20 := zb_neg hv17_0 c_20
      have ht : S_tpie r9 c9 lv9 = 1 := by unfold S_tpie; first | exact if_neg (fun h9 => hb_11 h9.1) | exact if_neg (fun h9 => hb_20 h9.2)
      refine lv_aload_n hx hb dX10_piecesIn_23 rfl (lv_at hl 0 rfl) ?_
      refine lv_iconst (v := zI 1) hx hb dX10_piecesIn_24 rfl ?_
      refine z_calli hP hD hS hA (va_runV (As := [.int (zI 1)]) (rest := []) hC (c_X10_throwing l D τ β δ ms mb mo mp mf mn mi mc mq mr mw mk ml 0 ma mx mh 1 _) (cwV 1 hts (gV hB wl_X10_90 wn_X10_throwing ws_X10_throwing wi_X10 wc_X10_throwing) rfl rfl rfl hd_X10_throwing ⟨Nat.le_of_ble_eq_true rfl, Nat.le_of_ble_eq_true rfl⟩) (zp_V hK hP hD hS hA hG (ci := 10) (q0 := 0) rfl rfl rfl) rfl rfl hl.1 rfl (lv_room (Nat.le_of_ble_eq_true rfl)) dX10_piecesIn_25 ⟨Nat.le_of_ble_eq_true rfl, Nat.le_of_ble_eq_true rfl⟩) (fun r w1 H locs hq9 hP hD hS => ?_)
      obtain ⟨t25_9, v25_10, hv25_0, hv25_1, rfl, rfl⟩ := hq9
      have hP : va_P D vwCl (wM β δ ms mb mo mp mf mn mi mc mq mr mw mk ml t25_9 ma mx mh) H := hP
      have hD : va_D A (wM β δ ms mb mo mp mf mn mi mc mq mr mw mk ml t25_9 ma mx mh) := hD
      exact z_iret hC hr hlk hQ hP hD hS ⟨t25_9, v25_10, (by first | exact hv25_1.trans ht.symm | exact hv51_1.trans ht.symm | exact ht.symm), (by first | exact fun _ => hv43_0 | (intro h9; exfalso; omega)), rfl, rfl⟩ dX10_piecesIn_28

/-! THE MODEL'S WAYS, plainly: slopes without fuel, regions by labels, floods, cuts -/
theorem S_cnt_b {h : IA} {x : Int} (hx : 0 ≤ x ∧ x < 49) : zC (fun k => decide (h k < h x)) 49 ≤ 48 := by
  have h1 := zC_lt (P := fun k => decide (h k < h x)) (Q := fun _ => true) (i := 49) (n := x) (by omega) (fun _ _ _ _ => rfl) hx.1 hx.2 (by simp) rfl
  have h2 := (zC_b (fun _ => true) (i := 49) (by omega)).2
  omega
theorem S_fuel {h : IA} : ∀ (n : Nat) (x : Int), 0 ≤ x ∧ x < 49 → zC (fun k => decide (h k < h x)) 49 ≤ n → (S_sinkN h n x = S_sinkN h (n + 1) x ∧ S_stepsN h n x = S_stepsN h (n + 1) x) ∧ S_next h (S_sinkN h n x) = -1 ∧ Cn (S_dr h) x (S_sinkN h n x) := by
  intro n; induction n with
  | zero =>
    intro x hx hc
    have e : S_next h x = -1 := Classical.byContradiction (fun q => by
      have h1 := S_next_ok hx q
      have h2 := zC_lt (P := fun _ => false) (Q := fun k => decide (h k < h x)) (i := 49) (n := S_next h x) (by omega) (fun _ _ _ z => by cases z) h1.1.1 h1.1.2 rfl (decide_eq_true h1.2.1)
      have h3 := (zC_b (fun _ => false) (i := 49) (by omega)).1
      omega)
    rw [S_sinkN_s e, S_sinkN_s e, S_stepsN_s e, S_stepsN_s e]; exact ⟨⟨rfl, rfl⟩, e, Cn.rf⟩
  | succ n ih =>
    intro x hx hc
    by_cases e : S_next h x = -1
    · rw [S_sinkN_s e, S_sinkN_s e, S_stepsN_s e, S_stepsN_s e]; exact ⟨⟨rfl, rfl⟩, e, Cn.rf⟩
    · have h1 := S_next_ok hx e
      have h2 := zC_lt (P := fun k => decide (h k < h (S_next h x))) (Q := fun k => decide (h k < h x)) (i := 49) (n := S_next h x) (by omega) (fun k _ _ z => by have z := of_decide_eq_true z; exact decide_eq_true (Int.lt_trans z h1.2.1)) h1.1.1 h1.1.2 (by simp) (decide_eq_true h1.2.1)
      have h3 := ih (S_next h x) h1.1 (by omega)
      have e1 : S_sinkN h (n + 1) x = S_sinkN h n (S_next h x) := S_sinkN_t e
      have e2 : S_sinkN h (n + 1 + 1) x = S_sinkN h (n + 1) (S_next h x) := S_sinkN_t e
      have e3 : S_stepsN h (n + 1) x = 1 + S_stepsN h n (S_next h x) := S_stepsN_t e
      have e4 : S_stepsN h (n + 1 + 1) x = 1 + S_stepsN h (n + 1) (S_next h x) := S_stepsN_t e
      rw [e1, e2, e3, e4]
      exact ⟨⟨h3.1.1, congrArg (1 + ·) h3.1.2⟩, h3.2.1, (Cn.one ⟨hx, rfl, e⟩).tr h3.2.2⟩
theorem S_sink_un {h : IA} {x : Int} (hx : 0 ≤ x ∧ x < 49) (e : S_next h x ≠ -1) : S_sink h x = S_sink h (S_next h x) ∧ S_steps h x = 1 + S_steps h (S_next h x) := by
  have h1 := S_next_ok hx e
  have h2 := (S_fuel (h := h) 48 (S_next h x) h1.1 (S_cnt_b h1.1)).1
  have e1 : S_sinkN h (48 + 1) x = S_sinkN h 48 (S_next h x) := S_sinkN_t e
  have e2 : S_stepsN h (48 + 1) x = 1 + S_stepsN h 48 (S_next h x) := S_stepsN_t e
  exact ⟨e1.trans h2.1, e2.trans (congrArg (1 + ·) h2.2)⟩
theorem S_sink_s {h : IA} {x : Int} (e : S_next h x = -1) : S_sink h x = x ∧ S_steps h x = 0 := ⟨S_sinkN_s e, S_stepsN_s e⟩
theorem S_sink_ok {h : IA} {x : Int} (hx : 0 ≤ x ∧ x < 49) : S_next h (S_sink h x) = -1 ∧ Cn (S_dr h) x (S_sink h x) :=
  (S_fuel (h := h) 49 x hx (by have := S_cnt_b (h := h) hx; omega)).2
theorem S_dr_un {h : IA} {x p : Int} (hx : 0 ≤ x ∧ x < 49) (hne : x ≠ p) : Cn (S_dr h) x p ↔ S_next h x ≠ -1 ∧ Cn (S_dr h) (S_next h x) p := by
  constructor
  · intro hc
    have := hc (fun z => z = x ∨ (S_next h x ≠ -1 ∧ Cn (S_dr h) (S_next h x) z)) (Or.inl rfl) (fun a b ha hr => by
      obtain ⟨r1, r2, r3⟩ := hr
      rcases ha with ha | ha
      · rw [ha] at r2; exact Or.inr ⟨by rw [r2]; exact r3, by rw [r2]; exact Cn.rf⟩
      · exact Or.inr ⟨ha.1, ha.2.st ⟨r1, r2, r3⟩⟩)
    exact this.elim (fun z => absurd z.symm hne) id
  · intro ⟨h1, h2⟩; exact (Cn.one ⟨hx, rfl, h1⟩).tr h2
noncomputable def S_basin (h : IA) (p : Int) : Int := if S_next h p = -1 then S_flow h p else 0
theorem S_flow_b (h : IA) (p : Int) : 0 ≤ S_flow h p ∧ S_flow h p ≤ 49 := zC_b _ (by omega)
theorem S_basin_b (h : IA) (p : Int) : 0 ≤ S_basin h p ∧ S_basin h p ≤ 49 := by
  unfold S_basin; split; exact S_flow_b h p; omega
theorem S_basin_eq {h : IA} {p : Int} : zC (fun k => decide (S_sink h k = p)) 49 = S_basin h p := by
  unfold S_basin
  by_cases e : S_next h p = -1
  · rw [if_pos e]
    refine zC_congr (by omega) (fun k a b => ?_)
    have hs := S_sink_ok (h := h) ⟨a, b⟩
    by_cases q : S_sink h k = p
    · rw [decide_eq_true q]; exact (cb_iff.mpr (q ▸ hs.2)).symm
    · rw [decide_eq_false q]; refine (cb_f.mpr (fun hc => q ?_)).symm
      have := hc (fun z => (0 ≤ z ∧ z < 49) ∧ S_sink h z = S_sink h k) ⟨⟨a, b⟩, rfl⟩ (fun x y hx hr => by
        obtain ⟨r1, r2, r3⟩ := hr
        have e1 : S_next h x ≠ -1 := by rw [r2]; exact r3
        rw [← r2]; exact ⟨(S_next_ok r1 e1).1, (S_sink_un r1 e1).1.symm.trans hx.2⟩)
      rw [← this.2]; exact (S_sink_s e).1
  · rw [if_neg e]
    exact zC_zero 49 (by omega) (fun k a b => decide_eq_false (fun q => e (by have hs := (S_sink_ok (h := h) ⟨a, b⟩).1; rw [q] at hs; exact hs)))
/-! sums of a row that is set -/
theorem zS_set {f : IA} {i v : Int} (hi : 0 ≤ i) : ∀ n, 0 ≤ n → zS (zu f i v) n = zS f n + (if i < n then v - f i else 0) := by
  refine z_ind (by rw [zS_0, zS_0, if_neg (by omega)]; rfl) (fun n hn ih => ?_)
  rw [zS_up hn, zS_up hn, ih]
  by_cases e : n = i
  · rw [e, zu_s, if_neg (by omega), if_pos (by omega)]; omega
  · rw [zu_n e]
    by_cases q : i < n
    · rw [if_pos q, if_pos (by omega)]; omega
    · rw [if_neg q, if_neg (by omega)]; omega
/-! near points -/
theorem near4 {k j : Int} (hk : 0 ≤ k ∧ k < 49) (hj : 0 ≤ j ∧ j < 49) : S_adj 4 k j ↔ zabs (k / 7 - j / 7) + zabs (k % 7 - j % 7) = 1 := by
  obtain ⟨a0, a1, a2, a3⟩ := S_step_4 hk
  have z1 := zabs_spec (k / 7 - j / 7); have z2 := zabs_spec (k % 7 - j % 7)
  constructor
  · intro ⟨_, _, s, s0, s1, s2⟩
    rcases z4 ⟨s0, s1⟩ with e | e | e | e <;> subst e
    · rw [a0] at s2; split at s2 <;> omega
    · rw [a1] at s2; split at s2 <;> omega
    · rw [a2] at s2; split at s2 <;> omega
    · rw [a3] at s2; split at s2 <;> omega
  · intro h
    refine ⟨hk, hj, ?_⟩
    have hc : (k / 7 - j / 7 = 1 ∧ k % 7 = j % 7) ∨ (k / 7 - j / 7 = -1 ∧ k % 7 = j % 7) ∨ (k / 7 = j / 7 ∧ k % 7 - j % 7 = 1) ∨ (k / 7 = j / 7 ∧ k % 7 - j % 7 = -1) := by omega
    rcases hc with hc | hc | hc | hc
    · exact ⟨0, by omega, by omega, by rw [a0, if_neg (by omega)]; omega⟩
    · exact ⟨2, by omega, by omega, by rw [a2, if_neg (by omega)]; omega⟩
    · exact ⟨3, by omega, by omega, by rw [a3, if_neg (by omega)]; omega⟩
    · exact ⟨1, by omega, by omega, by rw [a1, if_neg (by omega)]; omega⟩
def S_nb (b : Bool) : Int := if b = true then 8 else 4
theorem S_nb_or (b : Bool) : S_nb b = 4 ∨ S_nb b = 8 := by cases b; exact Or.inl rfl; exact Or.inr rfl
theorem near9 {b : Bool} {k j : Int} (hk : 0 ≤ k ∧ k < 49) (hj : 0 ≤ j ∧ j < 49) : S_adj (S_nb b) k j ↔ (zabs (k / 7 - j / 7) + zabs (k % 7 - j % 7) = 1 ∨ (b = true ∧ zabs (k / 7 - j / 7) = 1 ∧ zabs (k % 7 - j % 7) = 1)) := by
  cases b
  · rw [show S_nb false = 4 from rfl, near4 hk hj]
    exact ⟨Or.inl, fun h => h.elim id (fun q => by cases q.1)⟩
  · rw [show S_nb true = 8 from rfl]
    obtain ⟨a0, a1, a2, a3⟩ := S_step_8 hk
    have z1 := zabs_spec (k / 7 - j / 7); have z2 := zabs_spec (k % 7 - j % 7)
    constructor
    · intro ⟨h1, h2, s, s0, s1, s2⟩
      rcases z8 ⟨s0, s1⟩ with e | e | e | e | e
      · exact Or.inl ((near4 hk hj).mp ⟨h1, h2, s, e.1, e.2, s2⟩)
      · subst e; rw [a0] at s2; right; refine ⟨rfl, ?_, ?_⟩ <;> split at s2 <;> omega
      · subst e; rw [a1] at s2; right; refine ⟨rfl, ?_, ?_⟩ <;> split at s2 <;> omega
      · subst e; rw [a2] at s2; right; refine ⟨rfl, ?_, ?_⟩ <;> split at s2 <;> omega
      · subst e; rw [a3] at s2; right; refine ⟨rfl, ?_, ?_⟩ <;> split at s2 <;> omega
    · intro h
      rcases h with h | ⟨-, h1, h2⟩
      · obtain ⟨g1, g2, s, g3, g4, g5⟩ := (near4 hk hj).mpr h; exact ⟨g1, g2, s, g3, by omega, g5⟩
      · refine ⟨hk, hj, ?_⟩
        have hc : (k / 7 - j / 7 = 1 ∧ k % 7 - j % 7 = -1) ∨ (k / 7 - j / 7 = -1 ∧ k % 7 - j % 7 = -1) ∨ (k / 7 - j / 7 = -1 ∧ k % 7 - j % 7 = 1) ∨ (k / 7 - j / 7 = 1 ∧ k % 7 - j % 7 = 1) := by omega
        rcases hc with hc | hc | hc | hc
        · exact ⟨4, by omega, by omega, by rw [a0, if_neg (by omega)]; omega⟩
        · exact ⟨5, by omega, by omega, by rw [a1, if_neg (by omega)]; omega⟩
        · exact ⟨6, by omega, by omega, by rw [a2, if_neg (by omega)]; omega⟩
        · exact ⟨7, by omega, by omega, by rw [a3, if_neg (by omega)]; omega⟩
/-! regions by labels -/
def RGI (n : Int) (mk : BA) (rg : IA) : Prop := ∀ k, 0 ≤ k → k < 49 → (mk k = false → rg k = -1) ∧ (mk k = true → (0 ≤ rg k ∧ rg k ≤ k) ∧ mk (rg k) = true ∧ Cn (S_rr n mk) (rg k) k)
def RGO (n : Int) (mk : BA) (rg : IA) (i : Int) : Prop := ∀ k j, 0 ≤ k → k < i → S_rr n mk k j → rg k ≤ rg j
def RGP (n : Int) (mk : BA) (rg : IA) (i j : Int) : Prop := ∀ q, 0 ≤ q → q < j → S_rr n mk i q → rg i ≤ rg q
theorem RGI_0 {n : Int} {mk : BA} {rg : IA} (h : ∀ k, 0 ≤ k → k < 49 → rg k = (if mk k = true then k else -1)) : RGI n mk rg := fun k a b => by
  rw [h k a b]
  refine ⟨fun q => by rw [if_neg (by rw [q]; decide)], fun q => ?_⟩
  rw [if_pos q]; exact ⟨⟨a, Int.le_refl _⟩, q, Cn.rf⟩
theorem RGI_b {n : Int} {mk : BA} {rg : IA} (H : RGI n mk rg) : ∀ k, 0 ≤ k → k < 49 → -1 ≤ rg k ∧ rg k ≤ 48 := fun k a b => by
  have h := H k a b
  cases q : mk k
  · rw [h.1 q]; omega
  · have := (h.2 q).1; omega
theorem RGI_m {n : Int} {mk : BA} {rg : IA} (H : RGI n mk rg) {k : Int} (hk : 0 ≤ k ∧ k < 49) : mk k = true ↔ rg k ≠ -1 := by
  have h := H k hk.1 hk.2
  cases q : mk k
  · exact ⟨fun z => by cases z, fun z => absurd (h.1 q) z⟩
  · refine ⟨fun _ z => ?_, fun _ => rfl⟩
    have := (h.2 q).1; omega
theorem RGI_sum {n : Int} {mk : BA} {rg : IA} (H : RGI n mk rg) : -49 ≤ zS rg 49 := by
  have := (zS_bnd (f := rg) (a := -1) (b := 48) 49 (by omega) (RGI_b H)).1
  omega
theorem RGI_put {n : Int} {mk : BA} {rg : IA} (hn : n = 4 ∨ n = 8) (H : RGI n mk rg) {i j : Int} (hi : 0 ≤ i ∧ i < 49) (hr : S_rr n mk i j) (hlt : rg j < rg i) : RGI n mk (zu rg i (rg j)) := fun k a b => by
  have hj := hr.1.2.1
  by_cases e : k = i
  · rw [e, zu_s]
    refine ⟨fun q => by rw [hr.2.1] at q; cases q, fun _ => ?_⟩
    have h1 := (H j hj.1 hj.2).2 hr.2.2; have h2 := (H i hi.1 hi.2).2 hr.2.1
    exact ⟨⟨h1.1.1, by omega⟩, h1.2.1, h1.2.2.st (S_rr_sy hn _ _ hr)⟩
  · rw [zu_n e]; exact H k a b
theorem RG_end {n : Int} {mk : BA} {rg : IA} (hn : n = 4 ∨ n = 8) (H : RGI n mk rg) (hO : RGO n mk rg 49) : zC (fun k => decide (rg k = k)) 49 = S_comps n mk := by
  refine zC_congr (by omega) (fun k a b => ?_)
  have h := H k a b
  have hst : ∀ x y, S_rr n mk x y → rg x = rg y := fun x y hr => by
    have h1 := hO x y hr.1.1.1 hr.1.1.2 hr; have h2 := hO y x hr.1.2.1.1 hr.1.2.1.2 (S_rr_sy hn _ _ hr); omega
  cases q : mk k
  · rw [h.1 q, decide_eq_false (by omega)]; exact (cb_f.mpr (fun z => by rw [q] at z; cases z.1)).symm
  · have h2 := h.2 q
    by_cases e : rg k = k
    · rw [decide_eq_true e]
      refine (cb_iff.mpr ⟨q, fun j j0 j1 j2 j3 => ?_⟩).symm
      have e1 : rg j = rg k := j3 (fun z => rg j = rg z) rfl (fun x y hx hr => hx.trans (hst x y hr))
      have := ((H j j0 (by omega)).2 j2).1; omega
    · rw [decide_eq_false e]
      exact (cb_f.mpr (fun z => z.2 (rg k) h2.1.1 (by omega) h2.2.1 h2.2.2)).symm
theorem S_comps_cg {n : Int} {w w' : BA} (h : ∀ k, 0 ≤ k → k < 49 → w k = w' k) : S_comps n w = S_comps n w' := by
  have hr : ∀ x y, S_rr n w x y → S_rr n w' x y := fun x y q => ⟨q.1, by rw [← h x q.1.1.1 q.1.1.2]; exact q.2.1, by rw [← h y q.1.2.1.1 q.1.2.1.2]; exact q.2.2⟩
  have hr' : ∀ x y, S_rr n w' x y → S_rr n w x y := fun x y q => ⟨q.1, by rw [h x q.1.1.1 q.1.1.2]; exact q.2.1, by rw [h y q.1.2.1.1 q.1.2.1.2]; exact q.2.2⟩
  refine zC_congr (by omega) (fun k a b => cb_congr ⟨fun z => ⟨by rw [← h k a b]; exact z.1, fun j j0 j1 j2 j3 => z.2 j j0 j1 (by rw [h j j0 (by omega)]; exact j2) (j3.mono hr')⟩, fun z => ⟨by rw [h k a b]; exact z.1, fun j j0 j1 j2 j3 => z.2 j j0 j1 (by rw [← h j j0 (by omega)]; exact j2) (j3.mono hr)⟩⟩)
/-! floods -/
theorem WI_0 {h w : IA} (hh : ∀ k, 0 ≤ k → k < 49 → 0 ≤ h k ∧ h k ≤ 99) (hw : ∀ k, 0 ≤ k → k < 49 → w k = (if cb (S_bd k) = true then h k else 99)) : WI h w := (WO_init hh hw).1
theorem WI_b {h w : IA} (hh : ∀ k, 0 ≤ k → k < 49 → 0 ≤ h k ∧ h k ≤ 99) (H : WI h w) : ∀ k, 0 ≤ k → k < 49 → 0 ≤ w k ∧ w k ≤ 99 := fun k a b => by
  have h1 := H k a b; have h2 := hh k a b; omega
theorem WI_sum {h w : IA} (hh : ∀ k, 0 ≤ k → k < 49 → 0 ≤ h k ∧ h k ≤ 99) (H : WI h w) : 0 ≤ zS w 49 := by
  have := (zS_bnd (f := w) (a := 0) (b := 99) 49 (by omega) (WI_b hh H)).1
  omega
theorem WI_put {h w : IA} (H : WI h w) {i s v : Int} (hi : 0 ≤ i ∧ i < 49) (hs : 0 ≤ s ∧ s < 4) (hb : ¬ S_bd i) (hj : 0 ≤ S_step i s) (hv : v = zmax (h i) (w (S_step i s))) (hlt : v < w i) : WI h (zu w i v) := fun k a b => by
  have hsb := S_step_b i s
  by_cases e : k = i
  · rw [e, zu_s]
    have h1 := H i hi.1 hi.2
    have h2 := zmax_spec (h i) (w (S_step i s))
    refine ⟨by omega, by omega, fun q => absurd q hb, fun t t1 t2 => ?_⟩
    have h3 := (H (S_step i s) hj hsb.2).2.2.2 t t1 (by omega)
    exact S_con_st h3 (S_adj_sy (Or.inl rfl) ⟨hi, ⟨hj, hsb.2⟩, s, hs.1, hs.2, rfl⟩) (by omega)
  · rw [zu_n e]; exact H k a b
theorem WX_in {h w : IA} {i : Int} (hi : 0 ≤ i ∧ i < 49) (hw : ∀ s, 0 ≤ s → s < 4 → 0 ≤ S_step i s → w i ≤ zmax (h i) (w (S_step i s))) : WX h w i := fun j hj => by
  obtain ⟨h1, h2, s, s0, s1, s2⟩ := S_adj_sy (Or.inl rfl) hj
  have := hw s s0 s1 (by omega); rw [s2] at this; exact this
theorem WX_bd {h w : IA} (H : WI h w) {i : Int} (hi : 0 ≤ i ∧ i < 49) (hb : S_bd i) : WX h w i := fun j hj => by
  have h1 := (H i hi.1 hi.2).2.2.1 hb; have h2 := zmax_spec (h i) (w j); omega
theorem WI_end {h w : IA} (hh : ∀ k, 0 ≤ k → k < 49 → 0 ≤ h k ∧ h k ≤ 99) (H : WI h w) (hx : ∀ k, 0 ≤ k → k < 49 → WX h w k) : ∀ k, 0 ≤ k → k < 49 → w k = S_spill h k := fun k a b =>
  WO_end (r := 0) (c8 := 0) hh ⟨H, fun j t ht => (by
    obtain ⟨r1, r2, r3⟩ : (0 ≤ j ∧ j < 49) ∧ S_bd j ∧ h j ≤ t := ht
    have := (H j r1.1 r1.2).2.2.1 r2; omega), fun _ => hx⟩ (Or.inl rfl) ⟨a, b⟩
theorem S_step_nb {i s : Int} (hi : 0 ≤ i ∧ i < 49) (hb : ¬ S_bd i) (hs : 0 ≤ s ∧ s < 4) : 0 ≤ S_step i s := by
  obtain ⟨a0, a1, a2, a3⟩ := S_step_4 hi
  unfold S_bd at hb
  rcases z4 hs with e | e | e | e <;> subst e
  · rw [a0]; split <;> omega
  · rw [a1]; split <;> omega
  · rw [a2]; split <;> omega
  · rw [a3]; split <;> omega
/-! cuts -/
theorem S_on_z {a b i : Int} (h : S_cutn a b = 0) : S_on a b i = a := by
  unfold S_on S_along; rw [h, if_pos (by omega), if_pos (by omega)]; omega
def S_tcut (r c r' c' : Int) : Int := if ((0 ≤ r ∧ r ≤ 6) ∧ (0 ≤ c ∧ c ≤ 6)) ∧ ((0 ≤ r' ∧ r' ≤ 6) ∧ (0 ≤ c' ∧ c' ≤ 6)) then 0 else 1
def S_tch (r c r' c' i : Int) : Int := if ((0 ≤ r ∧ r ≤ 6) ∧ (0 ≤ c ∧ c ≤ 6)) ∧ ((0 ≤ r' ∧ r' ≤ 6) ∧ (0 ≤ c' ∧ c' ≤ 6)) then (if 0 ≤ i ∧ i ≤ S_cutn (7 * r + c) (7 * r' + c') then 0 else 1) else 1
def S_tdr (h : IA) (r c : Int) : Int := if (0 ≤ r ∧ r ≤ 6) ∧ (0 ≤ c ∧ c ≤ 6) then (if S_next h (7 * r + c) = -1 then 2 else 0) else 1
theorem arg_up {f : IA} {i q mo : Int} (hi : 0 ≤ i) (hq : q = S_arg f i) (hm : (i = 0 ∧ mo ≤ f 0 ∧ (f 0 ≤ mo → mo = f 0)) ∨ (1 ≤ i ∧ mo = f q)) : (mo < f i → i = S_arg f (i + 1) ∧ 1 ≤ i + 1) ∧ (¬ mo < f i → q = S_arg f (i + 1) ∧ mo = f q) := by
  rw [S_arg_up hi, ← hq]
  rcases hm with ⟨h1, h2, h3⟩ | ⟨h1, h2⟩
  · have e0 : q = 0 := by rw [hq, h1]; exact S_arg_0 f
    rw [h1, e0]
    refine ⟨fun _ => ⟨by rw [if_neg (Int.lt_irrefl _)], by omega⟩, fun h => ⟨by rw [if_neg (Int.lt_irrefl _)], h3 (by omega)⟩⟩
  · rw [← h2]
    refine ⟨fun h => ⟨by rw [if_pos h], by omega⟩, fun h => ⟨by rw [if_neg h], h2⟩⟩
/-! LINES AND REGIONS: one line less than regions. Each line has an inner side, seen from point 0; each region but point 0's has one line whose inner side it is. -/
theorem bx_iff {a b c : Bool} : (a != c) = ((a != b) != (b != c)) := by cases a <;> cases b <;> cases c <;> rfl
/-- parity of the first i of a row -/
def xN (f : BA) : Nat → Bool | 0 => false | n + 1 => xN f n != f n
def xS (f : BA) (i : Int) : Bool := xN f i.toNat
theorem xS_up {f : BA} {i : Int} (hi : 0 ≤ i) : xS f (i + 1) = (xS f i != f i) := by
  unfold xS; rw [show (i + 1).toNat = i.toNat + 1 by omega]; show (xN f i.toNat != f (i.toNat : Int)) = _; rw [Int.toNat_of_nonneg hi]
theorem xS_0 (f : BA) : xS f 0 = false := rfl
/-- a marking of edges that is even around each square -/
def Ev (c : BA) : Prop := ∀ q, 0 ≤ q → q < 36 → (((c (S_sd q 0) != c (S_sd q 1)) != c (S_sd q 2)) != c (S_sd q 3)) = false
/-- the side of a point -/
def Si (c : BA) (p : Int) : Bool := xS (fun k => c k) (p % 7) != xS (fun j => c (42 + 7 * j + p % 7)) (p / 7)
theorem Si_0 (c : BA) : Si c 0 = false := rfl
theorem Si_v {c : BA} {p : Int} (hp : 0 ≤ p ∧ p < 42) : Si c (p + 7) = (Si c p != c (42 + p)) := by
  unfold Si
  rw [show (p + 7) % 7 = p % 7 by omega, show (p + 7) / 7 = p / 7 + 1 by omega, xS_up (by omega), show 42 + 7 * (p / 7) + p % 7 = 42 + p by omega]
  generalize xS (fun k => c k) (p % 7) = a; generalize xS (fun j => c (42 + 7 * j + p % 7)) (p / 7) = b; generalize c (42 + p) = d
  cases a <;> cases b <;> cases d <;> rfl
theorem Si_h {c : BA} (hc : Ev c) {w : Int} (hw : 0 ≤ w ∧ w < 6) : ∀ r, 0 ≤ r → r < 7 → Si c (7 * r + w + 1) = (Si c (7 * r + w) != c (6 * r + w)) := by
  refine z_ind (P := fun r => r < 7 → Si c (7 * r + w + 1) = (Si c (7 * r + w) != c (6 * r + w))) (fun _ => ?_) (fun r hr ih h7 => ?_)
  · unfold Si
    rw [show (7 * 0 + w + 1) % 7 = w + 1 by omega, show (7 * 0 + w + 1) / 7 = 0 by omega, show (7 * 0 + w) % 7 = w by omega, show (7 * 0 + w) / 7 = 0 by omega, xS_0, xS_0, xS_up hw.1, show 6 * 0 + w = w by omega]
    generalize xS (fun k => c k) w = a; generalize c w = d; cases a <;> cases d <;> rfl
  · have h1 := ih (by omega)
    have h2 := Si_v (c := c) (p := 7 * r + w) (by omega)
    have h3 := Si_v (c := c) (p := 7 * r + w + 1) (by omega)
    have h4 := hc (6 * r + w) (by omega) (by omega)
    rw [show S_sd (6 * r + w) 0 = 6 * r + w by unfold S_sd; rw [if_pos rfl], show S_sd (6 * r + w) 1 = 42 + (7 * r + w + 1) by unfold S_sd; rw [if_neg (by omega), if_pos rfl]; omega, show S_sd (6 * r + w) 2 = 6 * (r + 1) + w by unfold S_sd; rw [if_neg (by omega), if_neg (by omega), if_pos rfl]; omega, show S_sd (6 * r + w) 3 = 42 + (7 * r + w) by unfold S_sd; rw [if_neg (by omega), if_neg (by omega), if_neg (by omega)]; omega] at h4
    rw [show 7 * (r + 1) + w + 1 = 7 * r + w + 1 + 7 by omega, show 7 * (r + 1) + w = 7 * r + w + 7 by omega, h3, h2, h1]
    revert h4
    generalize c (6 * r + w) = a; generalize c (42 + (7 * r + w + 1)) = b; generalize c (6 * (r + 1) + w) = d; generalize c (42 + (7 * r + w)) = e; generalize Si c (7 * r + w) = f
    cases a <;> cases b <;> cases d <;> cases e <;> cases f <;> decide
/-- across an edge the side changes just where the edge is marked -/
theorem Si_e {c : BA} (hc : Ev c) {e : Int} (he : 0 ≤ e ∧ e < 84) : (Si c (E_u e) != Si c (E_v e)) = c e := by
  unfold E_u E_v
  by_cases h : e < 42
  · rw [if_pos h, if_pos h]
    have h1 := Si_h hc (w := e % 6) (by omega) (e / 6) (by omega) (by omega)
    rw [show 7 * (e / 6) + e % 6 + 1 = e + e / 6 + 1 by omega, show 7 * (e / 6) + e % 6 = e + e / 6 by omega, show 6 * (e / 6) + e % 6 = e by omega] at h1
    rw [h1]; generalize Si c (e + e / 6) = a; generalize c e = b; cases a <;> cases b <;> rfl
  · rw [if_neg h, if_neg h]
    have h1 := Si_v (c := c) (p := e - 42) (by omega)
    rw [show e - 42 + 7 = e - 35 by omega, show 42 + (e - 42) = e by omega] at h1
    rw [h1]; generalize Si c (e - 42) = a; generalize c e = b; cases a <;> cases b <;> rfl
/-- the marking of one line -/
noncomputable def Lm (m : BA) (e0 : Int) : BA := fun e => cb (((0 ≤ e ∧ e < 84) ∧ S_X m e = true) ∧ Cn (S_J m) e0 e)
theorem Lm_J {m : BA} {e0 e f : Int} (h : S_J m e f) : Lm m e0 e = Lm m e0 f := by
  have h1 := S_J_X h
  refine cb_congr ⟨fun z => ⟨h1.2, z.2.st h⟩, fun z => ⟨h1.1, z.2.st (S_J_sy _ _ h)⟩⟩
theorem Lm_X {m : BA} {e0 e : Int} (h : S_X m e = false) : Lm m e0 e = false := cb_f.mpr (fun z => by rw [h] at z; cases z.1.2)
/-- a piece joins the two sides that it cuts -/
theorem P_J {m : BA} {q t : Int} (hq : 0 ≤ q ∧ q < 36) (ht : t = 0 ∨ t = 1) (h : P_e m q t = true) : S_J m (P_a m q t) (P_b m q t) := by
  refine ⟨2 * q + t, by omega, by omega, ?_, Or.inl ⟨?_, ?_⟩⟩
  · unfold S_pe; rw [show (2 * q + t) / 2 = q by omega, show (2 * q + t) % 2 = t by omega]; exact h
  · unfold S_pa; rw [show (2 * q + t) / 2 = q by omega, show (2 * q + t) % 2 = t by omega]
  · unfold S_pb; rw [show (2 * q + t) / 2 = q by omega, show (2 * q + t) % 2 = t by omega]
theorem kEv : ∀ b0 b1 b2 b3 : Bool, ∀ c0 c1 c2 c3 : Bool, ((b0 != b1) = false → c0 = false) → ((b1 != b2) = false → c1 = false) → ((b2 != b3) = false → c2 = false) → ((b3 != b0) = false → c3 = false) →
    (∀ t : Int, t = 0 ∨ t = 1 → kE b0 b1 b2 b3 t = true → (if kA b0 b1 b2 b3 t = 0 then c0 else if kA b0 b1 b2 b3 t = 1 then c1 else if kA b0 b1 b2 b3 t = 2 then c2 else c3) = (if kB b0 b1 b2 b3 t = 0 then c0 else if kB b0 b1 b2 b3 t = 1 then c1 else if kB b0 b1 b2 b3 t = 2 then c2 else c3)) →
    (((c0 != c1) != c2) != c3) = false := by
  intro b0 b1 b2 b3 c0 c1 c2 c3 h0 h1 h2 h3 h
  have g0 := h 0 (Or.inl rfl); have g1 := h 1 (Or.inr rfl)
  clear h
  revert h0 h1 h2 h3 g0 g1
  cases b0 <;> cases b1 <;> cases b2 <;> cases b3 <;> cases c0 <;> cases c1 <;> cases c2 <;> cases c3 <;> decide
theorem Lm_Ev (m : BA) (e0 : Int) : Ev (Lm m e0) := by
  intro q h0 h1
  have hq : 0 ≤ q ∧ q < 36 := ⟨h0, h1⟩
  have hx : ∀ s, 0 ≤ s → s < 4 → P_x m q s = false → Lm m e0 (S_sd q s) = false := fun s a b c => Lm_X (by rw [S_X_sd hq ⟨a, b⟩]; exact c)
  have z : ∀ s : Int, 0 ≤ s → s < 4 → (if s = 0 then Lm m e0 (S_sd q 0) else if s = 1 then Lm m e0 (S_sd q 1) else if s = 2 then Lm m e0 (S_sd q 2) else Lm m e0 (S_sd q 3)) = Lm m e0 (S_sd q s) := fun s a b => by
    rcases z4 ⟨a, b⟩ with e | e | e | e <;> subst e <;> rfl
  refine kEv (m (S_cn q 0)) (m (S_cn q 1)) (m (S_cn q 2)) (m (S_cn q 3)) _ _ _ _ (fun h => hx 0 (by omega) (by omega) h) (fun h => hx 1 (by omega) (by omega) h) (fun h => hx 2 (by omega) (by omega) h) (fun h => hx 3 (by omega) (by omega) h) (fun t ht h => ?_)
  have k := k_ab _ _ _ _ t ht h
  rw [z _ k.1.1 k.1.2, z _ k.2.1.1 k.2.1.2]
  exact Lm_J (P_J hq ht h)
/-! a point's region -/
def Rg (m : BA) (x y : Int) : Prop := (m x = true ∧ Cn (S_rr 4 m) x y) ∨ (m x = false ∧ Cn (S_rr 8 (fun k => !m k)) x y)
theorem Rg_rf {m : BA} {x : Int} : Rg m x x := by
  cases h : m x
  · exact Or.inr ⟨h, Cn.rf⟩
  · exact Or.inl ⟨h, Cn.rf⟩
theorem Rg_m {m : BA} {x y : Int} (h : Rg m x y) : m y = m x := by
  rcases h with ⟨h1, h2⟩ | ⟨h1, h2⟩
  · rw [h1]; exact S_rr_m h1 h2
  · have := S_rr_m (m := fun k => !m k) (by show (!m x) = true; rw [h1]; rfl) h2
    have t : (!m y) = true := this
    rw [h1]; revert t; cases m y <;> simp
theorem Rg_sy {m : BA} {x y : Int} (h : Rg m x y) : Rg m y x := by
  have e := Rg_m h
  rcases h with ⟨h1, h2⟩ | ⟨h1, h2⟩
  · exact Or.inl ⟨e.trans h1, h2.sy (S_rr_sy (Or.inl rfl))⟩
  · exact Or.inr ⟨e.trans h1, h2.sy (S_rr_sy (Or.inr rfl))⟩
theorem Rg_tr {m : BA} {x y z : Int} (h : Rg m x y) (k : Rg m y z) : Rg m x z := by
  have e := Rg_m h
  rcases h with ⟨h1, h2⟩ | ⟨h1, h2⟩
  · rcases k with ⟨k1, k2⟩ | ⟨k1, k2⟩
    · exact Or.inl ⟨h1, h2.tr k2⟩
    · rw [e, h1] at k1; cases k1
  · rcases k with ⟨k1, k2⟩ | ⟨k1, k2⟩
    · rw [e, h1] at k1; cases k1
    · exact Or.inr ⟨h1, h2.tr k2⟩
theorem Rg_b {m : BA} {x y : Int} (hx : 0 ≤ x ∧ x < 49) (h : Rg m x y) : 0 ≤ y ∧ y < 49 := by
  rcases h with ⟨h1, h2⟩ | ⟨h1, h2⟩ <;> exact S_rr_b hx h2
theorem adj48 {x y : Int} (h : S_adj 4 x y) : S_adj 8 x y := ⟨h.1, h.2.1, let ⟨s, a, b, c⟩ := h.2.2; ⟨s, a, by omega, c⟩⟩
/-- neighbours of one colour -/
theorem Rg_4 {m : BA} {x y : Int} (h : S_adj 4 x y) (e : m y = m x) : Rg m x y := by
  cases hx : m x
  · exact Or.inr ⟨hx, Cn.one ⟨adj48 h, by show (!m x) = true; rw [hx]; rfl, by show (!m y) = true; rw [e, hx]; rfl⟩⟩
  · exact Or.inl ⟨hx, Cn.one ⟨h, hx, e.trans hx⟩⟩
theorem Rg_8 {m : BA} {x y : Int} (h : S_adj 8 x y) (hx : m x = false) (hy : m y = false) : Rg m x y :=
  Or.inr ⟨hx, Cn.one ⟨h, by show (!m x) = true; rw [hx]; rfl, by show (!m y) = true; rw [hy]; rfl⟩⟩
theorem E_adj {e : Int} (he : 0 ≤ e ∧ e < 84) : S_adj 4 (E_u e) (E_v e) := by
  have hb := E_uv_b he
  refine ⟨hb.1, hb.2, ?_⟩
  have h4 := S_step_4 hb.1
  unfold E_u E_v at *
  by_cases h : e < 42
  · rw [if_pos h] at h4 ⊢; rw [if_pos h]
    refine ⟨1, by omega, by omega, ?_⟩; rw [h4.2.1, if_neg (by omega)]
  · rw [if_neg h] at h4 ⊢; rw [if_neg h]
    refine ⟨2, by omega, by omega, ?_⟩; rw [h4.2.2.1, if_neg (by omega)]; omega
/-- each neighbouring pair is an edge -/
theorem adj_E {x y : Int} (h : S_adj 4 x y) : ∃ e, (0 ≤ e ∧ e < 84) ∧ ((E_u e = x ∧ E_v e = y) ∨ (E_u e = y ∧ E_v e = x)) := by
  obtain ⟨hx, hy, s, s0, s1, s2⟩ := h
  obtain ⟨a0, a1, a2, a3⟩ := S_step_4 hx
  rcases z4 ⟨s0, s1⟩ with e | e | e | e <;> subst e
  · rw [a0] at s2; split at s2; omega
    refine ⟨42 + y, by omega, Or.inr ⟨?_, ?_⟩⟩ <;> (first | unfold E_u | unfold E_v) <;> rw [if_neg (by omega)] <;> omega
  · rw [a1] at s2; split at s2; omega
    refine ⟨x - x / 7, by omega, Or.inl ⟨?_, ?_⟩⟩ <;> (first | unfold E_u | unfold E_v) <;> rw [if_pos (by omega)] <;> omega
  · rw [a2] at s2; split at s2; omega
    refine ⟨42 + x, by omega, Or.inl ⟨?_, ?_⟩⟩ <;> (first | unfold E_u | unfold E_v) <;> rw [if_neg (by omega)] <;> omega
  · rw [a3] at s2; split at s2; omega
    refine ⟨y - y / 7, by omega, Or.inr ⟨?_, ?_⟩⟩ <;> (first | unfold E_u | unfold E_v) <;> rw [if_pos (by omega)] <;> omega
/-- the true and the false end of an edge -/
def E_t (m : BA) (e : Int) : Int := if m (E_u e) = true then E_u e else E_v e
def E_f (m : BA) (e : Int) : Int := if m (E_u e) = true then E_v e else E_u e
theorem E_tf {m : BA} {e : Int} (h : S_X m e = true) : m (E_t m e) = true ∧ m (E_f m e) = false := by
  unfold S_X at h; unfold E_t E_f
  cases h1 : m (E_u e) <;> rw [h1] at h
  · rw [if_neg (by decide), if_neg (by decide)]; refine ⟨?_, h1⟩; revert h; cases m (E_v e) <;> decide
  · rw [if_pos rfl, if_pos rfl]; refine ⟨h1, ?_⟩; revert h; cases m (E_v e) <;> decide
theorem E_tf_b {m : BA} {e : Int} (he : 0 ≤ e ∧ e < 84) : (0 ≤ E_t m e ∧ E_t m e < 49) ∧ 0 ≤ E_f m e ∧ E_f m e < 49 := by
  have := E_uv_b he; unfold E_t E_f; split <;> omega
theorem E_sd_uv {q s : Int} (hq : 0 ≤ q ∧ q < 36) (hs : 0 ≤ s ∧ s < 4) : (E_u (S_sd q s) = S_cn q s ∧ E_v (S_sd q s) = S_cn q ((s + 1) % 4)) ∨ (E_u (S_sd q s) = S_cn q ((s + 1) % 4) ∧ E_v (S_sd q s) = S_cn q s) := by
  rcases z4 hs with e | e | e | e <;> subst e
  · left
    show E_u q = S_cn q 0 ∧ E_v q = S_cn q 1
    refine ⟨by unfold E_u S_cn; rw [if_pos (by omega), if_pos rfl]; omega, by unfold E_v S_cn; rw [if_pos (by omega), if_neg (by omega), if_pos rfl]⟩
  · left
    show E_u (43 + (q + q / 6)) = S_cn q 1 ∧ E_v (43 + (q + q / 6)) = S_cn q 2
    refine ⟨by unfold E_u S_cn; rw [if_neg (by omega), if_neg (by omega), if_pos rfl]; omega, by unfold E_v S_cn; rw [if_neg (by omega), if_neg (by omega), if_neg (by omega), if_pos rfl]; omega⟩
  · right
    show E_u (q + 6) = S_cn q 3 ∧ E_v (q + 6) = S_cn q 2
    refine ⟨by unfold E_u S_cn; rw [if_pos (by omega), if_neg (by omega), if_neg (by omega), if_neg (by omega)]; omega, by unfold E_v S_cn; rw [if_pos (by omega), if_neg (by omega), if_neg (by omega), if_pos rfl]; omega⟩
  · right
    show E_u (42 + (q + q / 6)) = S_cn q 0 ∧ E_v (42 + (q + q / 6)) = S_cn q 3
    refine ⟨by unfold E_u S_cn; rw [if_neg (by omega), if_pos rfl]; omega, by unfold E_v S_cn; rw [if_neg (by omega), if_neg (by omega), if_neg (by omega), if_neg (by omega)]; omega⟩
theorem S_cn_b {q i : Int} (hq : 0 ≤ q ∧ q < 36) : 0 ≤ S_cn q i ∧ S_cn q i < 49 := by unfold S_cn; (repeat' split) <;> omega
theorem cn4 {q i : Int} (hq : 0 ≤ q ∧ q < 36) (hi : 0 ≤ i ∧ i < 4) : S_adj 4 (S_cn q i) (S_cn q ((i + 1) % 4)) := by
  have h := E_adj (S_sd_b (s := i) hq)
  rcases E_sd_uv hq hi with ⟨h1, h2⟩ | ⟨h1, h2⟩ <;> rw [h1, h2] at h
  · exact h
  · exact S_adj_sy (Or.inl rfl) h
theorem cn_d {q : Int} (hq : 0 ≤ q ∧ q < 36) : S_adj 8 (S_cn q 0) (S_cn q 2) ∧ S_adj 8 (S_cn q 1) (S_cn q 3) := by
  have e0 : S_cn q 0 = q + q / 6 := by unfold S_cn; rw [if_pos rfl]; omega
  have e1 : S_cn q 1 = q + q / 6 + 1 := by unfold S_cn; rw [if_neg (by omega), if_pos rfl]
  have e2 : S_cn q 2 = q + q / 6 + 8 := by unfold S_cn; rw [if_neg (by omega), if_neg (by omega), if_pos rfl]
  have e3 : S_cn q 3 = q + q / 6 + 7 := by unfold S_cn; rw [if_neg (by omega), if_neg (by omega), if_neg (by omega)]
  refine ⟨⟨S_cn_b hq, S_cn_b hq, 5, by omega, by omega, ?_⟩, S_cn_b hq, S_cn_b hq, 6, by omega, by omega, ?_⟩
  · have h := (S_step_8 (p := S_cn q 0) (S_cn_b hq)).2.1
    rw [h, e0, e2, if_neg (by omega)]
  · have h := (S_step_8 (p := S_cn q 1) (S_cn_b hq)).2.2.1
    rw [h, e1, e3, if_neg (by omega)]; omega
theorem cn8 {q i j : Int} (hq : 0 ≤ q ∧ q < 36) (hi : 0 ≤ i ∧ i < 4) (hj : 0 ≤ j ∧ j < 4) (hij : i ≠ j) : S_adj 8 (S_cn q i) (S_cn q j) := by
  have a : ∀ k, 0 ≤ k → k < 4 → S_adj 8 (S_cn q k) (S_cn q ((k + 1) % 4)) := fun k h1 h2 => adj48 (cn4 hq ⟨h1, h2⟩)
  have a0 : S_adj 8 (S_cn q 0) (S_cn q 1) := a 0 (by omega) (by omega)
  have a1 : S_adj 8 (S_cn q 1) (S_cn q 2) := a 1 (by omega) (by omega)
  have a2 : S_adj 8 (S_cn q 2) (S_cn q 3) := a 2 (by omega) (by omega)
  have a3 : S_adj 8 (S_cn q 3) (S_cn q 0) := a 3 (by omega) (by omega)
  have d := cn_d hq
  have sy : ∀ {x y}, S_adj 8 x y → S_adj 8 y x := fun h => S_adj_sy (Or.inr rfl) h
  rcases z4 hi with e | e | e | e <;> subst e <;> rcases z4 hj with e | e | e | e <;> subst e <;> first | exact absurd rfl hij | assumption | exact sy (by assumption) | exact d.1 | exact d.2 | exact sy d.1 | exact sy d.2
/-- diagonals of false corners: no line between -/
theorem kDg : ∀ b0 b1 b2 b3 : Bool, ∀ c0 c1 c2 c3 : Bool, ((b0 != b1) = false → c0 = false) → ((b1 != b2) = false → c1 = false) → ((b2 != b3) = false → c2 = false) → ((b3 != b0) = false → c3 = false) →
    (∀ t : Int, t = 0 ∨ t = 1 → kE b0 b1 b2 b3 t = true → (if kA b0 b1 b2 b3 t = 0 then c0 else if kA b0 b1 b2 b3 t = 1 then c1 else if kA b0 b1 b2 b3 t = 2 then c2 else c3) = (if kB b0 b1 b2 b3 t = 0 then c0 else if kB b0 b1 b2 b3 t = 1 then c1 else if kB b0 b1 b2 b3 t = 2 then c2 else c3)) →
    (b0 = false ∧ b2 = false → c0 = c1) ∧ (b1 = false ∧ b3 = false → c1 = c2) := by
  intro b0 b1 b2 b3 c0 c1 c2 c3 h0 h1 h2 h3 h
  have g0 := h 0 (Or.inl rfl); have g1 := h 1 (Or.inr rfl)
  clear h
  revert h0 h1 h2 h3 g0 g1
  cases b0 <;> cases b1 <;> cases b2 <;> cases b3 <;> cases c0 <;> cases c1 <;> cases c2 <;> cases c3 <;> decide
theorem Lm_Dg (m : BA) (e0 : Int) {q : Int} (hq : 0 ≤ q ∧ q < 36) : (m (S_cn q 0) = false ∧ m (S_cn q 2) = false → Lm m e0 (S_sd q 0) = Lm m e0 (S_sd q 1)) ∧ (m (S_cn q 1) = false ∧ m (S_cn q 3) = false → Lm m e0 (S_sd q 1) = Lm m e0 (S_sd q 2)) := by
  have hx : ∀ s, 0 ≤ s → s < 4 → P_x m q s = false → Lm m e0 (S_sd q s) = false := fun s a b c => Lm_X (by rw [S_X_sd hq ⟨a, b⟩]; exact c)
  have z : ∀ s : Int, 0 ≤ s → s < 4 → (if s = 0 then Lm m e0 (S_sd q 0) else if s = 1 then Lm m e0 (S_sd q 1) else if s = 2 then Lm m e0 (S_sd q 2) else Lm m e0 (S_sd q 3)) = Lm m e0 (S_sd q s) := fun s a b => by
    rcases z4 ⟨a, b⟩ with e | e | e | e <;> subst e <;> rfl
  refine kDg (m (S_cn q 0)) (m (S_cn q 1)) (m (S_cn q 2)) (m (S_cn q 3)) _ _ _ (Lm m e0 (S_sd q 3)) (fun h => hx 0 (by omega) (by omega) h) (fun h => hx 1 (by omega) (by omega) h) (fun h => hx 2 (by omega) (by omega) h) (fun h => hx 3 (by omega) (by omega) h) (fun t ht h => ?_)
  have k := k_ab _ _ _ _ t ht h
  rw [z _ k.1.1 k.1.2, z _ k.2.1.1 k.2.1.2]
  exact Lm_J (P_J hq ht h)
theorem Si_sd {c : BA} (hc : Ev c) {q s : Int} (hq : 0 ≤ q ∧ q < 36) (hs : 0 ≤ s ∧ s < 4) : (Si c (S_cn q s) != Si c (S_cn q ((s + 1) % 4))) = c (S_sd q s) := by
  rw [← Si_e hc (S_sd_b hq)]
  rcases E_sd_uv hq hs with ⟨h1, h2⟩ | ⟨h1, h2⟩ <;> rw [h1, h2]
  exact bne_comm
theorem bne_ff {a b : Bool} (h : (a != b) = false) : a = b := by revert h; cases a <;> cases b <;> decide
theorem bne_tt {a b : Bool} (h : (a != b) = true) : a ≠ b := by revert h; cases a <;> cases b <;> decide
theorem Si_4 {m : BA} {e0 x y : Int} (h : S_adj 4 x y) (e : m y = m x) : Si (Lm m e0) x = Si (Lm m e0) y := by
  obtain ⟨f, hf, hd⟩ := adj_E h
  have h1 := Si_e (Lm_Ev m e0) hf
  have h2 : S_X m f = false := by
    unfold S_X; rcases hd with ⟨d1, d2⟩ | ⟨d1, d2⟩ <;> rw [d1, d2, e] <;> exact bne_self_eq_false _
  rw [Lm_X h2] at h1
  have h3 := bne_ff h1
  rcases hd with ⟨d1, d2⟩ | ⟨d1, d2⟩ <;> rw [d1, d2] at h3
  · exact h3
  · exact h3.symm
theorem Si_d {m : BA} {e0 q : Int} (hq : 0 ≤ q ∧ q < 36) : (m (S_cn q 0) = false ∧ m (S_cn q 2) = false → Si (Lm m e0) (S_cn q 0) = Si (Lm m e0) (S_cn q 2)) ∧ (m (S_cn q 1) = false ∧ m (S_cn q 3) = false → Si (Lm m e0) (S_cn q 1) = Si (Lm m e0) (S_cn q 3)) := by
  have h0 := Si_sd (Lm_Ev m e0) (s := 0) hq (by omega)
  have h1 := Si_sd (Lm_Ev m e0) (s := 1) hq (by omega)
  have h2 := Si_sd (Lm_Ev m e0) (s := 2) hq (by omega)
  rw [show ((0 : Int) + 1) % 4 = 1 from rfl] at h0
  rw [show ((1 : Int) + 1) % 4 = 2 from rfl] at h1
  rw [show ((2 : Int) + 1) % 4 = 3 from rfl] at h2
  have hd := Lm_Dg m e0 hq
  refine ⟨fun h => ?_, fun h => ?_⟩
  · have h3 := hd.1 h; rw [← h0, ← h1] at h3; revert h3
    generalize Si (Lm m e0) (S_cn q 0) = a; generalize Si (Lm m e0) (S_cn q 1) = b; generalize Si (Lm m e0) (S_cn q 2) = c
    cases a <;> cases b <;> cases c <;> decide
  · have h3 := hd.2 h; rw [← h1, ← h2] at h3; revert h3
    generalize Si (Lm m e0) (S_cn q 1) = a; generalize Si (Lm m e0) (S_cn q 2) = b; generalize Si (Lm m e0) (S_cn q 3) = c
    cases a <;> cases b <;> cases c <;> decide
/-- the squares of diagonals -/
theorem adj8_sq {x y : Int} (h : S_adj 8 x y) : S_adj 4 x y ∨ ∃ q, (0 ≤ q ∧ q < 36) ∧ ((x = S_cn q 0 ∧ y = S_cn q 2) ∨ (x = S_cn q 2 ∧ y = S_cn q 0) ∨ (x = S_cn q 1 ∧ y = S_cn q 3) ∨ (x = S_cn q 3 ∧ y = S_cn q 1)) := by
  obtain ⟨hx, hy, s, s0, s1, s2⟩ := h
  obtain ⟨a0, a1, a2, a3⟩ := S_step_8 hx
  have e0 : ∀ q, S_cn q 0 = q + q / 6 := fun q => by unfold S_cn; rw [if_pos rfl]; omega
  have e1 : ∀ q, S_cn q 1 = q + q / 6 + 1 := fun q => by unfold S_cn; rw [if_neg (by omega), if_pos rfl]
  have e2 : ∀ q, S_cn q 2 = q + q / 6 + 8 := fun q => by unfold S_cn; rw [if_neg (by omega), if_neg (by omega), if_pos rfl]
  have e3 : ∀ q, S_cn q 3 = q + q / 6 + 7 := fun q => by unfold S_cn; rw [if_neg (by omega), if_neg (by omega), if_neg (by omega)]
  rcases z8 ⟨s0, s1⟩ with e | e | e | e | e
  · exact Or.inl ⟨hx, hy, s, e.1, e.2, s2⟩
  · subst e; rw [a0] at s2; split at s2; omega
    refine Or.inr ⟨(x - 7) - (x - 7) / 7, by omega, Or.inr (Or.inr (Or.inr ⟨?_, ?_⟩))⟩
    · rw [e3]; omega
    · rw [e1]; omega
  · subst e; rw [a1] at s2; split at s2; omega
    refine Or.inr ⟨x - x / 7, by omega, Or.inl ⟨?_, ?_⟩⟩
    · rw [e0]; omega
    · rw [e2]; omega
  · subst e; rw [a2] at s2; split at s2; omega
    refine Or.inr ⟨(x - 1) - (x - 1) / 7, by omega, Or.inr (Or.inr (Or.inl ⟨?_, ?_⟩))⟩
    · rw [e1]; omega
    · rw [e3]; omega
  · subst e; rw [a3] at s2; split at s2; omega
    refine Or.inr ⟨y - y / 7, by omega, Or.inr (Or.inl ⟨?_, ?_⟩)⟩
    · rw [e2]; omega
    · rw [e0]; omega
theorem Si_8 {m : BA} {e0 x y : Int} (h : S_adj 8 x y) (hx : m x = false) (hy : m y = false) : Si (Lm m e0) x = Si (Lm m e0) y := by
  rcases adj8_sq h with h4 | ⟨q, hq, hd⟩
  · exact Si_4 h4 (hy.trans hx.symm)
  · have hs := Si_d (m := m) (e0 := e0) hq
    rcases hd with ⟨d1, d2⟩ | ⟨d1, d2⟩ | ⟨d1, d2⟩ | ⟨d1, d2⟩ <;> rw [d1, d2] <;> rw [d1] at hx <;> rw [d2] at hy
    · exact hs.1 ⟨hx, hy⟩
    · exact (hs.1 ⟨hy, hx⟩).symm
    · exact hs.2 ⟨hx, hy⟩
    · exact (hs.2 ⟨hy, hx⟩).symm
theorem Si_R {m : BA} {e0 x y : Int} (h : Rg m x y) : Si (Lm m e0) x = Si (Lm m e0) y := by
  rcases h with ⟨h1, h2⟩ | ⟨h1, h2⟩
  · exact h2 (fun z => Si (Lm m e0) x = Si (Lm m e0) z) rfl (fun a b ha hr => ha.trans (Si_4 hr.1 (hr.2.2.trans hr.2.1.symm)))
  · refine h2 (fun z => Si (Lm m e0) x = Si (Lm m e0) z) rfl (fun a b ha hr => ha.trans (Si_8 hr.1 ?_ ?_))
    · have t : (!m a) = true := hr.2.1
      revert t; cases m a <;> decide
    · have t : (!m b) = true := hr.2.2
      revert t; cases m b <;> decide
/-! along a line: its true ends are of one region, its false ends too -/
def kC (b0 b1 b2 b3 : Bool) (i : Int) : Bool := if i = 0 then b0 else if i = 1 then b1 else if i = 2 then b2 else b3
def kT (b0 b1 b2 b3 : Bool) (s : Int) : Int := if kC b0 b1 b2 b3 s = true then s else (s + 1) % 4
def kF (b0 b1 b2 b3 : Bool) (s : Int) : Int := if kC b0 b1 b2 b3 s = true then (s + 1) % 4 else s
theorem kTT : ∀ b0 b1 b2 b3 : Bool, ∀ t : Int, t = 0 ∨ t = 1 → kE b0 b1 b2 b3 t = true →
    kT b0 b1 b2 b3 (kA b0 b1 b2 b3 t) = kT b0 b1 b2 b3 (kB b0 b1 b2 b3 t) ∨ kT b0 b1 b2 b3 (kB b0 b1 b2 b3 t) = (kT b0 b1 b2 b3 (kA b0 b1 b2 b3 t) + 1) % 4 ∨ kT b0 b1 b2 b3 (kA b0 b1 b2 b3 t) = (kT b0 b1 b2 b3 (kB b0 b1 b2 b3 t) + 1) % 4 ∨
    (kC b0 b1 b2 b3 ((kT b0 b1 b2 b3 (kA b0 b1 b2 b3 t) + 1) % 4) = true ∧ kT b0 b1 b2 b3 (kB b0 b1 b2 b3 t) = ((kT b0 b1 b2 b3 (kA b0 b1 b2 b3 t) + 1) % 4 + 1) % 4) ∨
    (kC b0 b1 b2 b3 ((kT b0 b1 b2 b3 (kB b0 b1 b2 b3 t) + 1) % 4) = true ∧ kT b0 b1 b2 b3 (kA b0 b1 b2 b3 t) = ((kT b0 b1 b2 b3 (kB b0 b1 b2 b3 t) + 1) % 4 + 1) % 4) := by
  intro b0 b1 b2 b3 t ht; rcases ht with e | e <;> subst e <;> cases b0 <;> cases b1 <;> cases b2 <;> cases b3 <;> decide
theorem kC_m (m : BA) (q : Int) {i : Int} (hi : 0 ≤ i ∧ i < 4) : kC (m (S_cn q 0)) (m (S_cn q 1)) (m (S_cn q 2)) (m (S_cn q 3)) i = m (S_cn q i) := by
  rcases z4 hi with e | e | e | e <;> subst e <;> rfl
theorem E_t_sd {m : BA} {q s : Int} (hq : 0 ≤ q ∧ q < 36) (hs : 0 ≤ s ∧ s < 4) (h : S_X m (S_sd q s) = true) :
    E_t m (S_sd q s) = S_cn q (kT (m (S_cn q 0)) (m (S_cn q 1)) (m (S_cn q 2)) (m (S_cn q 3)) s) ∧ E_f m (S_sd q s) = S_cn q (kF (m (S_cn q 0)) (m (S_cn q 1)) (m (S_cn q 2)) (m (S_cn q 3)) s) := by
  unfold S_X at h; unfold E_t E_f kT kF; rw [kC_m m q hs]
  rcases E_sd_uv hq hs with ⟨h1, h2⟩ | ⟨h1, h2⟩ <;> rw [h1, h2] at h ⊢
  · split <;> exact ⟨rfl, rfl⟩
  · cases ha : m (S_cn q s) <;> cases hb : m (S_cn q ((s + 1) % 4)) <;> rw [ha, hb] at h
    · cases h
    · exact ⟨rfl, rfl⟩
    · exact ⟨rfl, rfl⟩
    · cases h
theorem kT_b (b0 b1 b2 b3 : Bool) {s : Int} (hs : 0 ≤ s ∧ s < 4) : (0 ≤ kT b0 b1 b2 b3 s ∧ kT b0 b1 b2 b3 s < 4) ∧ 0 ≤ kF b0 b1 b2 b3 s ∧ kF b0 b1 b2 b3 s < 4 := by
  unfold kT kF; split <;> omega
theorem Rg_J {m : BA} {e f : Int} (h : S_J m e f) : Rg m (E_t m e) (E_t m f) ∧ Rg m (E_f m e) (E_f m f) := by
  obtain ⟨i, i0, i1, hp, hd⟩ := h
  have hX := S_p_X ⟨i0, i1⟩ hp
  have main : Rg m (E_t m (S_pa m i)) (E_t m (S_pb m i)) ∧ Rg m (E_f m (S_pa m i)) (E_f m (S_pb m i)) := by
    have hq : 0 ≤ i / 2 ∧ i / 2 < 36 := by omega
    have ht : i % 2 = 0 ∨ i % 2 = 1 := by omega
    have k := k_ab _ _ _ _ _ ht hp
    have ta := E_tf hX.2.2.2.1; have tb := E_tf hX.2.2.2.2
    have sa := E_t_sd hq k.1 hX.2.2.2.1; have sb := E_t_sd hq k.2.1 hX.2.2.2.2
    have kk := kTT _ _ _ _ _ ht hp
    have ba := kT_b (m (S_cn (i / 2) 0)) (m (S_cn (i / 2) 1)) (m (S_cn (i / 2) 2)) (m (S_cn (i / 2) 3)) k.1
    have bb := kT_b (m (S_cn (i / 2) 0)) (m (S_cn (i / 2) 1)) (m (S_cn (i / 2) 2)) (m (S_cn (i / 2) 3)) k.2.1
    change E_t m (S_pa m i) = _ ∧ E_f m (S_pa m i) = _ at sa
    change E_t m (S_pb m i) = _ ∧ E_f m (S_pb m i) = _ at sb
    rw [sa.1, sa.2] at ta; rw [sb.1, sb.2] at tb
    rw [sa.1, sa.2, sb.1, sb.2]
    revert kk ba bb ta tb
    generalize kT (m (S_cn (i / 2) 0)) (m (S_cn (i / 2) 1)) (m (S_cn (i / 2) 2)) (m (S_cn (i / 2) 3)) (kA (m (S_cn (i / 2) 0)) (m (S_cn (i / 2) 1)) (m (S_cn (i / 2) 2)) (m (S_cn (i / 2) 3)) (i % 2)) = a
    generalize kT (m (S_cn (i / 2) 0)) (m (S_cn (i / 2) 1)) (m (S_cn (i / 2) 2)) (m (S_cn (i / 2) 3)) (kB (m (S_cn (i / 2) 0)) (m (S_cn (i / 2) 1)) (m (S_cn (i / 2) 2)) (m (S_cn (i / 2) 3)) (i % 2)) = b
    generalize kF (m (S_cn (i / 2) 0)) (m (S_cn (i / 2) 1)) (m (S_cn (i / 2) 2)) (m (S_cn (i / 2) 3)) (kA (m (S_cn (i / 2) 0)) (m (S_cn (i / 2) 1)) (m (S_cn (i / 2) 2)) (m (S_cn (i / 2) 3)) (i % 2)) = a'
    generalize kF (m (S_cn (i / 2) 0)) (m (S_cn (i / 2) 1)) (m (S_cn (i / 2) 2)) (m (S_cn (i / 2) 3)) (kB (m (S_cn (i / 2) 0)) (m (S_cn (i / 2) 1)) (m (S_cn (i / 2) 2)) (m (S_cn (i / 2) 3)) (i % 2)) = b'
    intro kk ba bb ta tb
    refine ⟨?_, ?_⟩
    · rcases kk with e | e | e | ⟨e1, e2⟩ | ⟨e1, e2⟩
      · rw [e]; exact Rg_rf
      · rw [e] at tb ⊢; exact Rg_4 (cn4 hq ba.1) (tb.1.trans ta.1.symm)
      · rw [e] at ta ⊢; exact Rg_sy (Rg_4 (cn4 hq bb.1) (ta.1.trans tb.1.symm))
      · rw [kC_m m _ (by omega)] at e1
        rw [e2] at tb ⊢
        exact Rg_tr (Rg_4 (cn4 hq ba.1) (e1.trans ta.1.symm)) (Rg_4 (cn4 hq (by omega)) (tb.1.trans e1.symm))
      · rw [kC_m m _ (by omega)] at e1
        rw [e2] at ta ⊢
        exact Rg_sy (Rg_tr (Rg_4 (cn4 hq bb.1) (e1.trans tb.1.symm)) (Rg_4 (cn4 hq (by omega)) (ta.1.trans e1.symm)))
    · by_cases e : a' = b'
      · rw [e]; exact Rg_rf
      · exact Rg_8 (cn8 hq ba.2 bb.2 e) ta.2 tb.2
  rcases hd with ⟨d1, d2⟩ | ⟨d1, d2⟩ <;> rw [← d1, ← d2]
  · exact main
  · exact ⟨Rg_sy main.1, Rg_sy main.2⟩
theorem Rg_C {m : BA} {e f : Int} (h : Cn (S_J m) e f) : Rg m (E_t m e) (E_t m f) ∧ Rg m (E_f m e) (E_f m f) :=
  h (fun z => Rg m (E_t m e) (E_t m z) ∧ Rg m (E_f m e) (E_f m z)) ⟨Rg_rf, Rg_rf⟩ (fun _ _ ha hr => ⟨Rg_tr ha.1 (Rg_J hr).1, Rg_tr ha.2 (Rg_J hr).2⟩)
/-! inner and outer ends -/
noncomputable def Ein (m : BA) (e0 e : Int) : Int := if Si (Lm m e0) (E_t m e) = true then E_t m e else E_f m e
noncomputable def Eou (m : BA) (e0 e : Int) : Int := if Si (Lm m e0) (E_t m e) = true then E_f m e else E_t m e
def Xb (m : BA) (e : Int) : Prop := (0 ≤ e ∧ e < 84) ∧ S_X m e = true
theorem Lm_t {m : BA} {e0 e : Int} (h : Xb m e) (hc : Cn (S_J m) e0 e) : Lm m e0 e = true := cb_iff.mpr ⟨h, hc⟩
theorem E_tf_or {m : BA} {e : Int} : (E_t m e = E_u e ∧ E_f m e = E_v e) ∨ (E_t m e = E_v e ∧ E_f m e = E_u e) := by
  unfold E_t E_f; split
  · exact Or.inl ⟨rfl, rfl⟩
  · exact Or.inr ⟨rfl, rfl⟩
theorem Si_tf {m : BA} {e0 e : Int} (he : 0 ≤ e ∧ e < 84) : (Si (Lm m e0) (E_t m e) != Si (Lm m e0) (E_f m e)) = Lm m e0 e := by
  rw [← Si_e (Lm_Ev m e0) he]
  rcases E_tf_or (m := m) (e := e) with ⟨h1, h2⟩ | ⟨h1, h2⟩ <;> rw [h1, h2]
  exact bne_comm
theorem Ein_s {m : BA} {e0 e : Int} (h : Xb m e) (hc : Cn (S_J m) e0 e) : Si (Lm m e0) (Ein m e0 e) = true ∧ Si (Lm m e0) (Eou m e0 e) = false := by
  have h1 := Si_tf (m := m) (e0 := e0) h.1
  rw [Lm_t h hc] at h1
  unfold Ein Eou
  cases h2 : Si (Lm m e0) (E_t m e) <;> rw [h2] at h1
  · rw [if_neg (by decide), if_neg (by decide)]; refine ⟨?_, h2⟩; revert h1; cases Si (Lm m e0) (E_f m e) <;> decide
  · rw [if_pos rfl, if_pos rfl]; refine ⟨h2, ?_⟩; revert h1; cases Si (Lm m e0) (E_f m e) <;> decide
/-- the ends of an edge of the line: of the inner or of the outer region -/
theorem Ein_R {m : BA} {e0 e : Int} (h0 : Xb m e0) (h : Xb m e) (hc : Cn (S_J m) e0 e) : Rg m (Ein m e0 e0) (Ein m e0 e) ∧ Rg m (Eou m e0 e0) (Eou m e0 e) := by
  have hr := Rg_C hc
  have hs := Si_R (e0 := e0) hr.1
  unfold Ein Eou; rw [← hs]
  split
  · exact ⟨hr.1, hr.2⟩
  · exact ⟨hr.2, hr.1⟩
theorem Ein_or {m : BA} {e0 e x y : Int} (hd : (E_u e = x ∧ E_v e = y) ∨ (E_u e = y ∧ E_v e = x)) : (Ein m e0 e = x ∧ Eou m e0 e = y) ∨ (Ein m e0 e = y ∧ Eou m e0 e = x) := by
  unfold Ein Eou
  rcases E_tf_or (m := m) (e := e) with ⟨h1, h2⟩ | ⟨h1, h2⟩ <;> rw [h1, h2] <;> rcases hd with ⟨d1, d2⟩ | ⟨d1, d2⟩ <;> rw [d1, d2] <;> split
  all_goals first | exact Or.inl ⟨rfl, rfl⟩ | exact Or.inr ⟨rfl, rfl⟩
theorem Lm_eq {m : BA} {e f : Int} (h : Cn (S_J m) e f) : Lm m e = Lm m f := by
  funext k; exact cb_congr ⟨fun z => ⟨z.1, (h.sy S_J_sy).tr z.2⟩, fun z => ⟨z.1, h.tr z.2⟩⟩
theorem Ein_eq {m : BA} {e f k : Int} (h : Cn (S_J m) e f) : Ein m e k = Ein m f k := by unfold Ein; rw [Lm_eq h]
/-- all points are reached -/
theorem all_4 : ∀ n, 0 ≤ n → ∀ p, 0 ≤ p → p < n → p < 49 → Cn (S_adj 4) 0 p := by
  refine z_ind (fun p a b _ => by omega) (fun n hn ih p a b c => ?_)
  by_cases e : p < n
  · exact ih p a e c
  · by_cases e0 : p = 0
    · rw [e0]; exact Cn.rf
    · by_cases e7 : p % 7 = 0
      · refine (ih (p - 7) (by omega) (by omega) (by omega)).st ⟨by omega, by omega, 2, by omega, by omega, ?_⟩
        rw [(S_step_4 (p := p - 7) (by omega)).2.2.1, if_neg (by omega)]; omega
      · refine (ih (p - 1) (by omega) (by omega) (by omega)).st ⟨by omega, by omega, 1, by omega, by omega, ?_⟩
        rw [(S_step_4 (p := p - 1) (by omega)).2.1, if_neg (by omega)]; omega
theorem two_in {m : BA} {e0 e1 : Int} (h0 : Xb m e0) (h1 : Xb m e1) (hr : Rg m (Ein m e0 e0) (Ein m e1 e1)) : Cn (S_J m) e0 e1 := by
  refine Classical.byContradiction (fun hn => ?_)
  have s0 := Ein_s h0 (Cn.rf (r := S_J m)); have s1 := Ein_s h1 (Cn.rf (r := S_J m))
  have c1 : Lm m e0 e1 = false := cb_f.mpr (fun z => hn z.2)
  have d0 : Lm m e1 e0 = false := cb_f.mpr (fun z => hn (z.2.sy S_J_sy))
  have t1 : Si (Lm m e0) (Ein m e1 e1) = true := (Si_R hr).symm.trans s0.1
  have u0 : Si (Lm m e1) (Ein m e0 e0) = true := (Si_R hr).trans s1.1
  -- both ends of e1 lie on the inner side of e0, both ends of e0 on the inner side of e1
  have t2 : Si (Lm m e0) (E_t m e1) = true ∧ Si (Lm m e0) (E_f m e1) = true := by
    have h := Si_tf (m := m) (e0 := e0) h1.1
    rw [c1] at h; have h := bne_ff h
    unfold Ein at t1; split at t1
    · exact ⟨t1, h.symm.trans t1⟩
    · exact ⟨h.trans t1, t1⟩
  have u2 : Si (Lm m e1) (Eou m e0 e0) = true := by
    have h := Si_tf (m := m) (e0 := e1) h0.1
    rw [d0] at h; have h := bne_ff h
    unfold Ein at u0; unfold Eou; split at u0
    · next q => rw [if_pos q]; exact h.symm.trans u0
    · next q => rw [if_neg q]; exact h.trans u0
  have key : ∀ x, Cn (S_adj 4) 0 x → (Si (Lm m e0) x = false → Si (Lm m e1) x = false) ∧ (Si (Lm m e0) x = true → Si (Lm m e1) (Eou m e0 e0) = false) := fun x hx => by
    refine hx (fun x => (Si (Lm m e0) x = false → Si (Lm m e1) x = false) ∧ (Si (Lm m e0) x = true → Si (Lm m e1) (Eou m e0 e0) = false)) ⟨fun _ => Si_0 _, fun h => by rw [Si_0] at h; cases h⟩ (fun x y ih hxy => ?_)
    obtain ⟨f, hf, hd⟩ := adj_E hxy
    have hcf := Si_e (Lm_Ev m e0) hf
    have hdf := Si_e (Lm_Ev m e1) hf
    have hcf : (Si (Lm m e0) x != Si (Lm m e0) y) = Lm m e0 f := by
      rcases hd with ⟨d1, d2⟩ | ⟨d1, d2⟩ <;> rw [d1, d2] at hcf
      · exact hcf
      · rw [← hcf]; exact bne_comm
    have hdf : (Si (Lm m e1) x != Si (Lm m e1) y) = Lm m e1 f := by
      rcases hd with ⟨d1, d2⟩ | ⟨d1, d2⟩ <;> rw [d1, d2] at hdf
      · exact hdf
      · rw [← hdf]; exact bne_comm
    cases hc : Lm m e0 f
    · rw [hc] at hcf; have hcf := bne_ff hcf
      refine ⟨fun hy => ?_, fun hy => ih.2 (hcf.trans hy)⟩
      have hx0 := hcf.trans hy
      cases hdd : Lm m e1 f
      · rw [hdd] at hdf; exact (bne_ff hdf).symm.trans (ih.1 hx0)
      · exfalso
        have hl := cb_iff.mp hdd
        have hrc := Rg_C hl.2
        have q1 := (Si_R (e0 := e0) hrc.1).symm.trans t2.1
        have q2 := (Si_R (e0 := e0) hrc.2).symm.trans t2.2
        have q3 : Si (Lm m e0) x = true := by
          rcases E_tf_or (m := m) (e := f) with ⟨g1, g2⟩ | ⟨g1, g2⟩ <;> rw [g1] at q1 <;> rw [g2] at q2 <;> rcases hd with ⟨d1, d2⟩ | ⟨d1, d2⟩ <;> rw [← d1] at * <;> first | exact q1 | exact q2 | (rw [← d2]; first | exact q1 | exact q2)
        rw [hx0] at q3; cases q3
    · have hl := cb_iff.mp hc
      have hin := Ein_s (e0 := e0) hl.1 hl.2
      have hrr := (Ein_R h0 hl.1 hl.2).2
      have hso := Si_R (e0 := e1) hrr
      rcases Ein_or (m := m) (e0 := e0) hd with ⟨g1, g2⟩ | ⟨g1, g2⟩ <;> rw [g1, g2] at hin <;> rw [g2] at hso
      · -- x inner, y outer
        exact ⟨fun _ => hso.symm.trans (ih.2 hin.1), fun hy => by rw [hin.2] at hy; cases hy⟩
      · exact ⟨fun hy => by rw [hin.1] at hy; cases hy, fun _ => hso.trans (ih.1 hin.2)⟩
  have hb := E_tf_b (m := m) h0.1
  have hbi : 0 ≤ Ein m e0 e0 ∧ Ein m e0 e0 < 49 := by unfold Ein; split; exact hb.1; exact hb.2
  have := (key _ (all_4 49 (by omega) _ hbi.1 hbi.2 hbi.2)).2 s0.1
  rw [u2] at this; cases this
theorem one_in {m : BA} {x : Int} (hx : 0 ≤ x ∧ x < 49) (hn : ¬ Rg m 0 x) : ∃ e, Xb m e ∧ Rg m (Ein m e e) x := by
  -- what is reached from 0 without x's region
  have hex : ∃ y z, Cn (fun a b => S_adj 4 a b ∧ ¬ Rg m x b) 0 y ∧ S_adj 4 y z ∧ Rg m x z := Classical.byContradiction (fun hno => by
    have h := all_4 49 (by omega) x hx.1 hx.2 hx.2
    have : Cn (fun a b => S_adj 4 a b ∧ ¬ Rg m x b) 0 x := h (fun z => Cn (fun a b => S_adj 4 a b ∧ ¬ Rg m x b) 0 z) Cn.rf (fun a b ha hab => by
      by_cases q : Rg m x b
      · exact absurd ⟨a, b, ha, hab, q⟩ hno
      · exact ha.st ⟨hab, q⟩)
    have h2 : ¬ Rg m x x := this (fun z => ¬ Rg m x z) (fun q => hn (Rg_sy q)) (fun _ _ _ hr => hr.2)
    exact h2 Rg_rf)
  obtain ⟨y, z, hy, hyz, hz⟩ := hex
  have hny : ¬ Rg m x y := hy (fun z => ¬ Rg m x z) (fun q => hn (Rg_sy q)) (fun _ _ _ hr => hr.2)
  obtain ⟨e, he, hd⟩ := adj_E hyz
  have hX : Xb m e := ⟨he, by
    cases hq : S_X m e
    · exfalso
      unfold S_X at hq
      have hm : m z = m y := by rcases hd with ⟨d1, d2⟩ | ⟨d1, d2⟩ <;> rw [d1, d2] at hq <;> have := bne_ff hq <;> first | exact this | exact this.symm
      exact hny (Rg_tr hz (Rg_sy (Rg_4 hyz hm)))
    · rfl⟩
  refine ⟨e, hX, ?_⟩
  have hS : Si (Lm m e) y = false := hy (fun w => Si (Lm m e) w = false ∧ ¬ Rg m x w) ⟨Si_0 _, fun q => hn (Rg_sy q)⟩ (fun a b ha hab => by
    refine ⟨?_, hab.2⟩
    obtain ⟨f, hf, hdf⟩ := adj_E hab.1
    have hcf := Si_e (Lm_Ev m e) hf
    cases hc : Lm m e f
    · rw [hc] at hcf; have hcf := bne_ff hcf
      rcases hdf with ⟨d1, d2⟩ | ⟨d1, d2⟩ <;> rw [d1, d2] at hcf
      · exact hcf.symm.trans ha.1
      · exact hcf.trans ha.1
    · exfalso
      have hl := cb_iff.mp hc
      have hr := Rg_C hl.2
      -- z is an end of e, so one end of f is in x's region
      have hzz : Rg m x (E_t m f) ∨ Rg m x (E_f m f) := by
        have : z = E_t m e ∨ z = E_f m e := by
          rcases E_tf_or (m := m) (e := e) with ⟨g1, g2⟩ | ⟨g1, g2⟩ <;> rw [g1, g2] <;> rcases hd with ⟨d1, d2⟩ | ⟨d1, d2⟩ <;> rw [d1, d2] <;> first | exact Or.inl rfl | exact Or.inr rfl
        rcases this with e1 | e1 <;> rw [e1] at hz
        · exact Or.inl (Rg_tr hz hr.1)
        · exact Or.inr (Rg_tr hz hr.2)
      have hab2 : Rg m x a ∨ Rg m x b := by
        rcases E_tf_or (m := m) (e := f) with ⟨g1, g2⟩ | ⟨g1, g2⟩ <;> rw [g1, g2] at hzz <;> rcases hdf with ⟨d1, d2⟩ | ⟨d1, d2⟩ <;> rw [d1, d2] at hzz <;> first | exact hzz | exact hzz.symm
      exact hab2.elim ha.2 hab.2) |>.1
  have hin := Ein_s (e0 := e) hX (Cn.rf (r := S_J m))
  rcases Ein_or (m := m) (e0 := e) hd with ⟨g1, g2⟩ | ⟨g1, g2⟩
  · rw [g1, hS] at hin; cases hin.1
  · rw [g1]; exact Rg_sy hz
/-! counting -/
theorem least {P : Int → Prop} : ∀ n, 0 ≤ n → (∃ k, 0 ≤ k ∧ k < n ∧ P k) → ∃ k, 0 ≤ k ∧ k < n ∧ P k ∧ ∀ j, 0 ≤ j → j < k → ¬ P j := by
  refine z_ind (fun ⟨k, a, b, _⟩ => by omega) (fun n hn ih ⟨k, a, b, c⟩ => ?_)
  by_cases h : ∃ k, 0 ≤ k ∧ k < n ∧ P k
  · obtain ⟨k, k0, k1, k2, k3⟩ := ih h
    exact ⟨k, k0, by omega, k2, k3⟩
  · have e : k = n := by by_cases q : k < n; exact absurd ⟨k, a, q, c⟩ h; omega
    exact ⟨k, a, b, c, fun j j0 j1 j2 => h ⟨j, j0, by omega, j2⟩⟩
noncomputable def rep (m : BA) : BA := fun k => cb (∀ j, 0 ≤ j → j < k → ¬ Rg m j k)
noncomputable def rep0 (m : BA) : BA := fun k => rep m k && decide (k ≠ 0)
theorem rep_split (m : BA) : zC (rep m) 49 = S_comps 4 m + S_comps 8 (fun k => !m k) := by
  unfold S_comps zC
  rw [← zS_add 49 (by omega)]
  refine zS_congr 49 (by omega) (fun k h0 h1 => ?_)
  cases hm : m k
  · rw [z1_f (b := cb (m k = true ∧ _)) (cb_f.mpr (fun z => by rw [hm] at z; cases z.1)), Int.zero_add]
    congr 1
    refine cb_congr ⟨fun h => ⟨by rw [hm]; rfl, fun j j0 j1 j2 j3 => h j j0 j1 (Or.inr ⟨by revert j2; cases m j <;> decide, j3⟩)⟩, fun h j j0 j1 j2 => ?_⟩
    have e := Rg_m j2
    rcases j2 with ⟨j2, j3⟩ | ⟨j2, j3⟩
    · rw [hm, j2] at e; cases e
    · exact h.2 j j0 j1 (by show (!m j) = true; rw [j2]; rfl) j3
  · rw [z1_f (b := cb ((!m k) = true ∧ _)) (cb_f.mpr (fun z => by rw [hm] at z; cases z.1)), Int.add_zero]
    congr 1
    refine cb_congr ⟨fun h => ⟨hm, fun j j0 j1 j2 j3 => h j j0 j1 (Or.inl ⟨j2, j3⟩)⟩, fun h j j0 j1 j2 => ?_⟩
    have e := Rg_m j2
    rcases j2 with ⟨j2, j3⟩ | ⟨j2, j3⟩
    · exact h.2 j j0 j1 j2 j3
    · rw [hm, j2] at e; cases e
theorem rep_0 (m : BA) : zC (rep m) 49 = zC (rep0 m) 49 + 1 := zC_ins (a := 0) (by omega) (by unfold rep0; simp) (fun k h0 h1 => by
  unfold rep0
  by_cases e : k = 0
  · rw [decide_eq_true e, Bool.or_true, e]; exact cb_iff.mpr (fun j a b => by omega)
  · rw [decide_eq_false e, Bool.or_false, decide_eq_true e, Bool.and_true])
theorem S_lrep_iff {m : BA} {e : Int} : S_lrep m e = true ↔ S_X m e = true ∧ ∀ j, 0 ≤ j → j < e → S_X m j = true → ¬ Cn (S_J m) j e := cb_iff
theorem Euler (m : BA) : S_nlines m = S_comps 4 m + S_comps 8 (fun k => !m k) - 1 := by
  have h1 : zC (rep0 m) 49 ≤ zC (S_lrep m) 84 := by
    refine zC_rel (R := fun k e => Xb m e ∧ Rg m (Ein m e e) k) 49 (by omega) _ _ 84 (by omega) (fun a a0 a1 pa => ?_) (fun a a' b a0 a1 a0' a1' pa pa' b0 b1 r1 r2 => ?_)
    · unfold rep0 at pa
      have pa1 : rep m a = true := by revert pa; cases rep m a <;> simp
      have pa2 : a ≠ 0 := by
        intro e; rw [decide_eq_false (show ¬ a ≠ 0 from fun q => q e), Bool.and_false] at pa; cases pa
      have hr := cb_iff.mp pa1
      obtain ⟨e, he, hre⟩ := one_in ⟨a0, a1⟩ (hr 0 (by omega) (by omega))
      obtain ⟨f, f0, f1, ⟨f2, f3⟩, f4⟩ := least (P := fun j => S_X m j = true ∧ Cn (S_J m) j e) 84 (by omega) ⟨e, he.1.1, he.1.2, he.2, Cn.rf⟩
      have hf : Xb m f := ⟨⟨f0, f1⟩, f2⟩
      refine ⟨f, f0, f1, S_lrep_iff.mpr ⟨f2, fun j j0 j1 j2 j3 => f4 j j0 j1 ⟨j2, j3.tr f3⟩⟩, hf, ?_⟩
      have := (Ein_R hf he f3).1
      rw [Ein_eq f3 (k := e)] at this
      exact Rg_tr this hre
    · have hr := Rg_tr (Rg_sy r1.2) r2.2
      unfold rep0 at pa pa'
      have p1 : rep m a = true := by revert pa; cases rep m a <;> simp
      have p2 : rep m a' = true := by revert pa'; cases rep m a' <;> simp
      have q1 := cb_iff.mp p1; have q2 := cb_iff.mp p2
      rcases Int.lt_trichotomy a a' with c | c | c
      · exact absurd hr (q2 a a0 c)
      · exact c
      · exact absurd (Rg_sy hr) (q1 a' a0' c)
  have h2 : zC (S_lrep m) 84 ≤ zC (rep0 m) 49 := by
    refine zC_rel (R := fun e k => Xb m e ∧ Rg m (Ein m e e) k) 84 (by omega) _ _ 49 (by omega) (fun a a0 a1 pa => ?_) (fun a a' b a0 a1 a0' a1' pa pa' b0 b1 r1 r2 => ?_)
    · have hl := S_lrep_iff.mp pa
      have hX : Xb m a := ⟨⟨a0, a1⟩, hl.1⟩
      have hb := E_tf_b (m := m) hX.1
      have hbi : 0 ≤ Ein m a a ∧ Ein m a a < 49 := by unfold Ein; split; exact hb.1; exact hb.2
      obtain ⟨k, k0, k1, k2, k3⟩ := least (P := fun j => Rg m j (Ein m a a)) 49 (by omega) ⟨_, hbi.1, hbi.2, Rg_rf⟩
      refine ⟨k, k0, k1, ?_, hX, Rg_sy k2⟩
      have e0 : k ≠ 0 := fun e => by
        rw [e] at k2
        have := (Si_R (e0 := a) k2).trans (Ein_s hX (Cn.rf (r := S_J m))).1
        rw [Si_0] at this; cases this
      unfold rep0; rw [decide_eq_true e0, Bool.and_true]
      exact cb_iff.mpr (fun j j0 j1 j2 => k3 j j0 j1 (Rg_tr j2 k2))
    · have hr := Rg_tr r1.2 (Rg_sy r2.2)
      have hc := two_in r1.1 r2.1 hr
      have q1 := S_lrep_iff.mp pa; have q2 := S_lrep_iff.mp pa'
      rcases Int.lt_trichotomy a a' with c | c | c
      · exact absurd hc (q2.2 a a0 c q1.1)
      · exact c
      · exact absurd (hc.sy S_J_sy) (q1.2 a' a0' c q2.1)
  have h3 := rep_split m; have h4 := rep_0 m
  unfold S_nlines; omega
abbrev wz_X10_steps : List Cond := .code yX10_steps cX10_steps 5 (some .int) :: W0
abbrev rm_X10_steps : Room := { frames := 4, cells := 0, slots := 0, locals := 91 }
theorem hd_X10_steps : yX10_steps.cls = RX10 ∧ yX10_steps.cls ≠ "java/lang/invoke/MethodHandle" ∧ yX10_steps.cls ≠ "java/lang/invoke/VarHandle" ∧ (parseMethodDescriptor yX10_steps.desc).map (fun d => d.parameters.length) = some 1 := by decide +kernel
set_option maxHeartbeats 4000000 in
set_option maxRecDepth 100000 in
theorem c_X10_steps (l : Launch) (D : va_G) (τ : Nat → Nat) (β : Nat → Nat) (δ : Nat → ClassId) (ms : IA) (mb : IA) (mo : IA) (mp : BA) (mf : IA) (mn : IA) (mi : IA) (mc : IA) (mq : BA) (mr : IA) (mw : IA) (mk : Int) (ml : Int) (mt : Int) (ma : Int) (mx : Bool) (mh : Int64) (p : Int) (hp : 0 ≤ p ∧ p < 49) (hms : ∀ k, 0 ≤ k → k < 49 → 0 ≤ ms k ∧ ms k ≤ 99) : cM l yX10_steps wz_X10_steps rm_X10_steps D τ (tyM δ) [.ref (β 0), .int (zI p)] (wM β δ ms mb mo mp mf mn mi mc mq mr mw mk ml mt ma mx mh) (zQi (fun r w => ∃ (v : Int), (v = S_steps ms p) ∧ (0 ≤ v ∧ v ≤ 49) ∧ r = zI v ∧ wM β δ ms mb mo mp mf mn mi mc mq mr mw mk ml mt ma mx mh = w)) := by
  refine z_ofM (cc := cX10_steps) (maxL := 5) (ret := (some .int)) (by decide +kernel) rfl (Nat.le_of_ble_eq_true rfl) ?_
  intro pg e s m args below meth c hC hr hlk hnm hK hP A hD hG hA hS ls hl Q hQ
  have hx := hC.1
  have hb := hC.2.1
  have hml := hC.2.2.1
  have hown := hC.2.2.2.1
  have hts := hC.2.2.2.2
  have hB : ∀ w ∈ W0, w ∈ wz_X10_steps := fun _ h => List.mem_cons_of_mem _ h
  have hW0 : ∀ w ∈ W0, w.before args s = true := fun w h => hts w (hB w h)
  have hl : lv_has ls 5 [(0, .ref (β 0)), (1, .int (zI p))] := hl
  refine lv_iconst (v := zI 0) hx hb dX10_steps_0 rfl ?_
  refine lv_istore_n (lv' := [(2, .int (zI 0)), (0, .ref (β 0)), (1, .int (zI p))]) hx hb dX10_steps_1 rfl hl (by decide) rfl (fun ls hl => ?_)
  refine lv_iload_n hx hb dX10_steps_2 rfl (lv_at hl 2 rfl) ?_
  refine lv_istore_n (lv' := [(3, .int (zI p)), (2, .int (zI 0)), (0, .ref (β 0)), (1, .int (zI p))]) hx hb dX10_steps_3 rfl hl (by decide) rfl (fun ls hl => ?_)
  refine lv_aload_n hx hb dX10_steps_4 rfl (lv_at hl 2 rfl) ?_
  refine lv_iload_n hx hb dX10_steps_5 rfl (lv_at hl 0 rfl) ?_
  refine z_calli hP hD hS hA (va_runV (As := [.int (zI p)]) (rest := []) hC (c_X10_drain l D τ β δ ms mb mo mp mf mn mi mc mq mr mw mk ml mt ma mx mh p (by first | assumption | rfl | omega) (by first | assumption | rfl | omega) _) (cwV 1 hts (gV hB wl_X10_74 wn_X10_drain ws_X10_drain wi_X10 wc_X10_drain) rfl rfl rfl hd_X10_drain ⟨Nat.le_of_ble_eq_true rfl, Nat.le_of_ble_eq_true rfl⟩) (zp_V hK hP hD hS hA hG (ci := 10) (q0 := 0) rfl rfl rfl) rfl rfl hl.1 rfl (lv_room (Nat.le_of_ble_eq_true rfl)) dX10_steps_6 ⟨Nat.le_of_ble_eq_true rfl, Nat.le_of_ble_eq_true rfl⟩) (fun r w1 H locs hq9 hP hD hS => ?_)
  obtain ⟨v6_1, hv6_0, hv6_1, rfl, rfl⟩ := hq9
  have hP : va_P D vwCl (wM β δ ms mb mo mp mf mn mi mc mq mr mw mk ml mt ma mx mh) H := hP
  have hD : va_D A (wM β δ ms mb mo mp mf mn mi mc mq mr mw mk ml mt ma mx mh) := hD
  refine lv_istore (lv' := [(4, .int (zI v6_1)), (3, .int (zI p)), (2, .int (zI 0)), (0, .ref (β 0)), (1, .int (zI p))]) hx hb dX10_steps_9 hl (by decide) rfl (fun ls hl => ?_)
  suffices HL_11 : ∀ (n_11 : Nat), ∀ (n : Int) (q : Int) (x : Int) (H : Heap) (locs : List Loc) (hP : va_P D vwCl (wM β δ ms mb mo mp mf mn mi mc mq mr mw mk ml mt ma mx mh) H) (hD : va_D A (wM β δ ms mb mo mp mf mn mi mc mq mr mw mk ml mt ma mx mh)) (hS : va_S A s.heap H locs) (ls : Array Slot) (hl : lv_has ls 5 [(2, .int (zI n)), (3, .int (zI q)), (4, .int (zI x)), (0, .ref (β 0)), (1, .int (zI p))]) (hq : 0 ≤ q ∧ q < 49) (hx9 : x = S_next ms q) (hsk : n + S_steps ms q = S_steps ms p) (hn : 0 ≤ n) (hm : (ms q).toNat < n_11), W pg l e rm_X10_steps s m args below meth c H locs 0 0 Q (F0 m 11 ls []) from HL_11 _ 0 p v6_1 _ _ hP hD hS _ (lv_sub hl [2, 1, 0, 3, 4] rfl) (by exact hp) (by exact hv6_0) (by rw [Int.zero_add]) (by first | assumption | rfl | omega) (Nat.lt_succ_self _)
  intro n_11
  induction n_11 with
  | zero => intro n q x H locs hP hD hS ls hl hq hx9 hsk hn hm; exact absurd hm (Nat.not_lt_zero _)
  | succ n_11 ih_11 =>
    intro n q x H locs hP hD hS ls hl hq hx9 hsk hn hm
    have hxb := S_next_b (h := ms) hq
    rw [← hx9] at hxb
    refine lv_iload hx hb dX10_steps_11 (lv_at hl 2 rfl) ?_
    refine lv_iconst (v := zI (-1)) hx hb dX10_steps_13 rfl ?_
    refine z_iceq (tgt := 33) hx hb ⟨by omega, by omega⟩ ⟨by omega, by omega⟩ dX10_steps_14 (by decide) (fun c_14 => ?_) (fun c_14 => ?_)
    · refine lv_iload_n hx hb dX10_steps_33 rfl (lv_at hl 0 rfl) ?_
      exact z_iret hC hr hlk hQ hP hD hS ⟨n, (by rw [← hsk, (S_sink_s (hx9.symm.trans c_14)).2]; omega), (by have z7 := (S_sink_s (h := ms) (x := q) (hx9.symm.trans c_14)).2; have z8 := S_stepsN_b (h := ms) 49 p; have z9 : S_stepsN ms 49 p = S_steps ms p := rfl; omega), rfl, rfl⟩ dX10_steps_34
    · have hne : S_next ms q ≠ -1 := by rw [← hx9]; exact c_14
      have hok : (0 ≤ x ∧ x < 49) ∧ ms x < ms q := by rw [hx9]; exact ⟨(S_next_ok hq hne).1, (S_next_ok hq hne).2.1⟩
      have hm9 := hms q hq.1 hq.2
      refine lv_iload hx hb dX10_steps_17 (lv_at hl 2 rfl) ?_
      refine lv_istore_n (lv' := [(3, .int (zI x)), (2, .int (zI n)), (4, .int (zI x)), (0, .ref (β 0)), (1, .int (zI p))]) hx hb dX10_steps_19 rfl hl (by decide) rfl (fun ls hl => ?_)
      refine lv_aload_n hx hb dX10_steps_20 rfl (lv_at hl 3 rfl) ?_
      refine lv_iload_n hx hb dX10_steps_21 rfl (lv_at hl 0 rfl) ?_
      refine z_calli hP hD hS hA (va_runV (As := [.int (zI x)]) (rest := []) hC (c_X10_drain l D τ β δ ms mb mo mp mf mn mi mc mq mr mw mk ml mt ma mx mh x (by exact hok.1) (by first | assumption | rfl | omega) _) (cwV 1 hts (gV hB wl_X10_74 wn_X10_drain ws_X10_drain wi_X10 wc_X10_drain) rfl rfl rfl hd_X10_drain ⟨Nat.le_of_ble_eq_true rfl, Nat.le_of_ble_eq_true rfl⟩) (zp_V hK hP hD hS hA hG (ci := 10) (q0 := 0) rfl rfl rfl) rfl rfl hl.1 rfl (lv_room (Nat.le_of_ble_eq_true rfl)) dX10_steps_22 ⟨Nat.le_of_ble_eq_true rfl, Nat.le_of_ble_eq_true rfl⟩) (fun r w1 H locs hq9 hP hD hS => ?_)
      obtain ⟨v22_2, hv22_0, hv22_1, rfl, rfl⟩ := hq9
      have hP : va_P D vwCl (wM β δ ms mb mo mp mf mn mi mc mq mr mw mk ml mt ma mx mh) H := hP
      have hD : va_D A (wM β δ ms mb mo mp mf mn mi mc mq mr mw mk ml mt ma mx mh) := hD
      refine lv_istore (lv' := [(4, .int (zI v22_2)), (3, .int (zI x)), (2, .int (zI n)), (0, .ref (β 0)), (1, .int (zI p))]) hx hb dX10_steps_25 hl (by decide) rfl (fun ls hl => ?_)
      refine z_iinc (k := 2) (v := n + 1) (lv' := [(2, .int (zI (n + 1))), (4, .int (zI v22_2)), (3, .int (zI x)), (0, .ref (β 0)), (1, .int (zI p))]) hx hb dX10_steps_27 hl rfl rfl (by decide) rfl (fun ls hl => ?_)
      refine lv_goto (tgt := 11) hx hb dX10_steps_30 (by decide) ?_
      exact ih_11 (n + 1) x v22_2 _ _ hP hD hS _ (lv_sub hl [0, 2, 1, 3, 4] rfl) (by exact hok.1) (by exact hv22_0) (by have z9 := (S_sink_un hq hne).2; rw [← hx9] at z9; omega) (by first | assumption | rfl | omega) (by have z8 := hok.2; have z9 := hms x hok.1.1 hok.1.2; omega)

abbrev wz_X10_sink : List Cond := .code yX10_sink cX10_sink 4 (some .int) :: W0
abbrev rm_X10_sink : Room := { frames := 4, cells := 0, slots := 0, locals := 91 }
theorem hd_X10_sink : yX10_sink.cls = RX10 ∧ yX10_sink.cls ≠ "java/lang/invoke/MethodHandle" ∧ yX10_sink.cls ≠ "java/lang/invoke/VarHandle" ∧ (parseMethodDescriptor yX10_sink.desc).map (fun d => d.parameters.length) = some 1 := by decide +kernel
set_option maxHeartbeats 4000000 in
set_option maxRecDepth 100000 in
theorem c_X10_sink (l : Launch) (D : va_G) (τ : Nat → Nat) (β : Nat → Nat) (δ : Nat → ClassId) (ms : IA) (mb : IA) (mo : IA) (mp : BA) (mf : IA) (mn : IA) (mi : IA) (mc : IA) (mq : BA) (mr : IA) (mw : IA) (mk : Int) (ml : Int) (mt : Int) (ma : Int) (mx : Bool) (mh : Int64) (p : Int) (hp : 0 ≤ p ∧ p < 49) (hms : ∀ k, 0 ≤ k → k < 49 → 0 ≤ ms k ∧ ms k ≤ 99) : cM l yX10_sink wz_X10_sink rm_X10_sink D τ (tyM δ) [.ref (β 0), .int (zI p)] (wM β δ ms mb mo mp mf mn mi mc mq mr mw mk ml mt ma mx mh) (zQi (fun r w => ∃ (v : Int), (v = S_sink ms p) ∧ (0 ≤ v ∧ v < 49) ∧ r = zI v ∧ wM β δ ms mb mo mp mf mn mi mc mq mr mw mk ml mt ma mx mh = w)) := by
  refine z_ofM (cc := cX10_sink) (maxL := 4) (ret := (some .int)) (by decide +kernel) rfl (Nat.le_of_ble_eq_true rfl) ?_
  intro pg e s m args below meth c hC hr hlk hnm hK hP A hD hG hA hS ls hl Q hQ
  have hx := hC.1
  have hb := hC.2.1
  have hml := hC.2.2.1
  have hown := hC.2.2.2.1
  have hts := hC.2.2.2.2
  have hB : ∀ w ∈ W0, w ∈ wz_X10_sink := fun _ h => List.mem_cons_of_mem _ h
  have hW0 : ∀ w ∈ W0, w.before args s = true := fun w h => hts w (hB w h)
  have hl : lv_has ls 4 [(0, .ref (β 0)), (1, .int (zI p))] := hl
  refine lv_iload_n hx hb dX10_sink_0 rfl (lv_at hl 1 rfl) ?_
  refine lv_istore_n (lv' := [(2, .int (zI p)), (0, .ref (β 0)), (1, .int (zI p))]) hx hb dX10_sink_1 rfl hl (by decide) rfl (fun ls hl => ?_)
  refine lv_aload_n hx hb dX10_sink_2 rfl (lv_at hl 1 rfl) ?_
  refine lv_iload_n hx hb dX10_sink_3 rfl (lv_at hl 0 rfl) ?_
  refine z_calli hP hD hS hA (va_runV (As := [.int (zI p)]) (rest := []) hC (c_X10_drain l D τ β δ ms mb mo mp mf mn mi mc mq mr mw mk ml mt ma mx mh p (by first | assumption | rfl | omega) (by first | assumption | rfl | omega) _) (cwV 1 hts (gV hB wl_X10_74 wn_X10_drain ws_X10_drain wi_X10 wc_X10_drain) rfl rfl rfl hd_X10_drain ⟨Nat.le_of_ble_eq_true rfl, Nat.le_of_ble_eq_true rfl⟩) (zp_V hK hP hD hS hA hG (ci := 10) (q0 := 0) rfl rfl rfl) rfl rfl hl.1 rfl (lv_room (Nat.le_of_ble_eq_true rfl)) dX10_sink_4 ⟨Nat.le_of_ble_eq_true rfl, Nat.le_of_ble_eq_true rfl⟩) (fun r w1 H locs hq9 hP hD hS => ?_)
  obtain ⟨v4_1, hv4_0, hv4_1, rfl, rfl⟩ := hq9
  have hP : va_P D vwCl (wM β δ ms mb mo mp mf mn mi mc mq mr mw mk ml mt ma mx mh) H := hP
  have hD : va_D A (wM β δ ms mb mo mp mf mn mi mc mq mr mw mk ml mt ma mx mh) := hD
  refine lv_istore_n (lv' := [(3, .int (zI v4_1)), (2, .int (zI p)), (0, .ref (β 0)), (1, .int (zI p))]) hx hb dX10_sink_7 rfl hl (by decide) rfl (fun ls hl => ?_)
  suffices HL_8 : ∀ (n_8 : Nat), ∀ (q : Int) (x : Int) (H : Heap) (locs : List Loc) (hP : va_P D vwCl (wM β δ ms mb mo mp mf mn mi mc mq mr mw mk ml mt ma mx mh) H) (hD : va_D A (wM β δ ms mb mo mp mf mn mi mc mq mr mw mk ml mt ma mx mh)) (hS : va_S A s.heap H locs) (ls : Array Slot) (hl : lv_has ls 4 [(2, .int (zI q)), (3, .int (zI x)), (0, .ref (β 0)), (1, .int (zI p))]) (hq : 0 ≤ q ∧ q < 49) (hx9 : x = S_next ms q) (hsk : S_sink ms q = S_sink ms p) (hm : (ms q).toNat < n_8), W pg l e rm_X10_sink s m args below meth c H locs 0 0 Q (F0 m 8 ls []) from HL_8 _ p v4_1 _ _ hP hD hS _ (lv_sub hl [1, 0, 2, 3] rfl) (by exact hp) (by exact hv4_0) (by rfl) (Nat.lt_succ_self _)
  intro n_8
  induction n_8 with
  | zero => intro q x H locs hP hD hS ls hl hq hx9 hsk hm; exact absurd hm (Nat.not_lt_zero _)
  | succ n_8 ih_8 =>
    intro q x H locs hP hD hS ls hl hq hx9 hsk hm
    have hxb := S_next_b (h := ms) hq
    rw [← hx9] at hxb
    refine lv_iload_n hx hb dX10_sink_8 rfl (lv_at hl 1 rfl) ?_
    refine lv_iconst (v := zI (-1)) hx hb dX10_sink_9 rfl ?_
    refine z_iceq (tgt := 24) hx hb ⟨by omega, by omega⟩ ⟨by omega, by omega⟩ dX10_sink_10 (by decide) (fun c_10 => ?_) (fun c_10 => ?_)
    · refine lv_iload_n hx hb dX10_sink_24 rfl (lv_at hl 0 rfl) ?_
      exact z_iret hC hr hlk hQ hP hD hS ⟨q, (by rw [← hsk, (S_sink_s (hx9.symm.trans c_10)).1]), (by exact hq), rfl, rfl⟩ dX10_sink_25
    · have hne : S_next ms q ≠ -1 := by rw [← hx9]; exact c_10
      have hok : (0 ≤ x ∧ x < 49) ∧ ms x < ms q := by rw [hx9]; exact ⟨(S_next_ok hq hne).1, (S_next_ok hq hne).2.1⟩
      have hm9 := hms q hq.1 hq.2
      refine lv_iload_n hx hb dX10_sink_13 rfl (lv_at hl 1 rfl) ?_
      refine lv_istore_n (lv' := [(2, .int (zI x)), (3, .int (zI x)), (0, .ref (β 0)), (1, .int (zI p))]) hx hb dX10_sink_14 rfl hl (by decide) rfl (fun ls hl => ?_)
      refine lv_aload_n hx hb dX10_sink_15 rfl (lv_at hl 2 rfl) ?_
      refine lv_iload_n hx hb dX10_sink_16 rfl (lv_at hl 0 rfl) ?_
      refine z_calli hP hD hS hA (va_runV (As := [.int (zI x)]) (rest := []) hC (c_X10_drain l D τ β δ ms mb mo mp mf mn mi mc mq mr mw mk ml mt ma mx mh x (by exact hok.1) (by first | assumption | rfl | omega) _) (cwV 1 hts (gV hB wl_X10_74 wn_X10_drain ws_X10_drain wi_X10 wc_X10_drain) rfl rfl rfl hd_X10_drain ⟨Nat.le_of_ble_eq_true rfl, Nat.le_of_ble_eq_true rfl⟩) (zp_V hK hP hD hS hA hG (ci := 10) (q0 := 0) rfl rfl rfl) rfl rfl hl.1 rfl (lv_room (Nat.le_of_ble_eq_true rfl)) dX10_sink_17 ⟨Nat.le_of_ble_eq_true rfl, Nat.le_of_ble_eq_true rfl⟩) (fun r w1 H locs hq9 hP hD hS => ?_)
      obtain ⟨v17_2, hv17_0, hv17_1, rfl, rfl⟩ := hq9
      have hP : va_P D vwCl (wM β δ ms mb mo mp mf mn mi mc mq mr mw mk ml mt ma mx mh) H := hP
      have hD : va_D A (wM β δ ms mb mo mp mf mn mi mc mq mr mw mk ml mt ma mx mh) := hD
      refine lv_istore_n (lv' := [(3, .int (zI v17_2)), (2, .int (zI x)), (0, .ref (β 0)), (1, .int (zI p))]) hx hb dX10_sink_20 rfl hl (by decide) rfl (fun ls hl => ?_)
      refine lv_goto (tgt := 8) hx hb dX10_sink_21 (by decide) ?_
      exact ih_8 x v17_2 _ _ hP hD hS _ (lv_sub hl [1, 0, 2, 3] rfl) (by exact hok.1) (by exact hv17_0) (by have z9 := (S_sink_un hq hne).1; rw [← hx9] at z9; rw [← z9]; exact hsk) (by have z8 := hok.2; have z9 := hms x hok.1.1 hok.1.2; omega)

abbrev wz_X10_flow : List Cond := .code yX10_flow cX10_flow 5 (some .int) :: W0
abbrev rm_X10_flow : Room := { frames := 4, cells := 0, slots := 0, locals := 91 }
theorem hd_X10_flow : yX10_flow.cls = RX10 ∧ yX10_flow.cls ≠ "java/lang/invoke/MethodHandle" ∧ yX10_flow.cls ≠ "java/lang/invoke/VarHandle" ∧ (parseMethodDescriptor yX10_flow.desc).map (fun d => d.parameters.length) = some 1 := by decide +kernel
set_option maxHeartbeats 4000000 in
set_option maxRecDepth 100000 in
theorem c_X10_flow (l : Launch) (D : va_G) (τ : Nat → Nat) (β : Nat → Nat) (δ : Nat → ClassId) (ms : IA) (mb : IA) (mo : IA) (mp : BA) (mf : IA) (mn : IA) (mi : IA) (mc : IA) (mq : BA) (mr : IA) (mw : IA) (mk : Int) (ml : Int) (mt : Int) (ma : Int) (mx : Bool) (mh : Int64) (p : Int) (hp : 0 ≤ p ∧ p < 49) (hms : ∀ k, 0 ≤ k → k < 49 → 0 ≤ ms k ∧ ms k ≤ 99) : cM l yX10_flow wz_X10_flow rm_X10_flow D τ (tyM δ) [.ref (β 0), .int (zI p)] (wM β δ ms mb mo mp mf mn mi mc mq mr mw mk ml mt ma mx mh) (zQi (fun r w => ∃ (v : Int), (v = S_flow ms p) ∧ (0 ≤ v ∧ v ≤ 49) ∧ r = zI v ∧ wM β δ ms mb mo mp mf mn mi mc mq mr mw mk ml mt ma mx mh = w)) := by
  refine z_ofM (cc := cX10_flow) (maxL := 5) (ret := (some .int)) (by decide +kernel) rfl (Nat.le_of_ble_eq_true rfl) ?_
  intro pg e s m args below meth c hC hr hlk hnm hK hP A hD hG hA hS ls hl Q hQ
  have hx := hC.1
  have hb := hC.2.1
  have hml := hC.2.2.1
  have hown := hC.2.2.2.1
  have hts := hC.2.2.2.2
  have hB : ∀ w ∈ W0, w ∈ wz_X10_flow := fun _ h => List.mem_cons_of_mem _ h
  have hW0 : ∀ w ∈ W0, w.before args s = true := fun w h => hts w (hB w h)
  have hl : lv_has ls 5 [(0, .ref (β 0)), (1, .int (zI p))] := hl
  refine lv_iconst (v := zI 0) hx hb dX10_flow_0 rfl ?_
  refine lv_istore_n (lv' := [(2, .int (zI 0)), (0, .ref (β 0)), (1, .int (zI p))]) hx hb dX10_flow_1 rfl hl (by decide) rfl (fun ls hl => ?_)
  refine lv_iconst (v := zI 0) hx hb dX10_flow_2 rfl ?_
  refine lv_istore_n (lv' := [(3, .int (zI 0)), (2, .int (zI 0)), (0, .ref (β 0)), (1, .int (zI p))]) hx hb dX10_flow_3 rfl hl (by decide) rfl (fun ls hl => ?_)
  suffices HL_4 : ∀ (n_4 : Nat), ∀ (g : Int) (i : Int) (H : Heap) (locs : List Loc) (hP : va_P D vwCl (wM β δ ms mb mo mp mf mn mi mc mq mr mw mk ml mt ma mx mh) H) (hD : va_D A (wM β δ ms mb mo mp mf mn mi mc mq mr mw mk ml mt ma mx mh)) (hS : va_S A s.heap H locs) (ls : Array Slot) (hl : lv_has ls 5 [(2, .int (zI g)), (3, .int (zI i)), (0, .ref (β 0)), (1, .int (zI p))]) (hi : 0 ≤ i ∧ i ≤ 49) (hg : g = zC (fun k => cb (Cn (S_dr ms) k p)) i) (hgb : 0 ≤ g ∧ g ≤ i) (hm : (49 - i).toNat < n_4), W pg l e rm_X10_flow s m args below meth c H locs 0 0 Q (F0 m 4 ls []) from HL_4 _ 0 0 _ _ hP hD hS _ (lv_sub hl [1, 0, 2, 3] rfl) (by first | assumption | rfl | omega) (by exact (zC_0 _).symm) (by first | assumption | rfl | omega) (Nat.lt_succ_self _)
  intro n_4
  induction n_4 with
  | zero => intro g i H locs hP hD hS ls hl hi hg hgb hm; exact absurd hm (Nat.not_lt_zero _)
  | succ n_4 ih_4 =>
    intro g i H locs hP hD hS ls hl hi hg hgb hm
    refine lv_iload_n hx hb dX10_flow_4 rfl (lv_at hl 1 rfl) ?_
    refine lv_bipush (v := zI 49) hx hb dX10_flow_5 (zI_b8 (by decide)) ?_
    refine z_icge (tgt := 56) hx hb ⟨by omega, by omega⟩ ⟨by omega, by omega⟩ dX10_flow_7 (by decide) (fun c_7 => ?_) (fun c_7 => ?_)
    · refine lv_iload_n hx hb dX10_flow_56 rfl (lv_at hl 0 rfl) ?_
      exact z_iret hC hr hlk hQ hP hD hS ⟨g, (by rw [hg, show i = 49 by omega]; rfl), (by omega), rfl, rfl⟩ dX10_flow_57
    · refine lv_iload_n hx hb dX10_flow_10 rfl (lv_at hl 1 rfl) ?_
      refine lv_istore (lv' := [(4, .int (zI i)), (2, .int (zI g)), (3, .int (zI i)), (0, .ref (β 0)), (1, .int (zI p))]) hx hb dX10_flow_11 hl (by decide) rfl (fun ls hl => ?_)
      suffices HL_13 : ∀ (n_13 : Nat), ∀ (x : Int) (H : Heap) (locs : List Loc) (hP : va_P D vwCl (wM β δ ms mb mo mp mf mn mi mc mq mr mw mk ml mt ma mx mh) H) (hD : va_D A (wM β δ ms mb mo mp mf mn mi mc mq mr mw mk ml mt ma mx mh)) (hS : va_S A s.heap H locs) (ls : Array Slot) (hl : lv_has ls 5 [(4, .int (zI x)), (2, .int (zI g)), (3, .int (zI i)), (0, .ref (β 0)), (1, .int (zI p))]) (hx9 : (x = -1 ∧ ¬ Cn (S_dr ms) i p) ∨ ((0 ≤ x ∧ x < 49) ∧ (Cn (S_dr ms) i p ↔ Cn (S_dr ms) x p))) (hm : (if x = -1 then 0 else ms x + 1).toNat < n_13), W pg l e rm_X10_flow s m args below meth c H locs 0 0 Q (F0 m 13 ls []) from HL_13 _ i _ _ hP hD hS _ (lv_sub hl [0, 1, 2, 3, 4] rfl) (by exact Or.inr ⟨by omega, Iff.rfl⟩) (Nat.lt_succ_self _)
      intro n_13
      induction n_13 with
      | zero => intro x H locs hP hD hS ls hl hx9 hm; exact absurd hm (Nat.not_lt_zero _)
      | succ n_13 ih_13 =>
        intro x H locs hP hD hS ls hl hx9 hm
        have hxb : -1 ≤ x ∧ x < 49 := by omega
        refine lv_iload hx hb dX10_flow_13 (lv_at hl 0 rfl) ?_
        refine lv_iload_n hx hb dX10_flow_15 rfl (lv_at hl 4 rfl) ?_
        refine z_iceq (tgt := 36) hx hb ⟨by omega, by omega⟩ ⟨by omega, by omega⟩ dX10_flow_16 (by decide) (fun c_16 => ?_) (fun c_16 => ?_)
        · refine lv_iload_n hx hb dX10_flow_36 rfl (lv_at hl 1 rfl) ?_
          refine lv_iload hx hb dX10_flow_37 (lv_at hl 0 rfl) ?_
          refine lv_iload_n hx hb dX10_flow_39 rfl (lv_at hl 4 rfl) ?_
          refine z_icne (tgt := 47) hx hb ⟨by omega, by omega⟩ ⟨by omega, by omega⟩ dX10_flow_40 (by decide) (fun c_40 => ?_) (fun c_40 => ?_)
          · have hno : ¬ Cn (S_dr ms) i p := by rcases hx9 with h9 | h9; (exact h9.2); (exfalso; omega)
            refine lv_iconst (v := zI 0) hx hb dX10_flow_47 rfl ?_
            refine z_iadd hx hb dX10_flow_48 ?_
            refine lv_istore_n (lv' := [(2, .int (zI (g + 0))), (4, .int (zI x)), (3, .int (zI i)), (0, .ref (β 0)), (1, .int (zI p))]) hx hb dX10_flow_49 rfl hl (by decide) rfl (fun ls hl => ?_)
            refine z_iinc (k := 2) (v := i + 1) (lv' := [(3, .int (zI (i + 1))), (2, .int (zI (g + 0))), (4, .int (zI x)), (0, .ref (β 0)), (1, .int (zI p))]) hx hb dX10_flow_50 hl rfl rfl (by decide) rfl (fun ls hl => ?_)
            refine lv_goto (tgt := 4) hx hb dX10_flow_53 (by decide) ?_
            exact ih_4 (g + 0) (i + 1) _ _ hP hD hS _ (lv_sub hl [1, 0, 3, 4] rfl) (by first | assumption | rfl | omega) (by rw [zC_up hi.1, ← hg]; first | (rw [z1_t (cb_iff.mpr hyes)]; done) | (rw [z1_f (cb_f.mpr hno)]; omega)) (by first | assumption | rfl | omega) (by omega)
          · have hyes : Cn (S_dr ms) i p := by rcases hx9 with h9 | h9; (exact absurd h9.1 (by omega)); (refine h9.2.mpr ?_; rw [show x = p by omega]; exact Cn.rf)
            refine lv_iconst (v := zI 1) hx hb dX10_flow_43 rfl ?_
            refine lv_goto (tgt := 48) hx hb dX10_flow_44 (by decide) ?_
            refine z_iadd hx hb dX10_flow_48 ?_
            refine lv_istore_n (lv' := [(2, .int (zI (g + 1))), (4, .int (zI x)), (3, .int (zI i)), (0, .ref (β 0)), (1, .int (zI p))]) hx hb dX10_flow_49 rfl hl (by decide) rfl (fun ls hl => ?_)
            refine z_iinc (k := 2) (v := i + 1) (lv' := [(3, .int (zI (i + 1))), (2, .int (zI (g + 1))), (4, .int (zI x)), (0, .ref (β 0)), (1, .int (zI p))]) hx hb dX10_flow_50 hl rfl rfl (by decide) rfl (fun ls hl => ?_)
            refine lv_goto (tgt := 4) hx hb dX10_flow_53 (by decide) ?_
            exact ih_4 (g + 1) (i + 1) _ _ hP hD hS _ (lv_sub hl [1, 0, 3, 4] rfl) (by first | assumption | rfl | omega) (by rw [zC_up hi.1, ← hg]; first | (rw [z1_t (cb_iff.mpr hyes)]; done) | (rw [z1_f (cb_f.mpr hno)]; omega)) (by first | assumption | rfl | omega) (by omega)
        · refine lv_iload hx hb dX10_flow_19 (lv_at hl 0 rfl) ?_
          refine lv_iconst (v := zI (-1)) hx hb dX10_flow_21 rfl ?_
          refine z_iceq (tgt := 36) hx hb ⟨by omega, by omega⟩ ⟨by omega, by omega⟩ dX10_flow_22 (by decide) (fun c_22 => ?_) (fun c_22 => ?_)
          · refine lv_iload_n hx hb dX10_flow_36 rfl (lv_at hl 1 rfl) ?_
            refine lv_iload hx hb dX10_flow_37 (lv_at hl 0 rfl) ?_
            refine lv_iload_n hx hb dX10_flow_39 rfl (lv_at hl 4 rfl) ?_
            refine z_icne (tgt := 47) hx hb ⟨by omega, by omega⟩ ⟨by omega, by omega⟩ dX10_flow_40 (by decide) (fun c_40 => ?_) (fun c_40 => ?_)
            · have hno : ¬ Cn (S_dr ms) i p := by rcases hx9 with h9 | h9; (exact h9.2); (exfalso; omega)
              refine lv_iconst (v := zI 0) hx hb dX10_flow_47 rfl ?_
              refine z_iadd hx hb dX10_flow_48 ?_
              refine lv_istore_n (lv' := [(2, .int (zI (g + 0))), (4, .int (zI x)), (3, .int (zI i)), (0, .ref (β 0)), (1, .int (zI p))]) hx hb dX10_flow_49 rfl hl (by decide) rfl (fun ls hl => ?_)
              refine z_iinc (k := 2) (v := i + 1) (lv' := [(3, .int (zI (i + 1))), (2, .int (zI (g + 0))), (4, .int (zI x)), (0, .ref (β 0)), (1, .int (zI p))]) hx hb dX10_flow_50 hl rfl rfl (by decide) rfl (fun ls hl => ?_)
              refine lv_goto (tgt := 4) hx hb dX10_flow_53 (by decide) ?_
              exact ih_4 (g + 0) (i + 1) _ _ hP hD hS _ (lv_sub hl [1, 0, 3, 4] rfl) (by first | assumption | rfl | omega) (by rw [zC_up hi.1, ← hg]; first | (rw [z1_t (cb_iff.mpr hyes)]; done) | (rw [z1_f (cb_f.mpr hno)]; omega)) (by first | assumption | rfl | omega) (by omega)
            · have hyes : Cn (S_dr ms) i p := by rcases hx9 with h9 | h9; (exact absurd h9.1 (by omega)); (refine h9.2.mpr ?_; rw [show x = p by omega]; exact Cn.rf)
              refine lv_iconst (v := zI 1) hx hb dX10_flow_43 rfl ?_
              refine lv_goto (tgt := 48) hx hb dX10_flow_44 (by decide) ?_
              refine z_iadd hx hb dX10_flow_48 ?_
              refine lv_istore_n (lv' := [(2, .int (zI (g + 1))), (4, .int (zI x)), (3, .int (zI i)), (0, .ref (β 0)), (1, .int (zI p))]) hx hb dX10_flow_49 rfl hl (by decide) rfl (fun ls hl => ?_)
              refine z_iinc (k := 2) (v := i + 1) (lv' := [(3, .int (zI (i + 1))), (2, .int (zI (g + 1))), (4, .int (zI x)), (0, .ref (β 0)), (1, .int (zI p))]) hx hb dX10_flow_50 hl rfl rfl (by decide) rfl (fun ls hl => ?_)
              refine lv_goto (tgt := 4) hx hb dX10_flow_53 (by decide) ?_
              exact ih_4 (g + 1) (i + 1) _ _ hP hD hS _ (lv_sub hl [1, 0, 3, 4] rfl) (by first | assumption | rfl | omega) (by rw [zC_up hi.1, ← hg]; first | (rw [z1_t (cb_iff.mpr hyes)]; done) | (rw [z1_f (cb_f.mpr hno)]; omega)) (by first | assumption | rfl | omega) (by omega)
          · have hxx := hx9.resolve_left (fun h9 => c_22 h9.1)
            have hun := S_dr_un (h := ms) hxx.1 (fun h9 => c_16 h9)
            refine lv_aload_n hx hb dX10_flow_25 rfl (lv_at hl 3 rfl) ?_
            refine lv_iload hx hb dX10_flow_26 (lv_at hl 0 rfl) ?_
            refine z_calli hP hD hS hA (va_runV (As := [.int (zI x)]) (rest := []) hC (c_X10_drain l D τ β δ ms mb mo mp mf mn mi mc mq mr mw mk ml mt ma mx mh x (by exact hxx.1) (by first | assumption | rfl | omega) _) (cwV 1 hts (gV hB wl_X10_74 wn_X10_drain ws_X10_drain wi_X10 wc_X10_drain) rfl rfl rfl hd_X10_drain ⟨Nat.le_of_ble_eq_true rfl, Nat.le_of_ble_eq_true rfl⟩) (zp_V hK hP hD hS hA hG (ci := 10) (q0 := 0) rfl rfl rfl) rfl rfl hl.1 rfl (lv_room (Nat.le_of_ble_eq_true rfl)) dX10_flow_28 ⟨Nat.le_of_ble_eq_true rfl, Nat.le_of_ble_eq_true rfl⟩) (fun r w1 H locs hq9 hP hD hS => ?_)
            obtain ⟨v28_1, hv28_0, hv28_1, rfl, rfl⟩ := hq9
            have hP : va_P D vwCl (wM β δ ms mb mo mp mf mn mi mc mq mr mw mk ml mt ma mx mh) H := hP
            have hD : va_D A (wM β δ ms mb mo mp mf mn mi mc mq mr mw mk ml mt ma mx mh) := hD
            refine lv_istore (lv' := [(4, .int (zI v28_1)), (2, .int (zI g)), (3, .int (zI i)), (0, .ref (β 0)), (1, .int (zI p))]) hx hb dX10_flow_31 hl (by decide) rfl (fun ls hl => ?_)
            refine lv_goto (tgt := 13) hx hb dX10_flow_33 (by decide) ?_
            exact ih_13 v28_1 _ _ hP hD hS _ (lv_sub hl [0, 1, 2, 3, 4] rfl) (by rw [hv28_0]; by_cases z9 : S_next ms x = -1; (exact Or.inl ⟨z9, fun z8 => (hun.mp (hxx.2.mp z8)).1 z9⟩); (exact Or.inr ⟨(S_next_ok hxx.1 z9).1, hxx.2.trans (hun.trans ⟨fun z8 => z8.2, fun z8 => ⟨z9, z8⟩⟩)⟩)) (by rw [if_neg c_22] at hm; have z8 := hms x hxx.1.1 hxx.1.2; rw [hv28_0]; by_cases z9 : S_next ms x = -1; (rw [if_pos z9]; omega); (rw [if_neg z9]; have z7 := S_next_ok hxx.1 z9; have z6 := hms _ z7.1.1 z7.1.2; omega))

abbrev wz_X10_basin : List Cond := .code yX10_basin cX10_basin 2 (some .int) :: W0
abbrev rm_X10_basin : Room := { frames := 5, cells := 0, slots := 0, locals := 115 }
theorem hd_X10_basin : yX10_basin.cls = RX10 ∧ yX10_basin.cls ≠ "java/lang/invoke/MethodHandle" ∧ yX10_basin.cls ≠ "java/lang/invoke/VarHandle" ∧ (parseMethodDescriptor yX10_basin.desc).map (fun d => d.parameters.length) = some 1 := by decide +kernel
set_option maxHeartbeats 4000000 in
set_option maxRecDepth 100000 in
theorem c_X10_basin (l : Launch) (D : va_G) (τ : Nat → Nat) (β : Nat → Nat) (δ : Nat → ClassId) (ms : IA) (mb : IA) (mo : IA) (mp : BA) (mf : IA) (mn : IA) (mi : IA) (mc : IA) (mq : BA) (mr : IA) (mw : IA) (mk : Int) (ml : Int) (mt : Int) (ma : Int) (mx : Bool) (mh : Int64) (p : Int) (hp : 0 ≤ p ∧ p < 49) (hms : ∀ k, 0 ≤ k → k < 49 → 0 ≤ ms k ∧ ms k ≤ 99) : cM l yX10_basin wz_X10_basin rm_X10_basin D τ (tyM δ) [.ref (β 0), .int (zI p)] (wM β δ ms mb mo mp mf mn mi mc mq mr mw mk ml mt ma mx mh) (zQi (fun r w => ∃ (v : Int), (v = S_basin ms p) ∧ (0 ≤ v ∧ v ≤ 49) ∧ r = zI v ∧ wM β δ ms mb mo mp mf mn mi mc mq mr mw mk ml mt ma mx mh = w)) := by
  refine z_ofM (cc := cX10_basin) (maxL := 2) (ret := (some .int)) (by decide +kernel) rfl (Nat.le_of_ble_eq_true rfl) ?_
  intro pg e s m args below meth c hC hr hlk hnm hK hP A hD hG hA hS ls hl Q hQ
  have hx := hC.1
  have hb := hC.2.1
  have hml := hC.2.2.1
  have hown := hC.2.2.2.1
  have hts := hC.2.2.2.2
  have hB : ∀ w ∈ W0, w ∈ wz_X10_basin := fun _ h => List.mem_cons_of_mem _ h
  have hW0 : ∀ w ∈ W0, w.before args s = true := fun w h => hts w (hB w h)
  have hl : lv_has ls 2 [(0, .ref (β 0)), (1, .int (zI p))] := hl
  refine lv_aload_n hx hb dX10_basin_0 rfl (lv_at hl 0 rfl) ?_
  refine lv_iload_n hx hb dX10_basin_1 rfl (lv_at hl 1 rfl) ?_
  refine z_calli hP hD hS hA (va_runV (As := [.int (zI p)]) (rest := []) hC (c_X10_drain l D τ β δ ms mb mo mp mf mn mi mc mq mr mw mk ml mt ma mx mh p (by first | assumption | rfl | omega) (by first | assumption | rfl | omega) _) (cwV 1 hts (gV hB wl_X10_74 wn_X10_drain ws_X10_drain wi_X10 wc_X10_drain) rfl rfl rfl hd_X10_drain ⟨Nat.le_of_ble_eq_true rfl, Nat.le_of_ble_eq_true rfl⟩) (zp_V hK hP hD hS hA hG (ci := 10) (q0 := 0) rfl rfl rfl) rfl rfl hl.1 rfl (lv_room (Nat.le_of_ble_eq_true rfl)) dX10_basin_2 ⟨Nat.le_of_ble_eq_true rfl, Nat.le_of_ble_eq_true rfl⟩) (fun r w1 H locs hq9 hP hD hS => ?_)
  obtain ⟨v2_1, hv2_0, hv2_1, rfl, rfl⟩ := hq9
  have hP : va_P D vwCl (wM β δ ms mb mo mp mf mn mi mc mq mr mw mk ml mt ma mx mh) H := hP
  have hD : va_D A (wM β δ ms mb mo mp mf mn mi mc mq mr mw mk ml mt ma mx mh) := hD
  refine lv_iconst (v := zI (-1)) hx hb dX10_basin_5 rfl ?_
  refine z_icne (tgt := 17) hx hb ⟨by omega, by omega⟩ ⟨by omega, by omega⟩ dX10_basin_6 (by decide) (fun c_6 => ?_) (fun c_6 => ?_)
  · refine lv_iconst (v := zI 0) hx hb dX10_basin_17 rfl ?_
    exact z_iret hC hr hlk hQ hP hD hS ⟨0, (by unfold S_basin; first | (rw [if_pos (hv2_0.symm.trans c_6)]; assumption) | (rw [if_neg (fun h9 => c_6 (hv2_0.trans h9))]; done)), (by first | assumption | rfl | omega), rfl, rfl⟩ dX10_basin_18
  · refine lv_aload_n hx hb dX10_basin_9 rfl (lv_at hl 0 rfl) ?_
    refine lv_iload_n hx hb dX10_basin_10 rfl (lv_at hl 1 rfl) ?_
    refine z_calli hP hD hS hA (va_runV (As := [.int (zI p)]) (rest := []) hC (c_X10_flow l D τ β δ ms mb mo mp mf mn mi mc mq mr mw mk ml mt ma mx mh p (by first | assumption | rfl | omega) (by first | assumption | rfl | omega) _) (cwV 1 hts (gV hB wl_X10_184 wn_X10_flow ws_X10_flow wi_X10 wc_X10_flow) rfl rfl rfl hd_X10_flow ⟨Nat.le_of_ble_eq_true rfl, Nat.le_of_ble_eq_true rfl⟩) (zp_V hK hP hD hS hA hG (ci := 10) (q0 := 0) rfl rfl rfl) rfl rfl hl.1 rfl (lv_room (Nat.le_of_ble_eq_true rfl)) dX10_basin_11 ⟨Nat.le_of_ble_eq_true rfl, Nat.le_of_ble_eq_true rfl⟩) (fun r w1 H locs hq9 hP hD hS => ?_)
    obtain ⟨v11_2, hv11_0, hv11_1, rfl, rfl⟩ := hq9
    have hP : va_P D vwCl (wM β δ ms mb mo mp mf mn mi mc mq mr mw mk ml mt ma mx mh) H := hP
    have hD : va_D A (wM β δ ms mb mo mp mf mn mi mc mq mr mw mk ml mt ma mx mh) := hD
    refine lv_goto (tgt := 18) hx hb dX10_basin_14 (by decide) ?_
    exact z_iret hC hr hlk hQ hP hD hS ⟨v11_2, (by unfold S_basin; first | (rw [if_pos (hv2_0.symm.trans c_6)]; assumption) | (rw [if_neg (fun h9 => c_6 (hv2_0.trans h9))]; done)), (by first | assumption | rfl | omega), rfl, rfl⟩ dX10_basin_18

abbrev wz_X10_drainOf : List Cond := .code yX10_drainOf cX10_drainOf 4 (some .int) :: W0
abbrev rm_X10_drainOf : Room := { frames := 4, cells := 0, slots := 0, locals := 91 }
theorem hd_X10_drainOf : yX10_drainOf.cls = RX10 ∧ yX10_drainOf.cls ≠ "java/lang/invoke/MethodHandle" ∧ yX10_drainOf.cls ≠ "java/lang/invoke/VarHandle" ∧ (parseMethodDescriptor yX10_drainOf.desc).map (fun d => d.parameters.length) = some 2 := by decide +kernel
set_option maxHeartbeats 4000000 in
set_option maxRecDepth 100000 in
theorem c_X10_drainOf (l : Launch) (D : va_G) (τ : Nat → Nat) (β : Nat → Nat) (δ : Nat → ClassId) (ms : IA) (mb : IA) (mo : IA) (mp : BA) (mf : IA) (mn : IA) (mi : IA) (mc : IA) (mq : BA) (mr : IA) (mw : IA) (mk : Int) (ml : Int) (mt : Int) (ma : Int) (mx : Bool) (mh : Int64) (r9 : Int) (c9 : Int) (hr9 : -2147483648 ≤ r9 ∧ r9 < 2147483648) (hc9 : -2147483648 ≤ c9 ∧ c9 < 2147483648) (hms : ∀ k, 0 ≤ k → k < 49 → 0 ≤ ms k ∧ ms k ≤ 99) : cM l yX10_drainOf wz_X10_drainOf rm_X10_drainOf D τ (tyM δ) [.ref (β 0), .int (zI r9), .int (zI c9)] (wM β δ ms mb mo mp mf mn mi mc mq mr mw mk ml mt ma mx mh) (zQi (fun r w => ∃ (t2 : Int), ∃ (v : Int), (t2 = S_tdr ms r9 c9) ∧ (t2 = 0 → v = S_next ms (7 * r9 + c9)) ∧ r = zI v ∧ wM β δ ms mb mo mp mf mn mi mc mq mr mw mk ml t2 ma mx mh = w)) := by
  refine z_ofM (cc := cX10_drainOf) (maxL := 4) (ret := (some .int)) (by decide +kernel) rfl (Nat.le_of_ble_eq_true rfl) ?_
  intro pg e s m args below meth c hC hr hlk hnm hK hP A hD hG hA hS ls hl Q hQ
  have hx := hC.1
  have hb := hC.2.1
  have hml := hC.2.2.1
  have hown := hC.2.2.2.1
  have hts := hC.2.2.2.2
  have hB : ∀ w ∈ W0, w ∈ wz_X10_drainOf := fun _ h => List.mem_cons_of_mem _ h
  have hW0 : ∀ w ∈ W0, w.before args s = true := fun w h => hts w (hB w h)
  have hl : lv_has ls 4 [(0, .ref (β 0)), (1, .int (zI r9)), (2, .int (zI c9))] := hl
  refine lv_aload_n hx hb dX10_drainOf_0 rfl (lv_at hl 0 rfl) ?_
  refine lv_iload_n hx hb dX10_drainOf_1 rfl (lv_at hl 1 rfl) ?_
  refine lv_iload_n hx hb dX10_drainOf_2 rfl (lv_at hl 2 rfl) ?_
  refine z_calli hP hD hS hA (va_runV (As := [.int (zI r9), .int (zI c9)]) (rest := []) hC (c_X10_isThere l D τ β δ ms mb mo mp mf mn mi mc mq mr mw mk ml mt ma mx mh r9 c9 (by first | assumption | rfl | omega) (by first | assumption | rfl | omega) _) (cwV 2 hts (gV hB wl_X10_120 wn_X10_isThere ws_X10_isThere wi_X10 wc_X10_isThere) rfl rfl rfl hd_X10_isThere ⟨Nat.le_of_ble_eq_true rfl, Nat.le_of_ble_eq_true rfl⟩) (zp_V hK hP hD hS hA hG (ci := 10) (q0 := 0) rfl rfl rfl) rfl rfl hl.1 rfl (lv_room (Nat.le_of_ble_eq_true rfl)) dX10_drainOf_3 ⟨Nat.le_of_ble_eq_true rfl, Nat.le_of_ble_eq_true rfl⟩) (fun r w1 H locs hq9 hP hD hS => ?_)
  obtain ⟨t3_1, v3_2, hv3_0, hv3_1, rfl, rfl⟩ := hq9
  have hP : va_P D vwCl (wM β δ ms mb mo mp mf mn mi mc mq mr mw mk ml t3_1 ma mx mh) H := hP
  have hD : va_D A (wM β δ ms mb mo mp mf mn mi mc mq mr mw mk ml t3_1 ma mx mh) := hD
  refine z_ifneB (tgt := 11) hx hb dX10_drainOf_6 (by decide) (fun c_6 => ?_) (fun c_6 => ?_)
  · have hb_6 := hv3_0.mp c_6
    refine lv_aload_n hx hb dX10_drainOf_11 rfl (lv_at hl 0 rfl) ?_
    refine lv_bipush (v := zI 7) hx hb dX10_drainOf_12 (zI_b8 (by decide)) ?_
    refine lv_iload_n hx hb dX10_drainOf_14 rfl (lv_at hl 1 rfl) ?_
    refine z_imul hx hb dX10_drainOf_15 ?_
    refine lv_iload_n hx hb dX10_drainOf_16 rfl (lv_at hl 2 rfl) ?_
    refine z_iadd hx hb dX10_drainOf_17 ?_
    refine z_calli hP hD hS hA (va_runV (As := [.int (zI ((7 * r9) + c9))]) (rest := []) hC (c_X10_drain l D τ β δ ms mb mo mp mf mn mi mc mq mr mw mk ml t3_1 ma mx mh ((7 * r9) + c9) (by omega) (by first | assumption | rfl | omega) _) (cwV 1 hts (gV hB wl_X10_74 wn_X10_drain ws_X10_drain wi_X10 wc_X10_drain) rfl rfl rfl hd_X10_drain ⟨Nat.le_of_ble_eq_true rfl, Nat.le_of_ble_eq_true rfl⟩) (zp_V hK hP hD hS hA hG (ci := 10) (q0 := 0) rfl rfl rfl) rfl rfl hl.1 rfl (lv_room (Nat.le_of_ble_eq_true rfl)) dX10_drainOf_18 ⟨Nat.le_of_ble_eq_true rfl, Nat.le_of_ble_eq_true rfl⟩) (fun r w1 H locs hq9 hP hD hS => ?_)
    obtain ⟨v18_3, hv18_0, hv18_1, rfl, rfl⟩ := hq9
    have hP : va_P D vwCl (wM β δ ms mb mo mp mf mn mi mc mq mr mw mk ml t3_1 ma mx mh) H := hP
    have hD : va_D A (wM β δ ms mb mo mp mf mn mi mc mq mr mw mk ml t3_1 ma mx mh) := hD
    refine lv_istore_n (lv' := [(3, .int (zI v18_3)), (0, .ref (β 0)), (1, .int (zI r9)), (2, .int (zI c9))]) hx hb dX10_drainOf_21 rfl hl (by decide) rfl (fun ls hl => ?_)
    refine lv_iload_n hx hb dX10_drainOf_22 rfl (lv_at hl 0 rfl) ?_
    refine lv_iconst (v := zI (-1)) hx hb dX10_drainOf_23 rfl ?_
    refine z_icne (tgt := 35) hx hb ⟨by omega, by omega⟩ ⟨by omega, by omega⟩ dX10_drainOf_24 (by decide) (fun c_24 => ?_) (fun c_24 => ?_)
    · refine lv_iload_n hx hb dX10_drainOf_35 rfl (lv_at hl 0 rfl) ?_
      exact z_iret hC hr hlk hQ hP hD hS ⟨t3_1, v18_3, (by first | (rw [hv3_1]; unfold S_tdr S_tpt; rw [if_neg hb_6, if_neg hb_6]; done) | (rw [hv29_1]; unfold S_tdr; rw [if_pos hb_6, if_pos (hv18_0.symm.trans c_24)]; done) | (rw [hv3_1]; unfold S_tdr S_tpt; rw [if_pos hb_6, if_pos hb_6, if_neg (fun h9 => c_24 (hv18_0.trans h9))]; done)), (by first | exact fun _ => hv18_0 | (intro h9; exfalso; rw [hv3_1] at h9; unfold S_tpt at h9; rw [if_neg hb_6] at h9; exact absurd h9 (by decide)) | (intro h9; exfalso; omega)), rfl, rfl⟩ dX10_drainOf_36
    · refine lv_aload_n hx hb dX10_drainOf_27 rfl (lv_at hl 1 rfl) ?_
      refine lv_iconst (v := zI 2) hx hb dX10_drainOf_28 rfl ?_
      refine z_calli hP hD hS hA (va_runV (As := [.int (zI 2)]) (rest := []) hC (c_X10_throwing l D τ β δ ms mb mo mp mf mn mi mc mq mr mw mk ml t3_1 ma mx mh 2 _) (cwV 1 hts (gV hB wl_X10_90 wn_X10_throwing ws_X10_throwing wi_X10 wc_X10_throwing) rfl rfl rfl hd_X10_throwing ⟨Nat.le_of_ble_eq_true rfl, Nat.le_of_ble_eq_true rfl⟩) (zp_V hK hP hD hS hA hG (ci := 10) (q0 := 0) rfl rfl rfl) rfl rfl hl.1 rfl (lv_room (Nat.le_of_ble_eq_true rfl)) dX10_drainOf_29 ⟨Nat.le_of_ble_eq_true rfl, Nat.le_of_ble_eq_true rfl⟩) (fun r w1 H locs hq9 hP hD hS => ?_)
      obtain ⟨t29_4, v29_5, hv29_0, hv29_1, rfl, rfl⟩ := hq9
      have hP : va_P D vwCl (wM β δ ms mb mo mp mf mn mi mc mq mr mw mk ml t29_4 ma mx mh) H := hP
      have hD : va_D A (wM β δ ms mb mo mp mf mn mi mc mq mr mw mk ml t29_4 ma mx mh) := hD
      refine lv_goto (tgt := 36) hx hb dX10_drainOf_32 (by decide) ?_
      exact z_iret hC hr hlk hQ hP hD hS ⟨t29_4, v29_5, (by first | (rw [hv3_1]; unfold S_tdr S_tpt; rw [if_neg hb_6, if_neg hb_6]; done) | (rw [hv29_1]; unfold S_tdr; rw [if_pos hb_6, if_pos (hv18_0.symm.trans c_24)]; done) | (rw [hv3_1]; unfold S_tdr S_tpt; rw [if_pos hb_6, if_pos hb_6, if_neg (fun h9 => c_24 (hv18_0.trans h9))]; done)), (by first | exact fun _ => hv18_0 | (intro h9; exfalso; rw [hv3_1] at h9; unfold S_tpt at h9; rw [if_neg hb_6] at h9; exact absurd h9 (by decide)) | (intro h9; exfalso; omega)), rfl, rfl⟩ dX10_drainOf_36
  · have hb_6 := zb_neg hv3_0 c_6
    refine lv_iconst (v := zI 0) hx hb dX10_drainOf_9 rfl ?_
    exact z_iret hC hr hlk hQ hP hD hS ⟨t3_1, 0, (by first | (rw [hv3_1]; unfold S_tdr S_tpt; rw [if_neg hb_6, if_neg hb_6]; done) | (rw [hv29_1]; unfold S_tdr; rw [if_pos hb_6, if_pos (hv18_0.symm.trans c_24)]; done) | (rw [hv3_1]; unfold S_tdr S_tpt; rw [if_pos hb_6, if_pos hb_6, if_neg (fun h9 => c_24 (hv18_0.trans h9))]; done)), (by first | exact fun _ => hv18_0 | (intro h9; exfalso; rw [hv3_1] at h9; unfold S_tpt at h9; rw [if_neg hb_6] at h9; exact absurd h9 (by decide)) | (intro h9; exfalso; omega)), rfl, rfl⟩ dX10_drainOf_10

abbrev wz_X10_isSink : List Cond := .code yX10_isSink cX10_isSink 3 (some .boolean) :: W0
abbrev rm_X10_isSink : Room := { frames := 4, cells := 0, slots := 0, locals := 91 }
theorem hd_X10_isSink : yX10_isSink.cls = RX10 ∧ yX10_isSink.cls ≠ "java/lang/invoke/MethodHandle" ∧ yX10_isSink.cls ≠ "java/lang/invoke/VarHandle" ∧ (parseMethodDescriptor yX10_isSink.desc).map (fun d => d.parameters.length) = some 2 := by decide +kernel
set_option maxHeartbeats 4000000 in
set_option maxRecDepth 100000 in
theorem c_X10_isSink (l : Launch) (D : va_G) (τ : Nat → Nat) (β : Nat → Nat) (δ : Nat → ClassId) (ms : IA) (mb : IA) (mo : IA) (mp : BA) (mf : IA) (mn : IA) (mi : IA) (mc : IA) (mq : BA) (mr : IA) (mw : IA) (mk : Int) (ml : Int) (mt : Int) (ma : Int) (mx : Bool) (mh : Int64) (r9 : Int) (c9 : Int) (hr9 : -2147483648 ≤ r9 ∧ r9 < 2147483648) (hc9 : -2147483648 ≤ c9 ∧ c9 < 2147483648) (hms : ∀ k, 0 ≤ k → k < 49 → 0 ≤ ms k ∧ ms k ≤ 99) : cM l yX10_isSink wz_X10_isSink rm_X10_isSink D τ (tyM δ) [.ref (β 0), .int (zI r9), .int (zI c9)] (wM β δ ms mb mo mp mf mn mi mc mq mr mw mk ml mt ma mx mh) (zQi (fun r w => ∃ (t2 : Int), ∃ (v : Bool), (t2 = S_tpt r9 c9) ∧ (t2 = 0 → (v = true ↔ S_next ms (7 * r9 + c9) = -1)) ∧ r = bI v ∧ wM β δ ms mb mo mp mf mn mi mc mq mr mw mk ml t2 ma mx mh = w)) := by
  refine z_ofM (cc := cX10_isSink) (maxL := 3) (ret := (some .boolean)) (by decide +kernel) rfl (Nat.le_of_ble_eq_true rfl) ?_
  intro pg e s m args below meth c hC hr hlk hnm hK hP A hD hG hA hS ls hl Q hQ
  have hx := hC.1
  have hb := hC.2.1
  have hml := hC.2.2.1
  have hown := hC.2.2.2.1
  have hts := hC.2.2.2.2
  have hB : ∀ w ∈ W0, w ∈ wz_X10_isSink := fun _ h => List.mem_cons_of_mem _ h
  have hW0 : ∀ w ∈ W0, w.before args s = true := fun w h => hts w (hB w h)
  have hl : lv_has ls 3 [(0, .ref (β 0)), (1, .int (zI r9)), (2, .int (zI c9))] := hl
  refine lv_aload_n hx hb dX10_isSink_0 rfl (lv_at hl 0 rfl) ?_
  refine lv_iload_n hx hb dX10_isSink_1 rfl (lv_at hl 1 rfl) ?_
  refine lv_iload_n hx hb dX10_isSink_2 rfl (lv_at hl 2 rfl) ?_
  refine z_calli hP hD hS hA (va_runV (As := [.int (zI r9), .int (zI c9)]) (rest := []) hC (c_X10_isThere l D τ β δ ms mb mo mp mf mn mi mc mq mr mw mk ml mt ma mx mh r9 c9 (by first | assumption | rfl | omega) (by first | assumption | rfl | omega) _) (cwV 2 hts (gV hB wl_X10_120 wn_X10_isThere ws_X10_isThere wi_X10 wc_X10_isThere) rfl rfl rfl hd_X10_isThere ⟨Nat.le_of_ble_eq_true rfl, Nat.le_of_ble_eq_true rfl⟩) (zp_V hK hP hD hS hA hG (ci := 10) (q0 := 0) rfl rfl rfl) rfl rfl hl.1 rfl (lv_room (Nat.le_of_ble_eq_true rfl)) dX10_isSink_3 ⟨Nat.le_of_ble_eq_true rfl, Nat.le_of_ble_eq_true rfl⟩) (fun r w1 H locs hq9 hP hD hS => ?_)
  obtain ⟨t3_1, v3_2, hv3_0, hv3_1, rfl, rfl⟩ := hq9
  have hP : va_P D vwCl (wM β δ ms mb mo mp mf mn mi mc mq mr mw mk ml t3_1 ma mx mh) H := hP
  have hD : va_D A (wM β δ ms mb mo mp mf mn mi mc mq mr mw mk ml t3_1 ma mx mh) := hD
  refine z_ifeqB (tgt := 27) hx hb dX10_isSink_6 (by decide) (fun c_6 => ?_) (fun c_6 => ?_)
  · have hb_6 := zb_neg hv3_0 c_6
    refine lv_iconst (v := zI 0) hx hb dX10_isSink_27 rfl ?_
    refine W.eq (g2 := F0 m 28 ls [.int (bI false)]) rfl ?_
    exact z_zret hC hr hlk hQ hP hD hS ⟨t3_1, false, (by exact hv3_1), (by first | exact fun _ => zb_T (hv16_0.symm.trans c_20) | exact fun _ => zb_F (fun h9 => c_20 (hv16_0.trans h9)) | (intro h9; exfalso; rw [hv3_1] at h9; unfold S_tpt at h9; rw [if_neg hb_6] at h9; exact absurd h9 (by decide))), rfl, rfl⟩ dX10_isSink_28
  · have hb_6 := hv3_0.mp c_6
    refine lv_aload_n hx hb dX10_isSink_9 rfl (lv_at hl 0 rfl) ?_
    refine lv_bipush (v := zI 7) hx hb dX10_isSink_10 (zI_b8 (by decide)) ?_
    refine lv_iload_n hx hb dX10_isSink_12 rfl (lv_at hl 1 rfl) ?_
    refine z_imul hx hb dX10_isSink_13 ?_
    refine lv_iload_n hx hb dX10_isSink_14 rfl (lv_at hl 2 rfl) ?_
    refine z_iadd hx hb dX10_isSink_15 ?_
    refine z_calli hP hD hS hA (va_runV (As := [.int (zI ((7 * r9) + c9))]) (rest := []) hC (c_X10_drain l D τ β δ ms mb mo mp mf mn mi mc mq mr mw mk ml t3_1 ma mx mh ((7 * r9) + c9) (by omega) (by first | assumption | rfl | omega) _) (cwV 1 hts (gV hB wl_X10_74 wn_X10_drain ws_X10_drain wi_X10 wc_X10_drain) rfl rfl rfl hd_X10_drain ⟨Nat.le_of_ble_eq_true rfl, Nat.le_of_ble_eq_true rfl⟩) (zp_V hK hP hD hS hA hG (ci := 10) (q0 := 0) rfl rfl rfl) rfl rfl hl.1 rfl (lv_room (Nat.le_of_ble_eq_true rfl)) dX10_isSink_16 ⟨Nat.le_of_ble_eq_true rfl, Nat.le_of_ble_eq_true rfl⟩) (fun r w1 H locs hq9 hP hD hS => ?_)
    obtain ⟨v16_3, hv16_0, hv16_1, rfl, rfl⟩ := hq9
    have hP : va_P D vwCl (wM β δ ms mb mo mp mf mn mi mc mq mr mw mk ml t3_1 ma mx mh) H := hP
    have hD : va_D A (wM β δ ms mb mo mp mf mn mi mc mq mr mw mk ml t3_1 ma mx mh) := hD
    refine lv_iconst (v := zI (-1)) hx hb dX10_isSink_19 rfl ?_
    refine z_icne (tgt := 27) hx hb ⟨by omega, by omega⟩ ⟨by omega, by omega⟩ dX10_isSink_20 (by decide) (fun c_20 => ?_) (fun c_20 => ?_)
    · refine lv_iconst (v := zI 0) hx hb dX10_isSink_27 rfl ?_
      refine W.eq (g2 := F0 m 28 ls [.int (bI false)]) rfl ?_
      exact z_zret hC hr hlk hQ hP hD hS ⟨t3_1, false, (by exact hv3_1), (by first | exact fun _ => zb_T (hv16_0.symm.trans c_20) | exact fun _ => zb_F (fun h9 => c_20 (hv16_0.trans h9)) | (intro h9; exfalso; rw [hv3_1] at h9; unfold S_tpt at h9; rw [if_neg hb_6] at h9; exact absurd h9 (by decide))), rfl, rfl⟩ dX10_isSink_28
    · refine lv_iconst (v := zI 1) hx hb dX10_isSink_23 rfl ?_
      refine lv_goto (tgt := 28) hx hb dX10_isSink_24 (by decide) ?_
      refine W.eq (g2 := F0 m 28 ls [.int (bI true)]) rfl ?_
      exact z_zret hC hr hlk hQ hP hD hS ⟨t3_1, true, (by exact hv3_1), (by first | exact fun _ => zb_T (hv16_0.symm.trans c_20) | exact fun _ => zb_F (fun h9 => c_20 (hv16_0.trans h9)) | (intro h9; exfalso; rw [hv3_1] at h9; unfold S_tpt at h9; rw [if_neg hb_6] at h9; exact absurd h9 (by decide))), rfl, rfl⟩ dX10_isSink_28

abbrev wz_X10_dropOf : List Cond := .code yX10_dropOf cX10_dropOf 3 (some .int) :: W0
abbrev rm_X10_dropOf : Room := { frames := 5, cells := 0, slots := 0, locals := 113 }
theorem hd_X10_dropOf : yX10_dropOf.cls = RX10 ∧ yX10_dropOf.cls ≠ "java/lang/invoke/MethodHandle" ∧ yX10_dropOf.cls ≠ "java/lang/invoke/VarHandle" ∧ (parseMethodDescriptor yX10_dropOf.desc).map (fun d => d.parameters.length) = some 2 := by decide +kernel
set_option maxHeartbeats 4000000 in
set_option maxRecDepth 100000 in
theorem c_X10_dropOf (l : Launch) (D : va_G) (τ : Nat → Nat) (β : Nat → Nat) (δ : Nat → ClassId) (ms : IA) (mb : IA) (mo : IA) (mp : BA) (mf : IA) (mn : IA) (mi : IA) (mc : IA) (mq : BA) (mr : IA) (mw : IA) (mk : Int) (ml : Int) (mt : Int) (ma : Int) (mx : Bool) (mh : Int64) (r9 : Int) (c9 : Int) (hr9 : -2147483648 ≤ r9 ∧ r9 < 2147483648) (hc9 : -2147483648 ≤ c9 ∧ c9 < 2147483648) (hms : ∀ k, 0 ≤ k → k < 49 → 0 ≤ ms k ∧ ms k ≤ 99) : cM l yX10_dropOf wz_X10_dropOf rm_X10_dropOf D τ (tyM δ) [.ref (β 0), .int (zI r9), .int (zI c9)] (wM β δ ms mb mo mp mf mn mi mc mq mr mw mk ml mt ma mx mh) (zQi (fun r w => ∃ (t2 : Int), ∃ (v : Int), (t2 = S_tpt r9 c9) ∧ (t2 = 0 → v = S_drop ms (7 * r9 + c9)) ∧ r = zI v ∧ wM β δ ms mb mo mp mf mn mi mc mq mr mw mk ml t2 ma mx mh = w)) := by
  refine z_ofM (cc := cX10_dropOf) (maxL := 3) (ret := (some .int)) (by decide +kernel) rfl (Nat.le_of_ble_eq_true rfl) ?_
  intro pg e s m args below meth c hC hr hlk hnm hK hP A hD hG hA hS ls hl Q hQ
  have hx := hC.1
  have hb := hC.2.1
  have hml := hC.2.2.1
  have hown := hC.2.2.2.1
  have hts := hC.2.2.2.2
  have hB : ∀ w ∈ W0, w ∈ wz_X10_dropOf := fun _ h => List.mem_cons_of_mem _ h
  have hW0 : ∀ w ∈ W0, w.before args s = true := fun w h => hts w (hB w h)
  have hl : lv_has ls 3 [(0, .ref (β 0)), (1, .int (zI r9)), (2, .int (zI c9))] := hl
  refine lv_aload_n hx hb dX10_dropOf_0 rfl (lv_at hl 0 rfl) ?_
  refine lv_iload_n hx hb dX10_dropOf_1 rfl (lv_at hl 1 rfl) ?_
  refine lv_iload_n hx hb dX10_dropOf_2 rfl (lv_at hl 2 rfl) ?_
  refine z_calli hP hD hS hA (va_runV (As := [.int (zI r9), .int (zI c9)]) (rest := []) hC (c_X10_isThere l D τ β δ ms mb mo mp mf mn mi mc mq mr mw mk ml mt ma mx mh r9 c9 (by first | assumption | rfl | omega) (by first | assumption | rfl | omega) _) (cwV 2 hts (gV hB wl_X10_120 wn_X10_isThere ws_X10_isThere wi_X10 wc_X10_isThere) rfl rfl rfl hd_X10_isThere ⟨Nat.le_of_ble_eq_true rfl, Nat.le_of_ble_eq_true rfl⟩) (zp_V hK hP hD hS hA hG (ci := 10) (q0 := 0) rfl rfl rfl) rfl rfl hl.1 rfl (lv_room (Nat.le_of_ble_eq_true rfl)) dX10_dropOf_3 ⟨Nat.le_of_ble_eq_true rfl, Nat.le_of_ble_eq_true rfl⟩) (fun r w1 H locs hq9 hP hD hS => ?_)
  obtain ⟨t3_1, v3_2, hv3_0, hv3_1, rfl, rfl⟩ := hq9
  have hP : va_P D vwCl (wM β δ ms mb mo mp mf mn mi mc mq mr mw mk ml t3_1 ma mx mh) H := hP
  have hD : va_D A (wM β δ ms mb mo mp mf mn mi mc mq mr mw mk ml t3_1 ma mx mh) := hD
  refine z_ifeqB (tgt := 22) hx hb dX10_dropOf_6 (by decide) (fun c_6 => ?_) (fun c_6 => ?_)
  · have hb_6 := zb_neg hv3_0 c_6
    refine lv_iconst (v := zI 0) hx hb dX10_dropOf_22 rfl ?_
    exact z_iret hC hr hlk hQ hP hD hS ⟨t3_1, 0, (by exact hv3_1), (by first | exact fun _ => hv16_0 | (intro h9; rw [hv3_1] at h9; unfold S_tpt at h9; rw [if_neg hb_6] at h9; exact absurd h9 (by decide))), rfl, rfl⟩ dX10_dropOf_23
  · have hb_6 := hv3_0.mp c_6
    refine lv_aload_n hx hb dX10_dropOf_9 rfl (lv_at hl 0 rfl) ?_
    refine lv_bipush (v := zI 7) hx hb dX10_dropOf_10 (zI_b8 (by decide)) ?_
    refine lv_iload_n hx hb dX10_dropOf_12 rfl (lv_at hl 1 rfl) ?_
    refine z_imul hx hb dX10_dropOf_13 ?_
    refine lv_iload_n hx hb dX10_dropOf_14 rfl (lv_at hl 2 rfl) ?_
    refine z_iadd hx hb dX10_dropOf_15 ?_
    refine z_calli hP hD hS hA (va_runV (As := [.int (zI ((7 * r9) + c9))]) (rest := []) hC (c_X10_drop l D τ β δ ms mb mo mp mf mn mi mc mq mr mw mk ml t3_1 ma mx mh ((7 * r9) + c9) (by omega) (by first | assumption | rfl | omega) _) (cwV 1 hts (gV hB wl_X10_77 wn_X10_drop ws_X10_drop wi_X10 wc_X10_drop) rfl rfl rfl hd_X10_drop ⟨Nat.le_of_ble_eq_true rfl, Nat.le_of_ble_eq_true rfl⟩) (zp_V hK hP hD hS hA hG (ci := 10) (q0 := 0) rfl rfl rfl) rfl rfl hl.1 rfl (lv_room (Nat.le_of_ble_eq_true rfl)) dX10_dropOf_16 ⟨Nat.le_of_ble_eq_true rfl, Nat.le_of_ble_eq_true rfl⟩) (fun r w1 H locs hq9 hP hD hS => ?_)
    obtain ⟨v16_3, hv16_0, hv16_1, rfl, rfl⟩ := hq9
    have hP : va_P D vwCl (wM β δ ms mb mo mp mf mn mi mc mq mr mw mk ml t3_1 ma mx mh) H := hP
    have hD : va_D A (wM β δ ms mb mo mp mf mn mi mc mq mr mw mk ml t3_1 ma mx mh) := hD
    refine lv_goto (tgt := 23) hx hb dX10_dropOf_19 (by decide) ?_
    exact z_iret hC hr hlk hQ hP hD hS ⟨t3_1, v16_3, (by exact hv3_1), (by first | exact fun _ => hv16_0 | (intro h9; rw [hv3_1] at h9; unfold S_tpt at h9; rw [if_neg hb_6] at h9; exact absurd h9 (by decide))), rfl, rfl⟩ dX10_dropOf_23

abbrev wz_X10_sinkOf : List Cond := .code yX10_sinkOf cX10_sinkOf 3 (some .int) :: W0
abbrev rm_X10_sinkOf : Room := { frames := 5, cells := 0, slots := 0, locals := 114 }
theorem hd_X10_sinkOf : yX10_sinkOf.cls = RX10 ∧ yX10_sinkOf.cls ≠ "java/lang/invoke/MethodHandle" ∧ yX10_sinkOf.cls ≠ "java/lang/invoke/VarHandle" ∧ (parseMethodDescriptor yX10_sinkOf.desc).map (fun d => d.parameters.length) = some 2 := by decide +kernel
set_option maxHeartbeats 4000000 in
set_option maxRecDepth 100000 in
theorem c_X10_sinkOf (l : Launch) (D : va_G) (τ : Nat → Nat) (β : Nat → Nat) (δ : Nat → ClassId) (ms : IA) (mb : IA) (mo : IA) (mp : BA) (mf : IA) (mn : IA) (mi : IA) (mc : IA) (mq : BA) (mr : IA) (mw : IA) (mk : Int) (ml : Int) (mt : Int) (ma : Int) (mx : Bool) (mh : Int64) (r9 : Int) (c9 : Int) (hr9 : -2147483648 ≤ r9 ∧ r9 < 2147483648) (hc9 : -2147483648 ≤ c9 ∧ c9 < 2147483648) (hms : ∀ k, 0 ≤ k → k < 49 → 0 ≤ ms k ∧ ms k ≤ 99) : cM l yX10_sinkOf wz_X10_sinkOf rm_X10_sinkOf D τ (tyM δ) [.ref (β 0), .int (zI r9), .int (zI c9)] (wM β δ ms mb mo mp mf mn mi mc mq mr mw mk ml mt ma mx mh) (zQi (fun r w => ∃ (t2 : Int), ∃ (v : Int), (t2 = S_tpt r9 c9) ∧ (t2 = 0 → v = S_sink ms (7 * r9 + c9)) ∧ r = zI v ∧ wM β δ ms mb mo mp mf mn mi mc mq mr mw mk ml t2 ma mx mh = w)) := by
  refine z_ofM (cc := cX10_sinkOf) (maxL := 3) (ret := (some .int)) (by decide +kernel) rfl (Nat.le_of_ble_eq_true rfl) ?_
  intro pg e s m args below meth c hC hr hlk hnm hK hP A hD hG hA hS ls hl Q hQ
  have hx := hC.1
  have hb := hC.2.1
  have hml := hC.2.2.1
  have hown := hC.2.2.2.1
  have hts := hC.2.2.2.2
  have hB : ∀ w ∈ W0, w ∈ wz_X10_sinkOf := fun _ h => List.mem_cons_of_mem _ h
  have hW0 : ∀ w ∈ W0, w.before args s = true := fun w h => hts w (hB w h)
  have hl : lv_has ls 3 [(0, .ref (β 0)), (1, .int (zI r9)), (2, .int (zI c9))] := hl
  refine lv_aload_n hx hb dX10_sinkOf_0 rfl (lv_at hl 0 rfl) ?_
  refine lv_iload_n hx hb dX10_sinkOf_1 rfl (lv_at hl 1 rfl) ?_
  refine lv_iload_n hx hb dX10_sinkOf_2 rfl (lv_at hl 2 rfl) ?_
  refine z_calli hP hD hS hA (va_runV (As := [.int (zI r9), .int (zI c9)]) (rest := []) hC (c_X10_isThere l D τ β δ ms mb mo mp mf mn mi mc mq mr mw mk ml mt ma mx mh r9 c9 (by first | assumption | rfl | omega) (by first | assumption | rfl | omega) _) (cwV 2 hts (gV hB wl_X10_120 wn_X10_isThere ws_X10_isThere wi_X10 wc_X10_isThere) rfl rfl rfl hd_X10_isThere ⟨Nat.le_of_ble_eq_true rfl, Nat.le_of_ble_eq_true rfl⟩) (zp_V hK hP hD hS hA hG (ci := 10) (q0 := 0) rfl rfl rfl) rfl rfl hl.1 rfl (lv_room (Nat.le_of_ble_eq_true rfl)) dX10_sinkOf_3 ⟨Nat.le_of_ble_eq_true rfl, Nat.le_of_ble_eq_true rfl⟩) (fun r w1 H locs hq9 hP hD hS => ?_)
  obtain ⟨t3_1, v3_2, hv3_0, hv3_1, rfl, rfl⟩ := hq9
  have hP : va_P D vwCl (wM β δ ms mb mo mp mf mn mi mc mq mr mw mk ml t3_1 ma mx mh) H := hP
  have hD : va_D A (wM β δ ms mb mo mp mf mn mi mc mq mr mw mk ml t3_1 ma mx mh) := hD
  refine z_ifeqB (tgt := 22) hx hb dX10_sinkOf_6 (by decide) (fun c_6 => ?_) (fun c_6 => ?_)
  · have hb_6 := zb_neg hv3_0 c_6
    refine lv_iconst (v := zI 0) hx hb dX10_sinkOf_22 rfl ?_
    exact z_iret hC hr hlk hQ hP hD hS ⟨t3_1, 0, (by exact hv3_1), (by first | exact fun _ => hv16_0 | (intro h9; rw [hv3_1] at h9; unfold S_tpt at h9; rw [if_neg hb_6] at h9; exact absurd h9 (by decide))), rfl, rfl⟩ dX10_sinkOf_23
  · have hb_6 := hv3_0.mp c_6
    refine lv_aload_n hx hb dX10_sinkOf_9 rfl (lv_at hl 0 rfl) ?_
    refine lv_bipush (v := zI 7) hx hb dX10_sinkOf_10 (zI_b8 (by decide)) ?_
    refine lv_iload_n hx hb dX10_sinkOf_12 rfl (lv_at hl 1 rfl) ?_
    refine z_imul hx hb dX10_sinkOf_13 ?_
    refine lv_iload_n hx hb dX10_sinkOf_14 rfl (lv_at hl 2 rfl) ?_
    refine z_iadd hx hb dX10_sinkOf_15 ?_
    refine z_calli hP hD hS hA (va_runV (As := [.int (zI ((7 * r9) + c9))]) (rest := []) hC (c_X10_sink l D τ β δ ms mb mo mp mf mn mi mc mq mr mw mk ml t3_1 ma mx mh ((7 * r9) + c9) (by omega) (by first | assumption | rfl | omega) _) (cwV 1 hts (gV hB wl_X10_187 wn_X10_sink ws_X10_sink wi_X10 wc_X10_sink) rfl rfl rfl hd_X10_sink ⟨Nat.le_of_ble_eq_true rfl, Nat.le_of_ble_eq_true rfl⟩) (zp_V hK hP hD hS hA hG (ci := 10) (q0 := 0) rfl rfl rfl) rfl rfl hl.1 rfl (lv_room (Nat.le_of_ble_eq_true rfl)) dX10_sinkOf_16 ⟨Nat.le_of_ble_eq_true rfl, Nat.le_of_ble_eq_true rfl⟩) (fun r w1 H locs hq9 hP hD hS => ?_)
    obtain ⟨v16_3, hv16_0, hv16_1, rfl, rfl⟩ := hq9
    have hP : va_P D vwCl (wM β δ ms mb mo mp mf mn mi mc mq mr mw mk ml t3_1 ma mx mh) H := hP
    have hD : va_D A (wM β δ ms mb mo mp mf mn mi mc mq mr mw mk ml t3_1 ma mx mh) := hD
    refine lv_goto (tgt := 23) hx hb dX10_sinkOf_19 (by decide) ?_
    exact z_iret hC hr hlk hQ hP hD hS ⟨t3_1, v16_3, (by exact hv3_1), (by first | exact fun _ => hv16_0 | (intro h9; rw [hv3_1] at h9; unfold S_tpt at h9; rw [if_neg hb_6] at h9; exact absurd h9 (by decide))), rfl, rfl⟩ dX10_sinkOf_23

abbrev wz_X10_basinByFollowing : List Cond := .code yX10_basinByFollowing cX10_basinByFollowing 3 (some .int) :: W0
abbrev rm_X10_basinByFollowing : Room := { frames := 6, cells := 0, slots := 0, locals := 136 }
theorem hd_X10_basinByFollowing : yX10_basinByFollowing.cls = RX10 ∧ yX10_basinByFollowing.cls ≠ "java/lang/invoke/MethodHandle" ∧ yX10_basinByFollowing.cls ≠ "java/lang/invoke/VarHandle" ∧ (parseMethodDescriptor yX10_basinByFollowing.desc).map (fun d => d.parameters.length) = some 2 := by decide +kernel
set_option maxHeartbeats 4000000 in
set_option maxRecDepth 100000 in
theorem c_X10_basinByFollowing (l : Launch) (D : va_G) (τ : Nat → Nat) (β : Nat → Nat) (δ : Nat → ClassId) (ms : IA) (mb : IA) (mo : IA) (mp : BA) (mf : IA) (mn : IA) (mi : IA) (mc : IA) (mq : BA) (mr : IA) (mw : IA) (mk : Int) (ml : Int) (mt : Int) (ma : Int) (mx : Bool) (mh : Int64) (r9 : Int) (c9 : Int) (hr9 : -2147483648 ≤ r9 ∧ r9 < 2147483648) (hc9 : -2147483648 ≤ c9 ∧ c9 < 2147483648) (hms : ∀ k, 0 ≤ k → k < 49 → 0 ≤ ms k ∧ ms k ≤ 99) : cM l yX10_basinByFollowing wz_X10_basinByFollowing rm_X10_basinByFollowing D τ (tyM δ) [.ref (β 0), .int (zI r9), .int (zI c9)] (wM β δ ms mb mo mp mf mn mi mc mq mr mw mk ml mt ma mx mh) (zQi (fun r w => ∃ (t2 : Int), ∃ (v : Int), (t2 = S_tpt r9 c9) ∧ (t2 = 0 → v = S_basin ms (7 * r9 + c9)) ∧ r = zI v ∧ wM β δ ms mb mo mp mf mn mi mc mq mr mw mk ml t2 ma mx mh = w)) := by
  refine z_ofM (cc := cX10_basinByFollowing) (maxL := 3) (ret := (some .int)) (by decide +kernel) rfl (Nat.le_of_ble_eq_true rfl) ?_
  intro pg e s m args below meth c hC hr hlk hnm hK hP A hD hG hA hS ls hl Q hQ
  have hx := hC.1
  have hb := hC.2.1
  have hml := hC.2.2.1
  have hown := hC.2.2.2.1
  have hts := hC.2.2.2.2
  have hB : ∀ w ∈ W0, w ∈ wz_X10_basinByFollowing := fun _ h => List.mem_cons_of_mem _ h
  have hW0 : ∀ w ∈ W0, w.before args s = true := fun w h => hts w (hB w h)
  have hl : lv_has ls 3 [(0, .ref (β 0)), (1, .int (zI r9)), (2, .int (zI c9))] := hl
  refine lv_aload_n hx hb dX10_basinByFollowing_0 rfl (lv_at hl 0 rfl) ?_
  refine lv_iload_n hx hb dX10_basinByFollowing_1 rfl (lv_at hl 1 rfl) ?_
  refine lv_iload_n hx hb dX10_basinByFollowing_2 rfl (lv_at hl 2 rfl) ?_
  refine z_calli hP hD hS hA (va_runV (As := [.int (zI r9), .int (zI c9)]) (rest := []) hC (c_X10_isThere l D τ β δ ms mb mo mp mf mn mi mc mq mr mw mk ml mt ma mx mh r9 c9 (by first | assumption | rfl | omega) (by first | assumption | rfl | omega) _) (cwV 2 hts (gV hB wl_X10_120 wn_X10_isThere ws_X10_isThere wi_X10 wc_X10_isThere) rfl rfl rfl hd_X10_isThere ⟨Nat.le_of_ble_eq_true rfl, Nat.le_of_ble_eq_true rfl⟩) (zp_V hK hP hD hS hA hG (ci := 10) (q0 := 0) rfl rfl rfl) rfl rfl hl.1 rfl (lv_room (Nat.le_of_ble_eq_true rfl)) dX10_basinByFollowing_3 ⟨Nat.le_of_ble_eq_true rfl, Nat.le_of_ble_eq_true rfl⟩) (fun r w1 H locs hq9 hP hD hS => ?_)
  obtain ⟨t3_1, v3_2, hv3_0, hv3_1, rfl, rfl⟩ := hq9
  have hP : va_P D vwCl (wM β δ ms mb mo mp mf mn mi mc mq mr mw mk ml t3_1 ma mx mh) H := hP
  have hD : va_D A (wM β δ ms mb mo mp mf mn mi mc mq mr mw mk ml t3_1 ma mx mh) := hD
  refine z_ifeqB (tgt := 22) hx hb dX10_basinByFollowing_6 (by decide) (fun c_6 => ?_) (fun c_6 => ?_)
  · have hb_6 := zb_neg hv3_0 c_6
    refine lv_iconst (v := zI 0) hx hb dX10_basinByFollowing_22 rfl ?_
    exact z_iret hC hr hlk hQ hP hD hS ⟨t3_1, 0, (by exact hv3_1), (by first | exact fun _ => hv16_0 | (intro h9; rw [hv3_1] at h9; unfold S_tpt at h9; rw [if_neg hb_6] at h9; exact absurd h9 (by decide))), rfl, rfl⟩ dX10_basinByFollowing_23
  · have hb_6 := hv3_0.mp c_6
    refine lv_aload_n hx hb dX10_basinByFollowing_9 rfl (lv_at hl 0 rfl) ?_
    refine lv_bipush (v := zI 7) hx hb dX10_basinByFollowing_10 (zI_b8 (by decide)) ?_
    refine lv_iload_n hx hb dX10_basinByFollowing_12 rfl (lv_at hl 1 rfl) ?_
    refine z_imul hx hb dX10_basinByFollowing_13 ?_
    refine lv_iload_n hx hb dX10_basinByFollowing_14 rfl (lv_at hl 2 rfl) ?_
    refine z_iadd hx hb dX10_basinByFollowing_15 ?_
    refine z_calli hP hD hS hA (va_runV (As := [.int (zI ((7 * r9) + c9))]) (rest := []) hC (c_X10_basin l D τ β δ ms mb mo mp mf mn mi mc mq mr mw mk ml t3_1 ma mx mh ((7 * r9) + c9) (by omega) (by first | assumption | rfl | omega) _) (cwV 1 hts (gV hB wl_X10_190 wn_X10_basin ws_X10_basin wi_X10 wc_X10_basin) rfl rfl rfl hd_X10_basin ⟨Nat.le_of_ble_eq_true rfl, Nat.le_of_ble_eq_true rfl⟩) (zp_V hK hP hD hS hA hG (ci := 10) (q0 := 0) rfl rfl rfl) rfl rfl hl.1 rfl (lv_room (Nat.le_of_ble_eq_true rfl)) dX10_basinByFollowing_16 ⟨Nat.le_of_ble_eq_true rfl, Nat.le_of_ble_eq_true rfl⟩) (fun r w1 H locs hq9 hP hD hS => ?_)
    obtain ⟨v16_3, hv16_0, hv16_1, rfl, rfl⟩ := hq9
    have hP : va_P D vwCl (wM β δ ms mb mo mp mf mn mi mc mq mr mw mk ml t3_1 ma mx mh) H := hP
    have hD : va_D A (wM β δ ms mb mo mp mf mn mi mc mq mr mw mk ml t3_1 ma mx mh) := hD
    refine lv_goto (tgt := 23) hx hb dX10_basinByFollowing_19 (by decide) ?_
    exact z_iret hC hr hlk hQ hP hD hS ⟨t3_1, v16_3, (by exact hv3_1), (by first | exact fun _ => hv16_0 | (intro h9; rw [hv3_1] at h9; unfold S_tpt at h9; rw [if_neg hb_6] at h9; exact absurd h9 (by decide))), rfl, rfl⟩ dX10_basinByFollowing_23

abbrev wz_X10_basinByGoingUp : List Cond := .code yX10_basinByGoingUp cX10_basinByGoingUp 3 (some .int) :: W0
abbrev rm_X10_basinByGoingUp : Room := { frames := 6, cells := 0, slots := 0, locals := 136 }
theorem hd_X10_basinByGoingUp : yX10_basinByGoingUp.cls = RX10 ∧ yX10_basinByGoingUp.cls ≠ "java/lang/invoke/MethodHandle" ∧ yX10_basinByGoingUp.cls ≠ "java/lang/invoke/VarHandle" ∧ (parseMethodDescriptor yX10_basinByGoingUp.desc).map (fun d => d.parameters.length) = some 2 := by decide +kernel
set_option maxHeartbeats 4000000 in
set_option maxRecDepth 100000 in
theorem c_X10_basinByGoingUp (l : Launch) (D : va_G) (τ : Nat → Nat) (β : Nat → Nat) (δ : Nat → ClassId) (ms : IA) (mb : IA) (mo : IA) (mp : BA) (mf : IA) (mn : IA) (mi : IA) (mc : IA) (mq : BA) (mr : IA) (mw : IA) (mk : Int) (ml : Int) (mt : Int) (ma : Int) (mx : Bool) (mh : Int64) (r9 : Int) (c9 : Int) (hr9 : -2147483648 ≤ r9 ∧ r9 < 2147483648) (hc9 : -2147483648 ≤ c9 ∧ c9 < 2147483648) (hms : ∀ k, 0 ≤ k → k < 49 → 0 ≤ ms k ∧ ms k ≤ 99) : cM l yX10_basinByGoingUp wz_X10_basinByGoingUp rm_X10_basinByGoingUp D τ (tyM δ) [.ref (β 0), .int (zI r9), .int (zI c9)] (wM β δ ms mb mo mp mf mn mi mc mq mr mw mk ml mt ma mx mh) (zQi (fun r w => ∃ (t2 : Int), ∃ (v : Int), (t2 = S_tpt r9 c9) ∧ (t2 = 0 → v = S_basin ms (7 * r9 + c9)) ∧ r = zI v ∧ wM β δ ms mb mo mp mf mn mi mc mq mr mw mk ml t2 ma mx mh = w)) := by
  refine z_ofM (cc := cX10_basinByGoingUp) (maxL := 3) (ret := (some .int)) (by decide +kernel) rfl (Nat.le_of_ble_eq_true rfl) ?_
  intro pg e s m args below meth c hC hr hlk hnm hK hP A hD hG hA hS ls hl Q hQ
  have hx := hC.1
  have hb := hC.2.1
  have hml := hC.2.2.1
  have hown := hC.2.2.2.1
  have hts := hC.2.2.2.2
  have hB : ∀ w ∈ W0, w ∈ wz_X10_basinByGoingUp := fun _ h => List.mem_cons_of_mem _ h
  have hW0 : ∀ w ∈ W0, w.before args s = true := fun w h => hts w (hB w h)
  have hl : lv_has ls 3 [(0, .ref (β 0)), (1, .int (zI r9)), (2, .int (zI c9))] := hl
  refine lv_aload_n hx hb dX10_basinByGoingUp_0 rfl (lv_at hl 0 rfl) ?_
  refine lv_iload_n hx hb dX10_basinByGoingUp_1 rfl (lv_at hl 1 rfl) ?_
  refine lv_iload_n hx hb dX10_basinByGoingUp_2 rfl (lv_at hl 2 rfl) ?_
  refine z_calli hP hD hS hA (va_runV (As := [.int (zI r9), .int (zI c9)]) (rest := []) hC (c_X10_isThere l D τ β δ ms mb mo mp mf mn mi mc mq mr mw mk ml mt ma mx mh r9 c9 (by first | assumption | rfl | omega) (by first | assumption | rfl | omega) _) (cwV 2 hts (gV hB wl_X10_120 wn_X10_isThere ws_X10_isThere wi_X10 wc_X10_isThere) rfl rfl rfl hd_X10_isThere ⟨Nat.le_of_ble_eq_true rfl, Nat.le_of_ble_eq_true rfl⟩) (zp_V hK hP hD hS hA hG (ci := 10) (q0 := 0) rfl rfl rfl) rfl rfl hl.1 rfl (lv_room (Nat.le_of_ble_eq_true rfl)) dX10_basinByGoingUp_3 ⟨Nat.le_of_ble_eq_true rfl, Nat.le_of_ble_eq_true rfl⟩) (fun r w1 H locs hq9 hP hD hS => ?_)
  obtain ⟨t3_1, v3_2, hv3_0, hv3_1, rfl, rfl⟩ := hq9
  have hP : va_P D vwCl (wM β δ ms mb mo mp mf mn mi mc mq mr mw mk ml t3_1 ma mx mh) H := hP
  have hD : va_D A (wM β δ ms mb mo mp mf mn mi mc mq mr mw mk ml t3_1 ma mx mh) := hD
  refine z_ifeqB (tgt := 22) hx hb dX10_basinByGoingUp_6 (by decide) (fun c_6 => ?_) (fun c_6 => ?_)
  · have hb_6 := zb_neg hv3_0 c_6
    refine lv_iconst (v := zI 0) hx hb dX10_basinByGoingUp_22 rfl ?_
    exact z_iret hC hr hlk hQ hP hD hS ⟨t3_1, 0, (by exact hv3_1), (by first | exact fun _ => hv16_0 | (intro h9; rw [hv3_1] at h9; unfold S_tpt at h9; rw [if_neg hb_6] at h9; exact absurd h9 (by decide))), rfl, rfl⟩ dX10_basinByGoingUp_23
  · have hb_6 := hv3_0.mp c_6
    refine lv_aload_n hx hb dX10_basinByGoingUp_9 rfl (lv_at hl 0 rfl) ?_
    refine lv_bipush (v := zI 7) hx hb dX10_basinByGoingUp_10 (zI_b8 (by decide)) ?_
    refine lv_iload_n hx hb dX10_basinByGoingUp_12 rfl (lv_at hl 1 rfl) ?_
    refine z_imul hx hb dX10_basinByGoingUp_13 ?_
    refine lv_iload_n hx hb dX10_basinByGoingUp_14 rfl (lv_at hl 2 rfl) ?_
    refine z_iadd hx hb dX10_basinByGoingUp_15 ?_
    refine z_calli hP hD hS hA (va_runV (As := [.int (zI ((7 * r9) + c9))]) (rest := []) hC (c_X10_basin l D τ β δ ms mb mo mp mf mn mi mc mq mr mw mk ml t3_1 ma mx mh ((7 * r9) + c9) (by omega) (by first | assumption | rfl | omega) _) (cwV 1 hts (gV hB wl_X10_190 wn_X10_basin ws_X10_basin wi_X10 wc_X10_basin) rfl rfl rfl hd_X10_basin ⟨Nat.le_of_ble_eq_true rfl, Nat.le_of_ble_eq_true rfl⟩) (zp_V hK hP hD hS hA hG (ci := 10) (q0 := 0) rfl rfl rfl) rfl rfl hl.1 rfl (lv_room (Nat.le_of_ble_eq_true rfl)) dX10_basinByGoingUp_16 ⟨Nat.le_of_ble_eq_true rfl, Nat.le_of_ble_eq_true rfl⟩) (fun r w1 H locs hq9 hP hD hS => ?_)
    obtain ⟨v16_3, hv16_0, hv16_1, rfl, rfl⟩ := hq9
    have hP : va_P D vwCl (wM β δ ms mb mo mp mf mn mi mc mq mr mw mk ml t3_1 ma mx mh) H := hP
    have hD : va_D A (wM β δ ms mb mo mp mf mn mi mc mq mr mw mk ml t3_1 ma mx mh) := hD
    refine lv_goto (tgt := 23) hx hb dX10_basinByGoingUp_19 (by decide) ?_
    exact z_iret hC hr hlk hQ hP hD hS ⟨t3_1, v16_3, (by exact hv3_1), (by first | exact fun _ => hv16_0 | (intro h9; rw [hv3_1] at h9; unfold S_tpt at h9; rw [if_neg hb_6] at h9; exact absurd h9 (by decide))), rfl, rfl⟩ dX10_basinByGoingUp_23

abbrev wz_X10_flowAt : List Cond := .code yX10_flowAt cX10_flowAt 3 (some .int) :: W0
abbrev rm_X10_flowAt : Room := { frames := 5, cells := 0, slots := 0, locals := 115 }
theorem hd_X10_flowAt : yX10_flowAt.cls = RX10 ∧ yX10_flowAt.cls ≠ "java/lang/invoke/MethodHandle" ∧ yX10_flowAt.cls ≠ "java/lang/invoke/VarHandle" ∧ (parseMethodDescriptor yX10_flowAt.desc).map (fun d => d.parameters.length) = some 2 := by decide +kernel
set_option maxHeartbeats 4000000 in
set_option maxRecDepth 100000 in
theorem c_X10_flowAt (l : Launch) (D : va_G) (τ : Nat → Nat) (β : Nat → Nat) (δ : Nat → ClassId) (ms : IA) (mb : IA) (mo : IA) (mp : BA) (mf : IA) (mn : IA) (mi : IA) (mc : IA) (mq : BA) (mr : IA) (mw : IA) (mk : Int) (ml : Int) (mt : Int) (ma : Int) (mx : Bool) (mh : Int64) (r9 : Int) (c9 : Int) (hr9 : -2147483648 ≤ r9 ∧ r9 < 2147483648) (hc9 : -2147483648 ≤ c9 ∧ c9 < 2147483648) (hms : ∀ k, 0 ≤ k → k < 49 → 0 ≤ ms k ∧ ms k ≤ 99) : cM l yX10_flowAt wz_X10_flowAt rm_X10_flowAt D τ (tyM δ) [.ref (β 0), .int (zI r9), .int (zI c9)] (wM β δ ms mb mo mp mf mn mi mc mq mr mw mk ml mt ma mx mh) (zQi (fun r w => ∃ (t2 : Int), ∃ (v : Int), (t2 = S_tpt r9 c9) ∧ (t2 = 0 → v = S_flow ms (7 * r9 + c9)) ∧ r = zI v ∧ wM β δ ms mb mo mp mf mn mi mc mq mr mw mk ml t2 ma mx mh = w)) := by
  refine z_ofM (cc := cX10_flowAt) (maxL := 3) (ret := (some .int)) (by decide +kernel) rfl (Nat.le_of_ble_eq_true rfl) ?_
  intro pg e s m args below meth c hC hr hlk hnm hK hP A hD hG hA hS ls hl Q hQ
  have hx := hC.1
  have hb := hC.2.1
  have hml := hC.2.2.1
  have hown := hC.2.2.2.1
  have hts := hC.2.2.2.2
  have hB : ∀ w ∈ W0, w ∈ wz_X10_flowAt := fun _ h => List.mem_cons_of_mem _ h
  have hW0 : ∀ w ∈ W0, w.before args s = true := fun w h => hts w (hB w h)
  have hl : lv_has ls 3 [(0, .ref (β 0)), (1, .int (zI r9)), (2, .int (zI c9))] := hl
  refine lv_aload_n hx hb dX10_flowAt_0 rfl (lv_at hl 0 rfl) ?_
  refine lv_iload_n hx hb dX10_flowAt_1 rfl (lv_at hl 1 rfl) ?_
  refine lv_iload_n hx hb dX10_flowAt_2 rfl (lv_at hl 2 rfl) ?_
  refine z_calli hP hD hS hA (va_runV (As := [.int (zI r9), .int (zI c9)]) (rest := []) hC (c_X10_isThere l D τ β δ ms mb mo mp mf mn mi mc mq mr mw mk ml mt ma mx mh r9 c9 (by first | assumption | rfl | omega) (by first | assumption | rfl | omega) _) (cwV 2 hts (gV hB wl_X10_120 wn_X10_isThere ws_X10_isThere wi_X10 wc_X10_isThere) rfl rfl rfl hd_X10_isThere ⟨Nat.le_of_ble_eq_true rfl, Nat.le_of_ble_eq_true rfl⟩) (zp_V hK hP hD hS hA hG (ci := 10) (q0 := 0) rfl rfl rfl) rfl rfl hl.1 rfl (lv_room (Nat.le_of_ble_eq_true rfl)) dX10_flowAt_3 ⟨Nat.le_of_ble_eq_true rfl, Nat.le_of_ble_eq_true rfl⟩) (fun r w1 H locs hq9 hP hD hS => ?_)
  obtain ⟨t3_1, v3_2, hv3_0, hv3_1, rfl, rfl⟩ := hq9
  have hP : va_P D vwCl (wM β δ ms mb mo mp mf mn mi mc mq mr mw mk ml t3_1 ma mx mh) H := hP
  have hD : va_D A (wM β δ ms mb mo mp mf mn mi mc mq mr mw mk ml t3_1 ma mx mh) := hD
  refine z_ifeqB (tgt := 22) hx hb dX10_flowAt_6 (by decide) (fun c_6 => ?_) (fun c_6 => ?_)
  · have hb_6 := zb_neg hv3_0 c_6
    refine lv_iconst (v := zI 0) hx hb dX10_flowAt_22 rfl ?_
    exact z_iret hC hr hlk hQ hP hD hS ⟨t3_1, 0, (by exact hv3_1), (by first | exact fun _ => hv16_0 | (intro h9; rw [hv3_1] at h9; unfold S_tpt at h9; rw [if_neg hb_6] at h9; exact absurd h9 (by decide))), rfl, rfl⟩ dX10_flowAt_23
  · have hb_6 := hv3_0.mp c_6
    refine lv_aload_n hx hb dX10_flowAt_9 rfl (lv_at hl 0 rfl) ?_
    refine lv_bipush (v := zI 7) hx hb dX10_flowAt_10 (zI_b8 (by decide)) ?_
    refine lv_iload_n hx hb dX10_flowAt_12 rfl (lv_at hl 1 rfl) ?_
    refine z_imul hx hb dX10_flowAt_13 ?_
    refine lv_iload_n hx hb dX10_flowAt_14 rfl (lv_at hl 2 rfl) ?_
    refine z_iadd hx hb dX10_flowAt_15 ?_
    refine z_calli hP hD hS hA (va_runV (As := [.int (zI ((7 * r9) + c9))]) (rest := []) hC (c_X10_flow l D τ β δ ms mb mo mp mf mn mi mc mq mr mw mk ml t3_1 ma mx mh ((7 * r9) + c9) (by omega) (by first | assumption | rfl | omega) _) (cwV 1 hts (gV hB wl_X10_184 wn_X10_flow ws_X10_flow wi_X10 wc_X10_flow) rfl rfl rfl hd_X10_flow ⟨Nat.le_of_ble_eq_true rfl, Nat.le_of_ble_eq_true rfl⟩) (zp_V hK hP hD hS hA hG (ci := 10) (q0 := 0) rfl rfl rfl) rfl rfl hl.1 rfl (lv_room (Nat.le_of_ble_eq_true rfl)) dX10_flowAt_16 ⟨Nat.le_of_ble_eq_true rfl, Nat.le_of_ble_eq_true rfl⟩) (fun r w1 H locs hq9 hP hD hS => ?_)
    obtain ⟨v16_3, hv16_0, hv16_1, rfl, rfl⟩ := hq9
    have hP : va_P D vwCl (wM β δ ms mb mo mp mf mn mi mc mq mr mw mk ml t3_1 ma mx mh) H := hP
    have hD : va_D A (wM β δ ms mb mo mp mf mn mi mc mq mr mw mk ml t3_1 ma mx mh) := hD
    refine lv_goto (tgt := 23) hx hb dX10_flowAt_19 (by decide) ?_
    exact z_iret hC hr hlk hQ hP hD hS ⟨t3_1, v16_3, (by exact hv3_1), (by first | exact fun _ => hv16_0 | (intro h9; rw [hv3_1] at h9; unfold S_tpt at h9; rw [if_neg hb_6] at h9; exact absurd h9 (by decide))), rfl, rfl⟩ dX10_flowAt_23

abbrev wz_X10_stepsToSink : List Cond := .code yX10_stepsToSink cX10_stepsToSink 3 (some .int) :: W0
abbrev rm_X10_stepsToSink : Room := { frames := 5, cells := 0, slots := 0, locals := 115 }
theorem hd_X10_stepsToSink : yX10_stepsToSink.cls = RX10 ∧ yX10_stepsToSink.cls ≠ "java/lang/invoke/MethodHandle" ∧ yX10_stepsToSink.cls ≠ "java/lang/invoke/VarHandle" ∧ (parseMethodDescriptor yX10_stepsToSink.desc).map (fun d => d.parameters.length) = some 2 := by decide +kernel
set_option maxHeartbeats 4000000 in
set_option maxRecDepth 100000 in
theorem c_X10_stepsToSink (l : Launch) (D : va_G) (τ : Nat → Nat) (β : Nat → Nat) (δ : Nat → ClassId) (ms : IA) (mb : IA) (mo : IA) (mp : BA) (mf : IA) (mn : IA) (mi : IA) (mc : IA) (mq : BA) (mr : IA) (mw : IA) (mk : Int) (ml : Int) (mt : Int) (ma : Int) (mx : Bool) (mh : Int64) (r9 : Int) (c9 : Int) (hr9 : -2147483648 ≤ r9 ∧ r9 < 2147483648) (hc9 : -2147483648 ≤ c9 ∧ c9 < 2147483648) (hms : ∀ k, 0 ≤ k → k < 49 → 0 ≤ ms k ∧ ms k ≤ 99) : cM l yX10_stepsToSink wz_X10_stepsToSink rm_X10_stepsToSink D τ (tyM δ) [.ref (β 0), .int (zI r9), .int (zI c9)] (wM β δ ms mb mo mp mf mn mi mc mq mr mw mk ml mt ma mx mh) (zQi (fun r w => ∃ (t2 : Int), ∃ (v : Int), (t2 = S_tpt r9 c9) ∧ (t2 = 0 → v = S_steps ms (7 * r9 + c9)) ∧ r = zI v ∧ wM β δ ms mb mo mp mf mn mi mc mq mr mw mk ml t2 ma mx mh = w)) := by
  refine z_ofM (cc := cX10_stepsToSink) (maxL := 3) (ret := (some .int)) (by decide +kernel) rfl (Nat.le_of_ble_eq_true rfl) ?_
  intro pg e s m args below meth c hC hr hlk hnm hK hP A hD hG hA hS ls hl Q hQ
  have hx := hC.1
  have hb := hC.2.1
  have hml := hC.2.2.1
  have hown := hC.2.2.2.1
  have hts := hC.2.2.2.2
  have hB : ∀ w ∈ W0, w ∈ wz_X10_stepsToSink := fun _ h => List.mem_cons_of_mem _ h
  have hW0 : ∀ w ∈ W0, w.before args s = true := fun w h => hts w (hB w h)
  have hl : lv_has ls 3 [(0, .ref (β 0)), (1, .int (zI r9)), (2, .int (zI c9))] := hl
  refine lv_aload_n hx hb dX10_stepsToSink_0 rfl (lv_at hl 0 rfl) ?_
  refine lv_iload_n hx hb dX10_stepsToSink_1 rfl (lv_at hl 1 rfl) ?_
  refine lv_iload_n hx hb dX10_stepsToSink_2 rfl (lv_at hl 2 rfl) ?_
  refine z_calli hP hD hS hA (va_runV (As := [.int (zI r9), .int (zI c9)]) (rest := []) hC (c_X10_isThere l D τ β δ ms mb mo mp mf mn mi mc mq mr mw mk ml mt ma mx mh r9 c9 (by first | assumption | rfl | omega) (by first | assumption | rfl | omega) _) (cwV 2 hts (gV hB wl_X10_120 wn_X10_isThere ws_X10_isThere wi_X10 wc_X10_isThere) rfl rfl rfl hd_X10_isThere ⟨Nat.le_of_ble_eq_true rfl, Nat.le_of_ble_eq_true rfl⟩) (zp_V hK hP hD hS hA hG (ci := 10) (q0 := 0) rfl rfl rfl) rfl rfl hl.1 rfl (lv_room (Nat.le_of_ble_eq_true rfl)) dX10_stepsToSink_3 ⟨Nat.le_of_ble_eq_true rfl, Nat.le_of_ble_eq_true rfl⟩) (fun r w1 H locs hq9 hP hD hS => ?_)
  obtain ⟨t3_1, v3_2, hv3_0, hv3_1, rfl, rfl⟩ := hq9
  have hP : va_P D vwCl (wM β δ ms mb mo mp mf mn mi mc mq mr mw mk ml t3_1 ma mx mh) H := hP
  have hD : va_D A (wM β δ ms mb mo mp mf mn mi mc mq mr mw mk ml t3_1 ma mx mh) := hD
  refine z_ifeqB (tgt := 22) hx hb dX10_stepsToSink_6 (by decide) (fun c_6 => ?_) (fun c_6 => ?_)
  · have hb_6 := zb_neg hv3_0 c_6
    refine lv_iconst (v := zI 0) hx hb dX10_stepsToSink_22 rfl ?_
    exact z_iret hC hr hlk hQ hP hD hS ⟨t3_1, 0, (by exact hv3_1), (by first | exact fun _ => hv16_0 | (intro h9; rw [hv3_1] at h9; unfold S_tpt at h9; rw [if_neg hb_6] at h9; exact absurd h9 (by decide))), rfl, rfl⟩ dX10_stepsToSink_23
  · have hb_6 := hv3_0.mp c_6
    refine lv_aload_n hx hb dX10_stepsToSink_9 rfl (lv_at hl 0 rfl) ?_
    refine lv_bipush (v := zI 7) hx hb dX10_stepsToSink_10 (zI_b8 (by decide)) ?_
    refine lv_iload_n hx hb dX10_stepsToSink_12 rfl (lv_at hl 1 rfl) ?_
    refine z_imul hx hb dX10_stepsToSink_13 ?_
    refine lv_iload_n hx hb dX10_stepsToSink_14 rfl (lv_at hl 2 rfl) ?_
    refine z_iadd hx hb dX10_stepsToSink_15 ?_
    refine z_calli hP hD hS hA (va_runV (As := [.int (zI ((7 * r9) + c9))]) (rest := []) hC (c_X10_steps l D τ β δ ms mb mo mp mf mn mi mc mq mr mw mk ml t3_1 ma mx mh ((7 * r9) + c9) (by omega) (by first | assumption | rfl | omega) _) (cwV 1 hts (gV hB wl_X10_193 wn_X10_steps ws_X10_steps wi_X10 wc_X10_steps) rfl rfl rfl hd_X10_steps ⟨Nat.le_of_ble_eq_true rfl, Nat.le_of_ble_eq_true rfl⟩) (zp_V hK hP hD hS hA hG (ci := 10) (q0 := 0) rfl rfl rfl) rfl rfl hl.1 rfl (lv_room (Nat.le_of_ble_eq_true rfl)) dX10_stepsToSink_16 ⟨Nat.le_of_ble_eq_true rfl, Nat.le_of_ble_eq_true rfl⟩) (fun r w1 H locs hq9 hP hD hS => ?_)
    obtain ⟨v16_3, hv16_0, hv16_1, rfl, rfl⟩ := hq9
    have hP : va_P D vwCl (wM β δ ms mb mo mp mf mn mi mc mq mr mw mk ml t3_1 ma mx mh) H := hP
    have hD : va_D A (wM β δ ms mb mo mp mf mn mi mc mq mr mw mk ml t3_1 ma mx mh) := hD
    refine lv_goto (tgt := 23) hx hb dX10_stepsToSink_19 (by decide) ?_
    exact z_iret hC hr hlk hQ hP hD hS ⟨t3_1, v16_3, (by exact hv3_1), (by first | exact fun _ => hv16_0 | (intro h9; rw [hv3_1] at h9; unfold S_tpt at h9; rw [if_neg hb_6] at h9; exact absurd h9 (by decide))), rfl, rfl⟩ dX10_stepsToSink_23

abbrev wz_X10_allSinks : List Cond := .code yX10_allSinks cX10_allSinks 3 (some .int) :: W0
abbrev rm_X10_allSinks : Room := { frames := 4, cells := 0, slots := 0, locals := 91 }
theorem hd_X10_allSinks : yX10_allSinks.cls = RX10 ∧ yX10_allSinks.cls ≠ "java/lang/invoke/MethodHandle" ∧ yX10_allSinks.cls ≠ "java/lang/invoke/VarHandle" ∧ (parseMethodDescriptor yX10_allSinks.desc).map (fun d => d.parameters.length) = some 0 := by decide +kernel
set_option maxHeartbeats 4000000 in
set_option maxRecDepth 100000 in
theorem c_X10_allSinks (l : Launch) (D : va_G) (τ : Nat → Nat) (β : Nat → Nat) (δ : Nat → ClassId) (ms : IA) (mb : IA) (mo : IA) (mp : BA) (mf : IA) (mn : IA) (mi : IA) (mc : IA) (mq : BA) (mr : IA) (mw : IA) (mk : Int) (ml : Int) (mt : Int) (ma : Int) (mx : Bool) (mh : Int64) (hms : ∀ k, 0 ≤ k → k < 49 → 0 ≤ ms k ∧ ms k ≤ 99) : cM l yX10_allSinks wz_X10_allSinks rm_X10_allSinks D τ (tyM δ) [.ref (β 0)] (wM β δ ms mb mo mp mf mn mi mc mq mr mw mk ml mt ma mx mh) (zQi (fun r w => ∃ (v : Int), (v = zC (fun k => decide (S_next ms k = -1)) 49) ∧ (0 ≤ v ∧ v ≤ 49) ∧ r = zI v ∧ wM β δ ms mb mo mp mf mn mi mc mq mr mw mk ml mt ma mx mh = w)) := by
  refine z_ofM (cc := cX10_allSinks) (maxL := 3) (ret := (some .int)) (by decide +kernel) rfl (Nat.le_of_ble_eq_true rfl) ?_
  intro pg e s m args below meth c hC hr hlk hnm hK hP A hD hG hA hS ls hl Q hQ
  have hx := hC.1
  have hb := hC.2.1
  have hml := hC.2.2.1
  have hown := hC.2.2.2.1
  have hts := hC.2.2.2.2
  have hB : ∀ w ∈ W0, w ∈ wz_X10_allSinks := fun _ h => List.mem_cons_of_mem _ h
  have hW0 : ∀ w ∈ W0, w.before args s = true := fun w h => hts w (hB w h)
  have hl : lv_has ls 3 [(0, .ref (β 0))] := hl
  refine lv_iconst (v := zI 0) hx hb dX10_allSinks_0 rfl ?_
  refine lv_istore_n (lv' := [(1, .int (zI 0)), (0, .ref (β 0))]) hx hb dX10_allSinks_1 rfl hl (by decide) rfl (fun ls hl => ?_)
  refine lv_iconst (v := zI 0) hx hb dX10_allSinks_2 rfl ?_
  refine lv_istore_n (lv' := [(2, .int (zI 0)), (1, .int (zI 0)), (0, .ref (β 0))]) hx hb dX10_allSinks_3 rfl hl (by decide) rfl (fun ls hl => ?_)
  suffices HL_4 : ∀ (n_4 : Nat), ∀ (g : Int) (i : Int) (H : Heap) (locs : List Loc) (hP : va_P D vwCl (wM β δ ms mb mo mp mf mn mi mc mq mr mw mk ml mt ma mx mh) H) (hD : va_D A (wM β δ ms mb mo mp mf mn mi mc mq mr mw mk ml mt ma mx mh)) (hS : va_S A s.heap H locs) (ls : Array Slot) (hl : lv_has ls 3 [(1, .int (zI g)), (2, .int (zI i)), (0, .ref (β 0))]) (hi : 0 ≤ i ∧ i ≤ 49) (hg : g = zC (fun k => decide (S_next ms k = -1)) i) (hgb : 0 ≤ g ∧ g ≤ i) (hm : (49 - i).toNat < n_4), W pg l e rm_X10_allSinks s m args below meth c H locs 0 0 Q (F0 m 4 ls []) from HL_4 _ 0 0 _ _ hP hD hS _ (lv_sub hl [1, 0, 2] rfl) (by first | assumption | rfl | omega) (by exact (zC_0 _).symm) (by first | assumption | rfl | omega) (Nat.lt_succ_self _)
  intro n_4
  induction n_4 with
  | zero => intro g i H locs hP hD hS ls hl hi hg hgb hm; exact absurd hm (Nat.not_lt_zero _)
  | succ n_4 ih_4 =>
    intro g i H locs hP hD hS ls hl hi hg hgb hm
    refine lv_iload_n hx hb dX10_allSinks_4 rfl (lv_at hl 1 rfl) ?_
    refine lv_bipush (v := zI 49) hx hb dX10_allSinks_5 (zI_b8 (by decide)) ?_
    refine z_icge (tgt := 33) hx hb ⟨by omega, by omega⟩ ⟨by omega, by omega⟩ dX10_allSinks_7 (by decide) (fun c_7 => ?_) (fun c_7 => ?_)
    · refine lv_iload_n hx hb dX10_allSinks_33 rfl (lv_at hl 0 rfl) ?_
      exact z_iret hC hr hlk hQ hP hD hS ⟨g, (by rw [hg, show i = 49 by omega]), (by omega), rfl, rfl⟩ dX10_allSinks_34
    · refine lv_iload_n hx hb dX10_allSinks_10 rfl (lv_at hl 0 rfl) ?_
      refine lv_aload_n hx hb dX10_allSinks_11 rfl (lv_at hl 2 rfl) ?_
      refine lv_iload_n hx hb dX10_allSinks_12 rfl (lv_at hl 1 rfl) ?_
      refine z_calli hP hD hS hA (va_runV (As := [.int (zI i)]) (rest := [.int (zI g)]) hC (c_X10_drain l D τ β δ ms mb mo mp mf mn mi mc mq mr mw mk ml mt ma mx mh i (by first | assumption | rfl | omega) (by first | assumption | rfl | omega) _) (cwV 1 hts (gV hB wl_X10_74 wn_X10_drain ws_X10_drain wi_X10 wc_X10_drain) rfl rfl rfl hd_X10_drain ⟨Nat.le_of_ble_eq_true rfl, Nat.le_of_ble_eq_true rfl⟩) (zp_V hK hP hD hS hA hG (ci := 10) (q0 := 0) rfl rfl rfl) rfl rfl hl.1 rfl (lv_room (Nat.le_of_ble_eq_true rfl)) dX10_allSinks_13 ⟨Nat.le_of_ble_eq_true rfl, Nat.le_of_ble_eq_true rfl⟩) (fun r w1 H locs hq9 hP hD hS => ?_)
      obtain ⟨v13_1, hv13_0, hv13_1, rfl, rfl⟩ := hq9
      have hP : va_P D vwCl (wM β δ ms mb mo mp mf mn mi mc mq mr mw mk ml mt ma mx mh) H := hP
      have hD : va_D A (wM β δ ms mb mo mp mf mn mi mc mq mr mw mk ml mt ma mx mh) := hD
      refine lv_iconst (v := zI (-1)) hx hb dX10_allSinks_16 rfl ?_
      refine z_icne (tgt := 24) hx hb ⟨by omega, by omega⟩ ⟨by omega, by omega⟩ dX10_allSinks_17 (by decide) (fun c_17 => ?_) (fun c_17 => ?_)
      · refine lv_iconst (v := zI 0) hx hb dX10_allSinks_24 rfl ?_
        refine z_iadd hx hb dX10_allSinks_25 ?_
        refine lv_istore_n (lv' := [(1, .int (zI (g + 0))), (2, .int (zI i)), (0, .ref (β 0))]) hx hb dX10_allSinks_26 rfl hl (by decide) rfl (fun ls hl => ?_)
        refine z_iinc (k := 1) (v := i + 1) (lv' := [(2, .int (zI (i + 1))), (1, .int (zI (g + 0))), (0, .ref (β 0))]) hx hb dX10_allSinks_27 hl rfl rfl (by decide) rfl (fun ls hl => ?_)
        refine lv_goto (tgt := 4) hx hb dX10_allSinks_30 (by decide) ?_
        exact ih_4 (g + 0) (i + 1) _ _ hP hD hS _ (lv_sub hl [1, 0, 2] rfl) (by first | assumption | rfl | omega) (by rw [zC_up hi.1, ← hg]; first | (rw [z1_t (decide_eq_true (hv13_0.symm.trans c_17))]; done) | (rw [z1_f (decide_eq_false (fun h9 => c_17 (hv13_0.trans h9)))]; omega)) (by first | assumption | rfl | omega) (by omega)
      · refine lv_iconst (v := zI 1) hx hb dX10_allSinks_20 rfl ?_
        refine lv_goto (tgt := 25) hx hb dX10_allSinks_21 (by decide) ?_
        refine z_iadd hx hb dX10_allSinks_25 ?_
        refine lv_istore_n (lv' := [(1, .int (zI (g + 1))), (2, .int (zI i)), (0, .ref (β 0))]) hx hb dX10_allSinks_26 rfl hl (by decide) rfl (fun ls hl => ?_)
        refine z_iinc (k := 1) (v := i + 1) (lv' := [(2, .int (zI (i + 1))), (1, .int (zI (g + 1))), (0, .ref (β 0))]) hx hb dX10_allSinks_27 hl rfl rfl (by decide) rfl (fun ls hl => ?_)
        refine lv_goto (tgt := 4) hx hb dX10_allSinks_30 (by decide) ?_
        exact ih_4 (g + 1) (i + 1) _ _ hP hD hS _ (lv_sub hl [1, 0, 2] rfl) (by first | assumption | rfl | omega) (by rw [zC_up hi.1, ← hg]; first | (rw [z1_t (decide_eq_true (hv13_0.symm.trans c_17))]; done) | (rw [z1_f (decide_eq_false (fun h9 => c_17 (hv13_0.trans h9)))]; omega)) (by first | assumption | rfl | omega) (by omega)

abbrev wz_X10_sinks : List Cond := .code yX10_sinks cX10_sinks 1 (some .int) :: W0
abbrev rm_X10_sinks : Room := { frames := 5, cells := 0, slots := 0, locals := 113 }
theorem hd_X10_sinks : yX10_sinks.cls = RX10 ∧ yX10_sinks.cls ≠ "java/lang/invoke/MethodHandle" ∧ yX10_sinks.cls ≠ "java/lang/invoke/VarHandle" ∧ (parseMethodDescriptor yX10_sinks.desc).map (fun d => d.parameters.length) = some 0 := by decide +kernel
set_option maxHeartbeats 4000000 in
set_option maxRecDepth 100000 in
theorem c_X10_sinks (l : Launch) (D : va_G) (τ : Nat → Nat) (β : Nat → Nat) (δ : Nat → ClassId) (ms : IA) (mb : IA) (mo : IA) (mp : BA) (mf : IA) (mn : IA) (mi : IA) (mc : IA) (mq : BA) (mr : IA) (mw : IA) (mk : Int) (ml : Int) (mt : Int) (ma : Int) (mx : Bool) (mh : Int64) (hms : ∀ k, 0 ≤ k → k < 49 → 0 ≤ ms k ∧ ms k ≤ 99) : cM l yX10_sinks wz_X10_sinks rm_X10_sinks D τ (tyM δ) [.ref (β 0)] (wM β δ ms mb mo mp mf mn mi mc mq mr mw mk ml mt ma mx mh) (zQi (fun r w => ∃ (v : Int), (v = zC (fun k => decide (S_next ms k = -1)) 49) ∧ (0 ≤ v ∧ v ≤ 49) ∧ r = zI v ∧ wM β δ ms mb mo mp mf mn mi mc mq mr mw mk ml 0 ma mx mh = w)) := by
  refine z_ofM (cc := cX10_sinks) (maxL := 1) (ret := (some .int)) (by decide +kernel) rfl (Nat.le_of_ble_eq_true rfl) ?_
  intro pg e s m args below meth c hC hr hlk hnm hK hP A hD hG hA hS ls hl Q hQ
  have hx := hC.1
  have hb := hC.2.1
  have hml := hC.2.2.1
  have hown := hC.2.2.2.1
  have hts := hC.2.2.2.2
  have hB : ∀ w ∈ W0, w ∈ wz_X10_sinks := fun _ h => List.mem_cons_of_mem _ h
  have hW0 : ∀ w ∈ W0, w.before args s = true := fun w h => hts w (hB w h)
  have hl : lv_has ls 1 [(0, .ref (β 0))] := hl
  refine lv_aload_n hx hb dX10_sinks_0 rfl (lv_at hl 0 rfl) ?_
  refine lv_iconst (v := zI 0) hx hb dX10_sinks_1 rfl ?_
  refine va_put (D := D) (ci := 10) (v := .int (zI 0)) (ty := .int) (C := RX10) (T := TX10) (N := 17) hx hb hts (fun w h => List.mem_cons_of_mem _ (wx_X10 w h)) tyX10 tyX10_ok nmX10 hown hK hP hD hS 0 rfl rfl 7 (by decide) (hW0 _ wf_X10_44) (fun _ h9 => h9) rfl (by decide +kernel) rfl rfl (Nat.le_of_ble_eq_true rfl) dX10_sinks_2 (fun H locs hP hD hS => ?_)
  have hP : va_P D vwCl (wM β δ ms mb mo mp mf mn mi mc mq mr mw mk ml 0 ma mx mh) H := hP
  have hD : va_D A (wM β δ ms mb mo mp mf mn mi mc mq mr mw mk ml 0 ma mx mh) := hD
  refine lv_aload_n hx hb dX10_sinks_5 rfl (lv_at hl 0 rfl) ?_
  refine z_calli hP hD hS hA (va_runV (As := []) (rest := []) hC (c_X10_allSinks l D τ β δ ms mb mo mp mf mn mi mc mq mr mw mk ml 0 ma mx mh (by first | assumption | rfl | omega) _) (cwV 0 hts (gV hB wl_X10_196 wn_X10_allSinks ws_X10_allSinks wi_X10 wc_X10_allSinks) rfl rfl rfl hd_X10_allSinks ⟨Nat.le_of_ble_eq_true rfl, Nat.le_of_ble_eq_true rfl⟩) (zp_V hK hP hD hS hA hG (ci := 10) (q0 := 0) rfl rfl rfl) rfl rfl hl.1 rfl (lv_room (Nat.le_of_ble_eq_true rfl)) dX10_sinks_6 ⟨Nat.le_of_ble_eq_true rfl, Nat.le_of_ble_eq_true rfl⟩) (fun r w1 H locs hq9 hP hD hS => ?_)
  obtain ⟨v6_1, hv6_0, hv6_1, rfl, rfl⟩ := hq9
  have hP : va_P D vwCl (wM β δ ms mb mo mp mf mn mi mc mq mr mw mk ml 0 ma mx mh) H := hP
  have hD : va_D A (wM β δ ms mb mo mp mf mn mi mc mq mr mw mk ml 0 ma mx mh) := hD
  exact z_iret hC hr hlk hQ hP hD hS ⟨v6_1, (by first | assumption | rfl | omega), (by first | assumption | rfl | omega), rfl, rfl⟩ dX10_sinks_9

abbrev wz_X10_greatest : List Cond := .code yX10_greatest cX10_greatest 5 (some .int) :: W0
abbrev rm_X10_greatest : Room := { frames := 6, cells := 0, slots := 0, locals := 136 }
theorem hd_X10_greatest : yX10_greatest.cls = RX10 ∧ yX10_greatest.cls ≠ "java/lang/invoke/MethodHandle" ∧ yX10_greatest.cls ≠ "java/lang/invoke/VarHandle" ∧ (parseMethodDescriptor yX10_greatest.desc).map (fun d => d.parameters.length) = some 0 := by decide +kernel
set_option maxHeartbeats 4000000 in
set_option maxRecDepth 100000 in
theorem c_X10_greatest (l : Launch) (D : va_G) (τ : Nat → Nat) (β : Nat → Nat) (δ : Nat → ClassId) (ms : IA) (mb : IA) (mo : IA) (mp : BA) (mf : IA) (mn : IA) (mi : IA) (mc : IA) (mq : BA) (mr : IA) (mw : IA) (mk : Int) (ml : Int) (mt : Int) (ma : Int) (mx : Bool) (mh : Int64) (hms : ∀ k, 0 ≤ k → k < 49 → 0 ≤ ms k ∧ ms k ≤ 99) : cM l yX10_greatest wz_X10_greatest rm_X10_greatest D τ (tyM δ) [.ref (β 0)] (wM β δ ms mb mo mp mf mn mi mc mq mr mw mk ml mt ma mx mh) (zQi (fun r w => ∃ (v : Int), (v = S_arg (S_basin ms) 49) ∧ (0 ≤ v ∧ v < 49) ∧ r = zI v ∧ wM β δ ms mb mo mp mf mn mi mc mq mr mw mk ml mt ma mx mh = w)) := by
  refine z_ofM (cc := cX10_greatest) (maxL := 5) (ret := (some .int)) (by decide +kernel) rfl (Nat.le_of_ble_eq_true rfl) ?_
  intro pg e s m args below meth c hC hr hlk hnm hK hP A hD hG hA hS ls hl Q hQ
  have hx := hC.1
  have hb := hC.2.1
  have hml := hC.2.2.1
  have hown := hC.2.2.2.1
  have hts := hC.2.2.2.2
  have hB : ∀ w ∈ W0, w ∈ wz_X10_greatest := fun _ h => List.mem_cons_of_mem _ h
  have hW0 : ∀ w ∈ W0, w.before args s = true := fun w h => hts w (hB w h)
  have hl : lv_has ls 5 [(0, .ref (β 0))] := hl
  refine lv_iconst (v := zI 0) hx hb dX10_greatest_0 rfl ?_
  refine lv_istore_n (lv' := [(1, .int (zI 0)), (0, .ref (β 0))]) hx hb dX10_greatest_1 rfl hl (by decide) rfl (fun ls hl => ?_)
  refine lv_iconst (v := zI 0) hx hb dX10_greatest_2 rfl ?_
  refine lv_istore_n (lv' := [(2, .int (zI 0)), (1, .int (zI 0)), (0, .ref (β 0))]) hx hb dX10_greatest_3 rfl hl (by decide) rfl (fun ls hl => ?_)
  refine lv_iconst (v := zI 0) hx hb dX10_greatest_4 rfl ?_
  refine lv_istore_n (lv' := [(3, .int (zI 0)), (2, .int (zI 0)), (1, .int (zI 0)), (0, .ref (β 0))]) hx hb dX10_greatest_5 rfl hl (by decide) rfl (fun ls hl => ?_)
  suffices HL_6 : ∀ (n_6 : Nat), ∀ (q : Int) (mo : Int) (i : Int) (H : Heap) (locs : List Loc) (hP : va_P D vwCl (wM β δ ms mb mo mp mf mn mi mc mq mr mw mk ml mt ma mx mh) H) (hD : va_D A (wM β δ ms mb mo mp mf mn mi mc mq mr mw mk ml mt ma mx mh)) (hS : va_S A s.heap H locs) (ls : Array Slot) (hl : lv_has ls 5 [(1, .int (zI q)), (2, .int (zI mo)), (3, .int (zI i)), (0, .ref (β 0))]) (hi : 0 ≤ i ∧ i ≤ 49) (hq : q = S_arg (S_basin ms) i) (hqb : 0 ≤ q ∧ q < 49) (hmo : (i = 0 ∧ mo ≤ S_basin ms 0 ∧ (S_basin ms 0 ≤ mo → mo = S_basin ms 0)) ∨ (1 ≤ i ∧ mo = S_basin ms q)) (hmb : -1 ≤ mo ∧ mo ≤ 49) (hm : (49 - i).toNat < n_6), W pg l e rm_X10_greatest s m args below meth c H locs 0 0 Q (F0 m 6 ls []) from HL_6 _ 0 0 0 _ _ hP hD hS _ (lv_sub hl [2, 1, 0, 3] rfl) (by first | assumption | rfl | omega) (by exact (S_arg_0 _).symm) (by first | assumption | rfl | omega) (by have z9 := S_basin_b ms 0; exact Or.inl ⟨rfl, by omega, fun _ => by omega⟩) (by first | assumption | rfl | omega) (Nat.lt_succ_self _)
  intro n_6
  induction n_6 with
  | zero => intro q mo i H locs hP hD hS ls hl hi hq hqb hmo hmb hm; exact absurd hm (Nat.not_lt_zero _)
  | succ n_6 ih_6 =>
    intro q mo i H locs hP hD hS ls hl hi hq hqb hmo hmb hm
    refine lv_iload_n hx hb dX10_greatest_6 rfl (lv_at hl 2 rfl) ?_
    refine lv_bipush (v := zI 49) hx hb dX10_greatest_7 (zI_b8 (by decide)) ?_
    refine z_icge (tgt := 50) hx hb ⟨by omega, by omega⟩ ⟨by omega, by omega⟩ dX10_greatest_9 (by decide) (fun c_9 => ?_) (fun c_9 => ?_)
    · refine lv_iload_n hx hb dX10_greatest_50 rfl (lv_at hl 0 rfl) ?_
      exact z_iret hC hr hlk hQ hP hD hS ⟨q, (by rw [hq, show i = 49 by omega]), (by omega), rfl, rfl⟩ dX10_greatest_51
    · refine lv_aload_n hx hb dX10_greatest_12 rfl (lv_at hl 3 rfl) ?_
      refine lv_iload_n hx hb dX10_greatest_13 rfl (lv_at hl 2 rfl) ?_
      refine z_calli hP hD hS hA (va_runV (As := [.int (zI i)]) (rest := []) hC (c_X10_basin l D τ β δ ms mb mo mp mf mn mi mc mq mr mw mk ml mt ma mx mh i (by first | assumption | rfl | omega) (by first | assumption | rfl | omega) _) (cwV 1 hts (gV hB wl_X10_190 wn_X10_basin ws_X10_basin wi_X10 wc_X10_basin) rfl rfl rfl hd_X10_basin ⟨Nat.le_of_ble_eq_true rfl, Nat.le_of_ble_eq_true rfl⟩) (zp_V hK hP hD hS hA hG (ci := 10) (q0 := 0) rfl rfl rfl) rfl rfl hl.1 rfl (lv_room (Nat.le_of_ble_eq_true rfl)) dX10_greatest_14 ⟨Nat.le_of_ble_eq_true rfl, Nat.le_of_ble_eq_true rfl⟩) (fun r w1 H locs hq9 hP hD hS => ?_)
      obtain ⟨v14_1, hv14_0, hv14_1, rfl, rfl⟩ := hq9
      have hP : va_P D vwCl (wM β δ ms mb mo mp mf mn mi mc mq mr mw mk ml mt ma mx mh) H := hP
      have hD : va_D A (wM β δ ms mb mo mp mf mn mi mc mq mr mw mk ml mt ma mx mh) := hD
      have hup := arg_up (f := S_basin ms) hi.1 hq hmo
      refine lv_istore (lv' := [(4, .int (zI v14_1)), (1, .int (zI q)), (2, .int (zI mo)), (3, .int (zI i)), (0, .ref (β 0))]) hx hb dX10_greatest_17 hl (by decide) rfl (fun ls hl => ?_)
      refine lv_iload hx hb dX10_greatest_19 (lv_at hl 0 rfl) ?_
      refine lv_iload_n hx hb dX10_greatest_21 rfl (lv_at hl 2 rfl) ?_
      refine z_icle (tgt := 29) hx hb ⟨by omega, by omega⟩ ⟨by omega, by omega⟩ dX10_greatest_22 (by decide) (fun c_22 => ?_) (fun c_22 => ?_)
      · refine lv_iload_n hx hb dX10_greatest_29 rfl (lv_at hl 1 rfl) ?_
        refine lv_istore_n (lv' := [(1, .int (zI q)), (4, .int (zI v14_1)), (2, .int (zI mo)), (3, .int (zI i)), (0, .ref (β 0))]) hx hb dX10_greatest_30 rfl hl (by decide) rfl (fun ls hl => ?_)
        refine lv_iload hx hb dX10_greatest_31 (lv_at hl 1 rfl) ?_
        refine lv_iload_n hx hb dX10_greatest_33 rfl (lv_at hl 2 rfl) ?_
        refine z_icle (tgt := 42) hx hb ⟨by omega, by omega⟩ ⟨by omega, by omega⟩ dX10_greatest_34 (by decide) (fun c_34 => ?_) (fun c_34 => ?_)
        · have h34 := c_34
          refine lv_iload_n hx hb dX10_greatest_42 rfl (lv_at hl 2 rfl) ?_
          refine lv_istore_n (lv' := [(2, .int (zI mo)), (1, .int (zI q)), (4, .int (zI v14_1)), (3, .int (zI i)), (0, .ref (β 0))]) hx hb dX10_greatest_43 rfl hl (by decide) rfl (fun ls hl => ?_)
          refine z_iinc (k := 3) (v := i + 1) (lv' := [(3, .int (zI (i + 1))), (2, .int (zI mo)), (1, .int (zI q)), (4, .int (zI v14_1)), (0, .ref (β 0))]) hx hb dX10_greatest_44 hl rfl rfl (by decide) rfl (fun ls hl => ?_)
          refine lv_goto (tgt := 6) hx hb dX10_greatest_47 (by decide) ?_
          exact ih_6 q mo (i + 1) _ _ hP hD hS _ (lv_sub hl [2, 1, 0, 4] rfl) (by first | assumption | rfl | omega) (by rw [hv14_0] at c_22; first | exact (hup.1 c_22).1 | exact (hup.2 (Int.not_lt.mpr c_22)).1) (by first | assumption | rfl | omega) (by refine Or.inr ⟨by omega, ?_⟩; first | exact hv14_0 | (rw [hv14_0] at c_22; exact (hup.2 (Int.not_lt.mpr c_22)).2)) (by first | assumption | rfl | omega) (by omega)
        · have h34 := c_34
          refine lv_iload hx hb dX10_greatest_37 (lv_at hl 1 rfl) ?_
          refine lv_goto (tgt := 43) hx hb dX10_greatest_39 (by decide) ?_
          refine lv_istore_n (lv' := [(2, .int (zI v14_1)), (1, .int (zI q)), (4, .int (zI v14_1)), (3, .int (zI i)), (0, .ref (β 0))]) hx hb dX10_greatest_43 rfl hl (by decide) rfl (fun ls hl => ?_)
          refine z_iinc (k := 3) (v := i + 1) (lv' := [(3, .int (zI (i + 1))), (2, .int (zI v14_1)), (1, .int (zI q)), (4, .int (zI v14_1)), (0, .ref (β 0))]) hx hb dX10_greatest_44 hl rfl rfl (by decide) rfl (fun ls hl => ?_)
          refine lv_goto (tgt := 6) hx hb dX10_greatest_47 (by decide) ?_
          exact ih_6 q v14_1 (i + 1) _ _ hP hD hS _ (lv_sub hl [2, 1, 0, 4] rfl) (by first | assumption | rfl | omega) (by rw [hv14_0] at c_22; first | exact (hup.1 c_22).1 | exact (hup.2 (Int.not_lt.mpr c_22)).1) (by first | assumption | rfl | omega) (by refine Or.inr ⟨by omega, ?_⟩; first | exact hv14_0 | (rw [hv14_0] at c_22; exact (hup.2 (Int.not_lt.mpr c_22)).2)) (by first | assumption | rfl | omega) (by omega)
      · refine lv_iload_n hx hb dX10_greatest_25 rfl (lv_at hl 3 rfl) ?_
        refine lv_goto (tgt := 30) hx hb dX10_greatest_26 (by decide) ?_
        refine lv_istore_n (lv' := [(1, .int (zI i)), (4, .int (zI v14_1)), (2, .int (zI mo)), (3, .int (zI i)), (0, .ref (β 0))]) hx hb dX10_greatest_30 rfl hl (by decide) rfl (fun ls hl => ?_)
        refine lv_iload hx hb dX10_greatest_31 (lv_at hl 1 rfl) ?_
        refine lv_iload_n hx hb dX10_greatest_33 rfl (lv_at hl 2 rfl) ?_
        refine z_icle (tgt := 42) hx hb ⟨by omega, by omega⟩ ⟨by omega, by omega⟩ dX10_greatest_34 (by decide) (fun c_34 => ?_) (fun c_34 => ?_)
        · have h34 := c_34
          refine lv_iload_n hx hb dX10_greatest_42 rfl (lv_at hl 2 rfl) ?_
          refine lv_istore_n (lv' := [(2, .int (zI mo)), (1, .int (zI i)), (4, .int (zI v14_1)), (3, .int (zI i)), (0, .ref (β 0))]) hx hb dX10_greatest_43 rfl hl (by decide) rfl (fun ls hl => ?_)
          refine z_iinc (k := 3) (v := i + 1) (lv' := [(3, .int (zI (i + 1))), (2, .int (zI mo)), (1, .int (zI i)), (4, .int (zI v14_1)), (0, .ref (β 0))]) hx hb dX10_greatest_44 hl rfl rfl (by decide) rfl (fun ls hl => ?_)
          refine lv_goto (tgt := 6) hx hb dX10_greatest_47 (by decide) ?_
          exact ih_6 i mo (i + 1) _ _ hP hD hS _ (lv_sub hl [2, 1, 0, 4] rfl) (by first | assumption | rfl | omega) (by rw [hv14_0] at c_22; first | exact (hup.1 c_22).1 | exact (hup.2 (Int.not_lt.mpr c_22)).1) (by first | assumption | rfl | omega) (by refine Or.inr ⟨by omega, ?_⟩; first | exact hv14_0 | (rw [hv14_0] at c_22; exact (hup.2 (Int.not_lt.mpr c_22)).2)) (by first | assumption | rfl | omega) (by omega)
        · have h34 := c_34
          refine lv_iload hx hb dX10_greatest_37 (lv_at hl 1 rfl) ?_
          refine lv_goto (tgt := 43) hx hb dX10_greatest_39 (by decide) ?_
          refine lv_istore_n (lv' := [(2, .int (zI v14_1)), (1, .int (zI i)), (4, .int (zI v14_1)), (3, .int (zI i)), (0, .ref (β 0))]) hx hb dX10_greatest_43 rfl hl (by decide) rfl (fun ls hl => ?_)
          refine z_iinc (k := 3) (v := i + 1) (lv' := [(3, .int (zI (i + 1))), (2, .int (zI v14_1)), (1, .int (zI i)), (4, .int (zI v14_1)), (0, .ref (β 0))]) hx hb dX10_greatest_44 hl rfl rfl (by decide) rfl (fun ls hl => ?_)
          refine lv_goto (tgt := 6) hx hb dX10_greatest_47 (by decide) ?_
          exact ih_6 i v14_1 (i + 1) _ _ hP hD hS _ (lv_sub hl [2, 1, 0, 4] rfl) (by first | assumption | rfl | omega) (by rw [hv14_0] at c_22; first | exact (hup.1 c_22).1 | exact (hup.2 (Int.not_lt.mpr c_22)).1) (by first | assumption | rfl | omega) (by refine Or.inr ⟨by omega, ?_⟩; first | exact hv14_0 | (rw [hv14_0] at c_22; exact (hup.2 (Int.not_lt.mpr c_22)).2)) (by first | assumption | rfl | omega) (by omega)

abbrev wz_X10_greatestBasin : List Cond := .code yX10_greatestBasin cX10_greatestBasin 1 (some .int) :: W0
abbrev rm_X10_greatestBasin : Room := { frames := 7, cells := 0, slots := 0, locals := 160 }
theorem hd_X10_greatestBasin : yX10_greatestBasin.cls = RX10 ∧ yX10_greatestBasin.cls ≠ "java/lang/invoke/MethodHandle" ∧ yX10_greatestBasin.cls ≠ "java/lang/invoke/VarHandle" ∧ (parseMethodDescriptor yX10_greatestBasin.desc).map (fun d => d.parameters.length) = some 0 := by decide +kernel
set_option maxHeartbeats 4000000 in
set_option maxRecDepth 100000 in
theorem c_X10_greatestBasin (l : Launch) (D : va_G) (τ : Nat → Nat) (β : Nat → Nat) (δ : Nat → ClassId) (ms : IA) (mb : IA) (mo : IA) (mp : BA) (mf : IA) (mn : IA) (mi : IA) (mc : IA) (mq : BA) (mr : IA) (mw : IA) (mk : Int) (ml : Int) (mt : Int) (ma : Int) (mx : Bool) (mh : Int64) (hms : ∀ k, 0 ≤ k → k < 49 → 0 ≤ ms k ∧ ms k ≤ 99) : cM l yX10_greatestBasin wz_X10_greatestBasin rm_X10_greatestBasin D τ (tyM δ) [.ref (β 0)] (wM β δ ms mb mo mp mf mn mi mc mq mr mw mk ml mt ma mx mh) (zQi (fun r w => ∃ (v : Int), (v = S_arg (S_basin ms) 49) ∧ (0 ≤ v ∧ v < 49) ∧ r = zI v ∧ wM β δ ms mb mo mp mf mn mi mc mq mr mw mk ml 0 ma mx mh = w)) := by
  refine z_ofM (cc := cX10_greatestBasin) (maxL := 1) (ret := (some .int)) (by decide +kernel) rfl (Nat.le_of_ble_eq_true rfl) ?_
  intro pg e s m args below meth c hC hr hlk hnm hK hP A hD hG hA hS ls hl Q hQ
  have hx := hC.1
  have hb := hC.2.1
  have hml := hC.2.2.1
  have hown := hC.2.2.2.1
  have hts := hC.2.2.2.2
  have hB : ∀ w ∈ W0, w ∈ wz_X10_greatestBasin := fun _ h => List.mem_cons_of_mem _ h
  have hW0 : ∀ w ∈ W0, w.before args s = true := fun w h => hts w (hB w h)
  have hl : lv_has ls 1 [(0, .ref (β 0))] := hl
  refine lv_aload_n hx hb dX10_greatestBasin_0 rfl (lv_at hl 0 rfl) ?_
  refine lv_iconst (v := zI 0) hx hb dX10_greatestBasin_1 rfl ?_
  refine va_put (D := D) (ci := 10) (v := .int (zI 0)) (ty := .int) (C := RX10) (T := TX10) (N := 17) hx hb hts (fun w h => List.mem_cons_of_mem _ (wx_X10 w h)) tyX10 tyX10_ok nmX10 hown hK hP hD hS 0 rfl rfl 7 (by decide) (hW0 _ wf_X10_44) (fun _ h9 => h9) rfl (by decide +kernel) rfl rfl (Nat.le_of_ble_eq_true rfl) dX10_greatestBasin_2 (fun H locs hP hD hS => ?_)
  have hP : va_P D vwCl (wM β δ ms mb mo mp mf mn mi mc mq mr mw mk ml 0 ma mx mh) H := hP
  have hD : va_D A (wM β δ ms mb mo mp mf mn mi mc mq mr mw mk ml 0 ma mx mh) := hD
  refine lv_aload_n hx hb dX10_greatestBasin_5 rfl (lv_at hl 0 rfl) ?_
  refine z_calli hP hD hS hA (va_runV (As := []) (rest := []) hC (c_X10_greatest l D τ β δ ms mb mo mp mf mn mi mc mq mr mw mk ml 0 ma mx mh (by first | assumption | rfl | omega) _) (cwV 0 hts (gV hB wl_X10_199 wn_X10_greatest ws_X10_greatest wi_X10 wc_X10_greatest) rfl rfl rfl hd_X10_greatest ⟨Nat.le_of_ble_eq_true rfl, Nat.le_of_ble_eq_true rfl⟩) (zp_V hK hP hD hS hA hG (ci := 10) (q0 := 0) rfl rfl rfl) rfl rfl hl.1 rfl (lv_room (Nat.le_of_ble_eq_true rfl)) dX10_greatestBasin_6 ⟨Nat.le_of_ble_eq_true rfl, Nat.le_of_ble_eq_true rfl⟩) (fun r w1 H locs hq9 hP hD hS => ?_)
  obtain ⟨v6_1, hv6_0, hv6_1, rfl, rfl⟩ := hq9
  have hP : va_P D vwCl (wM β δ ms mb mo mp mf mn mi mc mq mr mw mk ml 0 ma mx mh) H := hP
  have hD : va_D A (wM β δ ms mb mo mp mf mn mi mc mq mr mw mk ml 0 ma mx mh) := hD
  exact z_iret hC hr hlk hQ hP hD hS ⟨v6_1, (by first | assumption | rfl | omega), (by first | assumption | rfl | omega), rfl, rfl⟩ dX10_greatestBasin_9

abbrev wz_X10_regions : List Cond := .code yX10_regions cX10_regions 8 (some .int) :: W0
abbrev rm_X10_regions : Room := { frames := 1, cells := 0, slots := 0, locals := 20 }
theorem hd_X10_regions : yX10_regions.cls = RX10 ∧ yX10_regions.cls ≠ "java/lang/invoke/MethodHandle" ∧ yX10_regions.cls ≠ "java/lang/invoke/VarHandle" ∧ (parseMethodDescriptor yX10_regions.desc).map (fun d => d.parameters.length) = some 1 := by decide +kernel
set_option maxHeartbeats 4000000 in
set_option maxRecDepth 100000 in
theorem c_X10_regions (l : Launch) (D : va_G) (τ : Nat → Nat) (β : Nat → Nat) (δ : Nat → ClassId) (ms : IA) (mb : IA) (mo : IA) (mp : BA) (mf : IA) (mn : IA) (mi : IA) (mc : IA) (mq : BA) (mr : IA) (mw : IA) (mk : Int) (ml : Int) (mt : Int) (ma : Int) (mx : Bool) (mh : Int64) (mk9 : BA) (bc : Bool) (hr0 : ∀ k, 0 ≤ k → k < 49 → mr k = (if mk9 k = true then k else -1)) : cM l yX10_regions wz_X10_regions rm_X10_regions D τ (tyM δ) [.ref (β 0), .int (bI bc)] (wM β δ ms mb mo mp mf mn mi mc mq mr mw mk ml mt ma mx mh) (zQi (fun r w => ∃ (r2 : IA), ∃ (v : Int), (v = S_comps (S_nb bc) mk9) ∧ (0 ≤ v ∧ v ≤ 49) ∧ r = zI v ∧ wM β δ ms mb mo mp mf mn mi mc mq r2 mw mk ml mt ma mx mh = w)) := by
  refine z_ofM (cc := cX10_regions) (maxL := 8) (ret := (some .int)) (by decide +kernel) rfl (Nat.le_of_ble_eq_true rfl) ?_
  intro pg e s m args below meth c hC hr hlk hnm hK hP A hD hG hA hS ls hl Q hQ
  have hx := hC.1
  have hb := hC.2.1
  have hml := hC.2.2.1
  have hown := hC.2.2.2.1
  have hts := hC.2.2.2.2
  have hB : ∀ w ∈ W0, w ∈ wz_X10_regions := fun _ h => List.mem_cons_of_mem _ h
  have hW0 : ∀ w ∈ W0, w.before args s = true := fun w h => hts w (hB w h)
  have hl : lv_has ls 8 [(0, .ref (β 0)), (1, .int (bI bc))] := hl
  have hn9 := S_nb_or bc
  refine lv_iconst (v := zI 1) hx hb dX10_regions_0 rfl ?_
  refine lv_istore_n (lv' := [(2, .int (zI 1)), (0, .ref (β 0)), (1, .int (bI bc))]) hx hb dX10_regions_1 rfl hl (by decide) rfl (fun ls hl => ?_)
  suffices HL_2 : ∀ (n_2 : Nat), ∀ (w3 : IA) (c8 : Int) (H : Heap) (locs : List Loc) (hP : va_P D vwCl (wM β δ ms mb mo mp mf mn mi mc mq w3 mw mk ml mt ma mx mh) H) (hD : va_D A (wM β δ ms mb mo mp mf mn mi mc mq w3 mw mk ml mt ma mx mh)) (hS : va_S A s.heap H locs) (ls : Array Slot) (hl : lv_has ls 8 [(2, .int (zI c8)), (0, .ref (β 0)), (1, .int (bI bc))]) (hc8 : c8 = 0 ∨ c8 = 1) (hI : RGI (S_nb bc) mk9 w3) (hO : c8 = 0 → RGO (S_nb bc) mk9 w3 49) (hm : (2 * (zS w3 49 + 49) + c8).toNat < n_2), W pg l e rm_X10_regions s m args below meth c H locs 0 0 Q (F0 m 2 ls []) from HL_2 _ mr 1 _ _ hP hD hS _ (lv_sub hl [0, 1, 2] rfl) (by first | assumption | rfl | omega) (by exact RGI_0 hr0) (by intro h9; exact absurd h9 (by decide)) (Nat.lt_succ_self _)
  intro n_2
  induction n_2 with
  | zero => intro w3 c8 H locs hP hD hS ls hl hc8 hI hO hm; exact absurd hm (Nat.not_lt_zero _)
  | succ n_2 ih_2 =>
    intro w3 c8 H locs hP hD hS ls hl hc8 hI hO hm
    refine lv_iload_n hx hb dX10_regions_2 rfl (lv_at hl 0 rfl) ?_
    refine z_ifeq (tgt := 160) hx hb ⟨by omega, by omega⟩ dX10_regions_3 (by decide) (fun c_3 => ?_) (fun c_3 => ?_)
    · refine lv_iconst (v := zI 0) hx hb dX10_regions_160 rfl ?_
      refine lv_istore_n (lv' := [(3, .int (zI 0)), (2, .int (zI c8)), (0, .ref (β 0)), (1, .int (bI bc))]) hx hb dX10_regions_161 rfl hl (by decide) rfl (fun ls hl => ?_)
      refine lv_iconst (v := zI 0) hx hb dX10_regions_162 rfl ?_
      refine lv_istore (lv' := [(4, .int (zI 0)), (3, .int (zI 0)), (2, .int (zI c8)), (0, .ref (β 0)), (1, .int (bI bc))]) hx hb dX10_regions_163 hl (by decide) rfl (fun ls hl => ?_)
      suffices HL_165 : ∀ (n_165 : Nat), ∀ (g : Int) (k9 : Int) (H : Heap) (locs : List Loc) (hP : va_P D vwCl (wM β δ ms mb mo mp mf mn mi mc mq w3 mw mk ml mt ma mx mh) H) (hD : va_D A (wM β δ ms mb mo mp mf mn mi mc mq w3 mw mk ml mt ma mx mh)) (hS : va_S A s.heap H locs) (ls : Array Slot) (hl : lv_has ls 8 [(3, .int (zI g)), (4, .int (zI k9)), (0, .ref (β 0)), (1, .int (bI bc))]) (hk : 0 ≤ k9 ∧ k9 ≤ 49) (hg : g = zC (fun k => decide (w3 k = k)) k9) (hgb : 0 ≤ g ∧ g ≤ k9) (hm : (49 - k9).toNat < n_165), W pg l e rm_X10_regions s m args below meth c H locs 0 0 Q (F0 m 165 ls []) from HL_165 _ 0 0 _ _ hP hD hS _ (lv_sub hl [1, 0, 3, 4] rfl) (by first | assumption | rfl | omega) (by exact (zC_0 _).symm) (by first | assumption | rfl | omega) (Nat.lt_succ_self _)
      intro n_165
      induction n_165 with
      | zero => intro g k9 H locs hP hD hS ls hl hk hg hgb hm; exact absurd hm (Nat.not_lt_zero _)
      | succ n_165 ih_165 =>
        intro g k9 H locs hP hD hS ls hl hk hg hgb hm
        have hrb := RGI_b hI
        refine lv_iload hx hb dX10_regions_165 (lv_at hl 1 rfl) ?_
        refine lv_bipush (v := zI 49) hx hb dX10_regions_167 (zI_b8 (by decide)) ?_
        refine z_icge (tgt := 198) hx hb ⟨by omega, by omega⟩ ⟨by omega, by omega⟩ dX10_regions_169 (by decide) (fun c_169 => ?_) (fun c_169 => ?_)
        · refine lv_iload_n hx hb dX10_regions_198 rfl (lv_at hl 0 rfl) ?_
          exact z_iret hC hr hlk hQ hP hD hS ⟨w3, g, (by rw [hg, show k9 = 49 by omega]; exact RG_end hn9 hI (hO (by omega))), (by omega), rfl, rfl⟩ dX10_regions_199
        · refine lv_iload_n hx hb dX10_regions_172 rfl (lv_at hl 0 rfl) ?_
          refine lv_aload_n hx hb dX10_regions_173 rfl (lv_at hl 2 rfl) ?_
          refine va_get (D := D) (ci := 10) (v := .ref (β 10)) (C := RX10) (T := TX10) (N := 17) hx hb hts (fun w h => List.mem_cons_of_mem _ (wx_X10 w h)) hown hK hP 0 rfl rfl 14 (by decide) (hW0 _ wf_X10_38) (fun _ h9 => h9) rfl dX10_regions_174 ?_
          refine lv_iload hx hb dX10_regions_177 (lv_at hl 1 rfl) ?_
          refine z_iald (f := w3) hx hb hK hP 10 9 rfl rfl ⟨⟨by omega, by omega⟩, by decide⟩ dX10_regions_179 ?_
          have hb_179 := hrb k9 (by omega) (by omega)
          refine lv_iload hx hb dX10_regions_180 (lv_at hl 1 rfl) ?_
          refine z_icne (tgt := 189) hx hb ⟨by omega, by omega⟩ ⟨by omega, by omega⟩ dX10_regions_182 (by decide) (fun c_182 => ?_) (fun c_182 => ?_)
          · refine lv_iconst (v := zI 0) hx hb dX10_regions_189 rfl ?_
            refine z_iadd hx hb dX10_regions_190 ?_
            refine lv_istore_n (lv' := [(3, .int (zI (g + 0))), (4, .int (zI k9)), (0, .ref (β 0)), (1, .int (bI bc))]) hx hb dX10_regions_191 rfl hl (by decide) rfl (fun ls hl => ?_)
            refine z_iinc (k := 1) (v := k9 + 1) (lv' := [(4, .int (zI (k9 + 1))), (3, .int (zI (g + 0))), (0, .ref (β 0)), (1, .int (bI bc))]) hx hb dX10_regions_192 hl rfl rfl (by decide) rfl (fun ls hl => ?_)
            refine lv_goto (tgt := 165) hx hb dX10_regions_195 (by decide) ?_
            exact ih_165 (g + 0) (k9 + 1) _ _ hP hD hS _ (lv_sub hl [1, 0, 2, 3] rfl) (by first | assumption | rfl | omega) (by rw [zC_up hk.1, ← hg]; first | (rw [z1_t (decide_eq_true c_182)]; done) | (rw [z1_f (decide_eq_false c_182)]; omega)) (by first | assumption | rfl | omega) (by omega)
          · refine lv_iconst (v := zI 1) hx hb dX10_regions_185 rfl ?_
            refine lv_goto (tgt := 190) hx hb dX10_regions_186 (by decide) ?_
            refine z_iadd hx hb dX10_regions_190 ?_
            refine lv_istore_n (lv' := [(3, .int (zI (g + 1))), (4, .int (zI k9)), (0, .ref (β 0)), (1, .int (bI bc))]) hx hb dX10_regions_191 rfl hl (by decide) rfl (fun ls hl => ?_)
            refine z_iinc (k := 1) (v := k9 + 1) (lv' := [(4, .int (zI (k9 + 1))), (3, .int (zI (g + 1))), (0, .ref (β 0)), (1, .int (bI bc))]) hx hb dX10_regions_192 hl rfl rfl (by decide) rfl (fun ls hl => ?_)
            refine lv_goto (tgt := 165) hx hb dX10_regions_195 (by decide) ?_
            exact ih_165 (g + 1) (k9 + 1) _ _ hP hD hS _ (lv_sub hl [1, 0, 2, 3] rfl) (by first | assumption | rfl | omega) (by rw [zC_up hk.1, ← hg]; first | (rw [z1_t (decide_eq_true c_182)]; done) | (rw [z1_f (decide_eq_false c_182)]; omega)) (by first | assumption | rfl | omega) (by omega)
    · refine lv_iconst (v := zI 0) hx hb dX10_regions_6 rfl ?_
      refine lv_istore_n (lv' := [(2, .int (zI 0)), (0, .ref (β 0)), (1, .int (bI bc))]) hx hb dX10_regions_7 rfl hl (by decide) rfl (fun ls hl => ?_)
      refine lv_iconst (v := zI 0) hx hb dX10_regions_8 rfl ?_
      refine lv_istore_n (lv' := [(3, .int (zI 0)), (2, .int (zI 0)), (0, .ref (β 0)), (1, .int (bI bc))]) hx hb dX10_regions_9 rfl hl (by decide) rfl (fun ls hl => ?_)
      suffices HL_10 : ∀ (n_10 : Nat), ∀ (w4 : IA) (c9 : Int) (i : Int) (H : Heap) (locs : List Loc) (hP : va_P D vwCl (wM β δ ms mb mo mp mf mn mi mc mq w4 mw mk ml mt ma mx mh) H) (hD : va_D A (wM β δ ms mb mo mp mf mn mi mc mq w4 mw mk ml mt ma mx mh)) (hS : va_S A s.heap H locs) (ls : Array Slot) (hl : lv_has ls 8 [(2, .int (zI c9)), (3, .int (zI i)), (0, .ref (β 0)), (1, .int (bI bc))]) (hi : 0 ≤ i ∧ i ≤ 49) (hc9 : c9 = 0 ∨ c9 = 1) (hI4 : RGI (S_nb bc) mk9 w4) (hs4 : zS w4 49 ≤ zS w3 49 - c9) (hO4 : c9 = 0 → RGO (S_nb bc) mk9 w4 i) (hm : (49 - i).toNat < n_10), W pg l e rm_X10_regions s m args below meth c H locs 0 0 Q (F0 m 10 ls []) from HL_10 _ w3 0 0 _ _ hP hD hS _ (lv_sub hl [1, 0, 2, 3] rfl) (by first | assumption | rfl | omega) (by first | assumption | rfl | omega) (by exact hI) (by first | assumption | rfl | omega) (by intro _ k j z1 z2; omega) (Nat.lt_succ_self _)
      intro n_10
      induction n_10 with
      | zero => intro w4 c9 i H locs hP hD hS ls hl hi hc9 hI4 hs4 hO4 hm; exact absurd hm (Nat.not_lt_zero _)
      | succ n_10 ih_10 =>
        intro w4 c9 i H locs hP hD hS ls hl hi hc9 hI4 hs4 hO4 hm
        refine lv_iload_n hx hb dX10_regions_10 rfl (lv_at hl 1 rfl) ?_
        refine lv_bipush (v := zI 49) hx hb dX10_regions_11 (zI_b8 (by decide)) ?_
        refine z_icge (tgt := 157) hx hb ⟨by omega, by omega⟩ ⟨by omega, by omega⟩ dX10_regions_13 (by decide) (fun c_13 => ?_) (fun c_13 => ?_)
        · refine lv_goto (tgt := 2) hx hb dX10_regions_157 (by decide) ?_
          exact ih_2 w4 c9 _ _ hP hD hS _ (lv_sub hl [0, 2, 3] rfl) (by exact hc9) (by exact hI4) (by intro h9; have z9 := hO4 h9; rw [show i = 49 by omega] at z9; exact z9) (by have z8 := RGI_sum hI; have z9 := RGI_sum hI4; omega)
        · refine lv_iconst (v := zI 0) hx hb dX10_regions_16 rfl ?_
          refine lv_istore (lv' := [(4, .int (zI 0)), (2, .int (zI c9)), (3, .int (zI i)), (0, .ref (β 0)), (1, .int (bI bc))]) hx hb dX10_regions_17 hl (by decide) rfl (fun ls hl => ?_)
          suffices HL_19 : ∀ (n_19 : Nat), ∀ (w5 : IA) (c7 : Int) (j : Int) (H : Heap) (locs : List Loc) (hP : va_P D vwCl (wM β δ ms mb mo mp mf mn mi mc mq w5 mw mk ml mt ma mx mh) H) (hD : va_D A (wM β δ ms mb mo mp mf mn mi mc mq w5 mw mk ml mt ma mx mh)) (hS : va_S A s.heap H locs) (ls : Array Slot) (hl : lv_has ls 8 [(2, .int (zI c7)), (4, .int (zI j)), (3, .int (zI i)), (0, .ref (β 0)), (1, .int (bI bc))]) (hj : 0 ≤ j ∧ j ≤ 49) (hc7 : c7 = 0 ∨ c7 = 1) (hI5 : RGI (S_nb bc) mk9 w5) (hs5 : zS w5 49 ≤ zS w3 49 - c7) (hO5 : c7 = 0 → RGO (S_nb bc) mk9 w5 i ∧ RGP (S_nb bc) mk9 w5 i j) (hm : (49 - j).toNat < n_19), W pg l e rm_X10_regions s m args below meth c H locs 0 0 Q (F0 m 19 ls []) from HL_19 _ w4 c9 0 _ _ hP hD hS _ (lv_sub hl [1, 0, 2, 3, 4] rfl) (by first | assumption | rfl | omega) (by exact hc9) (by exact hI4) (by exact hs4) (by intro h9; exact ⟨hO4 h9, fun q z1 z2 => by omega⟩) (Nat.lt_succ_self _)
          intro n_19
          induction n_19 with
          | zero => intro w5 c7 j H locs hP hD hS ls hl hj hc7 hI5 hs5 hO5 hm; exact absurd hm (Nat.not_lt_zero _)
          | succ n_19 ih_19 =>
            intro w5 c7 j H locs hP hD hS ls hl hj hc7 hI5 hs5 hO5 hm
            have hrb := RGI_b hI5
            refine lv_iload hx hb dX10_regions_19 (lv_at hl 1 rfl) ?_
            refine lv_bipush (v := zI 49) hx hb dX10_regions_21 (zI_b8 (by decide)) ?_
            refine z_icge (tgt := 151) hx hb ⟨by omega, by omega⟩ ⟨by omega, by omega⟩ dX10_regions_23 (by decide) (fun c_23 => ?_) (fun c_23 => ?_)
            · refine z_iinc (k := 2) (v := i + 1) (lv' := [(3, .int (zI (i + 1))), (2, .int (zI c7)), (4, .int (zI j)), (0, .ref (β 0)), (1, .int (bI bc))]) hx hb dX10_regions_151 hl rfl rfl (by decide) rfl (fun ls hl => ?_)
              refine lv_goto (tgt := 10) hx hb dX10_regions_154 (by decide) ?_
              exact ih_10 w5 c7 (i + 1) _ _ hP hD hS _ (lv_sub hl [1, 0, 3, 4] rfl) (by first | assumption | rfl | omega) (by exact hc7) (by exact hI5) (by exact hs5) (by intro h9 k j z1 z2 z3; by_cases e9 : k = i; (rw [e9] at z3 ⊢; first | exact (hO5 h9).2 j z3.1.2.1.1 (by have z9 := z3.1.2.1.2; omega) z3 | (exfalso; have z9 := (RGI_m hI5 ⟨hi.1, by omega⟩).mp z3.2.1; exact z9 c_33)); exact (hO5 h9).1 k j z1 (by omega) z3) (by omega)
            · refine lv_aload_n hx hb dX10_regions_26 rfl (lv_at hl 3 rfl) ?_
              refine va_get (D := D) (ci := 10) (v := .ref (β 10)) (C := RX10) (T := TX10) (N := 17) hx hb hts (fun w h => List.mem_cons_of_mem _ (wx_X10 w h)) hown hK hP 0 rfl rfl 14 (by decide) (hW0 _ wf_X10_38) (fun _ h9 => h9) rfl dX10_regions_27 ?_
              refine lv_iload_n hx hb dX10_regions_30 rfl (lv_at hl 2 rfl) ?_
              refine z_iald (f := w5) hx hb hK hP 10 9 rfl rfl ⟨⟨by omega, by omega⟩, by decide⟩ dX10_regions_31 ?_
              have hb_31 := hrb i (by omega) (by omega)
              refine lv_iconst (v := zI (-1)) hx hb dX10_regions_32 rfl ?_
              refine z_iceq (tgt := 151) hx hb ⟨by omega, by omega⟩ ⟨by omega, by omega⟩ dX10_regions_33 (by decide) (fun c_33 => ?_) (fun c_33 => ?_)
              · refine z_iinc (k := 2) (v := i + 1) (lv' := [(3, .int (zI (i + 1))), (2, .int (zI c7)), (4, .int (zI j)), (0, .ref (β 0)), (1, .int (bI bc))]) hx hb dX10_regions_151 hl rfl rfl (by decide) rfl (fun ls hl => ?_)
                refine lv_goto (tgt := 10) hx hb dX10_regions_154 (by decide) ?_
                exact ih_10 w5 c7 (i + 1) _ _ hP hD hS _ (lv_sub hl [1, 0, 3, 4] rfl) (by first | assumption | rfl | omega) (by exact hc7) (by exact hI5) (by exact hs5) (by intro h9 k j z1 z2 z3; by_cases e9 : k = i; (rw [e9] at z3 ⊢; first | exact (hO5 h9).2 j z3.1.2.1.1 (by have z9 := z3.1.2.1.2; omega) z3 | (exfalso; have z9 := (RGI_m hI5 ⟨hi.1, by omega⟩).mp z3.2.1; exact z9 c_33)); exact (hO5 h9).1 k j z1 (by omega) z3) (by omega)
              · refine lv_iload_n hx hb dX10_regions_36 rfl (lv_at hl 2 rfl) ?_
                refine lv_bipush (v := zI 7) hx hb dX10_regions_37 (zI_b8 (by decide)) ?_
                refine z_idiv hx hb ⟨⟨by omega, by omega⟩, by omega, by omega⟩ dX10_regions_39 ?_
                refine lv_iload hx hb dX10_regions_40 (lv_at hl 1 rfl) ?_
                refine lv_bipush (v := zI 7) hx hb dX10_regions_42 (zI_b8 (by decide)) ?_
                refine z_idiv hx hb ⟨⟨by omega, by omega⟩, by omega, by omega⟩ dX10_regions_44 ?_
                refine z_isub hx hb dX10_regions_45 ?_
                refine z_calli hP hD hS hA (va_runS (As := [.int (zI ((i / 7) - (j / 7)))]) (rest := []) hC (c_X10_size l D τ _ _ ((i / 7) - (j / 7)) (by first | assumption | rfl | omega) _) (va_cwS 1 hts (gS hB wl_X10_63 wt_X10_size wi_X10 wc_X10_size) rfl rfl rfl hd_X10_size.2 ⟨Nat.le_of_ble_eq_true rfl, Nat.le_of_ble_eq_true rfl⟩) (zp_S hK hP hD hS hA hG) rfl rfl hl.1 rfl (lv_room (Nat.le_of_ble_eq_true rfl)) dX10_regions_46 ⟨Nat.le_of_ble_eq_true rfl, Nat.le_of_ble_eq_true rfl⟩) (fun r w1 H locs hq9 hP hD hS => ?_)
                obtain ⟨v46_1, hv46_0, rfl, rfl⟩ := hq9
                refine lv_istore (lv' := [(5, .int (zI v46_1)), (2, .int (zI c7)), (4, .int (zI j)), (3, .int (zI i)), (0, .ref (β 0)), (1, .int (bI bc))]) hx hb dX10_regions_49 hl (by decide) rfl (fun ls hl => ?_)
                refine lv_iload_n hx hb dX10_regions_51 rfl (lv_at hl 3 rfl) ?_
                refine lv_bipush (v := zI 7) hx hb dX10_regions_52 (zI_b8 (by decide)) ?_
                refine z_irem hx hb ⟨⟨by omega, by omega⟩, by omega, by omega⟩ dX10_regions_54 ?_
                refine lv_iload hx hb dX10_regions_55 (lv_at hl 2 rfl) ?_
                refine lv_bipush (v := zI 7) hx hb dX10_regions_57 (zI_b8 (by decide)) ?_
                refine z_irem hx hb ⟨⟨by omega, by omega⟩, by omega, by omega⟩ dX10_regions_59 ?_
                refine z_isub hx hb dX10_regions_60 ?_
                refine z_calli hP hD hS hA (va_runS (As := [.int (zI ((i % 7) - (j % 7)))]) (rest := []) hC (c_X10_size l D τ _ _ ((i % 7) - (j % 7)) (by first | assumption | rfl | omega) _) (va_cwS 1 hts (gS hB wl_X10_63 wt_X10_size wi_X10 wc_X10_size) rfl rfl rfl hd_X10_size.2 ⟨Nat.le_of_ble_eq_true rfl, Nat.le_of_ble_eq_true rfl⟩) (zp_S hK hP hD hS hA hG) rfl rfl hl.1 rfl (lv_room (Nat.le_of_ble_eq_true rfl)) dX10_regions_61 ⟨Nat.le_of_ble_eq_true rfl, Nat.le_of_ble_eq_true rfl⟩) (fun r w1 H locs hq9 hP hD hS => ?_)
                obtain ⟨v61_2, hv61_0, rfl, rfl⟩ := hq9
                refine lv_istore (lv' := [(6, .int (zI v61_2)), (5, .int (zI v46_1)), (2, .int (zI c7)), (4, .int (zI j)), (3, .int (zI i)), (0, .ref (β 0)), (1, .int (bI bc))]) hx hb dX10_regions_64 hl (by decide) rfl (fun ls hl => ?_)
                refine lv_iload hx hb dX10_regions_66 (lv_at hl 1 rfl) ?_
                refine lv_iload hx hb dX10_regions_68 (lv_at hl 0 rfl) ?_
                refine z_iadd hx hb dX10_regions_70 ?_
                refine lv_iconst (v := zI 1) hx hb dX10_regions_71 rfl ?_
                refine z_iceq (tgt := 91) hx hb ⟨by omega, by omega⟩ ⟨by omega, by omega⟩ dX10_regions_72 (by decide) (fun c_72 => ?_) (fun c_72 => ?_)
                · refine lv_iconst (v := zI 1) hx hb dX10_regions_91 rfl ?_
                  refine lv_goto (tgt := 96) hx hb dX10_regions_92 (by decide) ?_
                  refine lv_istore (lv' := [(7, .int (zI 1)), (6, .int (zI v61_2)), (5, .int (zI v46_1)), (2, .int (zI c7)), (4, .int (zI j)), (3, .int (zI i)), (0, .ref (β 0)), (1, .int (bI bc))]) hx hb dX10_regions_96 hl (by decide) rfl (fun ls hl => ?_)
                  have hnr : S_adj (S_nb bc) i j ↔ 1 = 1 := by rw [near9 ⟨hi.1, by omega⟩ ⟨hj.1, by omega⟩, ← hv46_0, ← hv61_0]; first | exact ⟨fun _ => rfl, fun _ => Or.inl c_72⟩ | exact ⟨fun _ => rfl, fun _ => Or.inr ⟨c_76, c_82, c_88⟩⟩ | exact ⟨fun h9 => h9.elim (fun z => absurd z c_72) (fun z => by rw [c_76] at z; cases z.1), fun h9 => absurd h9 (by decide)⟩ | exact ⟨fun h9 => h9.elim (fun z => absurd z c_72) (fun z => absurd z.2.1 c_82), fun h9 => absurd h9 (by decide)⟩ | exact ⟨fun h9 => h9.elim (fun z => absurd z c_72) (fun z => absurd z.2.2 c_88), fun h9 => absurd h9 (by decide)⟩
                  refine lv_iload hx hb dX10_regions_98 (lv_at hl 0 rfl) ?_
                  refine z_ifeq (tgt := 145) hx hb ⟨by omega, by omega⟩ dX10_regions_100 (by decide) (fun c_100 => ?_) (fun c_100 => ?_)
                  · exact absurd c_100 (by decide)
                  · refine lv_aload_n hx hb dX10_regions_103 rfl (lv_at hl 6 rfl) ?_
                    refine va_get (D := D) (ci := 10) (v := .ref (β 10)) (C := RX10) (T := TX10) (N := 17) hx hb hts (fun w h => List.mem_cons_of_mem _ (wx_X10 w h)) hown hK hP 0 rfl rfl 14 (by decide) (hW0 _ wf_X10_38) (fun _ h9 => h9) rfl dX10_regions_104 ?_
                    refine lv_iload hx hb dX10_regions_107 (lv_at hl 4 rfl) ?_
                    refine z_iald (f := w5) hx hb hK hP 10 9 rfl rfl ⟨⟨by omega, by omega⟩, by decide⟩ dX10_regions_109 ?_
                    have hb_109 := hrb j (by omega) (by omega)
                    refine lv_iconst (v := zI (-1)) hx hb dX10_regions_110 rfl ?_
                    refine z_iceq (tgt := 145) hx hb ⟨by omega, by omega⟩ ⟨by omega, by omega⟩ dX10_regions_111 (by decide) (fun c_111 => ?_) (fun c_111 => ?_)
                    · refine z_iinc (k := 4) (v := j + 1) (lv' := [(4, .int (zI (j + 1))), (7, .int (zI 1)), (6, .int (zI v61_2)), (5, .int (zI v46_1)), (2, .int (zI c7)), (3, .int (zI i)), (0, .ref (β 0)), (1, .int (bI bc))]) hx hb dX10_regions_145 hl rfl rfl (by decide) rfl (fun ls hl => ?_)
                      refine lv_goto (tgt := 19) hx hb dX10_regions_148 (by decide) ?_
                      exact ih_19 w5 c7 (j + 1) _ _ hP hD hS _ (lv_sub hl [4, 0, 5, 6, 7] rfl) (by first | assumption | rfl | omega) (by first | assumption | rfl | omega) (by first | exact hI5 | exact RGI_put hn9 hI5 ⟨hi.1, by omega⟩ hrr c_127) (by first | exact hs5 | (rw [zS_set hi.1 49 (by omega), if_pos (by omega)]; omega)) (by first | (intro h9; exact absurd h9 (by decide)) | (intro h9; refine ⟨(hO5 h9).1, fun q z1 z2 z3 => ?_⟩; by_cases e9 : q = j; (rw [e9] at z3 ⊢; first | exact absurd (hnr.mp z3.1) (by decide) | exact absurd c_111 ((RGI_m hI5 ⟨hj.1, by omega⟩).mp z3.2.2) | exact c_127); exact (hO5 h9).2 q z1 (by omega) z3)) (by omega)
                    · refine lv_aload_n hx hb dX10_regions_114 rfl (lv_at hl 6 rfl) ?_
                      refine va_get (D := D) (ci := 10) (v := .ref (β 10)) (C := RX10) (T := TX10) (N := 17) hx hb hts (fun w h => List.mem_cons_of_mem _ (wx_X10 w h)) hown hK hP 0 rfl rfl 14 (by decide) (hW0 _ wf_X10_38) (fun _ h9 => h9) rfl dX10_regions_115 ?_
                      refine lv_iload hx hb dX10_regions_118 (lv_at hl 4 rfl) ?_
                      refine z_iald (f := w5) hx hb hK hP 10 9 rfl rfl ⟨⟨by omega, by omega⟩, by decide⟩ dX10_regions_120 ?_
                      have hb_120 := hrb j (by omega) (by omega)
                      refine lv_aload_n hx hb dX10_regions_121 rfl (lv_at hl 6 rfl) ?_
                      refine va_get (D := D) (ci := 10) (v := .ref (β 10)) (C := RX10) (T := TX10) (N := 17) hx hb hts (fun w h => List.mem_cons_of_mem _ (wx_X10 w h)) hown hK hP 0 rfl rfl 14 (by decide) (hW0 _ wf_X10_38) (fun _ h9 => h9) rfl dX10_regions_122 ?_
                      refine lv_iload_n hx hb dX10_regions_125 rfl (lv_at hl 5 rfl) ?_
                      refine z_iald (f := w5) hx hb hK hP 10 9 rfl rfl ⟨⟨by omega, by omega⟩, by decide⟩ dX10_regions_126 ?_
                      have hb_126 := hrb i (by omega) (by omega)
                      refine z_icge (tgt := 145) hx hb ⟨by omega, by omega⟩ ⟨by omega, by omega⟩ dX10_regions_127 (by decide) (fun c_127 => ?_) (fun c_127 => ?_)
                      · refine z_iinc (k := 4) (v := j + 1) (lv' := [(4, .int (zI (j + 1))), (7, .int (zI 1)), (6, .int (zI v61_2)), (5, .int (zI v46_1)), (2, .int (zI c7)), (3, .int (zI i)), (0, .ref (β 0)), (1, .int (bI bc))]) hx hb dX10_regions_145 hl rfl rfl (by decide) rfl (fun ls hl => ?_)
                        refine lv_goto (tgt := 19) hx hb dX10_regions_148 (by decide) ?_
                        exact ih_19 w5 c7 (j + 1) _ _ hP hD hS _ (lv_sub hl [4, 0, 5, 6, 7] rfl) (by first | assumption | rfl | omega) (by first | assumption | rfl | omega) (by first | exact hI5 | exact RGI_put hn9 hI5 ⟨hi.1, by omega⟩ hrr c_127) (by first | exact hs5 | (rw [zS_set hi.1 49 (by omega), if_pos (by omega)]; omega)) (by first | (intro h9; exact absurd h9 (by decide)) | (intro h9; refine ⟨(hO5 h9).1, fun q z1 z2 z3 => ?_⟩; by_cases e9 : q = j; (rw [e9] at z3 ⊢; first | exact absurd (hnr.mp z3.1) (by decide) | exact absurd c_111 ((RGI_m hI5 ⟨hj.1, by omega⟩).mp z3.2.2) | exact c_127); exact (hO5 h9).2 q z1 (by omega) z3)) (by omega)
                      · have hrr : S_rr (S_nb bc) mk9 i j := ⟨hnr.mpr rfl, (RGI_m hI5 ⟨hi.1, by omega⟩).mpr c_33, (RGI_m hI5 ⟨hj.1, by omega⟩).mpr c_111⟩
                        refine lv_aload_n hx hb dX10_regions_130 rfl (lv_at hl 6 rfl) ?_
                        refine va_get (D := D) (ci := 10) (v := .ref (β 10)) (C := RX10) (T := TX10) (N := 17) hx hb hts (fun w h => List.mem_cons_of_mem _ (wx_X10 w h)) hown hK hP 0 rfl rfl 14 (by decide) (hW0 _ wf_X10_38) (fun _ h9 => h9) rfl dX10_regions_131 ?_
                        refine lv_iload_n hx hb dX10_regions_134 rfl (lv_at hl 5 rfl) ?_
                        refine lv_aload_n hx hb dX10_regions_135 rfl (lv_at hl 6 rfl) ?_
                        refine va_get (D := D) (ci := 10) (v := .ref (β 10)) (C := RX10) (T := TX10) (N := 17) hx hb hts (fun w h => List.mem_cons_of_mem _ (wx_X10 w h)) hown hK hP 0 rfl rfl 14 (by decide) (hW0 _ wf_X10_38) (fun _ h9 => h9) rfl dX10_regions_136 ?_
                        refine lv_iload hx hb dX10_regions_139 (lv_at hl 4 rfl) ?_
                        refine z_iald (f := w5) hx hb hK hP 10 9 rfl rfl ⟨⟨by omega, by omega⟩, by decide⟩ dX10_regions_141 ?_
                        have hb_141 := hrb j (by omega) (by omega)
                        refine z_iast (f := w5) (v := w5 j) hx hb hK hP hD hS 10 9 rfl rfl ⟨⟨by omega, by omega⟩, by decide⟩ dX10_regions_142 (fun H locs hP hD hS => ?_)
                        have hP : va_P D vwCl (wM β δ ms mb mo mp mf mn mi mc mq ((zu w5 i (w5 j))) mw mk ml mt ma mx mh) H := hP
                        have hD : va_D A (wM β δ ms mb mo mp mf mn mi mc mq ((zu w5 i (w5 j))) mw mk ml mt ma mx mh) := hD
                        refine lv_iconst (v := zI 1) hx hb dX10_regions_143 rfl ?_
                        refine lv_istore_n (lv' := [(2, .int (zI 1)), (7, .int (zI 1)), (6, .int (zI v61_2)), (5, .int (zI v46_1)), (4, .int (zI j)), (3, .int (zI i)), (0, .ref (β 0)), (1, .int (bI bc))]) hx hb dX10_regions_144 rfl hl (by decide) rfl (fun ls hl => ?_)
                        refine z_iinc (k := 4) (v := j + 1) (lv' := [(4, .int (zI (j + 1))), (2, .int (zI 1)), (7, .int (zI 1)), (6, .int (zI v61_2)), (5, .int (zI v46_1)), (3, .int (zI i)), (0, .ref (β 0)), (1, .int (bI bc))]) hx hb dX10_regions_145 hl rfl rfl (by decide) rfl (fun ls hl => ?_)
                        refine lv_goto (tgt := 19) hx hb dX10_regions_148 (by decide) ?_
                        exact ih_19 (zu w5 i (w5 j)) 1 (j + 1) _ _ hP hD hS _ (lv_sub hl [1, 0, 5, 6, 7] rfl) (by first | assumption | rfl | omega) (by first | assumption | rfl | omega) (by first | exact hI5 | exact RGI_put hn9 hI5 ⟨hi.1, by omega⟩ hrr c_127) (by first | exact hs5 | (rw [zS_set hi.1 49 (by omega), if_pos (by omega)]; omega)) (by first | (intro h9; exact absurd h9 (by decide)) | (intro h9; refine ⟨(hO5 h9).1, fun q z1 z2 z3 => ?_⟩; by_cases e9 : q = j; (rw [e9] at z3 ⊢; first | exact absurd (hnr.mp z3.1) (by decide) | exact absurd c_111 ((RGI_m hI5 ⟨hj.1, by omega⟩).mp z3.2.2) | exact c_127); exact (hO5 h9).2 q z1 (by omega) z3)) (by omega)
                · refine lv_iload_n hx hb dX10_regions_75 rfl (lv_at hl 6 rfl) ?_
                  refine z_ifeqB (tgt := 95) hx hb dX10_regions_76 (by decide) (fun c_76 => ?_) (fun c_76 => ?_)
                  · refine lv_iconst (v := zI 0) hx hb dX10_regions_95 rfl ?_
                    refine lv_istore (lv' := [(7, .int (zI 0)), (6, .int (zI v61_2)), (5, .int (zI v46_1)), (2, .int (zI c7)), (4, .int (zI j)), (3, .int (zI i)), (0, .ref (β 0)), (1, .int (bI bc))]) hx hb dX10_regions_96 hl (by decide) rfl (fun ls hl => ?_)
                    have hnr : S_adj (S_nb bc) i j ↔ 0 = 1 := by rw [near9 ⟨hi.1, by omega⟩ ⟨hj.1, by omega⟩, ← hv46_0, ← hv61_0]; first | exact ⟨fun _ => rfl, fun _ => Or.inl c_72⟩ | exact ⟨fun _ => rfl, fun _ => Or.inr ⟨c_76, c_82, c_88⟩⟩ | exact ⟨fun h9 => h9.elim (fun z => absurd z c_72) (fun z => by rw [c_76] at z; cases z.1), fun h9 => absurd h9 (by decide)⟩ | exact ⟨fun h9 => h9.elim (fun z => absurd z c_72) (fun z => absurd z.2.1 c_82), fun h9 => absurd h9 (by decide)⟩ | exact ⟨fun h9 => h9.elim (fun z => absurd z c_72) (fun z => absurd z.2.2 c_88), fun h9 => absurd h9 (by decide)⟩
                    refine lv_iload hx hb dX10_regions_98 (lv_at hl 0 rfl) ?_
                    refine z_ifeq (tgt := 145) hx hb ⟨by omega, by omega⟩ dX10_regions_100 (by decide) (fun c_100 => ?_) (fun c_100 => ?_)
                    · refine z_iinc (k := 4) (v := j + 1) (lv' := [(4, .int (zI (j + 1))), (7, .int (zI 0)), (6, .int (zI v61_2)), (5, .int (zI v46_1)), (2, .int (zI c7)), (3, .int (zI i)), (0, .ref (β 0)), (1, .int (bI bc))]) hx hb dX10_regions_145 hl rfl rfl (by decide) rfl (fun ls hl => ?_)
                      refine lv_goto (tgt := 19) hx hb dX10_regions_148 (by decide) ?_
                      exact ih_19 w5 c7 (j + 1) _ _ hP hD hS _ (lv_sub hl [4, 0, 5, 6, 7] rfl) (by first | assumption | rfl | omega) (by first | assumption | rfl | omega) (by first | exact hI5 | exact RGI_put hn9 hI5 ⟨hi.1, by omega⟩ hrr c_127) (by first | exact hs5 | (rw [zS_set hi.1 49 (by omega), if_pos (by omega)]; omega)) (by first | (intro h9; exact absurd h9 (by decide)) | (intro h9; refine ⟨(hO5 h9).1, fun q z1 z2 z3 => ?_⟩; by_cases e9 : q = j; (rw [e9] at z3 ⊢; first | exact absurd (hnr.mp z3.1) (by decide) | exact absurd c_111 ((RGI_m hI5 ⟨hj.1, by omega⟩).mp z3.2.2) | exact c_127); exact (hO5 h9).2 q z1 (by omega) z3)) (by omega)
                    · exact absurd c_100 (by decide)
                  · refine lv_iload hx hb dX10_regions_79 (lv_at hl 1 rfl) ?_
                    refine lv_iconst (v := zI 1) hx hb dX10_regions_81 rfl ?_
                    refine z_icne (tgt := 95) hx hb ⟨by omega, by omega⟩ ⟨by omega, by omega⟩ dX10_regions_82 (by decide) (fun c_82 => ?_) (fun c_82 => ?_)
                    · refine lv_iconst (v := zI 0) hx hb dX10_regions_95 rfl ?_
                      refine lv_istore (lv' := [(7, .int (zI 0)), (6, .int (zI v61_2)), (5, .int (zI v46_1)), (2, .int (zI c7)), (4, .int (zI j)), (3, .int (zI i)), (0, .ref (β 0)), (1, .int (bI bc))]) hx hb dX10_regions_96 hl (by decide) rfl (fun ls hl => ?_)
                      have hnr : S_adj (S_nb bc) i j ↔ 0 = 1 := by rw [near9 ⟨hi.1, by omega⟩ ⟨hj.1, by omega⟩, ← hv46_0, ← hv61_0]; first | exact ⟨fun _ => rfl, fun _ => Or.inl c_72⟩ | exact ⟨fun _ => rfl, fun _ => Or.inr ⟨c_76, c_82, c_88⟩⟩ | exact ⟨fun h9 => h9.elim (fun z => absurd z c_72) (fun z => by rw [c_76] at z; cases z.1), fun h9 => absurd h9 (by decide)⟩ | exact ⟨fun h9 => h9.elim (fun z => absurd z c_72) (fun z => absurd z.2.1 c_82), fun h9 => absurd h9 (by decide)⟩ | exact ⟨fun h9 => h9.elim (fun z => absurd z c_72) (fun z => absurd z.2.2 c_88), fun h9 => absurd h9 (by decide)⟩
                      refine lv_iload hx hb dX10_regions_98 (lv_at hl 0 rfl) ?_
                      refine z_ifeq (tgt := 145) hx hb ⟨by omega, by omega⟩ dX10_regions_100 (by decide) (fun c_100 => ?_) (fun c_100 => ?_)
                      · refine z_iinc (k := 4) (v := j + 1) (lv' := [(4, .int (zI (j + 1))), (7, .int (zI 0)), (6, .int (zI v61_2)), (5, .int (zI v46_1)), (2, .int (zI c7)), (3, .int (zI i)), (0, .ref (β 0)), (1, .int (bI bc))]) hx hb dX10_regions_145 hl rfl rfl (by decide) rfl (fun ls hl => ?_)
                        refine lv_goto (tgt := 19) hx hb dX10_regions_148 (by decide) ?_
                        exact ih_19 w5 c7 (j + 1) _ _ hP hD hS _ (lv_sub hl [4, 0, 5, 6, 7] rfl) (by first | assumption | rfl | omega) (by first | assumption | rfl | omega) (by first | exact hI5 | exact RGI_put hn9 hI5 ⟨hi.1, by omega⟩ hrr c_127) (by first | exact hs5 | (rw [zS_set hi.1 49 (by omega), if_pos (by omega)]; omega)) (by first | (intro h9; exact absurd h9 (by decide)) | (intro h9; refine ⟨(hO5 h9).1, fun q z1 z2 z3 => ?_⟩; by_cases e9 : q = j; (rw [e9] at z3 ⊢; first | exact absurd (hnr.mp z3.1) (by decide) | exact absurd c_111 ((RGI_m hI5 ⟨hj.1, by omega⟩).mp z3.2.2) | exact c_127); exact (hO5 h9).2 q z1 (by omega) z3)) (by omega)
                      · exact absurd c_100 (by decide)
                    · refine lv_iload hx hb dX10_regions_85 (lv_at hl 0 rfl) ?_
                      refine lv_iconst (v := zI 1) hx hb dX10_regions_87 rfl ?_
                      refine z_icne (tgt := 95) hx hb ⟨by omega, by omega⟩ ⟨by omega, by omega⟩ dX10_regions_88 (by decide) (fun c_88 => ?_) (fun c_88 => ?_)
                      · refine lv_iconst (v := zI 0) hx hb dX10_regions_95 rfl ?_
                        refine lv_istore (lv' := [(7, .int (zI 0)), (6, .int (zI v61_2)), (5, .int (zI v46_1)), (2, .int (zI c7)), (4, .int (zI j)), (3, .int (zI i)), (0, .ref (β 0)), (1, .int (bI bc))]) hx hb dX10_regions_96 hl (by decide) rfl (fun ls hl => ?_)
                        have hnr : S_adj (S_nb bc) i j ↔ 0 = 1 := by rw [near9 ⟨hi.1, by omega⟩ ⟨hj.1, by omega⟩, ← hv46_0, ← hv61_0]; first | exact ⟨fun _ => rfl, fun _ => Or.inl c_72⟩ | exact ⟨fun _ => rfl, fun _ => Or.inr ⟨c_76, c_82, c_88⟩⟩ | exact ⟨fun h9 => h9.elim (fun z => absurd z c_72) (fun z => by rw [c_76] at z; cases z.1), fun h9 => absurd h9 (by decide)⟩ | exact ⟨fun h9 => h9.elim (fun z => absurd z c_72) (fun z => absurd z.2.1 c_82), fun h9 => absurd h9 (by decide)⟩ | exact ⟨fun h9 => h9.elim (fun z => absurd z c_72) (fun z => absurd z.2.2 c_88), fun h9 => absurd h9 (by decide)⟩
                        refine lv_iload hx hb dX10_regions_98 (lv_at hl 0 rfl) ?_
                        refine z_ifeq (tgt := 145) hx hb ⟨by omega, by omega⟩ dX10_regions_100 (by decide) (fun c_100 => ?_) (fun c_100 => ?_)
                        · refine z_iinc (k := 4) (v := j + 1) (lv' := [(4, .int (zI (j + 1))), (7, .int (zI 0)), (6, .int (zI v61_2)), (5, .int (zI v46_1)), (2, .int (zI c7)), (3, .int (zI i)), (0, .ref (β 0)), (1, .int (bI bc))]) hx hb dX10_regions_145 hl rfl rfl (by decide) rfl (fun ls hl => ?_)
                          refine lv_goto (tgt := 19) hx hb dX10_regions_148 (by decide) ?_
                          exact ih_19 w5 c7 (j + 1) _ _ hP hD hS _ (lv_sub hl [4, 0, 5, 6, 7] rfl) (by first | assumption | rfl | omega) (by first | assumption | rfl | omega) (by first | exact hI5 | exact RGI_put hn9 hI5 ⟨hi.1, by omega⟩ hrr c_127) (by first | exact hs5 | (rw [zS_set hi.1 49 (by omega), if_pos (by omega)]; omega)) (by first | (intro h9; exact absurd h9 (by decide)) | (intro h9; refine ⟨(hO5 h9).1, fun q z1 z2 z3 => ?_⟩; by_cases e9 : q = j; (rw [e9] at z3 ⊢; first | exact absurd (hnr.mp z3.1) (by decide) | exact absurd c_111 ((RGI_m hI5 ⟨hj.1, by omega⟩).mp z3.2.2) | exact c_127); exact (hO5 h9).2 q z1 (by omega) z3)) (by omega)
                        · exact absurd c_100 (by decide)
                      · refine lv_iconst (v := zI 1) hx hb dX10_regions_91 rfl ?_
                        refine lv_goto (tgt := 96) hx hb dX10_regions_92 (by decide) ?_
                        refine lv_istore (lv' := [(7, .int (zI 1)), (6, .int (zI v61_2)), (5, .int (zI v46_1)), (2, .int (zI c7)), (4, .int (zI j)), (3, .int (zI i)), (0, .ref (β 0)), (1, .int (bI bc))]) hx hb dX10_regions_96 hl (by decide) rfl (fun ls hl => ?_)
                        have hnr : S_adj (S_nb bc) i j ↔ 1 = 1 := by rw [near9 ⟨hi.1, by omega⟩ ⟨hj.1, by omega⟩, ← hv46_0, ← hv61_0]; first | exact ⟨fun _ => rfl, fun _ => Or.inl c_72⟩ | exact ⟨fun _ => rfl, fun _ => Or.inr ⟨c_76, c_82, c_88⟩⟩ | exact ⟨fun h9 => h9.elim (fun z => absurd z c_72) (fun z => by rw [c_76] at z; cases z.1), fun h9 => absurd h9 (by decide)⟩ | exact ⟨fun h9 => h9.elim (fun z => absurd z c_72) (fun z => absurd z.2.1 c_82), fun h9 => absurd h9 (by decide)⟩ | exact ⟨fun h9 => h9.elim (fun z => absurd z c_72) (fun z => absurd z.2.2 c_88), fun h9 => absurd h9 (by decide)⟩
                        refine lv_iload hx hb dX10_regions_98 (lv_at hl 0 rfl) ?_
                        refine z_ifeq (tgt := 145) hx hb ⟨by omega, by omega⟩ dX10_regions_100 (by decide) (fun c_100 => ?_) (fun c_100 => ?_)
                        · exact absurd c_100 (by decide)
                        · refine lv_aload_n hx hb dX10_regions_103 rfl (lv_at hl 6 rfl) ?_
                          refine va_get (D := D) (ci := 10) (v := .ref (β 10)) (C := RX10) (T := TX10) (N := 17) hx hb hts (fun w h => List.mem_cons_of_mem _ (wx_X10 w h)) hown hK hP 0 rfl rfl 14 (by decide) (hW0 _ wf_X10_38) (fun _ h9 => h9) rfl dX10_regions_104 ?_
                          refine lv_iload hx hb dX10_regions_107 (lv_at hl 4 rfl) ?_
                          refine z_iald (f := w5) hx hb hK hP 10 9 rfl rfl ⟨⟨by omega, by omega⟩, by decide⟩ dX10_regions_109 ?_
                          have hb_109 := hrb j (by omega) (by omega)
                          refine lv_iconst (v := zI (-1)) hx hb dX10_regions_110 rfl ?_
                          refine z_iceq (tgt := 145) hx hb ⟨by omega, by omega⟩ ⟨by omega, by omega⟩ dX10_regions_111 (by decide) (fun c_111 => ?_) (fun c_111 => ?_)
                          · refine z_iinc (k := 4) (v := j + 1) (lv' := [(4, .int (zI (j + 1))), (7, .int (zI 1)), (6, .int (zI v61_2)), (5, .int (zI v46_1)), (2, .int (zI c7)), (3, .int (zI i)), (0, .ref (β 0)), (1, .int (bI bc))]) hx hb dX10_regions_145 hl rfl rfl (by decide) rfl (fun ls hl => ?_)
                            refine lv_goto (tgt := 19) hx hb dX10_regions_148 (by decide) ?_
                            exact ih_19 w5 c7 (j + 1) _ _ hP hD hS _ (lv_sub hl [4, 0, 5, 6, 7] rfl) (by first | assumption | rfl | omega) (by first | assumption | rfl | omega) (by first | exact hI5 | exact RGI_put hn9 hI5 ⟨hi.1, by omega⟩ hrr c_127) (by first | exact hs5 | (rw [zS_set hi.1 49 (by omega), if_pos (by omega)]; omega)) (by first | (intro h9; exact absurd h9 (by decide)) | (intro h9; refine ⟨(hO5 h9).1, fun q z1 z2 z3 => ?_⟩; by_cases e9 : q = j; (rw [e9] at z3 ⊢; first | exact absurd (hnr.mp z3.1) (by decide) | exact absurd c_111 ((RGI_m hI5 ⟨hj.1, by omega⟩).mp z3.2.2) | exact c_127); exact (hO5 h9).2 q z1 (by omega) z3)) (by omega)
                          · refine lv_aload_n hx hb dX10_regions_114 rfl (lv_at hl 6 rfl) ?_
                            refine va_get (D := D) (ci := 10) (v := .ref (β 10)) (C := RX10) (T := TX10) (N := 17) hx hb hts (fun w h => List.mem_cons_of_mem _ (wx_X10 w h)) hown hK hP 0 rfl rfl 14 (by decide) (hW0 _ wf_X10_38) (fun _ h9 => h9) rfl dX10_regions_115 ?_
                            refine lv_iload hx hb dX10_regions_118 (lv_at hl 4 rfl) ?_
                            refine z_iald (f := w5) hx hb hK hP 10 9 rfl rfl ⟨⟨by omega, by omega⟩, by decide⟩ dX10_regions_120 ?_
                            have hb_120 := hrb j (by omega) (by omega)
                            refine lv_aload_n hx hb dX10_regions_121 rfl (lv_at hl 6 rfl) ?_
                            refine va_get (D := D) (ci := 10) (v := .ref (β 10)) (C := RX10) (T := TX10) (N := 17) hx hb hts (fun w h => List.mem_cons_of_mem _ (wx_X10 w h)) hown hK hP 0 rfl rfl 14 (by decide) (hW0 _ wf_X10_38) (fun _ h9 => h9) rfl dX10_regions_122 ?_
                            refine lv_iload_n hx hb dX10_regions_125 rfl (lv_at hl 5 rfl) ?_
                            refine z_iald (f := w5) hx hb hK hP 10 9 rfl rfl ⟨⟨by omega, by omega⟩, by decide⟩ dX10_regions_126 ?_
                            have hb_126 := hrb i (by omega) (by omega)
                            refine z_icge (tgt := 145) hx hb ⟨by omega, by omega⟩ ⟨by omega, by omega⟩ dX10_regions_127 (by decide) (fun c_127 => ?_) (fun c_127 => ?_)
                            · refine z_iinc (k := 4) (v := j + 1) (lv' := [(4, .int (zI (j + 1))), (7, .int (zI 1)), (6, .int (zI v61_2)), (5, .int (zI v46_1)), (2, .int (zI c7)), (3, .int (zI i)), (0, .ref (β 0)), (1, .int (bI bc))]) hx hb dX10_regions_145 hl rfl rfl (by decide) rfl (fun ls hl => ?_)
                              refine lv_goto (tgt := 19) hx hb dX10_regions_148 (by decide) ?_
                              exact ih_19 w5 c7 (j + 1) _ _ hP hD hS _ (lv_sub hl [4, 0, 5, 6, 7] rfl) (by first | assumption | rfl | omega) (by first | assumption | rfl | omega) (by first | exact hI5 | exact RGI_put hn9 hI5 ⟨hi.1, by omega⟩ hrr c_127) (by first | exact hs5 | (rw [zS_set hi.1 49 (by omega), if_pos (by omega)]; omega)) (by first | (intro h9; exact absurd h9 (by decide)) | (intro h9; refine ⟨(hO5 h9).1, fun q z1 z2 z3 => ?_⟩; by_cases e9 : q = j; (rw [e9] at z3 ⊢; first | exact absurd (hnr.mp z3.1) (by decide) | exact absurd c_111 ((RGI_m hI5 ⟨hj.1, by omega⟩).mp z3.2.2) | exact c_127); exact (hO5 h9).2 q z1 (by omega) z3)) (by omega)
                            · have hrr : S_rr (S_nb bc) mk9 i j := ⟨hnr.mpr rfl, (RGI_m hI5 ⟨hi.1, by omega⟩).mpr c_33, (RGI_m hI5 ⟨hj.1, by omega⟩).mpr c_111⟩
                              refine lv_aload_n hx hb dX10_regions_130 rfl (lv_at hl 6 rfl) ?_
                              refine va_get (D := D) (ci := 10) (v := .ref (β 10)) (C := RX10) (T := TX10) (N := 17) hx hb hts (fun w h => List.mem_cons_of_mem _ (wx_X10 w h)) hown hK hP 0 rfl rfl 14 (by decide) (hW0 _ wf_X10_38) (fun _ h9 => h9) rfl dX10_regions_131 ?_
                              refine lv_iload_n hx hb dX10_regions_134 rfl (lv_at hl 5 rfl) ?_
                              refine lv_aload_n hx hb dX10_regions_135 rfl (lv_at hl 6 rfl) ?_
                              refine va_get (D := D) (ci := 10) (v := .ref (β 10)) (C := RX10) (T := TX10) (N := 17) hx hb hts (fun w h => List.mem_cons_of_mem _ (wx_X10 w h)) hown hK hP 0 rfl rfl 14 (by decide) (hW0 _ wf_X10_38) (fun _ h9 => h9) rfl dX10_regions_136 ?_
                              refine lv_iload hx hb dX10_regions_139 (lv_at hl 4 rfl) ?_
                              refine z_iald (f := w5) hx hb hK hP 10 9 rfl rfl ⟨⟨by omega, by omega⟩, by decide⟩ dX10_regions_141 ?_
                              have hb_141 := hrb j (by omega) (by omega)
                              refine z_iast (f := w5) (v := w5 j) hx hb hK hP hD hS 10 9 rfl rfl ⟨⟨by omega, by omega⟩, by decide⟩ dX10_regions_142 (fun H locs hP hD hS => ?_)
                              have hP : va_P D vwCl (wM β δ ms mb mo mp mf mn mi mc mq ((zu w5 i (w5 j))) mw mk ml mt ma mx mh) H := hP
                              have hD : va_D A (wM β δ ms mb mo mp mf mn mi mc mq ((zu w5 i (w5 j))) mw mk ml mt ma mx mh) := hD
                              refine lv_iconst (v := zI 1) hx hb dX10_regions_143 rfl ?_
                              refine lv_istore_n (lv' := [(2, .int (zI 1)), (7, .int (zI 1)), (6, .int (zI v61_2)), (5, .int (zI v46_1)), (4, .int (zI j)), (3, .int (zI i)), (0, .ref (β 0)), (1, .int (bI bc))]) hx hb dX10_regions_144 rfl hl (by decide) rfl (fun ls hl => ?_)
                              refine z_iinc (k := 4) (v := j + 1) (lv' := [(4, .int (zI (j + 1))), (2, .int (zI 1)), (7, .int (zI 1)), (6, .int (zI v61_2)), (5, .int (zI v46_1)), (3, .int (zI i)), (0, .ref (β 0)), (1, .int (bI bc))]) hx hb dX10_regions_145 hl rfl rfl (by decide) rfl (fun ls hl => ?_)
                              refine lv_goto (tgt := 19) hx hb dX10_regions_148 (by decide) ?_
                              exact ih_19 (zu w5 i (w5 j)) 1 (j + 1) _ _ hP hD hS _ (lv_sub hl [1, 0, 5, 6, 7] rfl) (by first | assumption | rfl | omega) (by first | assumption | rfl | omega) (by first | exact hI5 | exact RGI_put hn9 hI5 ⟨hi.1, by omega⟩ hrr c_127) (by first | exact hs5 | (rw [zS_set hi.1 49 (by omega), if_pos (by omega)]; omega)) (by first | (intro h9; exact absurd h9 (by decide)) | (intro h9; refine ⟨(hO5 h9).1, fun q z1 z2 z3 => ?_⟩; by_cases e9 : q = j; (rw [e9] at z3 ⊢; first | exact absurd (hnr.mp z3.1) (by decide) | exact absurd c_111 ((RGI_m hI5 ⟨hj.1, by omega⟩).mp z3.2.2) | exact c_127); exact (hO5 h9).2 q z1 (by omega) z3)) (by omega)

abbrev wz_X10_regionsOf : List Cond := .code yX10_regionsOf cX10_regionsOf 4 (some .int) :: W0
abbrev rm_X10_regionsOf : Room := { frames := 2, cells := 0, slots := 0, locals := 47 }
theorem hd_X10_regionsOf : yX10_regionsOf.cls = RX10 ∧ yX10_regionsOf.cls ≠ "java/lang/invoke/MethodHandle" ∧ yX10_regionsOf.cls ≠ "java/lang/invoke/VarHandle" ∧ (parseMethodDescriptor yX10_regionsOf.desc).map (fun d => d.parameters.length) = some 2 := by decide +kernel
set_option maxHeartbeats 4000000 in
set_option maxRecDepth 100000 in
theorem c_X10_regionsOf (l : Launch) (D : va_G) (τ : Nat → Nat) (β : Nat → Nat) (δ : Nat → ClassId) (ms : IA) (mb : IA) (mo : IA) (mp : BA) (mf : IA) (mn : IA) (mi : IA) (mc : IA) (mq : BA) (mr : IA) (mw : IA) (mk : Int) (ml : Int) (mt : Int) (ma : Int) (mx : Bool) (mh : Int64) (lv9 : Int) (ab : Bool) (hlv : 0 ≤ lv9 ∧ lv9 ≤ 98) (hms : ∀ k, 0 ≤ k → k < 49 → 0 ≤ ms k ∧ ms k ≤ 99) : cM l yX10_regionsOf wz_X10_regionsOf rm_X10_regionsOf D τ (tyM δ) [.ref (β 0), .int (zI lv9), .int (bI ab)] (wM β δ ms mb mo mp mf mn mi mc mq mr mw mk ml mt ma mx mh) (zQi (fun r w => ∃ (r2 : IA), ∃ (v : Int), (v = S_comps (S_nb (!ab)) (fun k => S_hi ms lv9 k == ab)) ∧ (0 ≤ v ∧ v ≤ 49) ∧ r = zI v ∧ wM β δ ms mb mo mp mf mn mi mc mq r2 mw mk ml mt ma mx mh = w)) := by
  refine z_ofM (cc := cX10_regionsOf) (maxL := 4) (ret := (some .int)) (by decide +kernel) rfl (Nat.le_of_ble_eq_true rfl) ?_
  intro pg e s m args below meth c hC hr hlk hnm hK hP A hD hG hA hS ls hl Q hQ
  have hx := hC.1
  have hb := hC.2.1
  have hml := hC.2.2.1
  have hown := hC.2.2.2.1
  have hts := hC.2.2.2.2
  have hB : ∀ w ∈ W0, w ∈ wz_X10_regionsOf := fun _ h => List.mem_cons_of_mem _ h
  have hW0 : ∀ w ∈ W0, w.before args s = true := fun w h => hts w (hB w h)
  have hl : lv_has ls 4 [(0, .ref (β 0)), (1, .int (zI lv9)), (2, .int (bI ab))] := hl
  refine lv_iconst (v := zI 0) hx hb dX10_regionsOf_0 rfl ?_
  refine lv_istore_n (lv' := [(3, .int (zI 0)), (0, .ref (β 0)), (1, .int (zI lv9)), (2, .int (bI ab))]) hx hb dX10_regionsOf_1 rfl hl (by decide) rfl (fun ls hl => ?_)
  suffices HL_2 : ∀ (n_2 : Nat), ∀ (w1 : IA) (i : Int) (H : Heap) (locs : List Loc) (hP : va_P D vwCl (wM β δ ms mb mo mp mf mn mi mc mq w1 mw mk ml mt ma mx mh) H) (hD : va_D A (wM β δ ms mb mo mp mf mn mi mc mq w1 mw mk ml mt ma mx mh)) (hS : va_S A s.heap H locs) (ls : Array Slot) (hl : lv_has ls 4 [(3, .int (zI i)), (0, .ref (β 0)), (1, .int (zI lv9)), (2, .int (bI ab))]) (hi : 0 ≤ i ∧ i ≤ 49) (hw1 : ∀ k, 0 ≤ k → k < i → w1 k = (if (S_hi ms lv9 k == ab) = true then k else -1)) (hm : (49 - i).toNat < n_2), W pg l e rm_X10_regionsOf s m args below meth c H locs 0 0 Q (F0 m 2 ls []) from HL_2 _ mr 0 _ _ hP hD hS _ (lv_sub hl [0, 1, 2, 3] rfl) (by first | assumption | rfl | omega) (by intro k z1 z2; omega) (Nat.lt_succ_self _)
  intro n_2
  induction n_2 with
  | zero => intro w1 i H locs hP hD hS ls hl hi hw1 hm; exact absurd hm (Nat.not_lt_zero _)
  | succ n_2 ih_2 =>
    intro w1 i H locs hP hD hS ls hl hi hw1 hm
    refine lv_iload_n hx hb dX10_regionsOf_2 rfl (lv_at hl 0 rfl) ?_
    refine lv_bipush (v := zI 49) hx hb dX10_regionsOf_3 (zI_b8 (by decide)) ?_
    refine z_icge (tgt := 35) hx hb ⟨by omega, by omega⟩ ⟨by omega, by omega⟩ dX10_regionsOf_5 (by decide) (fun c_5 => ?_) (fun c_5 => ?_)
    · refine lv_aload_n hx hb dX10_regionsOf_35 rfl (lv_at hl 1 rfl) ?_
      refine lv_iload_n hx hb dX10_regionsOf_36 rfl (lv_at hl 3 rfl) ?_
      refine z_ifneB (tgt := 44) hx hb dX10_regionsOf_37 (by decide) (fun c_37 => ?_) (fun c_37 => ?_)
      · refine lv_iconst (v := zI 0) hx hb dX10_regionsOf_44 rfl ?_
        refine z_calli hP hD hS hA (va_runV (As := [.int (bI false)]) (rest := []) hC (c_X10_regions l D τ β δ ms mb mo mp mf mn mi mc mq w1 mw mk ml mt ma mx mh (fun k => S_hi ms lv9 k == ab) false (by exact fun k z1 z2 => hw1 k z1 (by omega)) _) (cwV 1 hts (gV hB wl_X10_168 wn_X10_regions ws_X10_regions wi_X10 wc_X10_regions) rfl rfl rfl hd_X10_regions ⟨Nat.le_of_ble_eq_true rfl, Nat.le_of_ble_eq_true rfl⟩) (zp_V hK hP hD hS hA hG (ci := 10) (q0 := 0) rfl rfl rfl) rfl rfl hl.1 rfl (lv_room (Nat.le_of_ble_eq_true rfl)) dX10_regionsOf_45 ⟨Nat.le_of_ble_eq_true rfl, Nat.le_of_ble_eq_true rfl⟩) (fun r w1 H locs hq9 hP hD hS => ?_)
        obtain ⟨r45_1, v45_2, hv45_0, hv45_1, rfl, rfl⟩ := hq9
        have hP : va_P D vwCl (wM β δ ms mb mo mp mf mn mi mc mq r45_1 mw mk ml mt ma mx mh) H := hP
        have hD : va_D A (wM β δ ms mb mo mp mf mn mi mc mq r45_1 mw mk ml mt ma mx mh) := hD
        exact z_iret hC hr hlk hQ hP hD hS ⟨r45_1, v45_2, (by rw [c_37]; rw [c_37] at hv45_0; exact hv45_0), (by omega), rfl, rfl⟩ dX10_regionsOf_48
      · refine lv_iconst (v := zI 1) hx hb dX10_regionsOf_40 rfl ?_
        refine lv_goto (tgt := 45) hx hb dX10_regionsOf_41 (by decide) ?_
        refine z_calli hP hD hS hA (va_runV (As := [.int (bI true)]) (rest := []) hC (c_X10_regions l D τ β δ ms mb mo mp mf mn mi mc mq w1 mw mk ml mt ma mx mh (fun k => S_hi ms lv9 k == ab) true (by exact fun k z1 z2 => hw1 k z1 (by omega)) _) (cwV 1 hts (gV hB wl_X10_168 wn_X10_regions ws_X10_regions wi_X10 wc_X10_regions) rfl rfl rfl hd_X10_regions ⟨Nat.le_of_ble_eq_true rfl, Nat.le_of_ble_eq_true rfl⟩) (zp_V hK hP hD hS hA hG (ci := 10) (q0 := 0) rfl rfl rfl) rfl rfl hl.1 rfl (lv_room (Nat.le_of_ble_eq_true rfl)) dX10_regionsOf_45 ⟨Nat.le_of_ble_eq_true rfl, Nat.le_of_ble_eq_true rfl⟩) (fun r w1 H locs hq9 hP hD hS => ?_)
        obtain ⟨r45_3, v45_4, hv45_0, hv45_1, rfl, rfl⟩ := hq9
        have hP : va_P D vwCl (wM β δ ms mb mo mp mf mn mi mc mq r45_3 mw mk ml mt ma mx mh) H := hP
        have hD : va_D A (wM β δ ms mb mo mp mf mn mi mc mq r45_3 mw mk ml mt ma mx mh) := hD
        exact z_iret hC hr hlk hQ hP hD hS ⟨r45_3, v45_4, (by rw [c_37]; rw [c_37] at hv45_0; exact hv45_0), (by omega), rfl, rfl⟩ dX10_regionsOf_48
    · refine lv_aload_n hx hb dX10_regionsOf_8 rfl (lv_at hl 1 rfl) ?_
      refine va_get (D := D) (ci := 10) (v := .ref (β 10)) (C := RX10) (T := TX10) (N := 17) hx hb hts (fun w h => List.mem_cons_of_mem _ (wx_X10 w h)) hown hK hP 0 rfl rfl 14 (by decide) (hW0 _ wf_X10_38) (fun _ h9 => h9) rfl dX10_regionsOf_9 ?_
      refine lv_iload_n hx hb dX10_regionsOf_12 rfl (lv_at hl 0 rfl) ?_
      refine lv_aload_n hx hb dX10_regionsOf_13 rfl (lv_at hl 1 rfl) ?_
      refine lv_iload_n hx hb dX10_regionsOf_14 rfl (lv_at hl 0 rfl) ?_
      refine lv_iload_n hx hb dX10_regionsOf_15 rfl (lv_at hl 2 rfl) ?_
      refine z_calli hP hD hS hA (va_runV (As := [.int (zI i), .int (zI lv9)]) (rest := [.int (zI i), .ref (β 10)]) hC (c_X10_isAbove l D τ β δ ms mb mo mp mf mn mi mc mq w1 mw mk ml mt ma mx mh i lv9 (by first | assumption | rfl | omega) (by first | assumption | rfl | omega) (by first | assumption | rfl | omega) _) (cwV 2 hts (gV hB wl_X10_129 wn_X10_isAbove ws_X10_isAbove wi_X10 wc_X10_isAbove) rfl rfl rfl hd_X10_isAbove ⟨Nat.le_of_ble_eq_true rfl, Nat.le_of_ble_eq_true rfl⟩) (zp_V hK hP hD hS hA hG (ci := 10) (q0 := 0) rfl rfl rfl) rfl rfl hl.1 rfl (lv_room (Nat.le_of_ble_eq_true rfl)) dX10_regionsOf_16 ⟨Nat.le_of_ble_eq_true rfl, Nat.le_of_ble_eq_true rfl⟩) (fun r w1 H locs hq9 hP hD hS => ?_)
      obtain ⟨v16_5, hv16_0, rfl, rfl⟩ := hq9
      have hP : va_P D vwCl (wM β δ ms mb mo mp mf mn mi mc mq w1 mw mk ml mt ma mx mh) H := hP
      have hD : va_D A (wM β δ ms mb mo mp mf mn mi mc mq w1 mw mk ml mt ma mx mh) := hD
      refine lv_iload_n hx hb dX10_regionsOf_19 rfl (lv_at hl 3 rfl) ?_
      refine z_icneB (tgt := 27) hx hb dX10_regionsOf_20 (by decide) (fun c_20 => ?_) (fun c_20 => ?_)
      · refine lv_iconst (v := zI (-1)) hx hb dX10_regionsOf_27 rfl ?_
        refine z_iast (f := w1) (v := (-1)) hx hb hK hP hD hS 10 9 rfl rfl ⟨⟨by omega, by omega⟩, by decide⟩ dX10_regionsOf_28 (fun H locs hP hD hS => ?_)
        have hP : va_P D vwCl (wM β δ ms mb mo mp mf mn mi mc mq ((zu w1 i (-1))) mw mk ml mt ma mx mh) H := hP
        have hD : va_D A (wM β δ ms mb mo mp mf mn mi mc mq ((zu w1 i (-1))) mw mk ml mt ma mx mh) := hD
        refine z_iinc (k := 0) (v := i + 1) (lv' := [(3, .int (zI (i + 1))), (0, .ref (β 0)), (1, .int (zI lv9)), (2, .int (bI ab))]) hx hb dX10_regionsOf_29 hl rfl rfl (by decide) rfl (fun ls hl => ?_)
        refine lv_goto (tgt := 2) hx hb dX10_regionsOf_32 (by decide) ?_
        exact ih_2 (zu w1 i (-1)) (i + 1) _ _ hP hD hS _ (lv_sub hl [0, 1, 2, 3] rfl) (by first | assumption | rfl | omega) (by intro k z1 z2; by_cases e9 : k = i; (rw [e9, zu_s]; rw [hv16_0] at c_20; first | (rw [if_pos (beq_iff_eq.mpr c_20)]; done) | (rw [if_neg (fun h9 => c_20 (beq_iff_eq.mp h9))]; done)); (rw [zu_n e9]; exact hw1 k z1 (by omega))) (by omega)
      · refine lv_iload_n hx hb dX10_regionsOf_23 rfl (lv_at hl 0 rfl) ?_
        refine lv_goto (tgt := 28) hx hb dX10_regionsOf_24 (by decide) ?_
        refine z_iast (f := w1) (v := i) hx hb hK hP hD hS 10 9 rfl rfl ⟨⟨by omega, by omega⟩, by decide⟩ dX10_regionsOf_28 (fun H locs hP hD hS => ?_)
        have hP : va_P D vwCl (wM β δ ms mb mo mp mf mn mi mc mq (zu w1 i i) mw mk ml mt ma mx mh) H := hP
        have hD : va_D A (wM β δ ms mb mo mp mf mn mi mc mq (zu w1 i i) mw mk ml mt ma mx mh) := hD
        refine z_iinc (k := 0) (v := i + 1) (lv' := [(3, .int (zI (i + 1))), (0, .ref (β 0)), (1, .int (zI lv9)), (2, .int (bI ab))]) hx hb dX10_regionsOf_29 hl rfl rfl (by decide) rfl (fun ls hl => ?_)
        refine lv_goto (tgt := 2) hx hb dX10_regionsOf_32 (by decide) ?_
        exact ih_2 (zu w1 i i) (i + 1) _ _ hP hD hS _ (lv_sub hl [0, 1, 2, 3] rfl) (by first | assumption | rfl | omega) (by intro k z1 z2; by_cases e9 : k = i; (rw [e9, zu_s]; rw [hv16_0] at c_20; first | (rw [if_pos (beq_iff_eq.mpr c_20)]; done) | (rw [if_neg (fun h9 => c_20 (beq_iff_eq.mp h9))]; done)); (rw [zu_n e9]; exact hw1 k z1 (by omega))) (by omega)

abbrev wz_X10_hills : List Cond := .code yX10_hills cX10_hills 2 (some .int) :: W0
abbrev rm_X10_hills : Room := { frames := 3, cells := 0, slots := 0, locals := 70 }
theorem hd_X10_hills : yX10_hills.cls = RX10 ∧ yX10_hills.cls ≠ "java/lang/invoke/MethodHandle" ∧ yX10_hills.cls ≠ "java/lang/invoke/VarHandle" ∧ (parseMethodDescriptor yX10_hills.desc).map (fun d => d.parameters.length) = some 1 := by decide +kernel
set_option maxHeartbeats 4000000 in
set_option maxRecDepth 100000 in
theorem c_X10_hills (l : Launch) (D : va_G) (τ : Nat → Nat) (β : Nat → Nat) (δ : Nat → ClassId) (ms : IA) (mb : IA) (mo : IA) (mp : BA) (mf : IA) (mn : IA) (mi : IA) (mc : IA) (mq : BA) (mr : IA) (mw : IA) (mk : Int) (ml : Int) (mt : Int) (ma : Int) (mx : Bool) (mh : Int64) (lv9 : Int) (hlv : -2147483648 ≤ lv9 ∧ lv9 < 2147483648) (hms : ∀ k, 0 ≤ k → k < 49 → 0 ≤ ms k ∧ ms k ≤ 99) : cM l yX10_hills wz_X10_hills rm_X10_hills D τ (tyM δ) [.ref (β 0), .int (zI lv9)] (wM β δ ms mb mo mp mf mn mi mc mq mr mw mk ml mt ma mx mh) (zQi (fun r w => ∃ (r2 : IA), ∃ (t2 : Int), ∃ (v : Int), (t2 = S_tlev lv9) ∧ (t2 = 0 → v = S_comps (S_nb (!true)) (fun k => S_hi ms lv9 k == true)) ∧ r = zI v ∧ wM β δ ms mb mo mp mf mn mi mc mq r2 mw mk ml t2 ma mx mh = w)) := by
  refine z_ofM (cc := cX10_hills) (maxL := 2) (ret := (some .int)) (by decide +kernel) rfl (Nat.le_of_ble_eq_true rfl) ?_
  intro pg e s m args below meth c hC hr hlk hnm hK hP A hD hG hA hS ls hl Q hQ
  have hx := hC.1
  have hb := hC.2.1
  have hml := hC.2.2.1
  have hown := hC.2.2.2.1
  have hts := hC.2.2.2.2
  have hB : ∀ w ∈ W0, w ∈ wz_X10_hills := fun _ h => List.mem_cons_of_mem _ h
  have hW0 : ∀ w ∈ W0, w.before args s = true := fun w h => hts w (hB w h)
  have hl : lv_has ls 2 [(0, .ref (β 0)), (1, .int (zI lv9))] := hl
  refine lv_aload_n hx hb dX10_hills_0 rfl (lv_at hl 0 rfl) ?_
  refine lv_iload_n hx hb dX10_hills_1 rfl (lv_at hl 1 rfl) ?_
  refine z_calli hP hD hS hA (va_runV (As := [.int (zI lv9)]) (rest := []) hC (c_X10_isLevel l D τ β δ ms mb mo mp mf mn mi mc mq mr mw mk ml mt ma mx mh lv9 (by first | assumption | rfl | omega) _) (cwV 1 hts (gV hB wl_X10_132 wn_X10_isLevel ws_X10_isLevel wi_X10 wc_X10_isLevel) rfl rfl rfl hd_X10_isLevel ⟨Nat.le_of_ble_eq_true rfl, Nat.le_of_ble_eq_true rfl⟩) (zp_V hK hP hD hS hA hG (ci := 10) (q0 := 0) rfl rfl rfl) rfl rfl hl.1 rfl (lv_room (Nat.le_of_ble_eq_true rfl)) dX10_hills_2 ⟨Nat.le_of_ble_eq_true rfl, Nat.le_of_ble_eq_true rfl⟩) (fun r w1 H locs hq9 hP hD hS => ?_)
  obtain ⟨t2_1, v2_2, hv2_0, hv2_1, rfl, rfl⟩ := hq9
  have hP : va_P D vwCl (wM β δ ms mb mo mp mf mn mi mc mq mr mw mk ml t2_1 ma mx mh) H := hP
  have hD : va_D A (wM β δ ms mb mo mp mf mn mi mc mq mr mw mk ml t2_1 ma mx mh) := hD
  refine z_ifeqB (tgt := 17) hx hb dX10_hills_5 (by decide) (fun c_5 => ?_) (fun c_5 => ?_)
  · have hb_5 := zb_neg hv2_0 c_5
    refine lv_iconst (v := zI 0) hx hb dX10_hills_17 rfl ?_
    exact z_iret hC hr hlk hQ hP hD hS ⟨mr, t2_1, 0, (by exact hv2_1), (by first | exact fun _ => hv11_0 | (intro h9; rw [hv2_1] at h9; unfold S_tlev at h9; rw [if_neg hb_5] at h9; exact absurd h9 (by decide))), rfl, rfl⟩ dX10_hills_18
  · have hb_5 := hv2_0.mp c_5
    refine lv_aload_n hx hb dX10_hills_8 rfl (lv_at hl 0 rfl) ?_
    refine lv_iload_n hx hb dX10_hills_9 rfl (lv_at hl 1 rfl) ?_
    refine lv_iconst (v := zI 1) hx hb dX10_hills_10 rfl ?_
    refine z_calli hP hD hS hA (va_runV (As := [.int (zI lv9), .int (bI true)]) (rest := []) hC (c_X10_regionsOf l D τ β δ ms mb mo mp mf mn mi mc mq mr mw mk ml t2_1 ma mx mh lv9 true (by exact hb_5) (by first | assumption | rfl | omega) _) (cwV 2 hts (gV hB wl_X10_181 wn_X10_regionsOf ws_X10_regionsOf wi_X10 wc_X10_regionsOf) rfl rfl rfl hd_X10_regionsOf ⟨Nat.le_of_ble_eq_true rfl, Nat.le_of_ble_eq_true rfl⟩) (zp_V hK hP hD hS hA hG (ci := 10) (q0 := 0) rfl rfl rfl) rfl rfl hl.1 rfl (lv_room (Nat.le_of_ble_eq_true rfl)) dX10_hills_11 ⟨Nat.le_of_ble_eq_true rfl, Nat.le_of_ble_eq_true rfl⟩) (fun r w1 H locs hq9 hP hD hS => ?_)
    obtain ⟨r11_3, v11_4, hv11_0, hv11_1, rfl, rfl⟩ := hq9
    have hP : va_P D vwCl (wM β δ ms mb mo mp mf mn mi mc mq r11_3 mw mk ml t2_1 ma mx mh) H := hP
    have hD : va_D A (wM β δ ms mb mo mp mf mn mi mc mq r11_3 mw mk ml t2_1 ma mx mh) := hD
    refine lv_goto (tgt := 18) hx hb dX10_hills_14 (by decide) ?_
    exact z_iret hC hr hlk hQ hP hD hS ⟨r11_3, t2_1, v11_4, (by exact hv2_1), (by first | exact fun _ => hv11_0 | (intro h9; rw [hv2_1] at h9; unfold S_tlev at h9; rw [if_neg hb_5] at h9; exact absurd h9 (by decide))), rfl, rfl⟩ dX10_hills_18

abbrev wz_X10_hollows : List Cond := .code yX10_hollows cX10_hollows 2 (some .int) :: W0
abbrev rm_X10_hollows : Room := { frames := 3, cells := 0, slots := 0, locals := 70 }
theorem hd_X10_hollows : yX10_hollows.cls = RX10 ∧ yX10_hollows.cls ≠ "java/lang/invoke/MethodHandle" ∧ yX10_hollows.cls ≠ "java/lang/invoke/VarHandle" ∧ (parseMethodDescriptor yX10_hollows.desc).map (fun d => d.parameters.length) = some 1 := by decide +kernel
set_option maxHeartbeats 4000000 in
set_option maxRecDepth 100000 in
theorem c_X10_hollows (l : Launch) (D : va_G) (τ : Nat → Nat) (β : Nat → Nat) (δ : Nat → ClassId) (ms : IA) (mb : IA) (mo : IA) (mp : BA) (mf : IA) (mn : IA) (mi : IA) (mc : IA) (mq : BA) (mr : IA) (mw : IA) (mk : Int) (ml : Int) (mt : Int) (ma : Int) (mx : Bool) (mh : Int64) (lv9 : Int) (hlv : -2147483648 ≤ lv9 ∧ lv9 < 2147483648) (hms : ∀ k, 0 ≤ k → k < 49 → 0 ≤ ms k ∧ ms k ≤ 99) : cM l yX10_hollows wz_X10_hollows rm_X10_hollows D τ (tyM δ) [.ref (β 0), .int (zI lv9)] (wM β δ ms mb mo mp mf mn mi mc mq mr mw mk ml mt ma mx mh) (zQi (fun r w => ∃ (r2 : IA), ∃ (t2 : Int), ∃ (v : Int), (t2 = S_tlev lv9) ∧ (t2 = 0 → v = S_comps (S_nb (!false)) (fun k => S_hi ms lv9 k == false)) ∧ r = zI v ∧ wM β δ ms mb mo mp mf mn mi mc mq r2 mw mk ml t2 ma mx mh = w)) := by
  refine z_ofM (cc := cX10_hollows) (maxL := 2) (ret := (some .int)) (by decide +kernel) rfl (Nat.le_of_ble_eq_true rfl) ?_
  intro pg e s m args below meth c hC hr hlk hnm hK hP A hD hG hA hS ls hl Q hQ
  have hx := hC.1
  have hb := hC.2.1
  have hml := hC.2.2.1
  have hown := hC.2.2.2.1
  have hts := hC.2.2.2.2
  have hB : ∀ w ∈ W0, w ∈ wz_X10_hollows := fun _ h => List.mem_cons_of_mem _ h
  have hW0 : ∀ w ∈ W0, w.before args s = true := fun w h => hts w (hB w h)
  have hl : lv_has ls 2 [(0, .ref (β 0)), (1, .int (zI lv9))] := hl
  refine lv_aload_n hx hb dX10_hollows_0 rfl (lv_at hl 0 rfl) ?_
  refine lv_iload_n hx hb dX10_hollows_1 rfl (lv_at hl 1 rfl) ?_
  refine z_calli hP hD hS hA (va_runV (As := [.int (zI lv9)]) (rest := []) hC (c_X10_isLevel l D τ β δ ms mb mo mp mf mn mi mc mq mr mw mk ml mt ma mx mh lv9 (by first | assumption | rfl | omega) _) (cwV 1 hts (gV hB wl_X10_132 wn_X10_isLevel ws_X10_isLevel wi_X10 wc_X10_isLevel) rfl rfl rfl hd_X10_isLevel ⟨Nat.le_of_ble_eq_true rfl, Nat.le_of_ble_eq_true rfl⟩) (zp_V hK hP hD hS hA hG (ci := 10) (q0 := 0) rfl rfl rfl) rfl rfl hl.1 rfl (lv_room (Nat.le_of_ble_eq_true rfl)) dX10_hollows_2 ⟨Nat.le_of_ble_eq_true rfl, Nat.le_of_ble_eq_true rfl⟩) (fun r w1 H locs hq9 hP hD hS => ?_)
  obtain ⟨t2_1, v2_2, hv2_0, hv2_1, rfl, rfl⟩ := hq9
  have hP : va_P D vwCl (wM β δ ms mb mo mp mf mn mi mc mq mr mw mk ml t2_1 ma mx mh) H := hP
  have hD : va_D A (wM β δ ms mb mo mp mf mn mi mc mq mr mw mk ml t2_1 ma mx mh) := hD
  refine z_ifeqB (tgt := 17) hx hb dX10_hollows_5 (by decide) (fun c_5 => ?_) (fun c_5 => ?_)
  · have hb_5 := zb_neg hv2_0 c_5
    refine lv_iconst (v := zI 0) hx hb dX10_hollows_17 rfl ?_
    exact z_iret hC hr hlk hQ hP hD hS ⟨mr, t2_1, 0, (by exact hv2_1), (by first | exact fun _ => hv11_0 | (intro h9; rw [hv2_1] at h9; unfold S_tlev at h9; rw [if_neg hb_5] at h9; exact absurd h9 (by decide))), rfl, rfl⟩ dX10_hollows_18
  · have hb_5 := hv2_0.mp c_5
    refine lv_aload_n hx hb dX10_hollows_8 rfl (lv_at hl 0 rfl) ?_
    refine lv_iload_n hx hb dX10_hollows_9 rfl (lv_at hl 1 rfl) ?_
    refine lv_iconst (v := zI 0) hx hb dX10_hollows_10 rfl ?_
    refine z_calli hP hD hS hA (va_runV (As := [.int (zI lv9), .int (bI false)]) (rest := []) hC (c_X10_regionsOf l D τ β δ ms mb mo mp mf mn mi mc mq mr mw mk ml t2_1 ma mx mh lv9 false (by exact hb_5) (by first | assumption | rfl | omega) _) (cwV 2 hts (gV hB wl_X10_181 wn_X10_regionsOf ws_X10_regionsOf wi_X10 wc_X10_regionsOf) rfl rfl rfl hd_X10_regionsOf ⟨Nat.le_of_ble_eq_true rfl, Nat.le_of_ble_eq_true rfl⟩) (zp_V hK hP hD hS hA hG (ci := 10) (q0 := 0) rfl rfl rfl) rfl rfl hl.1 rfl (lv_room (Nat.le_of_ble_eq_true rfl)) dX10_hollows_11 ⟨Nat.le_of_ble_eq_true rfl, Nat.le_of_ble_eq_true rfl⟩) (fun r w1 H locs hq9 hP hD hS => ?_)
    obtain ⟨r11_3, v11_4, hv11_0, hv11_1, rfl, rfl⟩ := hq9
    have hP : va_P D vwCl (wM β δ ms mb mo mp mf mn mi mc mq r11_3 mw mk ml t2_1 ma mx mh) H := hP
    have hD : va_D A (wM β δ ms mb mo mp mf mn mi mc mq r11_3 mw mk ml t2_1 ma mx mh) := hD
    refine lv_goto (tgt := 18) hx hb dX10_hollows_14 (by decide) ?_
    exact z_iret hC hr hlk hQ hP hD hS ⟨r11_3, t2_1, v11_4, (by exact hv2_1), (by first | exact fun _ => hv11_0 | (intro h9; rw [hv2_1] at h9; unfold S_tlev at h9; rw [if_neg hb_5] at h9; exact absurd h9 (by decide))), rfl, rfl⟩ dX10_hollows_18

abbrev wz_X10_floods : List Cond := .code yX10_floods cX10_floods 6 none :: W0
abbrev rm_X10_floods : Room := { frames := 3, cells := 0, slots := 0, locals := 66 }
theorem hd_X10_floods : yX10_floods.cls = RX10 ∧ yX10_floods.cls ≠ "java/lang/invoke/MethodHandle" ∧ yX10_floods.cls ≠ "java/lang/invoke/VarHandle" ∧ (parseMethodDescriptor yX10_floods.desc).map (fun d => d.parameters.length) = some 0 := by decide +kernel
set_option maxHeartbeats 4000000 in
set_option maxRecDepth 100000 in
theorem c_X10_floods (l : Launch) (D : va_G) (τ : Nat → Nat) (β : Nat → Nat) (δ : Nat → ClassId) (ms : IA) (mb : IA) (mo : IA) (mp : BA) (mf : IA) (mn : IA) (mi : IA) (mc : IA) (mq : BA) (mr : IA) (mw : IA) (mk : Int) (ml : Int) (mt : Int) (ma : Int) (mx : Bool) (mh : Int64) (hms : ∀ k, 0 ≤ k → k < 49 → 0 ≤ ms k ∧ ms k ≤ 99) : cM l yX10_floods wz_X10_floods rm_X10_floods D τ (tyM δ) [.ref (β 0)] (wM β δ ms mb mo mp mf mn mi mc mq mr mw mk ml mt ma mx mh) (zQv (fun w => ∃ (w2 : IA), (∀ k, 0 ≤ k → k < 49 → w2 k = S_spill ms k) ∧ wM β δ ms mb mo mp mf mn mi mc mq mr w2 mk ml mt ma mx mh = w)) := by
  refine z_ofM (cc := cX10_floods) (maxL := 6) (ret := none) (by decide +kernel) rfl (Nat.le_of_ble_eq_true rfl) ?_
  intro pg e s m args below meth c hC hr hlk hnm hK hP A hD hG hA hS ls hl Q hQ
  have hx := hC.1
  have hb := hC.2.1
  have hml := hC.2.2.1
  have hown := hC.2.2.2.1
  have hts := hC.2.2.2.2
  have hB : ∀ w ∈ W0, w ∈ wz_X10_floods := fun _ h => List.mem_cons_of_mem _ h
  have hW0 : ∀ w ∈ W0, w.before args s = true := fun w h => hts w (hB w h)
  have hl : lv_has ls 6 [(0, .ref (β 0))] := hl
  refine lv_iconst (v := zI 0) hx hb dX10_floods_0 rfl ?_
  refine lv_istore_n (lv' := [(1, .int (zI 0)), (0, .ref (β 0))]) hx hb dX10_floods_1 rfl hl (by decide) rfl (fun ls hl => ?_)
  suffices HL_2 : ∀ (n_2 : Nat), ∀ (w1 : IA) (i : Int) (H : Heap) (locs : List Loc) (hP : va_P D vwCl (wM β δ ms mb mo mp mf mn mi mc mq mr w1 mk ml mt ma mx mh) H) (hD : va_D A (wM β δ ms mb mo mp mf mn mi mc mq mr w1 mk ml mt ma mx mh)) (hS : va_S A s.heap H locs) (ls : Array Slot) (hl : lv_has ls 6 [(1, .int (zI i)), (0, .ref (β 0))]) (hi : 0 ≤ i ∧ i ≤ 49) (hw1 : ∀ k, 0 ≤ k → k < i → w1 k = (if cb (S_bd k) = true then ms k else 99)) (hm : (49 - i).toNat < n_2), W pg l e rm_X10_floods s m args below meth c H locs 0 0 Q (F0 m 2 ls []) from HL_2 _ mw 0 _ _ hP hD hS _ (lv_sub hl [0, 1] rfl) (by first | assumption | rfl | omega) (by intro k z1 z2; omega) (Nat.lt_succ_self _)
  intro n_2
  induction n_2 with
  | zero => intro w1 i H locs hP hD hS ls hl hi hw1 hm; exact absurd hm (Nat.not_lt_zero _)
  | succ n_2 ih_2 =>
    intro w1 i H locs hP hD hS ls hl hi hw1 hm
    refine lv_iload_n hx hb dX10_floods_2 rfl (lv_at hl 0 rfl) ?_
    refine lv_bipush (v := zI 49) hx hb dX10_floods_3 (zI_b8 (by decide)) ?_
    refine z_icge (tgt := 38) hx hb ⟨by omega, by omega⟩ ⟨by omega, by omega⟩ dX10_floods_5 (by decide) (fun c_5 => ?_) (fun c_5 => ?_)
    · refine lv_iconst (v := zI 1) hx hb dX10_floods_38 rfl ?_
      refine lv_istore_n (lv' := [(1, .int (zI 1)), (0, .ref (β 0))]) hx hb dX10_floods_39 rfl hl (by decide) rfl (fun ls hl => ?_)
      suffices HL_40 : ∀ (n_40 : Nat), ∀ (w3 : IA) (c8 : Int) (H : Heap) (locs : List Loc) (hP : va_P D vwCl (wM β δ ms mb mo mp mf mn mi mc mq mr w3 mk ml mt ma mx mh) H) (hD : va_D A (wM β δ ms mb mo mp mf mn mi mc mq mr w3 mk ml mt ma mx mh)) (hS : va_S A s.heap H locs) (ls : Array Slot) (hl : lv_has ls 6 [(1, .int (zI c8)), (0, .ref (β 0))]) (hc8 : c8 = 0 ∨ c8 = 1) (hI : WI ms w3) (hO : c8 = 0 → ∀ k, 0 ≤ k → k < 49 → WX ms w3 k) (hm : (2 * zS w3 49 + c8).toNat < n_40), W pg l e rm_X10_floods s m args below meth c H locs 0 0 Q (F0 m 40 ls []) from HL_40 _ w1 1 _ _ hP hD hS _ (lv_sub hl [0, 1] rfl) (by first | assumption | rfl | omega) (by exact WI_0 hms (fun k z1 z2 => hw1 k z1 (by omega))) (by intro h9; exact absurd h9 (by decide)) (Nat.lt_succ_self _)
      intro n_40
      induction n_40 with
      | zero => intro w3 c8 H locs hP hD hS ls hl hc8 hI hO hm; exact absurd hm (Nat.not_lt_zero _)
      | succ n_40 ih_40 =>
        intro w3 c8 H locs hP hD hS ls hl hc8 hI hO hm
        refine lv_iload_n hx hb dX10_floods_40 rfl (lv_at hl 0 rfl) ?_
        refine z_ifeq (tgt := 140) hx hb ⟨by omega, by omega⟩ dX10_floods_41 (by decide) (fun c_41 => ?_) (fun c_41 => ?_)
        · exact z_vret hC hr hlk hQ hP hD hS ⟨w3, (by exact WI_end hms hI (hO (by omega))), rfl⟩ dX10_floods_140
        · refine lv_iconst (v := zI 0) hx hb dX10_floods_44 rfl ?_
          refine lv_istore_n (lv' := [(1, .int (zI 0)), (0, .ref (β 0))]) hx hb dX10_floods_45 rfl hl (by decide) rfl (fun ls hl => ?_)
          refine lv_iconst (v := zI 0) hx hb dX10_floods_46 rfl ?_
          refine lv_istore_n (lv' := [(2, .int (zI 0)), (1, .int (zI 0)), (0, .ref (β 0))]) hx hb dX10_floods_47 rfl hl (by decide) rfl (fun ls hl => ?_)
          suffices HL_48 : ∀ (n_48 : Nat), ∀ (w4 : IA) (c9 : Int) (i : Int) (H : Heap) (locs : List Loc) (hP : va_P D vwCl (wM β δ ms mb mo mp mf mn mi mc mq mr w4 mk ml mt ma mx mh) H) (hD : va_D A (wM β δ ms mb mo mp mf mn mi mc mq mr w4 mk ml mt ma mx mh)) (hS : va_S A s.heap H locs) (ls : Array Slot) (hl : lv_has ls 6 [(1, .int (zI c9)), (2, .int (zI i)), (0, .ref (β 0))]) (hi : 0 ≤ i ∧ i ≤ 49) (hc9 : c9 = 0 ∨ c9 = 1) (hI4 : WI ms w4) (hs4 : zS w4 49 ≤ zS w3 49 - c9) (hO4 : c9 = 0 → ∀ k, 0 ≤ k → k < i → WX ms w4 k) (hm : (49 - i).toNat < n_48), W pg l e rm_X10_floods s m args below meth c H locs 0 0 Q (F0 m 48 ls []) from HL_48 _ w3 0 0 _ _ hP hD hS _ (lv_sub hl [1, 0, 2] rfl) (by first | assumption | rfl | omega) (by first | assumption | rfl | omega) (by exact hI) (by first | assumption | rfl | omega) (by intro _ k z1 z2; omega) (Nat.lt_succ_self _)
          intro n_48
          induction n_48 with
          | zero => intro w4 c9 i H locs hP hD hS ls hl hi hc9 hI4 hs4 hO4 hm; exact absurd hm (Nat.not_lt_zero _)
          | succ n_48 ih_48 =>
            intro w4 c9 i H locs hP hD hS ls hl hi hc9 hI4 hs4 hO4 hm
            refine lv_iload_n hx hb dX10_floods_48 rfl (lv_at hl 1 rfl) ?_
            refine lv_bipush (v := zI 49) hx hb dX10_floods_49 (zI_b8 (by decide)) ?_
            refine z_icge (tgt := 137) hx hb ⟨by omega, by omega⟩ ⟨by omega, by omega⟩ dX10_floods_51 (by decide) (fun c_51 => ?_) (fun c_51 => ?_)
            · refine lv_goto (tgt := 40) hx hb dX10_floods_137 (by decide) ?_
              exact ih_40 w4 c9 _ _ hP hD hS _ (lv_sub hl [0, 2] rfl) (by exact hc9) (by exact hI4) (by intro h9 k z1 z2; exact hO4 h9 k z1 (by omega)) (by have z8 := WI_sum hms hI; have z9 := WI_sum hms hI4; omega)
            · refine lv_iconst (v := zI 0) hx hb dX10_floods_54 rfl ?_
              refine lv_istore_n (lv' := [(3, .int (zI 0)), (1, .int (zI c9)), (2, .int (zI i)), (0, .ref (β 0))]) hx hb dX10_floods_55 rfl hl (by decide) rfl (fun ls hl => ?_)
              suffices HL_56 : ∀ (n_56 : Nat), ∀ (w5 : IA) (c7 : Int) (w : Int) (H : Heap) (locs : List Loc) (hP : va_P D vwCl (wM β δ ms mb mo mp mf mn mi mc mq mr w5 mk ml mt ma mx mh) H) (hD : va_D A (wM β δ ms mb mo mp mf mn mi mc mq mr w5 mk ml mt ma mx mh)) (hS : va_S A s.heap H locs) (ls : Array Slot) (hl : lv_has ls 6 [(1, .int (zI c7)), (3, .int (zI w)), (2, .int (zI i)), (0, .ref (β 0))]) (hw : 0 ≤ w ∧ w ≤ 4) (hc7 : c7 = 0 ∨ c7 = 1) (hI5 : WI ms w5) (hs5 : zS w5 49 ≤ zS w3 49 - c7) (hO5 : c7 = 0 → (∀ k, 0 ≤ k → k < i → WX ms w5 k) ∧ (∀ s, 0 ≤ s → s < w → 0 ≤ S_step i s → w5 i ≤ zmax (ms i) (w5 (S_step i s)))) (hm : (4 - w).toNat < n_56), W pg l e rm_X10_floods s m args below meth c H locs 0 0 Q (F0 m 56 ls []) from HL_56 _ w4 c9 0 _ _ hP hD hS _ (lv_sub hl [1, 0, 2, 3] rfl) (by first | assumption | rfl | omega) (by exact hc9) (by exact hI4) (by exact hs4) (by intro h9; exact ⟨hO4 h9, fun s z1 z2 => by omega⟩) (Nat.lt_succ_self _)
              intro n_56
              induction n_56 with
              | zero => intro w5 c7 w H locs hP hD hS ls hl hw hc7 hI5 hs5 hO5 hm; exact absurd hm (Nat.not_lt_zero _)
              | succ n_56 ih_56 =>
                intro w5 c7 w H locs hP hD hS ls hl hw hc7 hI5 hs5 hO5 hm
                have hwr := WI_b hms hI5
                refine lv_iload_n hx hb dX10_floods_56 rfl (lv_at hl 1 rfl) ?_
                refine lv_iconst (v := zI 4) hx hb dX10_floods_57 rfl ?_
                refine z_icge (tgt := 131) hx hb ⟨by omega, by omega⟩ ⟨by omega, by omega⟩ dX10_floods_58 (by decide) (fun c_58 => ?_) (fun c_58 => ?_)
                · refine z_iinc (k := 2) (v := i + 1) (lv' := [(2, .int (zI (i + 1))), (1, .int (zI c7)), (3, .int (zI w)), (0, .ref (β 0))]) hx hb dX10_floods_131 hl rfl rfl (by decide) rfl (fun ls hl => ?_)
                  refine lv_goto (tgt := 48) hx hb dX10_floods_134 (by decide) ?_
                  exact ih_48 w5 c7 (i + 1) _ _ hP hD hS _ (lv_sub hl [1, 0, 3] rfl) (by first | assumption | rfl | omega) (by exact hc7) (by exact hI5) (by exact hs5) (by intro h9 k z1 z2; by_cases e9 : k = i; (rw [e9]; first | exact WX_bd hI5 ⟨hi.1, by omega⟩ hb_65 | exact WX_in ⟨hi.1, by omega⟩ (fun s z3 z4 z5 => (hO5 h9).2 s z3 (by omega) z5)); exact (hO5 h9).1 k z1 (by omega)) (by omega)
                · refine lv_iload_n hx hb dX10_floods_61 rfl (lv_at hl 2 rfl) ?_
                  refine z_calli hP hD hS hA (va_runS (As := [.int (zI i)]) (rest := []) hC (c_X10_isBorder l D τ _ _ i (by first | assumption | rfl | omega) _) (va_cwS 1 hts (gS hB wl_X10_202 wt_X10_isBorder wi_X10 wc_X10_isBorder) rfl rfl rfl hd_X10_isBorder.2 ⟨Nat.le_of_ble_eq_true rfl, Nat.le_of_ble_eq_true rfl⟩) (zp_S hK hP hD hS hA hG) rfl rfl hl.1 rfl (lv_room (Nat.le_of_ble_eq_true rfl)) dX10_floods_62 ⟨Nat.le_of_ble_eq_true rfl, Nat.le_of_ble_eq_true rfl⟩) (fun r w1 H locs hq9 hP hD hS => ?_)
                  obtain ⟨v62_1, hv62_0, rfl, rfl⟩ := hq9
                  refine z_ifneB (tgt := 131) hx hb dX10_floods_65 (by decide) (fun c_65 => ?_) (fun c_65 => ?_)
                  · have hb_65 := hv62_0.mp c_65
                    refine z_iinc (k := 2) (v := i + 1) (lv' := [(2, .int (zI (i + 1))), (1, .int (zI c7)), (3, .int (zI w)), (0, .ref (β 0))]) hx hb dX10_floods_131 hl rfl rfl (by decide) rfl (fun ls hl => ?_)
                    refine lv_goto (tgt := 48) hx hb dX10_floods_134 (by decide) ?_
                    exact ih_48 w5 c7 (i + 1) _ _ hP hD hS _ (lv_sub hl [1, 0, 3] rfl) (by first | assumption | rfl | omega) (by exact hc7) (by exact hI5) (by exact hs5) (by intro h9 k z1 z2; by_cases e9 : k = i; (rw [e9]; first | exact WX_bd hI5 ⟨hi.1, by omega⟩ hb_65 | exact WX_in ⟨hi.1, by omega⟩ (fun s z3 z4 z5 => (hO5 h9).2 s z3 (by omega) z5)); exact (hO5 h9).1 k z1 (by omega)) (by omega)
                  · have hb_65 := zb_neg hv62_0 c_65
                    refine lv_aload_n hx hb dX10_floods_68 rfl (lv_at hl 3 rfl) ?_
                    refine va_get (D := D) (ci := 10) (v := .ref (β 11)) (C := RX10) (T := TX10) (N := 17) hx hb hts (fun w h => List.mem_cons_of_mem _ (wx_X10 w h)) hown hK hP 0 rfl rfl 15 (by decide) (hW0 _ wf_X10_41) (fun _ h9 => h9) rfl dX10_floods_69 ?_
                    refine lv_iload_n hx hb dX10_floods_72 rfl (lv_at hl 2 rfl) ?_
                    refine lv_iload_n hx hb dX10_floods_73 rfl (lv_at hl 1 rfl) ?_
                    refine z_calli hP hD hS hA (va_runS (As := [.int (zI i), .int (zI w)]) (rest := [.ref (β 11)]) hC (c_X10_next l D τ _ _ i w (by first | assumption | rfl | omega) (by first | assumption | rfl | omega) _) (va_cwS 2 hts (gS hB wl_X10_70 wt_X10_next wi_X10 wc_X10_next) rfl rfl rfl hd_X10_next.2 ⟨Nat.le_of_ble_eq_true rfl, Nat.le_of_ble_eq_true rfl⟩) (zp_S hK hP hD hS hA hG) rfl rfl hl.1 rfl (lv_room (Nat.le_of_ble_eq_true rfl)) dX10_floods_74 ⟨Nat.le_of_ble_eq_true rfl, Nat.le_of_ble_eq_true rfl⟩) (fun r w1 H locs hq9 hP hD hS => ?_)
                    obtain ⟨v74_2, hv74_0, hv74_1, rfl, rfl⟩ := hq9
                    have hnx : 0 ≤ S_step i w := S_step_nb ⟨hi.1, by omega⟩ hb_65 ⟨hw.1, by omega⟩
                    refine z_iald (f := w5) hx hb hK hP 11 10 rfl rfl ⟨⟨by omega, by omega⟩, by decide⟩ dX10_floods_77 ?_
                    have hb_77 := hwr v74_2 (by omega) (by omega)
                    refine lv_istore (lv' := [(4, .int (zI (w5 v74_2))), (1, .int (zI c7)), (3, .int (zI w)), (2, .int (zI i)), (0, .ref (β 0))]) hx hb dX10_floods_78 hl (by decide) rfl (fun ls hl => ?_)
                    refine lv_iload hx hb dX10_floods_80 (lv_at hl 0 rfl) ?_
                    refine lv_aload_n hx hb dX10_floods_82 rfl (lv_at hl 4 rfl) ?_
                    refine va_get (D := D) (ci := 10) (v := .ref (β 1)) (C := RX10) (T := TX10) (N := 17) hx hb hts (fun w h => List.mem_cons_of_mem _ (wx_X10 w h)) hown hK hP 0 rfl rfl 0 (by decide) (hW0 _ wf_X10_7) (fun _ h9 => h9) rfl dX10_floods_83 ?_
                    refine lv_iload_n hx hb dX10_floods_86 rfl (lv_at hl 3 rfl) ?_
                    refine z_iald (f := ms) hx hb hK hP 1 0 rfl rfl ⟨⟨by omega, by omega⟩, by decide⟩ dX10_floods_87 ?_
                    have hb_87 := hms i (by omega) (by omega)
                    refine z_icle (tgt := 96) hx hb ⟨by omega, by omega⟩ ⟨by omega, by omega⟩ dX10_floods_88 (by decide) (fun c_88 => ?_) (fun c_88 => ?_)
                    · refine lv_aload_n hx hb dX10_floods_96 rfl (lv_at hl 4 rfl) ?_
                      refine va_get (D := D) (ci := 10) (v := .ref (β 1)) (C := RX10) (T := TX10) (N := 17) hx hb hts (fun w h => List.mem_cons_of_mem _ (wx_X10 w h)) hown hK hP 0 rfl rfl 0 (by decide) (hW0 _ wf_X10_7) (fun _ h9 => h9) rfl dX10_floods_97 ?_
                      refine lv_iload_n hx hb dX10_floods_100 rfl (lv_at hl 3 rfl) ?_
                      refine z_iald (f := ms) hx hb hK hP 1 0 rfl rfl ⟨⟨by omega, by omega⟩, by decide⟩ dX10_floods_101 ?_
                      have hb_101 := hms i (by omega) (by omega)
                      refine lv_istore (lv' := [(5, .int (zI (ms i))), (4, .int (zI (w5 v74_2))), (1, .int (zI c7)), (3, .int (zI w)), (2, .int (zI i)), (0, .ref (β 0))]) hx hb dX10_floods_102 hl (by decide) rfl (fun ls hl => ?_)
                      have hzz : (ms i) = zmax (ms i) (w5 (S_step i w)) := by rw [← hv74_0]; unfold zmax; first | (rw [if_pos c_88]; done) | (rw [if_neg (by omega)]; done)
                      refine lv_iload hx hb dX10_floods_104 (lv_at hl 0 rfl) ?_
                      refine lv_aload_n hx hb dX10_floods_106 rfl (lv_at hl 5 rfl) ?_
                      refine va_get (D := D) (ci := 10) (v := .ref (β 11)) (C := RX10) (T := TX10) (N := 17) hx hb hts (fun w h => List.mem_cons_of_mem _ (wx_X10 w h)) hown hK hP 0 rfl rfl 15 (by decide) (hW0 _ wf_X10_41) (fun _ h9 => h9) rfl dX10_floods_107 ?_
                      refine lv_iload_n hx hb dX10_floods_110 rfl (lv_at hl 4 rfl) ?_
                      refine z_iald (f := w5) hx hb hK hP 11 10 rfl rfl ⟨⟨by omega, by omega⟩, by decide⟩ dX10_floods_111 ?_
                      have hb_111 := hwr i (by omega) (by omega)
                      refine z_icge (tgt := 125) hx hb ⟨by omega, by omega⟩ ⟨by omega, by omega⟩ dX10_floods_112 (by decide) (fun c_112 => ?_) (fun c_112 => ?_)
                      · refine z_iinc (k := 3) (v := w + 1) (lv' := [(3, .int (zI (w + 1))), (5, .int (zI (ms i))), (4, .int (zI (w5 v74_2))), (1, .int (zI c7)), (2, .int (zI i)), (0, .ref (β 0))]) hx hb dX10_floods_125 hl rfl rfl (by decide) rfl (fun ls hl => ?_)
                        refine lv_goto (tgt := 56) hx hb dX10_floods_128 (by decide) ?_
                        exact ih_56 w5 c7 (w + 1) _ _ hP hD hS _ (lv_sub hl [3, 0, 4, 5] rfl) (by first | assumption | rfl | omega) (by first | assumption | rfl | omega) (by first | exact hI5 | exact WI_put hI5 ⟨hi.1, by omega⟩ ⟨hw.1, by omega⟩ hb_65 hnx hzz (by omega)) (by first | exact hs5 | (rw [zS_set hi.1 49 (by omega), if_pos (by omega)]; omega)) (by first | (intro h9; exact absurd h9 (by decide)) | (intro h9; refine ⟨(hO5 h9).1, fun s z1 z2 z3 => ?_⟩; by_cases e9 : s = w; (rw [e9, ← hzz]; omega); exact (hO5 h9).2 s z1 (by omega) z3)) (by omega)
                      · refine lv_aload_n hx hb dX10_floods_115 rfl (lv_at hl 5 rfl) ?_
                        refine va_get (D := D) (ci := 10) (v := .ref (β 11)) (C := RX10) (T := TX10) (N := 17) hx hb hts (fun w h => List.mem_cons_of_mem _ (wx_X10 w h)) hown hK hP 0 rfl rfl 15 (by decide) (hW0 _ wf_X10_41) (fun _ h9 => h9) rfl dX10_floods_116 ?_
                        refine lv_iload_n hx hb dX10_floods_119 rfl (lv_at hl 4 rfl) ?_
                        refine lv_iload hx hb dX10_floods_120 (lv_at hl 0 rfl) ?_
                        refine z_iast (f := w5) (v := ms i) hx hb hK hP hD hS 11 10 rfl rfl ⟨⟨by omega, by omega⟩, by decide⟩ dX10_floods_122 (fun H locs hP hD hS => ?_)
                        have hP : va_P D vwCl (wM β δ ms mb mo mp mf mn mi mc mq mr ((zu w5 i (ms i))) mk ml mt ma mx mh) H := hP
                        have hD : va_D A (wM β δ ms mb mo mp mf mn mi mc mq mr ((zu w5 i (ms i))) mk ml mt ma mx mh) := hD
                        refine lv_iconst (v := zI 1) hx hb dX10_floods_123 rfl ?_
                        refine lv_istore_n (lv' := [(1, .int (zI 1)), (5, .int (zI (ms i))), (4, .int (zI (w5 v74_2))), (3, .int (zI w)), (2, .int (zI i)), (0, .ref (β 0))]) hx hb dX10_floods_124 rfl hl (by decide) rfl (fun ls hl => ?_)
                        refine z_iinc (k := 3) (v := w + 1) (lv' := [(3, .int (zI (w + 1))), (1, .int (zI 1)), (5, .int (zI (ms i))), (4, .int (zI (w5 v74_2))), (2, .int (zI i)), (0, .ref (β 0))]) hx hb dX10_floods_125 hl rfl rfl (by decide) rfl (fun ls hl => ?_)
                        refine lv_goto (tgt := 56) hx hb dX10_floods_128 (by decide) ?_
                        exact ih_56 (zu w5 i (ms i)) 1 (w + 1) _ _ hP hD hS _ (lv_sub hl [1, 0, 4, 5] rfl) (by first | assumption | rfl | omega) (by first | assumption | rfl | omega) (by first | exact hI5 | exact WI_put hI5 ⟨hi.1, by omega⟩ ⟨hw.1, by omega⟩ hb_65 hnx hzz (by omega)) (by first | exact hs5 | (rw [zS_set hi.1 49 (by omega), if_pos (by omega)]; omega)) (by first | (intro h9; exact absurd h9 (by decide)) | (intro h9; refine ⟨(hO5 h9).1, fun s z1 z2 z3 => ?_⟩; by_cases e9 : s = w; (rw [e9, ← hzz]; omega); exact (hO5 h9).2 s z1 (by omega) z3)) (by omega)
                    · refine lv_iload hx hb dX10_floods_91 (lv_at hl 0 rfl) ?_
                      refine lv_goto (tgt := 102) hx hb dX10_floods_93 (by decide) ?_
                      refine lv_istore (lv' := [(5, .int (zI (w5 v74_2))), (4, .int (zI (w5 v74_2))), (1, .int (zI c7)), (3, .int (zI w)), (2, .int (zI i)), (0, .ref (β 0))]) hx hb dX10_floods_102 hl (by decide) rfl (fun ls hl => ?_)
                      have hzz : (w5 v74_2) = zmax (ms i) (w5 (S_step i w)) := by rw [← hv74_0]; unfold zmax; first | (rw [if_pos c_88]; done) | (rw [if_neg (by omega)]; done)
                      refine lv_iload hx hb dX10_floods_104 (lv_at hl 0 rfl) ?_
                      refine lv_aload_n hx hb dX10_floods_106 rfl (lv_at hl 5 rfl) ?_
                      refine va_get (D := D) (ci := 10) (v := .ref (β 11)) (C := RX10) (T := TX10) (N := 17) hx hb hts (fun w h => List.mem_cons_of_mem _ (wx_X10 w h)) hown hK hP 0 rfl rfl 15 (by decide) (hW0 _ wf_X10_41) (fun _ h9 => h9) rfl dX10_floods_107 ?_
                      refine lv_iload_n hx hb dX10_floods_110 rfl (lv_at hl 4 rfl) ?_
                      refine z_iald (f := w5) hx hb hK hP 11 10 rfl rfl ⟨⟨by omega, by omega⟩, by decide⟩ dX10_floods_111 ?_
                      have hb_111 := hwr i (by omega) (by omega)
                      refine z_icge (tgt := 125) hx hb ⟨by omega, by omega⟩ ⟨by omega, by omega⟩ dX10_floods_112 (by decide) (fun c_112 => ?_) (fun c_112 => ?_)
                      · refine z_iinc (k := 3) (v := w + 1) (lv' := [(3, .int (zI (w + 1))), (5, .int (zI (w5 v74_2))), (4, .int (zI (w5 v74_2))), (1, .int (zI c7)), (2, .int (zI i)), (0, .ref (β 0))]) hx hb dX10_floods_125 hl rfl rfl (by decide) rfl (fun ls hl => ?_)
                        refine lv_goto (tgt := 56) hx hb dX10_floods_128 (by decide) ?_
                        exact ih_56 w5 c7 (w + 1) _ _ hP hD hS _ (lv_sub hl [3, 0, 4, 5] rfl) (by first | assumption | rfl | omega) (by first | assumption | rfl | omega) (by first | exact hI5 | exact WI_put hI5 ⟨hi.1, by omega⟩ ⟨hw.1, by omega⟩ hb_65 hnx hzz (by omega)) (by first | exact hs5 | (rw [zS_set hi.1 49 (by omega), if_pos (by omega)]; omega)) (by first | (intro h9; exact absurd h9 (by decide)) | (intro h9; refine ⟨(hO5 h9).1, fun s z1 z2 z3 => ?_⟩; by_cases e9 : s = w; (rw [e9, ← hzz]; omega); exact (hO5 h9).2 s z1 (by omega) z3)) (by omega)
                      · refine lv_aload_n hx hb dX10_floods_115 rfl (lv_at hl 5 rfl) ?_
                        refine va_get (D := D) (ci := 10) (v := .ref (β 11)) (C := RX10) (T := TX10) (N := 17) hx hb hts (fun w h => List.mem_cons_of_mem _ (wx_X10 w h)) hown hK hP 0 rfl rfl 15 (by decide) (hW0 _ wf_X10_41) (fun _ h9 => h9) rfl dX10_floods_116 ?_
                        refine lv_iload_n hx hb dX10_floods_119 rfl (lv_at hl 4 rfl) ?_
                        refine lv_iload hx hb dX10_floods_120 (lv_at hl 0 rfl) ?_
                        refine z_iast (f := w5) (v := w5 v74_2) hx hb hK hP hD hS 11 10 rfl rfl ⟨⟨by omega, by omega⟩, by decide⟩ dX10_floods_122 (fun H locs hP hD hS => ?_)
                        have hP : va_P D vwCl (wM β δ ms mb mo mp mf mn mi mc mq mr ((zu w5 i (w5 v74_2))) mk ml mt ma mx mh) H := hP
                        have hD : va_D A (wM β δ ms mb mo mp mf mn mi mc mq mr ((zu w5 i (w5 v74_2))) mk ml mt ma mx mh) := hD
                        refine lv_iconst (v := zI 1) hx hb dX10_floods_123 rfl ?_
                        refine lv_istore_n (lv' := [(1, .int (zI 1)), (5, .int (zI (w5 v74_2))), (4, .int (zI (w5 v74_2))), (3, .int (zI w)), (2, .int (zI i)), (0, .ref (β 0))]) hx hb dX10_floods_124 rfl hl (by decide) rfl (fun ls hl => ?_)
                        refine z_iinc (k := 3) (v := w + 1) (lv' := [(3, .int (zI (w + 1))), (1, .int (zI 1)), (5, .int (zI (w5 v74_2))), (4, .int (zI (w5 v74_2))), (2, .int (zI i)), (0, .ref (β 0))]) hx hb dX10_floods_125 hl rfl rfl (by decide) rfl (fun ls hl => ?_)
                        refine lv_goto (tgt := 56) hx hb dX10_floods_128 (by decide) ?_
                        exact ih_56 (zu w5 i (w5 v74_2)) 1 (w + 1) _ _ hP hD hS _ (lv_sub hl [1, 0, 4, 5] rfl) (by first | assumption | rfl | omega) (by first | assumption | rfl | omega) (by first | exact hI5 | exact WI_put hI5 ⟨hi.1, by omega⟩ ⟨hw.1, by omega⟩ hb_65 hnx hzz (by omega)) (by first | exact hs5 | (rw [zS_set hi.1 49 (by omega), if_pos (by omega)]; omega)) (by first | (intro h9; exact absurd h9 (by decide)) | (intro h9; refine ⟨(hO5 h9).1, fun s z1 z2 z3 => ?_⟩; by_cases e9 : s = w; (rw [e9, ← hzz]; omega); exact (hO5 h9).2 s z1 (by omega) z3)) (by omega)
    · refine lv_aload_n hx hb dX10_floods_8 rfl (lv_at hl 1 rfl) ?_
      refine va_get (D := D) (ci := 10) (v := .ref (β 11)) (C := RX10) (T := TX10) (N := 17) hx hb hts (fun w h => List.mem_cons_of_mem _ (wx_X10 w h)) hown hK hP 0 rfl rfl 15 (by decide) (hW0 _ wf_X10_41) (fun _ h9 => h9) rfl dX10_floods_9 ?_
      refine lv_iload_n hx hb dX10_floods_12 rfl (lv_at hl 0 rfl) ?_
      refine lv_iload_n hx hb dX10_floods_13 rfl (lv_at hl 0 rfl) ?_
      refine z_calli hP hD hS hA (va_runS (As := [.int (zI i)]) (rest := [.int (zI i), .ref (β 11)]) hC (c_X10_isBorder l D τ _ _ i (by first | assumption | rfl | omega) _) (va_cwS 1 hts (gS hB wl_X10_202 wt_X10_isBorder wi_X10 wc_X10_isBorder) rfl rfl rfl hd_X10_isBorder.2 ⟨Nat.le_of_ble_eq_true rfl, Nat.le_of_ble_eq_true rfl⟩) (zp_S hK hP hD hS hA hG) rfl rfl hl.1 rfl (lv_room (Nat.le_of_ble_eq_true rfl)) dX10_floods_14 ⟨Nat.le_of_ble_eq_true rfl, Nat.le_of_ble_eq_true rfl⟩) (fun r w1 H locs hq9 hP hD hS => ?_)
      obtain ⟨v14_3, hv14_0, rfl, rfl⟩ := hq9
      refine z_ifeqB (tgt := 29) hx hb dX10_floods_17 (by decide) (fun c_17 => ?_) (fun c_17 => ?_)
      · have hb_17 := zb_neg hv14_0 c_17
        refine lv_bipush (v := zI 99) hx hb dX10_floods_29 (zI_b8 (by decide)) ?_
        refine z_iast (f := w1) (v := 99) hx hb hK hP hD hS 11 10 rfl rfl ⟨⟨by omega, by omega⟩, by decide⟩ dX10_floods_31 (fun H locs hP hD hS => ?_)
        have hP : va_P D vwCl (wM β δ ms mb mo mp mf mn mi mc mq mr (zu w1 i 99) mk ml mt ma mx mh) H := hP
        have hD : va_D A (wM β δ ms mb mo mp mf mn mi mc mq mr (zu w1 i 99) mk ml mt ma mx mh) := hD
        refine z_iinc (k := 0) (v := i + 1) (lv' := [(1, .int (zI (i + 1))), (0, .ref (β 0))]) hx hb dX10_floods_32 hl rfl rfl (by decide) rfl (fun ls hl => ?_)
        refine lv_goto (tgt := 2) hx hb dX10_floods_35 (by decide) ?_
        exact ih_2 (zu w1 i 99) (i + 1) _ _ hP hD hS _ (lv_sub hl [0, 1] rfl) (by first | assumption | rfl | omega) (by intro k z1 z2; by_cases e9 : k = i; (rw [e9, zu_s]; first | (rw [if_pos (cb_iff.mpr (show S_bd i from hb_17))]; done) | (rw [if_neg (by rw [cb_f.mpr (show ¬ S_bd i from hb_17)]; decide)]; done)); (rw [zu_n e9]; exact hw1 k z1 (by omega))) (by omega)
      · have hb_17 := hv14_0.mp c_17
        refine lv_aload_n hx hb dX10_floods_20 rfl (lv_at hl 1 rfl) ?_
        refine va_get (D := D) (ci := 10) (v := .ref (β 1)) (C := RX10) (T := TX10) (N := 17) hx hb hts (fun w h => List.mem_cons_of_mem _ (wx_X10 w h)) hown hK hP 0 rfl rfl 0 (by decide) (hW0 _ wf_X10_7) (fun _ h9 => h9) rfl dX10_floods_21 ?_
        refine lv_iload_n hx hb dX10_floods_24 rfl (lv_at hl 0 rfl) ?_
        refine z_iald (f := ms) hx hb hK hP 1 0 rfl rfl ⟨⟨by omega, by omega⟩, by decide⟩ dX10_floods_25 ?_
        have hb_25 := hms i (by omega) (by omega)
        refine lv_goto (tgt := 31) hx hb dX10_floods_26 (by decide) ?_
        refine z_iast (f := w1) (v := ms i) hx hb hK hP hD hS 11 10 rfl rfl ⟨⟨by omega, by omega⟩, by decide⟩ dX10_floods_31 (fun H locs hP hD hS => ?_)
        have hP : va_P D vwCl (wM β δ ms mb mo mp mf mn mi mc mq mr ((zu w1 i (ms i))) mk ml mt ma mx mh) H := hP
        have hD : va_D A (wM β δ ms mb mo mp mf mn mi mc mq mr ((zu w1 i (ms i))) mk ml mt ma mx mh) := hD
        refine z_iinc (k := 0) (v := i + 1) (lv' := [(1, .int (zI (i + 1))), (0, .ref (β 0))]) hx hb dX10_floods_32 hl rfl rfl (by decide) rfl (fun ls hl => ?_)
        refine lv_goto (tgt := 2) hx hb dX10_floods_35 (by decide) ?_
        exact ih_2 (zu w1 i (ms i)) (i + 1) _ _ hP hD hS _ (lv_sub hl [0, 1] rfl) (by first | assumption | rfl | omega) (by intro k z1 z2; by_cases e9 : k = i; (rw [e9, zu_s]; first | (rw [if_pos (cb_iff.mpr (show S_bd i from hb_17))]; done) | (rw [if_neg (by rw [cb_f.mpr (show ¬ S_bd i from hb_17)]; decide)]; done)); (rw [zu_n e9]; exact hw1 k z1 (by omega))) (by omega)

abbrev wz_X10_spill : List Cond := .code yX10_spill cX10_spill 3 (some .int) :: W0
abbrev rm_X10_spill : Room := { frames := 4, cells := 0, slots := 0, locals := 91 }
theorem hd_X10_spill : yX10_spill.cls = RX10 ∧ yX10_spill.cls ≠ "java/lang/invoke/MethodHandle" ∧ yX10_spill.cls ≠ "java/lang/invoke/VarHandle" ∧ (parseMethodDescriptor yX10_spill.desc).map (fun d => d.parameters.length) = some 2 := by decide +kernel
set_option maxHeartbeats 4000000 in
set_option maxRecDepth 100000 in
theorem c_X10_spill (l : Launch) (D : va_G) (τ : Nat → Nat) (β : Nat → Nat) (δ : Nat → ClassId) (ms : IA) (mb : IA) (mo : IA) (mp : BA) (mf : IA) (mn : IA) (mi : IA) (mc : IA) (mq : BA) (mr : IA) (mw : IA) (mk : Int) (ml : Int) (mt : Int) (ma : Int) (mx : Bool) (mh : Int64) (r9 : Int) (c9 : Int) (hr9 : -2147483648 ≤ r9 ∧ r9 < 2147483648) (hc9 : -2147483648 ≤ c9 ∧ c9 < 2147483648) (hms : ∀ k, 0 ≤ k → k < 49 → 0 ≤ ms k ∧ ms k ≤ 99) : cM l yX10_spill wz_X10_spill rm_X10_spill D τ (tyM δ) [.ref (β 0), .int (zI r9), .int (zI c9)] (wM β δ ms mb mo mp mf mn mi mc mq mr mw mk ml mt ma mx mh) (zQi (fun r w => ∃ (w2 : IA), ∃ (t2 : Int), ∃ (v : Int), (t2 = S_tpt r9 c9) ∧ (t2 = 0 → v = S_spill ms (7 * r9 + c9)) ∧ r = zI v ∧ wM β δ ms mb mo mp mf mn mi mc mq mr w2 mk ml t2 ma mx mh = w)) := by
  refine z_ofM (cc := cX10_spill) (maxL := 3) (ret := (some .int)) (by decide +kernel) rfl (Nat.le_of_ble_eq_true rfl) ?_
  intro pg e s m args below meth c hC hr hlk hnm hK hP A hD hG hA hS ls hl Q hQ
  have hx := hC.1
  have hb := hC.2.1
  have hml := hC.2.2.1
  have hown := hC.2.2.2.1
  have hts := hC.2.2.2.2
  have hB : ∀ w ∈ W0, w ∈ wz_X10_spill := fun _ h => List.mem_cons_of_mem _ h
  have hW0 : ∀ w ∈ W0, w.before args s = true := fun w h => hts w (hB w h)
  have hl : lv_has ls 3 [(0, .ref (β 0)), (1, .int (zI r9)), (2, .int (zI c9))] := hl
  refine lv_aload_n hx hb dX10_spill_0 rfl (lv_at hl 0 rfl) ?_
  refine lv_iload_n hx hb dX10_spill_1 rfl (lv_at hl 1 rfl) ?_
  refine lv_iload_n hx hb dX10_spill_2 rfl (lv_at hl 2 rfl) ?_
  refine z_calli hP hD hS hA (va_runV (As := [.int (zI r9), .int (zI c9)]) (rest := []) hC (c_X10_isThere l D τ β δ ms mb mo mp mf mn mi mc mq mr mw mk ml mt ma mx mh r9 c9 (by first | assumption | rfl | omega) (by first | assumption | rfl | omega) _) (cwV 2 hts (gV hB wl_X10_120 wn_X10_isThere ws_X10_isThere wi_X10 wc_X10_isThere) rfl rfl rfl hd_X10_isThere ⟨Nat.le_of_ble_eq_true rfl, Nat.le_of_ble_eq_true rfl⟩) (zp_V hK hP hD hS hA hG (ci := 10) (q0 := 0) rfl rfl rfl) rfl rfl hl.1 rfl (lv_room (Nat.le_of_ble_eq_true rfl)) dX10_spill_3 ⟨Nat.le_of_ble_eq_true rfl, Nat.le_of_ble_eq_true rfl⟩) (fun r w1 H locs hq9 hP hD hS => ?_)
  obtain ⟨t3_1, v3_2, hv3_0, hv3_1, rfl, rfl⟩ := hq9
  have hP : va_P D vwCl (wM β δ ms mb mo mp mf mn mi mc mq mr mw mk ml t3_1 ma mx mh) H := hP
  have hD : va_D A (wM β δ ms mb mo mp mf mn mi mc mq mr mw mk ml t3_1 ma mx mh) := hD
  refine z_ifneB (tgt := 11) hx hb dX10_spill_6 (by decide) (fun c_6 => ?_) (fun c_6 => ?_)
  · have hb_6 := hv3_0.mp c_6
    refine lv_aload_n hx hb dX10_spill_11 rfl (lv_at hl 0 rfl) ?_
    refine z_callv hP hD hS hA (va_runV (As := []) (rest := []) hC (c_X10_floods l D τ β δ ms mb mo mp mf mn mi mc mq mr mw mk ml t3_1 ma mx mh (by first | assumption | rfl | omega) _) (cwV 0 hts (gV hB wl_X10_205 wn_X10_floods ws_X10_floods wi_X10 wc_X10_floods) rfl rfl rfl hd_X10_floods ⟨Nat.le_of_ble_eq_true rfl, Nat.le_of_ble_eq_true rfl⟩) (zp_V hK hP hD hS hA hG (ci := 10) (q0 := 0) rfl rfl rfl) rfl rfl hl.1 rfl (lv_room (Nat.le_of_ble_eq_true rfl)) dX10_spill_12 ⟨Nat.le_of_ble_eq_true rfl, Nat.le_of_ble_eq_true rfl⟩) (fun w1 H locs hq9 hP hD hS => ?_)
    obtain ⟨w12_3, hv12_0, rfl⟩ := hq9
    have hP : va_P D vwCl (wM β δ ms mb mo mp mf mn mi mc mq mr w12_3 mk ml t3_1 ma mx mh) H := hP
    have hD : va_D A (wM β δ ms mb mo mp mf mn mi mc mq mr w12_3 mk ml t3_1 ma mx mh) := hD
    refine lv_aload_n hx hb dX10_spill_15 rfl (lv_at hl 0 rfl) ?_
    refine va_get (D := D) (ci := 10) (v := .ref (β 11)) (C := RX10) (T := TX10) (N := 17) hx hb hts (fun w h => List.mem_cons_of_mem _ (wx_X10 w h)) hown hK hP 0 rfl rfl 15 (by decide) (hW0 _ wf_X10_41) (fun _ h9 => h9) rfl dX10_spill_16 ?_
    refine lv_bipush (v := zI 7) hx hb dX10_spill_19 (zI_b8 (by decide)) ?_
    refine lv_iload_n hx hb dX10_spill_21 rfl (lv_at hl 1 rfl) ?_
    refine z_imul hx hb dX10_spill_22 ?_
    refine lv_iload_n hx hb dX10_spill_23 rfl (lv_at hl 2 rfl) ?_
    refine z_iadd hx hb dX10_spill_24 ?_
    refine z_iald (f := w12_3) hx hb hK hP 11 10 rfl rfl ⟨⟨by omega, by omega⟩, by decide⟩ dX10_spill_25 ?_
    exact z_iret hC hr hlk hQ hP hD hS ⟨w12_3, t3_1, w12_3 ((7 * r9) + c9), (by exact hv3_1), (by first | exact fun _ => hv12_0 _ (by omega) (by omega) | (intro h9; rw [hv3_1] at h9; unfold S_tpt at h9; rw [if_neg hb_6] at h9; exact absurd h9 (by decide))), rfl, rfl⟩ dX10_spill_26
  · have hb_6 := zb_neg hv3_0 c_6
    refine lv_iconst (v := zI 0) hx hb dX10_spill_9 rfl ?_
    exact z_iret hC hr hlk hQ hP hD hS ⟨mw, t3_1, 0, (by exact hv3_1), (by first | exact fun _ => hv12_0 _ (by omega) (by omega) | (intro h9; rw [hv3_1] at h9; unfold S_tpt at h9; rw [if_neg hb_6] at h9; exact absurd h9 (by decide))), rfl, rfl⟩ dX10_spill_10

abbrev wz_X10_spillByWays : List Cond := .code yX10_spillByWays cX10_spillByWays 3 (some .int) :: W0
abbrev rm_X10_spillByWays : Room := { frames := 5, cells := 0, slots := 0, locals := 113 }
theorem hd_X10_spillByWays : yX10_spillByWays.cls = RX10 ∧ yX10_spillByWays.cls ≠ "java/lang/invoke/MethodHandle" ∧ yX10_spillByWays.cls ≠ "java/lang/invoke/VarHandle" ∧ (parseMethodDescriptor yX10_spillByWays.desc).map (fun d => d.parameters.length) = some 2 := by decide +kernel
set_option maxHeartbeats 4000000 in
set_option maxRecDepth 100000 in
theorem c_X10_spillByWays (l : Launch) (D : va_G) (τ : Nat → Nat) (β : Nat → Nat) (δ : Nat → ClassId) (ms : IA) (mb : IA) (mo : IA) (mp : BA) (mf : IA) (mn : IA) (mi : IA) (mc : IA) (mq : BA) (mr : IA) (mw : IA) (mk : Int) (ml : Int) (mt : Int) (ma : Int) (mx : Bool) (mh : Int64) (r9 : Int) (c9 : Int) (hr9 : -2147483648 ≤ r9 ∧ r9 < 2147483648) (hc9 : -2147483648 ≤ c9 ∧ c9 < 2147483648) (hms : ∀ k, 0 ≤ k → k < 49 → 0 ≤ ms k ∧ ms k ≤ 99) : cM l yX10_spillByWays wz_X10_spillByWays rm_X10_spillByWays D τ (tyM δ) [.ref (β 0), .int (zI r9), .int (zI c9)] (wM β δ ms mb mo mp mf mn mi mc mq mr mw mk ml mt ma mx mh) (zQi (fun r w => ∃ (w2 : IA), ∃ (t2 : Int), ∃ (v : Int), (t2 = S_tpt r9 c9) ∧ (t2 = 0 → v = S_spill ms (7 * r9 + c9)) ∧ r = zI v ∧ wM β δ ms mb mo mp mf mn mi mc mq mr w2 mk ml t2 ma mx mh = w)) := by
  refine z_ofM (cc := cX10_spillByWays) (maxL := 3) (ret := (some .int)) (by decide +kernel) rfl (Nat.le_of_ble_eq_true rfl) ?_
  intro pg e s m args below meth c hC hr hlk hnm hK hP A hD hG hA hS ls hl Q hQ
  have hx := hC.1
  have hb := hC.2.1
  have hml := hC.2.2.1
  have hown := hC.2.2.2.1
  have hts := hC.2.2.2.2
  have hB : ∀ w ∈ W0, w ∈ wz_X10_spillByWays := fun _ h => List.mem_cons_of_mem _ h
  have hW0 : ∀ w ∈ W0, w.before args s = true := fun w h => hts w (hB w h)
  have hl : lv_has ls 3 [(0, .ref (β 0)), (1, .int (zI r9)), (2, .int (zI c9))] := hl
  refine lv_aload_n hx hb dX10_spillByWays_0 rfl (lv_at hl 0 rfl) ?_
  refine lv_iload_n hx hb dX10_spillByWays_1 rfl (lv_at hl 1 rfl) ?_
  refine lv_iload_n hx hb dX10_spillByWays_2 rfl (lv_at hl 2 rfl) ?_
  refine z_calli hP hD hS hA (va_runV (As := [.int (zI r9), .int (zI c9)]) (rest := []) hC (c_X10_spill l D τ β δ ms mb mo mp mf mn mi mc mq mr mw mk ml mt ma mx mh r9 c9 (by first | assumption | rfl | omega) (by first | assumption | rfl | omega) (by first | assumption | rfl | omega) _) (cwV 2 hts (gV hB wl_X10_208 wn_X10_spill ws_X10_spill wi_X10 wc_X10_spill) rfl rfl rfl hd_X10_spill ⟨Nat.le_of_ble_eq_true rfl, Nat.le_of_ble_eq_true rfl⟩) (zp_V hK hP hD hS hA hG (ci := 10) (q0 := 0) rfl rfl rfl) rfl rfl hl.1 rfl (lv_room (Nat.le_of_ble_eq_true rfl)) dX10_spillByWays_3 ⟨Nat.le_of_ble_eq_true rfl, Nat.le_of_ble_eq_true rfl⟩) (fun r w1 H locs hq9 hP hD hS => ?_)
  obtain ⟨w3_1, t3_2, v3_3, hv3_0, hv3_1, rfl, rfl⟩ := hq9
  have hP : va_P D vwCl (wM β δ ms mb mo mp mf mn mi mc mq mr w3_1 mk ml t3_2 ma mx mh) H := hP
  have hD : va_D A (wM β δ ms mb mo mp mf mn mi mc mq mr w3_1 mk ml t3_2 ma mx mh) := hD
  exact z_iret hC hr hlk hQ hP hD hS ⟨w3_1, t3_2, v3_3, (by first | assumption | rfl | omega), (by first | assumption | rfl | omega), rfl, rfl⟩ dX10_spillByWays_6

abbrev wz_X10_spillByLevels : List Cond := .code yX10_spillByLevels cX10_spillByLevels 3 (some .int) :: W0
abbrev rm_X10_spillByLevels : Room := { frames := 5, cells := 0, slots := 0, locals := 113 }
theorem hd_X10_spillByLevels : yX10_spillByLevels.cls = RX10 ∧ yX10_spillByLevels.cls ≠ "java/lang/invoke/MethodHandle" ∧ yX10_spillByLevels.cls ≠ "java/lang/invoke/VarHandle" ∧ (parseMethodDescriptor yX10_spillByLevels.desc).map (fun d => d.parameters.length) = some 2 := by decide +kernel
set_option maxHeartbeats 4000000 in
set_option maxRecDepth 100000 in
theorem c_X10_spillByLevels (l : Launch) (D : va_G) (τ : Nat → Nat) (β : Nat → Nat) (δ : Nat → ClassId) (ms : IA) (mb : IA) (mo : IA) (mp : BA) (mf : IA) (mn : IA) (mi : IA) (mc : IA) (mq : BA) (mr : IA) (mw : IA) (mk : Int) (ml : Int) (mt : Int) (ma : Int) (mx : Bool) (mh : Int64) (r9 : Int) (c9 : Int) (hr9 : -2147483648 ≤ r9 ∧ r9 < 2147483648) (hc9 : -2147483648 ≤ c9 ∧ c9 < 2147483648) (hms : ∀ k, 0 ≤ k → k < 49 → 0 ≤ ms k ∧ ms k ≤ 99) : cM l yX10_spillByLevels wz_X10_spillByLevels rm_X10_spillByLevels D τ (tyM δ) [.ref (β 0), .int (zI r9), .int (zI c9)] (wM β δ ms mb mo mp mf mn mi mc mq mr mw mk ml mt ma mx mh) (zQi (fun r w => ∃ (w2 : IA), ∃ (t2 : Int), ∃ (v : Int), (t2 = S_tpt r9 c9) ∧ (t2 = 0 → v = S_spill ms (7 * r9 + c9)) ∧ r = zI v ∧ wM β δ ms mb mo mp mf mn mi mc mq mr w2 mk ml t2 ma mx mh = w)) := by
  refine z_ofM (cc := cX10_spillByLevels) (maxL := 3) (ret := (some .int)) (by decide +kernel) rfl (Nat.le_of_ble_eq_true rfl) ?_
  intro pg e s m args below meth c hC hr hlk hnm hK hP A hD hG hA hS ls hl Q hQ
  have hx := hC.1
  have hb := hC.2.1
  have hml := hC.2.2.1
  have hown := hC.2.2.2.1
  have hts := hC.2.2.2.2
  have hB : ∀ w ∈ W0, w ∈ wz_X10_spillByLevels := fun _ h => List.mem_cons_of_mem _ h
  have hW0 : ∀ w ∈ W0, w.before args s = true := fun w h => hts w (hB w h)
  have hl : lv_has ls 3 [(0, .ref (β 0)), (1, .int (zI r9)), (2, .int (zI c9))] := hl
  refine lv_aload_n hx hb dX10_spillByLevels_0 rfl (lv_at hl 0 rfl) ?_
  refine lv_iload_n hx hb dX10_spillByLevels_1 rfl (lv_at hl 1 rfl) ?_
  refine lv_iload_n hx hb dX10_spillByLevels_2 rfl (lv_at hl 2 rfl) ?_
  refine z_calli hP hD hS hA (va_runV (As := [.int (zI r9), .int (zI c9)]) (rest := []) hC (c_X10_spill l D τ β δ ms mb mo mp mf mn mi mc mq mr mw mk ml mt ma mx mh r9 c9 (by first | assumption | rfl | omega) (by first | assumption | rfl | omega) (by first | assumption | rfl | omega) _) (cwV 2 hts (gV hB wl_X10_208 wn_X10_spill ws_X10_spill wi_X10 wc_X10_spill) rfl rfl rfl hd_X10_spill ⟨Nat.le_of_ble_eq_true rfl, Nat.le_of_ble_eq_true rfl⟩) (zp_V hK hP hD hS hA hG (ci := 10) (q0 := 0) rfl rfl rfl) rfl rfl hl.1 rfl (lv_room (Nat.le_of_ble_eq_true rfl)) dX10_spillByLevels_3 ⟨Nat.le_of_ble_eq_true rfl, Nat.le_of_ble_eq_true rfl⟩) (fun r w1 H locs hq9 hP hD hS => ?_)
  obtain ⟨w3_1, t3_2, v3_3, hv3_0, hv3_1, rfl, rfl⟩ := hq9
  have hP : va_P D vwCl (wM β δ ms mb mo mp mf mn mi mc mq mr w3_1 mk ml t3_2 ma mx mh) H := hP
  have hD : va_D A (wM β δ ms mb mo mp mf mn mi mc mq mr w3_1 mk ml t3_2 ma mx mh) := hD
  exact z_iret hC hr hlk hQ hP hD hS ⟨w3_1, t3_2, v3_3, (by first | assumption | rfl | omega), (by first | assumption | rfl | omega), rfl, rfl⟩ dX10_spillByLevels_6

abbrev wz_X10_depthOf : List Cond := .code yX10_depthOf cX10_depthOf 4 (some .int) :: W0
abbrev rm_X10_depthOf : Room := { frames := 5, cells := 0, slots := 0, locals := 113 }
theorem hd_X10_depthOf : yX10_depthOf.cls = RX10 ∧ yX10_depthOf.cls ≠ "java/lang/invoke/MethodHandle" ∧ yX10_depthOf.cls ≠ "java/lang/invoke/VarHandle" ∧ (parseMethodDescriptor yX10_depthOf.desc).map (fun d => d.parameters.length) = some 2 := by decide +kernel
set_option maxHeartbeats 4000000 in
set_option maxRecDepth 100000 in
theorem c_X10_depthOf (l : Launch) (D : va_G) (τ : Nat → Nat) (β : Nat → Nat) (δ : Nat → ClassId) (ms : IA) (mb : IA) (mo : IA) (mp : BA) (mf : IA) (mn : IA) (mi : IA) (mc : IA) (mq : BA) (mr : IA) (mw : IA) (mk : Int) (ml : Int) (mt : Int) (ma : Int) (mx : Bool) (mh : Int64) (r9 : Int) (c9 : Int) (hr9 : -2147483648 ≤ r9 ∧ r9 < 2147483648) (hc9 : -2147483648 ≤ c9 ∧ c9 < 2147483648) (hms : ∀ k, 0 ≤ k → k < 49 → 0 ≤ ms k ∧ ms k ≤ 99) : cM l yX10_depthOf wz_X10_depthOf rm_X10_depthOf D τ (tyM δ) [.ref (β 0), .int (zI r9), .int (zI c9)] (wM β δ ms mb mo mp mf mn mi mc mq mr mw mk ml mt ma mx mh) (zQi (fun r w => ∃ (w2 : IA), ∃ (t2 : Int), ∃ (v : Int), (t2 = S_tpt r9 c9) ∧ (t2 = 0 → v = S_spill ms (7 * r9 + c9) - ms (7 * r9 + c9)) ∧ r = zI v ∧ wM β δ ms mb mo mp mf mn mi mc mq mr w2 mk ml t2 ma mx mh = w)) := by
  refine z_ofM (cc := cX10_depthOf) (maxL := 4) (ret := (some .int)) (by decide +kernel) rfl (Nat.le_of_ble_eq_true rfl) ?_
  intro pg e s m args below meth c hC hr hlk hnm hK hP A hD hG hA hS ls hl Q hQ
  have hx := hC.1
  have hb := hC.2.1
  have hml := hC.2.2.1
  have hown := hC.2.2.2.1
  have hts := hC.2.2.2.2
  have hB : ∀ w ∈ W0, w ∈ wz_X10_depthOf := fun _ h => List.mem_cons_of_mem _ h
  have hW0 : ∀ w ∈ W0, w.before args s = true := fun w h => hts w (hB w h)
  have hl : lv_has ls 4 [(0, .ref (β 0)), (1, .int (zI r9)), (2, .int (zI c9))] := hl
  refine lv_aload_n hx hb dX10_depthOf_0 rfl (lv_at hl 0 rfl) ?_
  refine lv_iload_n hx hb dX10_depthOf_1 rfl (lv_at hl 1 rfl) ?_
  refine lv_iload_n hx hb dX10_depthOf_2 rfl (lv_at hl 2 rfl) ?_
  refine z_calli hP hD hS hA (va_runV (As := [.int (zI r9), .int (zI c9)]) (rest := []) hC (c_X10_spill l D τ β δ ms mb mo mp mf mn mi mc mq mr mw mk ml mt ma mx mh r9 c9 (by first | assumption | rfl | omega) (by first | assumption | rfl | omega) (by first | assumption | rfl | omega) _) (cwV 2 hts (gV hB wl_X10_208 wn_X10_spill ws_X10_spill wi_X10 wc_X10_spill) rfl rfl rfl hd_X10_spill ⟨Nat.le_of_ble_eq_true rfl, Nat.le_of_ble_eq_true rfl⟩) (zp_V hK hP hD hS hA hG (ci := 10) (q0 := 0) rfl rfl rfl) rfl rfl hl.1 rfl (lv_room (Nat.le_of_ble_eq_true rfl)) dX10_depthOf_3 ⟨Nat.le_of_ble_eq_true rfl, Nat.le_of_ble_eq_true rfl⟩) (fun r w1 H locs hq9 hP hD hS => ?_)
  obtain ⟨w3_1, t3_2, v3_3, hv3_0, hv3_1, rfl, rfl⟩ := hq9
  have hP : va_P D vwCl (wM β δ ms mb mo mp mf mn mi mc mq mr w3_1 mk ml t3_2 ma mx mh) H := hP
  have hD : va_D A (wM β δ ms mb mo mp mf mn mi mc mq mr w3_1 mk ml t3_2 ma mx mh) := hD
  refine lv_istore_n (lv' := [(3, .int (zI v3_3)), (0, .ref (β 0)), (1, .int (zI r9)), (2, .int (zI c9))]) hx hb dX10_depthOf_6 rfl hl (by decide) rfl (fun ls hl => ?_)
  refine lv_aload_n hx hb dX10_depthOf_7 rfl (lv_at hl 1 rfl) ?_
  refine va_get (D := D) (ci := 10) (v := .int (zI t3_2)) (C := RX10) (T := TX10) (N := 17) hx hb hts (fun w h => List.mem_cons_of_mem _ (wx_X10 w h)) hown hK hP 0 rfl rfl 7 (by decide) (hW0 _ wf_X10_44) (fun _ h9 => h9) rfl dX10_depthOf_8 ?_
  have htb : 0 ≤ t3_2 ∧ t3_2 ≤ 1 := by rw [hv3_0]; unfold S_tpt; split <;> omega
  refine z_ifne (tgt := 30) hx hb ⟨by omega, by omega⟩ dX10_depthOf_11 (by decide) (fun c_11 => ?_) (fun c_11 => ?_)
  · refine lv_iconst (v := zI 0) hx hb dX10_depthOf_30 rfl ?_
    exact z_iret hC hr hlk hQ hP hD hS ⟨w3_1, t3_2, 0, (by exact hv3_0), (by first | (intro h9; rw [hv3_1 h9]; done) | exact fun h9 => absurd h9 c_11), rfl, rfl⟩ dX10_depthOf_31
  · have hpp : (0 ≤ r9 ∧ r9 ≤ 6) ∧ (0 ≤ c9 ∧ c9 ≤ 6) := by rw [hv3_0] at c_11; unfold S_tpt at c_11; split at c_11; assumption; exact absurd c_11 (by decide)
    refine lv_iload_n hx hb dX10_depthOf_14 rfl (lv_at hl 0 rfl) ?_
    refine lv_aload_n hx hb dX10_depthOf_15 rfl (lv_at hl 1 rfl) ?_
    refine va_get (D := D) (ci := 10) (v := .ref (β 1)) (C := RX10) (T := TX10) (N := 17) hx hb hts (fun w h => List.mem_cons_of_mem _ (wx_X10 w h)) hown hK hP 0 rfl rfl 0 (by decide) (hW0 _ wf_X10_7) (fun _ h9 => h9) rfl dX10_depthOf_16 ?_
    refine lv_bipush (v := zI 7) hx hb dX10_depthOf_19 (zI_b8 (by decide)) ?_
    refine lv_iload_n hx hb dX10_depthOf_21 rfl (lv_at hl 2 rfl) ?_
    refine z_imul hx hb dX10_depthOf_22 ?_
    refine lv_iload_n hx hb dX10_depthOf_23 rfl (lv_at hl 3 rfl) ?_
    refine z_iadd hx hb dX10_depthOf_24 ?_
    refine z_iald (f := ms) hx hb hK hP 1 0 rfl rfl ⟨⟨by omega, by omega⟩, by decide⟩ dX10_depthOf_25 ?_
    refine z_isub hx hb dX10_depthOf_26 ?_
    refine lv_goto (tgt := 31) hx hb dX10_depthOf_27 (by decide) ?_
    exact z_iret hC hr hlk hQ hP hD hS ⟨w3_1, t3_2, v3_3 - (ms ((7 * r9) + c9)), (by exact hv3_0), (by first | (intro h9; rw [hv3_1 h9]; done) | exact fun h9 => absurd h9 c_11), rfl, rfl⟩ dX10_depthOf_31

abbrev wz_X10_allWater : List Cond := .code yX10_allWater cX10_allWater 3 (some .int) :: W0
abbrev rm_X10_allWater : Room := { frames := 4, cells := 0, slots := 0, locals := 91 }
theorem hd_X10_allWater : yX10_allWater.cls = RX10 ∧ yX10_allWater.cls ≠ "java/lang/invoke/MethodHandle" ∧ yX10_allWater.cls ≠ "java/lang/invoke/VarHandle" ∧ (parseMethodDescriptor yX10_allWater.desc).map (fun d => d.parameters.length) = some 0 := by decide +kernel
set_option maxHeartbeats 4000000 in
set_option maxRecDepth 100000 in
theorem c_X10_allWater (l : Launch) (D : va_G) (τ : Nat → Nat) (β : Nat → Nat) (δ : Nat → ClassId) (ms : IA) (mb : IA) (mo : IA) (mp : BA) (mf : IA) (mn : IA) (mi : IA) (mc : IA) (mq : BA) (mr : IA) (mw : IA) (mk : Int) (ml : Int) (mt : Int) (ma : Int) (mx : Bool) (mh : Int64) (hms : ∀ k, 0 ≤ k → k < 49 → 0 ≤ ms k ∧ ms k ≤ 99) : cM l yX10_allWater wz_X10_allWater rm_X10_allWater D τ (tyM δ) [.ref (β 0)] (wM β δ ms mb mo mp mf mn mi mc mq mr mw mk ml mt ma mx mh) (zQi (fun r w => ∃ (w2 : IA), ∃ (v : Int), (v = zS (fun k => S_spill ms k - ms k) 49) ∧ (-4851 ≤ v ∧ v ≤ 4900) ∧ r = zI v ∧ wM β δ ms mb mo mp mf mn mi mc mq mr w2 mk ml mt ma mx mh = w)) := by
  refine z_ofM (cc := cX10_allWater) (maxL := 3) (ret := (some .int)) (by decide +kernel) rfl (Nat.le_of_ble_eq_true rfl) ?_
  intro pg e s m args below meth c hC hr hlk hnm hK hP A hD hG hA hS ls hl Q hQ
  have hx := hC.1
  have hb := hC.2.1
  have hml := hC.2.2.1
  have hown := hC.2.2.2.1
  have hts := hC.2.2.2.2
  have hB : ∀ w ∈ W0, w ∈ wz_X10_allWater := fun _ h => List.mem_cons_of_mem _ h
  have hW0 : ∀ w ∈ W0, w.before args s = true := fun w h => hts w (hB w h)
  have hl : lv_has ls 3 [(0, .ref (β 0))] := hl
  refine lv_aload_n hx hb dX10_allWater_0 rfl (lv_at hl 0 rfl) ?_
  refine z_callv hP hD hS hA (va_runV (As := []) (rest := []) hC (c_X10_floods l D τ β δ ms mb mo mp mf mn mi mc mq mr mw mk ml mt ma mx mh (by first | assumption | rfl | omega) _) (cwV 0 hts (gV hB wl_X10_205 wn_X10_floods ws_X10_floods wi_X10 wc_X10_floods) rfl rfl rfl hd_X10_floods ⟨Nat.le_of_ble_eq_true rfl, Nat.le_of_ble_eq_true rfl⟩) (zp_V hK hP hD hS hA hG (ci := 10) (q0 := 0) rfl rfl rfl) rfl rfl hl.1 rfl (lv_room (Nat.le_of_ble_eq_true rfl)) dX10_allWater_1 ⟨Nat.le_of_ble_eq_true rfl, Nat.le_of_ble_eq_true rfl⟩) (fun w1 H locs hq9 hP hD hS => ?_)
  obtain ⟨w1_1, hv1_0, rfl⟩ := hq9
  have hP : va_P D vwCl (wM β δ ms mb mo mp mf mn mi mc mq mr w1_1 mk ml mt ma mx mh) H := hP
  have hD : va_D A (wM β δ ms mb mo mp mf mn mi mc mq mr w1_1 mk ml mt ma mx mh) := hD
  have hwr : ∀ k, 0 ≤ k → k < 49 → 0 ≤ w1_1 k ∧ w1_1 k ≤ 100 := fun k z1 z2 => by rw [hv1_0 k z1 z2]; exact S_spill_b ms k
  refine lv_iconst (v := zI 0) hx hb dX10_allWater_4 rfl ?_
  refine lv_istore_n (lv' := [(1, .int (zI 0)), (0, .ref (β 0))]) hx hb dX10_allWater_5 rfl hl (by decide) rfl (fun ls hl => ?_)
  refine lv_iconst (v := zI 0) hx hb dX10_allWater_6 rfl ?_
  refine lv_istore_n (lv' := [(2, .int (zI 0)), (1, .int (zI 0)), (0, .ref (β 0))]) hx hb dX10_allWater_7 rfl hl (by decide) rfl (fun ls hl => ?_)
  suffices HL_8 : ∀ (n_8 : Nat), ∀ (g : Int) (i : Int) (H : Heap) (locs : List Loc) (hP : va_P D vwCl (wM β δ ms mb mo mp mf mn mi mc mq mr w1_1 mk ml mt ma mx mh) H) (hD : va_D A (wM β δ ms mb mo mp mf mn mi mc mq mr w1_1 mk ml mt ma mx mh)) (hS : va_S A s.heap H locs) (ls : Array Slot) (hl : lv_has ls 3 [(1, .int (zI g)), (2, .int (zI i)), (0, .ref (β 0))]) (hi : 0 ≤ i ∧ i ≤ 49) (hg : g = zS (fun k => S_spill ms k - ms k) i) (hgb : -(99 * i) ≤ g ∧ g ≤ 100 * i) (hm : (49 - i).toNat < n_8), W pg l e rm_X10_allWater s m args below meth c H locs 0 0 Q (F0 m 8 ls []) from HL_8 _ 0 0 _ _ hP hD hS _ (lv_sub hl [1, 0, 2] rfl) (by first | assumption | rfl | omega) (by exact (zS_0 _).symm) (by first | assumption | rfl | omega) (Nat.lt_succ_self _)
  intro n_8
  induction n_8 with
  | zero => intro g i H locs hP hD hS ls hl hi hg hgb hm; exact absurd hm (Nat.not_lt_zero _)
  | succ n_8 ih_8 =>
    intro g i H locs hP hD hS ls hl hi hg hgb hm
    refine lv_iload_n hx hb dX10_allWater_8 rfl (lv_at hl 1 rfl) ?_
    refine lv_bipush (v := zI 49) hx hb dX10_allWater_9 (zI_b8 (by decide)) ?_
    refine z_icge (tgt := 36) hx hb ⟨by omega, by omega⟩ ⟨by omega, by omega⟩ dX10_allWater_11 (by decide) (fun c_11 => ?_) (fun c_11 => ?_)
    · refine lv_iload_n hx hb dX10_allWater_36 rfl (lv_at hl 0 rfl) ?_
      exact z_iret hC hr hlk hQ hP hD hS ⟨w1_1, g, (by rw [hg, show i = 49 by omega]), (by omega), rfl, rfl⟩ dX10_allWater_37
    · refine lv_iload_n hx hb dX10_allWater_14 rfl (lv_at hl 0 rfl) ?_
      refine lv_aload_n hx hb dX10_allWater_15 rfl (lv_at hl 2 rfl) ?_
      refine va_get (D := D) (ci := 10) (v := .ref (β 11)) (C := RX10) (T := TX10) (N := 17) hx hb hts (fun w h => List.mem_cons_of_mem _ (wx_X10 w h)) hown hK hP 0 rfl rfl 15 (by decide) (hW0 _ wf_X10_41) (fun _ h9 => h9) rfl dX10_allWater_16 ?_
      refine lv_iload_n hx hb dX10_allWater_19 rfl (lv_at hl 1 rfl) ?_
      refine z_iald (f := w1_1) hx hb hK hP 11 10 rfl rfl ⟨⟨by omega, by omega⟩, by decide⟩ dX10_allWater_20 ?_
      have hb_20 := hwr i (by omega) (by omega)
      refine lv_aload_n hx hb dX10_allWater_21 rfl (lv_at hl 2 rfl) ?_
      refine va_get (D := D) (ci := 10) (v := .ref (β 1)) (C := RX10) (T := TX10) (N := 17) hx hb hts (fun w h => List.mem_cons_of_mem _ (wx_X10 w h)) hown hK hP 0 rfl rfl 0 (by decide) (hW0 _ wf_X10_7) (fun _ h9 => h9) rfl dX10_allWater_22 ?_
      refine lv_iload_n hx hb dX10_allWater_25 rfl (lv_at hl 1 rfl) ?_
      refine z_iald (f := ms) hx hb hK hP 1 0 rfl rfl ⟨⟨by omega, by omega⟩, by decide⟩ dX10_allWater_26 ?_
      have hb_26 := hms i (by omega) (by omega)
      refine z_isub hx hb dX10_allWater_27 ?_
      refine z_iadd hx hb dX10_allWater_28 ?_
      refine lv_istore_n (lv' := [(1, .int (zI (g + ((w1_1 i) - (ms i))))), (2, .int (zI i)), (0, .ref (β 0))]) hx hb dX10_allWater_29 rfl hl (by decide) rfl (fun ls hl => ?_)
      refine z_iinc (k := 1) (v := i + 1) (lv' := [(2, .int (zI (i + 1))), (1, .int (zI (g + ((w1_1 i) - (ms i))))), (0, .ref (β 0))]) hx hb dX10_allWater_30 hl rfl rfl (by decide) rfl (fun ls hl => ?_)
      refine lv_goto (tgt := 8) hx hb dX10_allWater_33 (by decide) ?_
      exact ih_8 (g + ((w1_1 i) - (ms i))) (i + 1) _ _ hP hD hS _ (lv_sub hl [1, 0, 2] rfl) (by first | assumption | rfl | omega) (by rw [zS_up hi.1, ← hg, hv1_0 i hi.1 (by omega)]) (by first | assumption | rfl | omega) (by omega)

abbrev wz_X10_water : List Cond := .code yX10_water cX10_water 1 (some .int) :: W0
abbrev rm_X10_water : Room := { frames := 5, cells := 0, slots := 0, locals := 113 }
theorem hd_X10_water : yX10_water.cls = RX10 ∧ yX10_water.cls ≠ "java/lang/invoke/MethodHandle" ∧ yX10_water.cls ≠ "java/lang/invoke/VarHandle" ∧ (parseMethodDescriptor yX10_water.desc).map (fun d => d.parameters.length) = some 0 := by decide +kernel
set_option maxHeartbeats 4000000 in
set_option maxRecDepth 100000 in
theorem c_X10_water (l : Launch) (D : va_G) (τ : Nat → Nat) (β : Nat → Nat) (δ : Nat → ClassId) (ms : IA) (mb : IA) (mo : IA) (mp : BA) (mf : IA) (mn : IA) (mi : IA) (mc : IA) (mq : BA) (mr : IA) (mw : IA) (mk : Int) (ml : Int) (mt : Int) (ma : Int) (mx : Bool) (mh : Int64) (hms : ∀ k, 0 ≤ k → k < 49 → 0 ≤ ms k ∧ ms k ≤ 99) : cM l yX10_water wz_X10_water rm_X10_water D τ (tyM δ) [.ref (β 0)] (wM β δ ms mb mo mp mf mn mi mc mq mr mw mk ml mt ma mx mh) (zQi (fun r w => ∃ (w2 : IA), ∃ (v : Int), (v = zS (fun k => S_spill ms k - ms k) 49) ∧ (-4851 ≤ v ∧ v ≤ 4900) ∧ r = zI v ∧ wM β δ ms mb mo mp mf mn mi mc mq mr w2 mk ml 0 ma mx mh = w)) := by
  refine z_ofM (cc := cX10_water) (maxL := 1) (ret := (some .int)) (by decide +kernel) rfl (Nat.le_of_ble_eq_true rfl) ?_
  intro pg e s m args below meth c hC hr hlk hnm hK hP A hD hG hA hS ls hl Q hQ
  have hx := hC.1
  have hb := hC.2.1
  have hml := hC.2.2.1
  have hown := hC.2.2.2.1
  have hts := hC.2.2.2.2
  have hB : ∀ w ∈ W0, w ∈ wz_X10_water := fun _ h => List.mem_cons_of_mem _ h
  have hW0 : ∀ w ∈ W0, w.before args s = true := fun w h => hts w (hB w h)
  have hl : lv_has ls 1 [(0, .ref (β 0))] := hl
  refine lv_aload_n hx hb dX10_water_0 rfl (lv_at hl 0 rfl) ?_
  refine lv_iconst (v := zI 0) hx hb dX10_water_1 rfl ?_
  refine va_put (D := D) (ci := 10) (v := .int (zI 0)) (ty := .int) (C := RX10) (T := TX10) (N := 17) hx hb hts (fun w h => List.mem_cons_of_mem _ (wx_X10 w h)) tyX10 tyX10_ok nmX10 hown hK hP hD hS 0 rfl rfl 7 (by decide) (hW0 _ wf_X10_44) (fun _ h9 => h9) rfl (by decide +kernel) rfl rfl (Nat.le_of_ble_eq_true rfl) dX10_water_2 (fun H locs hP hD hS => ?_)
  have hP : va_P D vwCl (wM β δ ms mb mo mp mf mn mi mc mq mr mw mk ml 0 ma mx mh) H := hP
  have hD : va_D A (wM β δ ms mb mo mp mf mn mi mc mq mr mw mk ml 0 ma mx mh) := hD
  refine lv_aload_n hx hb dX10_water_5 rfl (lv_at hl 0 rfl) ?_
  refine z_calli hP hD hS hA (va_runV (As := []) (rest := []) hC (c_X10_allWater l D τ β δ ms mb mo mp mf mn mi mc mq mr mw mk ml 0 ma mx mh (by first | assumption | rfl | omega) _) (cwV 0 hts (gV hB wl_X10_211 wn_X10_allWater ws_X10_allWater wi_X10 wc_X10_allWater) rfl rfl rfl hd_X10_allWater ⟨Nat.le_of_ble_eq_true rfl, Nat.le_of_ble_eq_true rfl⟩) (zp_V hK hP hD hS hA hG (ci := 10) (q0 := 0) rfl rfl rfl) rfl rfl hl.1 rfl (lv_room (Nat.le_of_ble_eq_true rfl)) dX10_water_6 ⟨Nat.le_of_ble_eq_true rfl, Nat.le_of_ble_eq_true rfl⟩) (fun r w1 H locs hq9 hP hD hS => ?_)
  obtain ⟨w6_1, v6_2, hv6_0, hv6_1, rfl, rfl⟩ := hq9
  have hP : va_P D vwCl (wM β δ ms mb mo mp mf mn mi mc mq mr w6_1 mk ml 0 ma mx mh) H := hP
  have hD : va_D A (wM β δ ms mb mo mp mf mn mi mc mq mr w6_1 mk ml 0 ma mx mh) := hD
  exact z_iret hC hr hlk hQ hP hD hS ⟨w6_1, v6_2, (by first | assumption | rfl | omega), (by first | assumption | rfl | omega), rfl, rfl⟩ dX10_water_9

abbrev wz_X10_allPonds : List Cond := .code yX10_allPonds cX10_allPonds 2 (some .int) :: W0
abbrev rm_X10_allPonds : Room := { frames := 4, cells := 0, slots := 0, locals := 91 }
theorem hd_X10_allPonds : yX10_allPonds.cls = RX10 ∧ yX10_allPonds.cls ≠ "java/lang/invoke/MethodHandle" ∧ yX10_allPonds.cls ≠ "java/lang/invoke/VarHandle" ∧ (parseMethodDescriptor yX10_allPonds.desc).map (fun d => d.parameters.length) = some 0 := by decide +kernel
set_option maxHeartbeats 4000000 in
set_option maxRecDepth 100000 in
theorem c_X10_allPonds (l : Launch) (D : va_G) (τ : Nat → Nat) (β : Nat → Nat) (δ : Nat → ClassId) (ms : IA) (mb : IA) (mo : IA) (mp : BA) (mf : IA) (mn : IA) (mi : IA) (mc : IA) (mq : BA) (mr : IA) (mw : IA) (mk : Int) (ml : Int) (mt : Int) (ma : Int) (mx : Bool) (mh : Int64) (hms : ∀ k, 0 ≤ k → k < 49 → 0 ≤ ms k ∧ ms k ≤ 99) : cM l yX10_allPonds wz_X10_allPonds rm_X10_allPonds D τ (tyM δ) [.ref (β 0)] (wM β δ ms mb mo mp mf mn mi mc mq mr mw mk ml mt ma mx mh) (zQi (fun r w => ∃ (w2 : IA), ∃ (r2 : IA), ∃ (v : Int), (v = S_comps 4 (fun k => decide (ms k < S_spill ms k))) ∧ (0 ≤ v ∧ v ≤ 49) ∧ r = zI v ∧ wM β δ ms mb mo mp mf mn mi mc mq r2 w2 mk ml mt ma mx mh = w)) := by
  refine z_ofM (cc := cX10_allPonds) (maxL := 2) (ret := (some .int)) (by decide +kernel) rfl (Nat.le_of_ble_eq_true rfl) ?_
  intro pg e s m args below meth c hC hr hlk hnm hK hP A hD hG hA hS ls hl Q hQ
  have hx := hC.1
  have hb := hC.2.1
  have hml := hC.2.2.1
  have hown := hC.2.2.2.1
  have hts := hC.2.2.2.2
  have hB : ∀ w ∈ W0, w ∈ wz_X10_allPonds := fun _ h => List.mem_cons_of_mem _ h
  have hW0 : ∀ w ∈ W0, w.before args s = true := fun w h => hts w (hB w h)
  have hl : lv_has ls 2 [(0, .ref (β 0))] := hl
  refine lv_aload_n hx hb dX10_allPonds_0 rfl (lv_at hl 0 rfl) ?_
  refine z_callv hP hD hS hA (va_runV (As := []) (rest := []) hC (c_X10_floods l D τ β δ ms mb mo mp mf mn mi mc mq mr mw mk ml mt ma mx mh (by first | assumption | rfl | omega) _) (cwV 0 hts (gV hB wl_X10_205 wn_X10_floods ws_X10_floods wi_X10 wc_X10_floods) rfl rfl rfl hd_X10_floods ⟨Nat.le_of_ble_eq_true rfl, Nat.le_of_ble_eq_true rfl⟩) (zp_V hK hP hD hS hA hG (ci := 10) (q0 := 0) rfl rfl rfl) rfl rfl hl.1 rfl (lv_room (Nat.le_of_ble_eq_true rfl)) dX10_allPonds_1 ⟨Nat.le_of_ble_eq_true rfl, Nat.le_of_ble_eq_true rfl⟩) (fun w1 H locs hq9 hP hD hS => ?_)
  obtain ⟨w1_1, hv1_0, rfl⟩ := hq9
  have hP : va_P D vwCl (wM β δ ms mb mo mp mf mn mi mc mq mr w1_1 mk ml mt ma mx mh) H := hP
  have hD : va_D A (wM β δ ms mb mo mp mf mn mi mc mq mr w1_1 mk ml mt ma mx mh) := hD
  have hwr : ∀ k, 0 ≤ k → k < 49 → 0 ≤ w1_1 k ∧ w1_1 k ≤ 100 := fun k z1 z2 => by rw [hv1_0 k z1 z2]; exact S_spill_b ms k
  refine lv_iconst (v := zI 0) hx hb dX10_allPonds_4 rfl ?_
  refine lv_istore_n (lv' := [(1, .int (zI 0)), (0, .ref (β 0))]) hx hb dX10_allPonds_5 rfl hl (by decide) rfl (fun ls hl => ?_)
  suffices HL_6 : ∀ (n_6 : Nat), ∀ (w1 : IA) (i : Int) (H : Heap) (locs : List Loc) (hP : va_P D vwCl (wM β δ ms mb mo mp mf mn mi mc mq w1 w1_1 mk ml mt ma mx mh) H) (hD : va_D A (wM β δ ms mb mo mp mf mn mi mc mq w1 w1_1 mk ml mt ma mx mh)) (hS : va_S A s.heap H locs) (ls : Array Slot) (hl : lv_has ls 2 [(1, .int (zI i)), (0, .ref (β 0))]) (hi : 0 ≤ i ∧ i ≤ 49) (hw1 : ∀ k, 0 ≤ k → k < i → w1 k = (if decide (ms k < S_spill ms k) = true then k else -1)) (hm : (49 - i).toNat < n_6), W pg l e rm_X10_allPonds s m args below meth c H locs 0 0 Q (F0 m 6 ls []) from HL_6 _ mr 0 _ _ hP hD hS _ (lv_sub hl [0, 1] rfl) (by first | assumption | rfl | omega) (by intro k z1 z2; omega) (Nat.lt_succ_self _)
  intro n_6
  induction n_6 with
  | zero => intro w1 i H locs hP hD hS ls hl hi hw1 hm; exact absurd hm (Nat.not_lt_zero _)
  | succ n_6 ih_6 =>
    intro w1 i H locs hP hD hS ls hl hi hw1 hm
    refine lv_iload_n hx hb dX10_allPonds_6 rfl (lv_at hl 0 rfl) ?_
    refine lv_bipush (v := zI 49) hx hb dX10_allPonds_7 (zI_b8 (by decide)) ?_
    refine z_icge (tgt := 44) hx hb ⟨by omega, by omega⟩ ⟨by omega, by omega⟩ dX10_allPonds_9 (by decide) (fun c_9 => ?_) (fun c_9 => ?_)
    · refine lv_aload_n hx hb dX10_allPonds_44 rfl (lv_at hl 1 rfl) ?_
      refine lv_iconst (v := zI 0) hx hb dX10_allPonds_45 rfl ?_
      refine z_calli hP hD hS hA (va_runV (As := [.int (bI false)]) (rest := []) hC (c_X10_regions l D τ β δ ms mb mo mp mf mn mi mc mq w1 w1_1 mk ml mt ma mx mh (fun k => decide (ms k < S_spill ms k)) false (by exact fun k z1 z2 => hw1 k z1 (by omega)) _) (cwV 1 hts (gV hB wl_X10_168 wn_X10_regions ws_X10_regions wi_X10 wc_X10_regions) rfl rfl rfl hd_X10_regions ⟨Nat.le_of_ble_eq_true rfl, Nat.le_of_ble_eq_true rfl⟩) (zp_V hK hP hD hS hA hG (ci := 10) (q0 := 0) rfl rfl rfl) rfl rfl hl.1 rfl (lv_room (Nat.le_of_ble_eq_true rfl)) dX10_allPonds_46 ⟨Nat.le_of_ble_eq_true rfl, Nat.le_of_ble_eq_true rfl⟩) (fun r w1 H locs hq9 hP hD hS => ?_)
      obtain ⟨r46_2, v46_3, hv46_0, hv46_1, rfl, rfl⟩ := hq9
      have hP : va_P D vwCl (wM β δ ms mb mo mp mf mn mi mc mq r46_2 w1_1 mk ml mt ma mx mh) H := hP
      have hD : va_D A (wM β δ ms mb mo mp mf mn mi mc mq r46_2 w1_1 mk ml mt ma mx mh) := hD
      exact z_iret hC hr hlk hQ hP hD hS ⟨w1_1, r46_2, v46_3, (by exact hv46_0), (by omega), rfl, rfl⟩ dX10_allPonds_49
    · refine lv_aload_n hx hb dX10_allPonds_12 rfl (lv_at hl 1 rfl) ?_
      refine va_get (D := D) (ci := 10) (v := .ref (β 10)) (C := RX10) (T := TX10) (N := 17) hx hb hts (fun w h => List.mem_cons_of_mem _ (wx_X10 w h)) hown hK hP 0 rfl rfl 14 (by decide) (hW0 _ wf_X10_38) (fun _ h9 => h9) rfl dX10_allPonds_13 ?_
      refine lv_iload_n hx hb dX10_allPonds_16 rfl (lv_at hl 0 rfl) ?_
      refine lv_aload_n hx hb dX10_allPonds_17 rfl (lv_at hl 1 rfl) ?_
      refine va_get (D := D) (ci := 10) (v := .ref (β 11)) (C := RX10) (T := TX10) (N := 17) hx hb hts (fun w h => List.mem_cons_of_mem _ (wx_X10 w h)) hown hK hP 0 rfl rfl 15 (by decide) (hW0 _ wf_X10_41) (fun _ h9 => h9) rfl dX10_allPonds_18 ?_
      refine lv_iload_n hx hb dX10_allPonds_21 rfl (lv_at hl 0 rfl) ?_
      refine z_iald (f := w1_1) hx hb hK hP 11 10 rfl rfl ⟨⟨by omega, by omega⟩, by decide⟩ dX10_allPonds_22 ?_
      have hb_22 := hwr i (by omega) (by omega)
      refine lv_aload_n hx hb dX10_allPonds_23 rfl (lv_at hl 1 rfl) ?_
      refine va_get (D := D) (ci := 10) (v := .ref (β 1)) (C := RX10) (T := TX10) (N := 17) hx hb hts (fun w h => List.mem_cons_of_mem _ (wx_X10 w h)) hown hK hP 0 rfl rfl 0 (by decide) (hW0 _ wf_X10_7) (fun _ h9 => h9) rfl dX10_allPonds_24 ?_
      refine lv_iload_n hx hb dX10_allPonds_27 rfl (lv_at hl 0 rfl) ?_
      refine z_iald (f := ms) hx hb hK hP 1 0 rfl rfl ⟨⟨by omega, by omega⟩, by decide⟩ dX10_allPonds_28 ?_
      have hb_28 := hms i (by omega) (by omega)
      refine z_icle (tgt := 36) hx hb ⟨by omega, by omega⟩ ⟨by omega, by omega⟩ dX10_allPonds_29 (by decide) (fun c_29 => ?_) (fun c_29 => ?_)
      · refine lv_iconst (v := zI (-1)) hx hb dX10_allPonds_36 rfl ?_
        refine z_iast (f := w1) (v := (-1)) hx hb hK hP hD hS 10 9 rfl rfl ⟨⟨by omega, by omega⟩, by decide⟩ dX10_allPonds_37 (fun H locs hP hD hS => ?_)
        have hP : va_P D vwCl (wM β δ ms mb mo mp mf mn mi mc mq ((zu w1 i (-1))) w1_1 mk ml mt ma mx mh) H := hP
        have hD : va_D A (wM β δ ms mb mo mp mf mn mi mc mq ((zu w1 i (-1))) w1_1 mk ml mt ma mx mh) := hD
        refine z_iinc (k := 0) (v := i + 1) (lv' := [(1, .int (zI (i + 1))), (0, .ref (β 0))]) hx hb dX10_allPonds_38 hl rfl rfl (by decide) rfl (fun ls hl => ?_)
        refine lv_goto (tgt := 6) hx hb dX10_allPonds_41 (by decide) ?_
        exact ih_6 (zu w1 i (-1)) (i + 1) _ _ hP hD hS _ (lv_sub hl [0, 1] rfl) (by first | assumption | rfl | omega) (by intro k z1 z2; by_cases e9 : k = i; (rw [e9, zu_s, ← hv1_0 i hi.1 (by omega)]; first | (rw [if_pos (decide_eq_true c_29)]; done) | (rw [if_neg (fun h9 => absurd (of_decide_eq_true h9) (by omega))]; done)); (rw [zu_n e9]; exact hw1 k z1 (by omega))) (by omega)
      · refine lv_iload_n hx hb dX10_allPonds_32 rfl (lv_at hl 0 rfl) ?_
        refine lv_goto (tgt := 37) hx hb dX10_allPonds_33 (by decide) ?_
        refine z_iast (f := w1) (v := i) hx hb hK hP hD hS 10 9 rfl rfl ⟨⟨by omega, by omega⟩, by decide⟩ dX10_allPonds_37 (fun H locs hP hD hS => ?_)
        have hP : va_P D vwCl (wM β δ ms mb mo mp mf mn mi mc mq (zu w1 i i) w1_1 mk ml mt ma mx mh) H := hP
        have hD : va_D A (wM β δ ms mb mo mp mf mn mi mc mq (zu w1 i i) w1_1 mk ml mt ma mx mh) := hD
        refine z_iinc (k := 0) (v := i + 1) (lv' := [(1, .int (zI (i + 1))), (0, .ref (β 0))]) hx hb dX10_allPonds_38 hl rfl rfl (by decide) rfl (fun ls hl => ?_)
        refine lv_goto (tgt := 6) hx hb dX10_allPonds_41 (by decide) ?_
        exact ih_6 (zu w1 i i) (i + 1) _ _ hP hD hS _ (lv_sub hl [0, 1] rfl) (by first | assumption | rfl | omega) (by intro k z1 z2; by_cases e9 : k = i; (rw [e9, zu_s, ← hv1_0 i hi.1 (by omega)]; first | (rw [if_pos (decide_eq_true c_29)]; done) | (rw [if_neg (fun h9 => absurd (of_decide_eq_true h9) (by omega))]; done)); (rw [zu_n e9]; exact hw1 k z1 (by omega))) (by omega)

abbrev wz_X10_ponds : List Cond := .code yX10_ponds cX10_ponds 1 (some .int) :: W0
abbrev rm_X10_ponds : Room := { frames := 5, cells := 0, slots := 0, locals := 112 }
theorem hd_X10_ponds : yX10_ponds.cls = RX10 ∧ yX10_ponds.cls ≠ "java/lang/invoke/MethodHandle" ∧ yX10_ponds.cls ≠ "java/lang/invoke/VarHandle" ∧ (parseMethodDescriptor yX10_ponds.desc).map (fun d => d.parameters.length) = some 0 := by decide +kernel
set_option maxHeartbeats 4000000 in
set_option maxRecDepth 100000 in
theorem c_X10_ponds (l : Launch) (D : va_G) (τ : Nat → Nat) (β : Nat → Nat) (δ : Nat → ClassId) (ms : IA) (mb : IA) (mo : IA) (mp : BA) (mf : IA) (mn : IA) (mi : IA) (mc : IA) (mq : BA) (mr : IA) (mw : IA) (mk : Int) (ml : Int) (mt : Int) (ma : Int) (mx : Bool) (mh : Int64) (hms : ∀ k, 0 ≤ k → k < 49 → 0 ≤ ms k ∧ ms k ≤ 99) : cM l yX10_ponds wz_X10_ponds rm_X10_ponds D τ (tyM δ) [.ref (β 0)] (wM β δ ms mb mo mp mf mn mi mc mq mr mw mk ml mt ma mx mh) (zQi (fun r w => ∃ (w2 : IA), ∃ (r2 : IA), ∃ (v : Int), (v = S_comps 4 (fun k => decide (ms k < S_spill ms k))) ∧ (0 ≤ v ∧ v ≤ 49) ∧ r = zI v ∧ wM β δ ms mb mo mp mf mn mi mc mq r2 w2 mk ml 0 ma mx mh = w)) := by
  refine z_ofM (cc := cX10_ponds) (maxL := 1) (ret := (some .int)) (by decide +kernel) rfl (Nat.le_of_ble_eq_true rfl) ?_
  intro pg e s m args below meth c hC hr hlk hnm hK hP A hD hG hA hS ls hl Q hQ
  have hx := hC.1
  have hb := hC.2.1
  have hml := hC.2.2.1
  have hown := hC.2.2.2.1
  have hts := hC.2.2.2.2
  have hB : ∀ w ∈ W0, w ∈ wz_X10_ponds := fun _ h => List.mem_cons_of_mem _ h
  have hW0 : ∀ w ∈ W0, w.before args s = true := fun w h => hts w (hB w h)
  have hl : lv_has ls 1 [(0, .ref (β 0))] := hl
  refine lv_aload_n hx hb dX10_ponds_0 rfl (lv_at hl 0 rfl) ?_
  refine lv_iconst (v := zI 0) hx hb dX10_ponds_1 rfl ?_
  refine va_put (D := D) (ci := 10) (v := .int (zI 0)) (ty := .int) (C := RX10) (T := TX10) (N := 17) hx hb hts (fun w h => List.mem_cons_of_mem _ (wx_X10 w h)) tyX10 tyX10_ok nmX10 hown hK hP hD hS 0 rfl rfl 7 (by decide) (hW0 _ wf_X10_44) (fun _ h9 => h9) rfl (by decide +kernel) rfl rfl (Nat.le_of_ble_eq_true rfl) dX10_ponds_2 (fun H locs hP hD hS => ?_)
  have hP : va_P D vwCl (wM β δ ms mb mo mp mf mn mi mc mq mr mw mk ml 0 ma mx mh) H := hP
  have hD : va_D A (wM β δ ms mb mo mp mf mn mi mc mq mr mw mk ml 0 ma mx mh) := hD
  refine lv_aload_n hx hb dX10_ponds_5 rfl (lv_at hl 0 rfl) ?_
  refine z_calli hP hD hS hA (va_runV (As := []) (rest := []) hC (c_X10_allPonds l D τ β δ ms mb mo mp mf mn mi mc mq mr mw mk ml 0 ma mx mh (by first | assumption | rfl | omega) _) (cwV 0 hts (gV hB wl_X10_214 wn_X10_allPonds ws_X10_allPonds wi_X10 wc_X10_allPonds) rfl rfl rfl hd_X10_allPonds ⟨Nat.le_of_ble_eq_true rfl, Nat.le_of_ble_eq_true rfl⟩) (zp_V hK hP hD hS hA hG (ci := 10) (q0 := 0) rfl rfl rfl) rfl rfl hl.1 rfl (lv_room (Nat.le_of_ble_eq_true rfl)) dX10_ponds_6 ⟨Nat.le_of_ble_eq_true rfl, Nat.le_of_ble_eq_true rfl⟩) (fun r w1 H locs hq9 hP hD hS => ?_)
  obtain ⟨w6_1, r6_2, v6_3, hv6_0, hv6_1, rfl, rfl⟩ := hq9
  have hP : va_P D vwCl (wM β δ ms mb mo mp mf mn mi mc mq r6_2 w6_1 mk ml 0 ma mx mh) H := hP
  have hD : va_D A (wM β δ ms mb mo mp mf mn mi mc mq r6_2 w6_1 mk ml 0 ma mx mh) := hD
  exact z_iret hC hr hlk hQ hP hD hS ⟨w6_1, r6_2, v6_3, (by first | assumption | rfl | omega), (by first | assumption | rfl | omega), rfl, rfl⟩ dX10_ponds_9

abbrev wz_X10_cutOf : List Cond := .code yX10_cutOf cX10_cutOf 4 (some .int) :: W0
abbrev rm_X10_cutOf : Room := { frames := 1, cells := 0, slots := 0, locals := 20 }
theorem hd_X10_cutOf : yX10_cutOf.cls = RX10 ∧ yX10_cutOf.cls ≠ "java/lang/invoke/MethodHandle" ∧ yX10_cutOf.cls ≠ "java/lang/invoke/VarHandle" ∧ (parseMethodDescriptor yX10_cutOf.desc).map (fun d => d.parameters.length) = some 2 := by decide +kernel
set_option maxHeartbeats 4000000 in
set_option maxRecDepth 100000 in
theorem c_X10_cutOf (l : Launch) (D : va_G) (τ : Nat → Nat) (ws : va_W) (tys : List (ClassId × FieldType)) (a : Int) (b : Int) (ha : 0 ≤ a ∧ a < 49) (hb2 : 0 ≤ b ∧ b < 49) : cM l yX10_cutOf wz_X10_cutOf rm_X10_cutOf D τ tys [.int (zI a), .int (zI b)] (ws) (zQi (fun r w => ∃ (v : Int), (v = S_cutn a b) ∧ (0 ≤ v ∧ v ≤ 6) ∧ r = zI v ∧ ws = w)) := by
  refine z_ofM (cc := cX10_cutOf) (maxL := 4) (ret := (some .int)) (by decide +kernel) rfl (Nat.le_of_ble_eq_true rfl) ?_
  intro pg e s m args below meth c hC hr hlk hnm hK hP A hD hG hA hS ls hl Q hQ
  have hx := hC.1
  have hb := hC.2.1
  have hml := hC.2.2.1
  have hown := hC.2.2.2.1
  have hts := hC.2.2.2.2
  have hB : ∀ w ∈ W0, w ∈ wz_X10_cutOf := fun _ h => List.mem_cons_of_mem _ h
  have hW0 : ∀ w ∈ W0, w.before args s = true := fun w h => hts w (hB w h)
  have hl : lv_has ls 4 [(0, .int (zI a)), (1, .int (zI b))] := hl
  have hzn := S_cutn_b ha hb2
  refine lv_iload_n hx hb dX10_cutOf_0 rfl (lv_at hl 1 rfl) ?_
  refine lv_bipush (v := zI 7) hx hb dX10_cutOf_1 (zI_b8 (by decide)) ?_
  refine z_idiv hx hb ⟨⟨by omega, by omega⟩, by omega, by omega⟩ dX10_cutOf_3 ?_
  refine lv_iload_n hx hb dX10_cutOf_4 rfl (lv_at hl 0 rfl) ?_
  refine lv_bipush (v := zI 7) hx hb dX10_cutOf_5 (zI_b8 (by decide)) ?_
  refine z_idiv hx hb ⟨⟨by omega, by omega⟩, by omega, by omega⟩ dX10_cutOf_7 ?_
  refine z_isub hx hb dX10_cutOf_8 ?_
  refine z_calli hP hD hS hA (va_runS (As := [.int (zI ((b / 7) - (a / 7)))]) (rest := []) hC (c_X10_size l D τ _ _ ((b / 7) - (a / 7)) (by first | assumption | rfl | omega) _) (va_cwS 1 hts (gS hB wl_X10_63 wt_X10_size wi_X10 wc_X10_size) rfl rfl rfl hd_X10_size.2 ⟨Nat.le_of_ble_eq_true rfl, Nat.le_of_ble_eq_true rfl⟩) (zp_S hK hP hD hS hA hG) rfl rfl hl.1 rfl (lv_room (Nat.le_of_ble_eq_true rfl)) dX10_cutOf_9 ⟨Nat.le_of_ble_eq_true rfl, Nat.le_of_ble_eq_true rfl⟩) (fun r w1 H locs hq9 hP hD hS => ?_)
  obtain ⟨v9_1, hv9_0, rfl, rfl⟩ := hq9
  refine lv_istore_n (lv' := [(2, .int (zI v9_1)), (0, .int (zI a)), (1, .int (zI b))]) hx hb dX10_cutOf_12 rfl hl (by decide) rfl (fun ls hl => ?_)
  refine lv_iload_n hx hb dX10_cutOf_13 rfl (lv_at hl 2 rfl) ?_
  refine lv_bipush (v := zI 7) hx hb dX10_cutOf_14 (zI_b8 (by decide)) ?_
  refine z_irem hx hb ⟨⟨by omega, by omega⟩, by omega, by omega⟩ dX10_cutOf_16 ?_
  refine lv_iload_n hx hb dX10_cutOf_17 rfl (lv_at hl 1 rfl) ?_
  refine lv_bipush (v := zI 7) hx hb dX10_cutOf_18 (zI_b8 (by decide)) ?_
  refine z_irem hx hb ⟨⟨by omega, by omega⟩, by omega, by omega⟩ dX10_cutOf_20 ?_
  refine z_isub hx hb dX10_cutOf_21 ?_
  refine z_calli hP hD hS hA (va_runS (As := [.int (zI ((b % 7) - (a % 7)))]) (rest := []) hC (c_X10_size l D τ _ _ ((b % 7) - (a % 7)) (by first | assumption | rfl | omega) _) (va_cwS 1 hts (gS hB wl_X10_63 wt_X10_size wi_X10 wc_X10_size) rfl rfl rfl hd_X10_size.2 ⟨Nat.le_of_ble_eq_true rfl, Nat.le_of_ble_eq_true rfl⟩) (zp_S hK hP hD hS hA hG) rfl rfl hl.1 rfl (lv_room (Nat.le_of_ble_eq_true rfl)) dX10_cutOf_22 ⟨Nat.le_of_ble_eq_true rfl, Nat.le_of_ble_eq_true rfl⟩) (fun r w1 H locs hq9 hP hD hS => ?_)
  obtain ⟨v22_2, hv22_0, rfl, rfl⟩ := hq9
  refine lv_istore_n (lv' := [(3, .int (zI v22_2)), (2, .int (zI v9_1)), (0, .int (zI a)), (1, .int (zI b))]) hx hb dX10_cutOf_25 rfl hl (by decide) rfl (fun ls hl => ?_)
  have e9 := hv9_0
  have e22 := hv22_0
  have s9 := zabs_spec (b / 7 - a / 7)
  have s22 := zabs_spec (b % 7 - a % 7)
  refine lv_iload_n hx hb dX10_cutOf_26 rfl (lv_at hl 1 rfl) ?_
  refine lv_iload_n hx hb dX10_cutOf_27 rfl (lv_at hl 0 rfl) ?_
  refine z_icle (tgt := 35) hx hb ⟨by omega, by omega⟩ ⟨by omega, by omega⟩ dX10_cutOf_28 (by decide) (fun c_28 => ?_) (fun c_28 => ?_)
  · refine lv_iload_n hx hb dX10_cutOf_35 rfl (lv_at hl 0 rfl) ?_
    exact z_iret hC hr hlk hQ hP hD hS ⟨v22_2, (by unfold S_cutn zmax; rw [← e9, ← e22]; split <;> omega), (by unfold S_cutn zmax at hzn; rw [← e9, ← e22] at hzn; split at hzn <;> omega), rfl, rfl⟩ dX10_cutOf_36
  · refine lv_iload_n hx hb dX10_cutOf_31 rfl (lv_at hl 1 rfl) ?_
    refine lv_goto (tgt := 36) hx hb dX10_cutOf_32 (by decide) ?_
    exact z_iret hC hr hlk hQ hP hD hS ⟨v9_1, (by unfold S_cutn zmax; rw [← e9, ← e22]; split <;> omega), (by unfold S_cutn zmax at hzn; rw [← e9, ← e22] at hzn; split at hzn <;> omega), rfl, rfl⟩ dX10_cutOf_36

abbrev wz_X10_onCut : List Cond := .code yX10_onCut cX10_onCut 6 (some .int) :: W0
abbrev rm_X10_onCut : Room := { frames := 2, cells := 0, slots := 0, locals := 43 }
theorem hd_X10_onCut : yX10_onCut.cls = RX10 ∧ yX10_onCut.cls ≠ "java/lang/invoke/MethodHandle" ∧ yX10_onCut.cls ≠ "java/lang/invoke/VarHandle" ∧ (parseMethodDescriptor yX10_onCut.desc).map (fun d => d.parameters.length) = some 3 := by decide +kernel
set_option maxHeartbeats 4000000 in
set_option maxRecDepth 100000 in
theorem c_X10_onCut (l : Launch) (D : va_G) (τ : Nat → Nat) (ws : va_W) (tys : List (ClassId × FieldType)) (a : Int) (b : Int) (i : Int) (ha : 0 ≤ a ∧ a < 49) (hb2 : 0 ≤ b ∧ b < 49) (hi : 0 ≤ i ∧ i ≤ S_cutn a b) : cM l yX10_onCut wz_X10_onCut rm_X10_onCut D τ tys [.int (zI a), .int (zI b), .int (zI i)] (ws) (zQi (fun r w => ∃ (v : Int), (v = S_on a b i) ∧ (0 ≤ v ∧ v < 49) ∧ r = zI v ∧ ws = w)) := by
  refine z_ofM (cc := cX10_onCut) (maxL := 6) (ret := (some .int)) (by decide +kernel) rfl (Nat.le_of_ble_eq_true rfl) ?_
  intro pg e s m args below meth c hC hr hlk hnm hK hP A hD hG hA hS ls hl Q hQ
  have hx := hC.1
  have hb := hC.2.1
  have hml := hC.2.2.1
  have hown := hC.2.2.2.1
  have hts := hC.2.2.2.2
  have hB : ∀ w ∈ W0, w ∈ wz_X10_onCut := fun _ h => List.mem_cons_of_mem _ h
  have hW0 : ∀ w ∈ W0, w.before args s = true := fun w h => hts w (hB w h)
  have hl : lv_has ls 6 [(0, .int (zI a)), (1, .int (zI b)), (2, .int (zI i))] := hl
  have hob := S_on_b ha hb2 hi
  have hcd := S_cutn_d (a := a) (b := b)
  refine lv_iload_n hx hb dX10_onCut_0 rfl (lv_at hl 0 rfl) ?_
  refine lv_iload_n hx hb dX10_onCut_1 rfl (lv_at hl 1 rfl) ?_
  refine z_calli hP hD hS hA (va_runS (As := [.int (zI a), .int (zI b)]) (rest := []) hC (c_X10_cutOf l D τ _ _ a b (by first | assumption | rfl | omega) (by first | assumption | rfl | omega) _) (va_cwS 2 hts (gS hB wl_X10_217 wt_X10_cutOf wi_X10 wc_X10_cutOf) rfl rfl rfl hd_X10_cutOf.2 ⟨Nat.le_of_ble_eq_true rfl, Nat.le_of_ble_eq_true rfl⟩) (zp_S hK hP hD hS hA hG) rfl rfl hl.1 rfl (lv_room (Nat.le_of_ble_eq_true rfl)) dX10_onCut_2 ⟨Nat.le_of_ble_eq_true rfl, Nat.le_of_ble_eq_true rfl⟩) (fun r w1 H locs hq9 hP hD hS => ?_)
  obtain ⟨v2_1, hv2_0, hv2_1, rfl, rfl⟩ := hq9
  refine lv_istore_n (lv' := [(3, .int (zI v2_1)), (0, .int (zI a)), (1, .int (zI b)), (2, .int (zI i))]) hx hb dX10_onCut_5 rfl hl (by decide) rfl (fun ls hl => ?_)
  refine lv_iload_n hx hb dX10_onCut_6 rfl (lv_at hl 0 rfl) ?_
  refine z_ifne (tgt := 12) hx hb ⟨by omega, by omega⟩ dX10_onCut_7 (by decide) (fun c_7 => ?_) (fun c_7 => ?_)
  · have hnn : 0 < v2_1 ∧ v2_1 ≤ 6 := by omega
    have hin : 0 ≤ i ∧ i ≤ v2_1 := by rw [hv2_0]; exact hi
    have al1 := S_al_n (n := v2_1) (st := a / 7) (d := b / 7 - a / 7) (i := i) hnn hin (by omega) (by omega)
    have al2 := S_al_n (n := v2_1) (st := a % 7) (d := b % 7 - a % 7) (i := i) hnn hin (by omega) (by omega)
    refine lv_iconst (v := zI 2) hx hb dX10_onCut_12 rfl ?_
    refine lv_iload_n hx hb dX10_onCut_13 rfl (lv_at hl 0 rfl) ?_
    refine z_imul hx hb dX10_onCut_14 ?_
    refine lv_iload_n hx hb dX10_onCut_15 rfl (lv_at hl 1 rfl) ?_
    refine lv_bipush (v := zI 7) hx hb dX10_onCut_16 (zI_b8 (by decide)) ?_
    refine z_idiv hx hb ⟨⟨by omega, by omega⟩, by omega, by omega⟩ dX10_onCut_18 ?_
    refine z_imul hx hb dX10_onCut_19 ?_
    refine lv_iconst (v := zI 2) hx hb dX10_onCut_20 rfl ?_
    refine lv_iload_n hx hb dX10_onCut_21 rfl (lv_at hl 3 rfl) ?_
    refine z_imul hx hb dX10_onCut_22 ?_
    refine lv_iload_n hx hb dX10_onCut_23 rfl (lv_at hl 2 rfl) ?_
    refine lv_bipush (v := zI 7) hx hb dX10_onCut_24 (zI_b8 (by decide)) ?_
    refine z_idiv hx hb ⟨⟨by omega, by omega⟩, by omega, by omega⟩ dX10_onCut_26 ?_
    refine lv_iload_n hx hb dX10_onCut_27 rfl (lv_at hl 1 rfl) ?_
    refine lv_bipush (v := zI 7) hx hb dX10_onCut_28 (zI_b8 (by decide)) ?_
    refine z_idiv hx hb ⟨⟨by omega, by omega⟩, by omega, by omega⟩ dX10_onCut_30 ?_
    refine z_isub hx hb dX10_onCut_31 ?_
    refine z_imul hx hb dX10_onCut_32 ?_
    refine z_iadd hx hb dX10_onCut_33 ?_
    refine lv_iload_n hx hb dX10_onCut_34 rfl (lv_at hl 0 rfl) ?_
    refine z_iadd hx hb dX10_onCut_35 ?_
    refine lv_iconst (v := zI 2) hx hb dX10_onCut_36 rfl ?_
    refine lv_iload_n hx hb dX10_onCut_37 rfl (lv_at hl 0 rfl) ?_
    refine z_imul hx hb dX10_onCut_38 ?_
    refine z_idiv hx hb ⟨⟨by omega, by omega⟩, by omega, by omega⟩ dX10_onCut_39 ?_
    refine lv_istore (lv' := [(4, .int (zI (((((2 * v2_1) * (a / 7)) + ((2 * i) * ((b / 7) - (a / 7)))) + v2_1) / (2 * v2_1)))), (3, .int (zI v2_1)), (0, .int (zI a)), (1, .int (zI b)), (2, .int (zI i))]) hx hb dX10_onCut_40 hl (by decide) rfl (fun ls hl => ?_)
    refine lv_iconst (v := zI 2) hx hb dX10_onCut_42 rfl ?_
    refine lv_iload_n hx hb dX10_onCut_43 rfl (lv_at hl 1 rfl) ?_
    refine z_imul hx hb dX10_onCut_44 ?_
    refine lv_iload_n hx hb dX10_onCut_45 rfl (lv_at hl 2 rfl) ?_
    refine lv_bipush (v := zI 7) hx hb dX10_onCut_46 (zI_b8 (by decide)) ?_
    refine z_irem hx hb ⟨⟨by omega, by omega⟩, by omega, by omega⟩ dX10_onCut_48 ?_
    refine z_imul hx hb dX10_onCut_49 ?_
    refine lv_iconst (v := zI 2) hx hb dX10_onCut_50 rfl ?_
    refine lv_iload_n hx hb dX10_onCut_51 rfl (lv_at hl 4 rfl) ?_
    refine z_imul hx hb dX10_onCut_52 ?_
    refine lv_iload_n hx hb dX10_onCut_53 rfl (lv_at hl 3 rfl) ?_
    refine lv_bipush (v := zI 7) hx hb dX10_onCut_54 (zI_b8 (by decide)) ?_
    refine z_irem hx hb ⟨⟨by omega, by omega⟩, by omega, by omega⟩ dX10_onCut_56 ?_
    refine lv_iload_n hx hb dX10_onCut_57 rfl (lv_at hl 2 rfl) ?_
    refine lv_bipush (v := zI 7) hx hb dX10_onCut_58 (zI_b8 (by decide)) ?_
    refine z_irem hx hb ⟨⟨by omega, by omega⟩, by omega, by omega⟩ dX10_onCut_60 ?_
    refine z_isub hx hb dX10_onCut_61 ?_
    refine z_imul hx hb dX10_onCut_62 ?_
    refine z_iadd hx hb dX10_onCut_63 ?_
    refine lv_iload_n hx hb dX10_onCut_64 rfl (lv_at hl 1 rfl) ?_
    refine z_iadd hx hb dX10_onCut_65 ?_
    refine lv_iconst (v := zI 2) hx hb dX10_onCut_66 rfl ?_
    refine lv_iload_n hx hb dX10_onCut_67 rfl (lv_at hl 1 rfl) ?_
    refine z_imul hx hb dX10_onCut_68 ?_
    refine z_idiv hx hb ⟨⟨by omega, by omega⟩, by omega, by omega⟩ dX10_onCut_69 ?_
    refine lv_istore (lv' := [(5, .int (zI (((((2 * v2_1) * (a % 7)) + ((2 * i) * ((b % 7) - (a % 7)))) + v2_1) / (2 * v2_1)))), (4, .int (zI (((((2 * v2_1) * (a / 7)) + ((2 * i) * ((b / 7) - (a / 7)))) + v2_1) / (2 * v2_1)))), (3, .int (zI v2_1)), (0, .int (zI a)), (1, .int (zI b)), (2, .int (zI i))]) hx hb dX10_onCut_70 hl (by decide) rfl (fun ls hl => ?_)
    refine lv_bipush (v := zI 7) hx hb dX10_onCut_72 (zI_b8 (by decide)) ?_
    refine lv_iload hx hb dX10_onCut_74 (lv_at hl 1 rfl) ?_
    refine z_imul hx hb dX10_onCut_76 ?_
    refine lv_iload hx hb dX10_onCut_77 (lv_at hl 0 rfl) ?_
    refine z_iadd hx hb dX10_onCut_79 ?_
    exact z_iret hC hr hlk hQ hP hD hS ⟨(7 * (((((2 * v2_1) * (a / 7)) + ((2 * i) * ((b / 7) - (a / 7)))) + v2_1) / (2 * v2_1))) + (((((2 * v2_1) * (a % 7)) + ((2 * i) * ((b % 7) - (a % 7)))) + v2_1) / (2 * v2_1)), (by unfold S_on S_along; rw [← hv2_0, if_neg (by omega), if_neg (by omega)]; exact congrArg (· + _) (Int.mul_comm _ _)), (by unfold S_on S_along at hob; rw [← hv2_0, if_neg (by omega), if_neg (by omega)] at hob; rw [Int.mul_comm 7]; exact hob), rfl, rfl⟩ dX10_onCut_80
  · refine lv_iload_n hx hb dX10_onCut_10 rfl (lv_at hl 1 rfl) ?_
    exact z_iret hC hr hlk hQ hP hD hS ⟨a, (by exact (S_on_z (hv2_0.symm.trans c_7)).symm), (by exact ha), rfl, rfl⟩ dX10_onCut_11

abbrev wz_X10_isSeen : List Cond := .code yX10_isSeen cX10_isSeen 6 (some .boolean) :: W0
abbrev rm_X10_isSeen : Room := { frames := 3, cells := 0, slots := 0, locals := 68 }
theorem hd_X10_isSeen : yX10_isSeen.cls = RX10 ∧ yX10_isSeen.cls ≠ "java/lang/invoke/MethodHandle" ∧ yX10_isSeen.cls ≠ "java/lang/invoke/VarHandle" ∧ (parseMethodDescriptor yX10_isSeen.desc).map (fun d => d.parameters.length) = some 2 := by decide +kernel
set_option maxHeartbeats 4000000 in
set_option maxRecDepth 100000 in
theorem c_X10_isSeen (l : Launch) (D : va_G) (τ : Nat → Nat) (β : Nat → Nat) (δ : Nat → ClassId) (ms : IA) (mb : IA) (mo : IA) (mp : BA) (mf : IA) (mn : IA) (mi : IA) (mc : IA) (mq : BA) (mr : IA) (mw : IA) (mk : Int) (ml : Int) (mt : Int) (ma : Int) (mx : Bool) (mh : Int64) (a : Int) (b : Int) (ha : 0 ≤ a ∧ a < 49) (hb2 : 0 ≤ b ∧ b < 49) (hms : ∀ k, 0 ≤ k → k < 49 → 0 ≤ ms k ∧ ms k ≤ 99) : cM l yX10_isSeen wz_X10_isSeen rm_X10_isSeen D τ (tyM δ) [.ref (β 0), .int (zI a), .int (zI b)] (wM β δ ms mb mo mp mf mn mi mc mq mr mw mk ml mt ma mx mh) (zQi (fun r w => ∃ (v : Bool), (v = true ↔ S_clear ms a b) ∧ r = bI v ∧ wM β δ ms mb mo mp mf mn mi mc mq mr mw mk ml mt ma mx mh = w)) := by
  refine z_ofM (cc := cX10_isSeen) (maxL := 6) (ret := (some .boolean)) (by decide +kernel) rfl (Nat.le_of_ble_eq_true rfl) ?_
  intro pg e s m args below meth c hC hr hlk hnm hK hP A hD hG hA hS ls hl Q hQ
  have hx := hC.1
  have hb := hC.2.1
  have hml := hC.2.2.1
  have hown := hC.2.2.2.1
  have hts := hC.2.2.2.2
  have hB : ∀ w ∈ W0, w ∈ wz_X10_isSeen := fun _ h => List.mem_cons_of_mem _ h
  have hW0 : ∀ w ∈ W0, w.before args s = true := fun w h => hts w (hB w h)
  have hl : lv_has ls 6 [(0, .ref (β 0)), (1, .int (zI a)), (2, .int (zI b))] := hl
  refine lv_iload_n hx hb dX10_isSeen_0 rfl (lv_at hl 1 rfl) ?_
  refine lv_iload_n hx hb dX10_isSeen_1 rfl (lv_at hl 2 rfl) ?_
  refine z_calli hP hD hS hA (va_runS (As := [.int (zI a), .int (zI b)]) (rest := []) hC (c_X10_cutOf l D τ _ _ a b (by first | assumption | rfl | omega) (by first | assumption | rfl | omega) _) (va_cwS 2 hts (gS hB wl_X10_217 wt_X10_cutOf wi_X10 wc_X10_cutOf) rfl rfl rfl hd_X10_cutOf.2 ⟨Nat.le_of_ble_eq_true rfl, Nat.le_of_ble_eq_true rfl⟩) (zp_S hK hP hD hS hA hG) rfl rfl hl.1 rfl (lv_room (Nat.le_of_ble_eq_true rfl)) dX10_isSeen_2 ⟨Nat.le_of_ble_eq_true rfl, Nat.le_of_ble_eq_true rfl⟩) (fun r w1 H locs hq9 hP hD hS => ?_)
  obtain ⟨v2_1, hv2_0, hv2_1, rfl, rfl⟩ := hq9
  refine lv_istore_n (lv' := [(3, .int (zI v2_1)), (0, .ref (β 0)), (1, .int (zI a)), (2, .int (zI b))]) hx hb dX10_isSeen_5 rfl hl (by decide) rfl (fun ls hl => ?_)
  refine lv_iconst (v := zI 1) hx hb dX10_isSeen_6 rfl ?_
  refine lv_istore (lv' := [(4, .int (zI 1)), (3, .int (zI v2_1)), (0, .ref (β 0)), (1, .int (zI a)), (2, .int (zI b))]) hx hb dX10_isSeen_7 hl (by decide) rfl (fun ls hl => ?_)
  refine lv_iconst (v := zI 1) hx hb dX10_isSeen_9 rfl ?_
  refine lv_istore (lv' := [(5, .int (zI 1)), (4, .int (zI 1)), (3, .int (zI v2_1)), (0, .ref (β 0)), (1, .int (zI a)), (2, .int (zI b))]) hx hb dX10_isSeen_10 hl (by decide) rfl (fun ls hl => ?_)
  suffices HL_12 : ∀ (n_12 : Nat), ∀ (qb : Bool) (i : Int) (H : Heap) (locs : List Loc) (hP : va_P D vwCl (wM β δ ms mb mo mp mf mn mi mc mq mr mw mk ml mt ma mx mh) H) (hD : va_D A (wM β δ ms mb mo mp mf mn mi mc mq mr mw mk ml mt ma mx mh)) (hS : va_S A s.heap H locs) (ls : Array Slot) (hl : lv_has ls 6 [(4, .int (bI qb)), (5, .int (zI i)), (3, .int (zI v2_1)), (0, .ref (β 0)), (1, .int (zI a)), (2, .int (zI b))]) (hi : 1 ≤ i ∧ (i ≤ S_cutn a b ∨ i = 1)) (hqb : qb = true ↔ ∀ k, 1 ≤ k → k < i → ms (S_on a b k) * S_cutn a b ≤ (S_cutn a b - k) * ms a + k * ms b) (hm : (S_cutn a b + 1 - i).toNat < n_12), W pg l e rm_X10_isSeen s m args below meth c H locs 0 0 Q (F0 m 12 ls []) from HL_12 _ true 1 _ _ hP hD hS _ (lv_sub hl [1, 0, 2, 3, 4, 5] rfl) (by first | assumption | rfl | omega) (by exact zb_T (fun k z1 z2 => by omega)) (Nat.lt_succ_self _)
  intro n_12
  induction n_12 with
  | zero => intro qb i H locs hP hD hS ls hl hi hqb hm; exact absurd hm (Nat.not_lt_zero _)
  | succ n_12 ih_12 =>
    intro qb i H locs hP hD hS ls hl hi hqb hm
    refine lv_iload hx hb dX10_isSeen_12 (lv_at hl 1 rfl) ?_
    refine lv_iload_n hx hb dX10_isSeen_14 rfl (lv_at hl 2 rfl) ?_
    refine z_icge (tgt := 74) hx hb ⟨by omega, by omega⟩ ⟨by omega, by omega⟩ dX10_isSeen_15 (by decide) (fun c_15 => ?_) (fun c_15 => ?_)
    · refine lv_iload hx hb dX10_isSeen_74 (lv_at hl 0 rfl) ?_
      exact z_zret hC hr hlk hQ hP hD hS ⟨qb, (by exact ⟨fun h9 k a1 a2 => hqb.mp h9 k a1 (by omega), fun h9 => hqb.mpr (fun k a1 a2 => h9 k a1 (by omega))⟩), rfl, rfl⟩ dX10_isSeen_76
    · refine lv_iload hx hb dX10_isSeen_18 (lv_at hl 0 rfl) ?_
      refine z_ifeqB (tgt := 65) hx hb dX10_isSeen_20 (by decide) (fun c_20 => ?_) (fun c_20 => ?_)
      · refine lv_iconst (v := zI 0) hx hb dX10_isSeen_65 rfl ?_
        refine lv_istore (lv' := [(4, .int (zI 0)), (5, .int (zI i)), (3, .int (zI v2_1)), (0, .ref (β 0)), (1, .int (zI a)), (2, .int (zI b))]) hx hb dX10_isSeen_66 hl (by decide) rfl (fun ls hl => ?_)
        refine z_iinc (k := 1) (v := i + 1) (lv' := [(5, .int (zI (i + 1))), (4, .int (zI 0)), (3, .int (zI v2_1)), (0, .ref (β 0)), (1, .int (zI a)), (2, .int (zI b))]) hx hb dX10_isSeen_68 hl rfl rfl (by decide) rfl (fun ls hl => ?_)
        refine lv_goto (tgt := 12) hx hb dX10_isSeen_71 (by decide) ?_
        exact ih_12 false (i + 1) _ _ hP hD hS _ (lv_sub hl [1, 0, 2, 3, 4, 5] rfl) (by first | assumption | rfl | omega) (by first | exact zb_F (fun h9 => by rw [hqb.mpr (fun k a1 a2 => h9 k a1 (by omega))] at c_20; cases c_20) | exact zb_T (fun k a1 a2 => by by_cases e9 : k = i; (rw [e9, ← hv31_0, ← hv2_0]; exact c_58); exact hqb.mp c_20 k a1 (by omega)) | exact zb_F (fun h9 => absurd (h9 i hi.1 (by omega)) (by rw [← hv31_0, ← hv2_0]; exact Int.not_le.mpr c_58))) (by omega)
      · refine lv_aload_n hx hb dX10_isSeen_23 rfl (lv_at hl 3 rfl) ?_
        refine va_get (D := D) (ci := 10) (v := .ref (β 1)) (C := RX10) (T := TX10) (N := 17) hx hb hts (fun w h => List.mem_cons_of_mem _ (wx_X10 w h)) hown hK hP 0 rfl rfl 0 (by decide) (hW0 _ wf_X10_7) (fun _ h9 => h9) rfl dX10_isSeen_24 ?_
        refine lv_iload_n hx hb dX10_isSeen_27 rfl (lv_at hl 4 rfl) ?_
        refine lv_iload_n hx hb dX10_isSeen_28 rfl (lv_at hl 5 rfl) ?_
        refine lv_iload hx hb dX10_isSeen_29 (lv_at hl 1 rfl) ?_
        refine z_calli hP hD hS hA (va_runS (As := [.int (zI a), .int (zI b), .int (zI i)]) (rest := [.ref (β 1)]) hC (c_X10_onCut l D τ _ _ a b i (by first | assumption | rfl | omega) (by first | assumption | rfl | omega) (by rw [← hv2_0]; omega) _) (va_cwS 3 hts (gS hB wl_X10_220 wt_X10_onCut wi_X10 wc_X10_onCut) rfl rfl rfl hd_X10_onCut.2 ⟨Nat.le_of_ble_eq_true rfl, Nat.le_of_ble_eq_true rfl⟩) (zp_S hK hP hD hS hA hG) rfl rfl hl.1 rfl (lv_room (Nat.le_of_ble_eq_true rfl)) dX10_isSeen_31 ⟨Nat.le_of_ble_eq_true rfl, Nat.le_of_ble_eq_true rfl⟩) (fun r w1 H locs hq9 hP hD hS => ?_)
        obtain ⟨v31_2, hv31_0, hv31_1, rfl, rfl⟩ := hq9
        refine z_iald (f := ms) hx hb hK hP 1 0 rfl rfl ⟨⟨by omega, by omega⟩, by decide⟩ dX10_isSeen_34 ?_
        have hb_34 := hms v31_2 (by omega) (by omega)
        refine lv_iload_n hx hb dX10_isSeen_35 rfl (lv_at hl 2 rfl) ?_
        refine z_imul hx hb dX10_isSeen_36 ?_
        refine lv_iload_n hx hb dX10_isSeen_37 rfl (lv_at hl 2 rfl) ?_
        refine lv_iload hx hb dX10_isSeen_38 (lv_at hl 1 rfl) ?_
        refine z_isub hx hb dX10_isSeen_40 ?_
        refine lv_aload_n hx hb dX10_isSeen_41 rfl (lv_at hl 3 rfl) ?_
        refine va_get (D := D) (ci := 10) (v := .ref (β 1)) (C := RX10) (T := TX10) (N := 17) hx hb hts (fun w h => List.mem_cons_of_mem _ (wx_X10 w h)) hown hK hP 0 rfl rfl 0 (by decide) (hW0 _ wf_X10_7) (fun _ h9 => h9) rfl dX10_isSeen_42 ?_
        refine lv_iload_n hx hb dX10_isSeen_45 rfl (lv_at hl 4 rfl) ?_
        refine z_iald (f := ms) hx hb hK hP 1 0 rfl rfl ⟨⟨by omega, by omega⟩, by decide⟩ dX10_isSeen_46 ?_
        have hb_46 := hms a (by omega) (by omega)
        refine z_imul hx hb dX10_isSeen_47 ?_
        refine lv_iload hx hb dX10_isSeen_48 (lv_at hl 1 rfl) ?_
        refine lv_aload_n hx hb dX10_isSeen_50 rfl (lv_at hl 3 rfl) ?_
        refine va_get (D := D) (ci := 10) (v := .ref (β 1)) (C := RX10) (T := TX10) (N := 17) hx hb hts (fun w h => List.mem_cons_of_mem _ (wx_X10 w h)) hown hK hP 0 rfl rfl 0 (by decide) (hW0 _ wf_X10_7) (fun _ h9 => h9) rfl dX10_isSeen_51 ?_
        refine lv_iload_n hx hb dX10_isSeen_54 rfl (lv_at hl 5 rfl) ?_
        refine z_iald (f := ms) hx hb hK hP 1 0 rfl rfl ⟨⟨by omega, by omega⟩, by decide⟩ dX10_isSeen_55 ?_
        have hb_55 := hms b (by omega) (by omega)
        refine z_imul hx hb dX10_isSeen_56 ?_
        refine z_iadd hx hb dX10_isSeen_57 ?_
        have z1 := zmul_b (x := ms v31_2) (y := v2_1) (a := 99) (b := 6) (by omega) (by omega)
        have z2 := zmul_b (x := v2_1 - i) (y := ms a) (a := 6) (b := 99) (by omega) (hms a ha.1 ha.2)
        have z3 := zmul_b (x := i) (y := ms b) (a := 6) (b := 99) (by omega) (hms b hb2.1 hb2.2)
        refine z_icgt (tgt := 65) hx hb ⟨by omega, by omega⟩ ⟨by omega, by omega⟩ dX10_isSeen_58 (by decide) (fun c_58 => ?_) (fun c_58 => ?_)
        · refine lv_iconst (v := zI 0) hx hb dX10_isSeen_65 rfl ?_
          refine lv_istore (lv' := [(4, .int (zI 0)), (5, .int (zI i)), (3, .int (zI v2_1)), (0, .ref (β 0)), (1, .int (zI a)), (2, .int (zI b))]) hx hb dX10_isSeen_66 hl (by decide) rfl (fun ls hl => ?_)
          refine z_iinc (k := 1) (v := i + 1) (lv' := [(5, .int (zI (i + 1))), (4, .int (zI 0)), (3, .int (zI v2_1)), (0, .ref (β 0)), (1, .int (zI a)), (2, .int (zI b))]) hx hb dX10_isSeen_68 hl rfl rfl (by decide) rfl (fun ls hl => ?_)
          refine lv_goto (tgt := 12) hx hb dX10_isSeen_71 (by decide) ?_
          exact ih_12 false (i + 1) _ _ hP hD hS _ (lv_sub hl [1, 0, 2, 3, 4, 5] rfl) (by first | assumption | rfl | omega) (by first | exact zb_F (fun h9 => by rw [hqb.mpr (fun k a1 a2 => h9 k a1 (by omega))] at c_20; cases c_20) | exact zb_T (fun k a1 a2 => by by_cases e9 : k = i; (rw [e9, ← hv31_0, ← hv2_0]; exact c_58); exact hqb.mp c_20 k a1 (by omega)) | exact zb_F (fun h9 => absurd (h9 i hi.1 (by omega)) (by rw [← hv31_0, ← hv2_0]; exact Int.not_le.mpr c_58))) (by omega)
        · refine lv_iconst (v := zI 1) hx hb dX10_isSeen_61 rfl ?_
          refine lv_goto (tgt := 66) hx hb dX10_isSeen_62 (by decide) ?_
          refine lv_istore (lv' := [(4, .int (zI 1)), (5, .int (zI i)), (3, .int (zI v2_1)), (0, .ref (β 0)), (1, .int (zI a)), (2, .int (zI b))]) hx hb dX10_isSeen_66 hl (by decide) rfl (fun ls hl => ?_)
          refine z_iinc (k := 1) (v := i + 1) (lv' := [(5, .int (zI (i + 1))), (4, .int (zI 1)), (3, .int (zI v2_1)), (0, .ref (β 0)), (1, .int (zI a)), (2, .int (zI b))]) hx hb dX10_isSeen_68 hl rfl rfl (by decide) rfl (fun ls hl => ?_)
          refine lv_goto (tgt := 12) hx hb dX10_isSeen_71 (by decide) ?_
          exact ih_12 true (i + 1) _ _ hP hD hS _ (lv_sub hl [1, 0, 2, 3, 4, 5] rfl) (by first | assumption | rfl | omega) (by first | exact zb_F (fun h9 => by rw [hqb.mpr (fun k a1 a2 => h9 k a1 (by omega))] at c_20; cases c_20) | exact zb_T (fun k a1 a2 => by by_cases e9 : k = i; (rw [e9, ← hv31_0, ← hv2_0]; exact c_58); exact hqb.mp c_20 k a1 (by omega)) | exact zb_F (fun h9 => absurd (h9 i hi.1 (by omega)) (by rw [← hv31_0, ← hv2_0]; exact Int.not_le.mpr c_58))) (by omega)

abbrev wz_X10_seen : List Cond := .code yX10_seen cX10_seen 4 (some .int) :: W0
abbrev rm_X10_seen : Room := { frames := 4, cells := 0, slots := 0, locals := 93 }
theorem hd_X10_seen : yX10_seen.cls = RX10 ∧ yX10_seen.cls ≠ "java/lang/invoke/MethodHandle" ∧ yX10_seen.cls ≠ "java/lang/invoke/VarHandle" ∧ (parseMethodDescriptor yX10_seen.desc).map (fun d => d.parameters.length) = some 1 := by decide +kernel
set_option maxHeartbeats 4000000 in
set_option maxRecDepth 100000 in
theorem c_X10_seen (l : Launch) (D : va_G) (τ : Nat → Nat) (β : Nat → Nat) (δ : Nat → ClassId) (ms : IA) (mb : IA) (mo : IA) (mp : BA) (mf : IA) (mn : IA) (mi : IA) (mc : IA) (mq : BA) (mr : IA) (mw : IA) (mk : Int) (ml : Int) (mt : Int) (ma : Int) (mx : Bool) (mh : Int64) (a : Int) (ha : 0 ≤ a ∧ a < 49) (hms : ∀ k, 0 ≤ k → k < 49 → 0 ≤ ms k ∧ ms k ≤ 99) : cM l yX10_seen wz_X10_seen rm_X10_seen D τ (tyM δ) [.ref (β 0), .int (zI a)] (wM β δ ms mb mo mp mf mn mi mc mq mr mw mk ml mt ma mx mh) (zQi (fun r w => ∃ (v : Int), (v = S_seen ms a) ∧ (0 ≤ v ∧ v ≤ 49) ∧ r = zI v ∧ wM β δ ms mb mo mp mf mn mi mc mq mr mw mk ml mt ma mx mh = w)) := by
  refine z_ofM (cc := cX10_seen) (maxL := 4) (ret := (some .int)) (by decide +kernel) rfl (Nat.le_of_ble_eq_true rfl) ?_
  intro pg e s m args below meth c hC hr hlk hnm hK hP A hD hG hA hS ls hl Q hQ
  have hx := hC.1
  have hb := hC.2.1
  have hml := hC.2.2.1
  have hown := hC.2.2.2.1
  have hts := hC.2.2.2.2
  have hB : ∀ w ∈ W0, w ∈ wz_X10_seen := fun _ h => List.mem_cons_of_mem _ h
  have hW0 : ∀ w ∈ W0, w.before args s = true := fun w h => hts w (hB w h)
  have hl : lv_has ls 4 [(0, .ref (β 0)), (1, .int (zI a))] := hl
  refine lv_iconst (v := zI 0) hx hb dX10_seen_0 rfl ?_
  refine lv_istore_n (lv' := [(2, .int (zI 0)), (0, .ref (β 0)), (1, .int (zI a))]) hx hb dX10_seen_1 rfl hl (by decide) rfl (fun ls hl => ?_)
  refine lv_iconst (v := zI 0) hx hb dX10_seen_2 rfl ?_
  refine lv_istore_n (lv' := [(3, .int (zI 0)), (2, .int (zI 0)), (0, .ref (β 0)), (1, .int (zI a))]) hx hb dX10_seen_3 rfl hl (by decide) rfl (fun ls hl => ?_)
  suffices HL_4 : ∀ (n_4 : Nat), ∀ (g : Int) (i : Int) (H : Heap) (locs : List Loc) (hP : va_P D vwCl (wM β δ ms mb mo mp mf mn mi mc mq mr mw mk ml mt ma mx mh) H) (hD : va_D A (wM β δ ms mb mo mp mf mn mi mc mq mr mw mk ml mt ma mx mh)) (hS : va_S A s.heap H locs) (ls : Array Slot) (hl : lv_has ls 4 [(2, .int (zI g)), (3, .int (zI i)), (0, .ref (β 0)), (1, .int (zI a))]) (hi : 0 ≤ i ∧ i ≤ 49) (hg : g = zC (S_sees ms a) i) (hgb : 0 ≤ g ∧ g ≤ i) (hm : (49 - i).toNat < n_4), W pg l e rm_X10_seen s m args below meth c H locs 0 0 Q (F0 m 4 ls []) from HL_4 _ 0 0 _ _ hP hD hS _ (lv_sub hl [1, 0, 2, 3] rfl) (by first | assumption | rfl | omega) (by exact (zC_0 _).symm) (by first | assumption | rfl | omega) (Nat.lt_succ_self _)
  intro n_4
  induction n_4 with
  | zero => intro g i H locs hP hD hS ls hl hi hg hgb hm; exact absurd hm (Nat.not_lt_zero _)
  | succ n_4 ih_4 =>
    intro g i H locs hP hD hS ls hl hi hg hgb hm
    refine lv_iload_n hx hb dX10_seen_4 rfl (lv_at hl 1 rfl) ?_
    refine lv_bipush (v := zI 49) hx hb dX10_seen_5 (zI_b8 (by decide)) ?_
    refine z_icge (tgt := 38) hx hb ⟨by omega, by omega⟩ ⟨by omega, by omega⟩ dX10_seen_7 (by decide) (fun c_7 => ?_) (fun c_7 => ?_)
    · refine lv_iload_n hx hb dX10_seen_38 rfl (lv_at hl 0 rfl) ?_
      exact z_iret hC hr hlk hQ hP hD hS ⟨g, (by rw [hg, show i = 49 by omega]; rfl), (by omega), rfl, rfl⟩ dX10_seen_39
    · refine lv_iload_n hx hb dX10_seen_10 rfl (lv_at hl 0 rfl) ?_
      refine lv_iload_n hx hb dX10_seen_11 rfl (lv_at hl 1 rfl) ?_
      refine lv_iload_n hx hb dX10_seen_12 rfl (lv_at hl 3 rfl) ?_
      refine z_iceq (tgt := 29) hx hb ⟨by omega, by omega⟩ ⟨by omega, by omega⟩ dX10_seen_13 (by decide) (fun c_13 => ?_) (fun c_13 => ?_)
      · refine lv_iconst (v := zI 0) hx hb dX10_seen_29 rfl ?_
        refine z_iadd hx hb dX10_seen_30 ?_
        refine lv_istore_n (lv' := [(2, .int (zI (g + 0))), (3, .int (zI i)), (0, .ref (β 0)), (1, .int (zI a))]) hx hb dX10_seen_31 rfl hl (by decide) rfl (fun ls hl => ?_)
        refine z_iinc (k := 1) (v := i + 1) (lv' := [(3, .int (zI (i + 1))), (2, .int (zI (g + 0))), (0, .ref (β 0)), (1, .int (zI a))]) hx hb dX10_seen_32 hl rfl rfl (by decide) rfl (fun ls hl => ?_)
        refine lv_goto (tgt := 4) hx hb dX10_seen_35 (by decide) ?_
        exact ih_4 (g + 0) (i + 1) _ _ hP hD hS _ (lv_sub hl [1, 0, 2, 3] rfl) (by first | assumption | rfl | omega) (by rw [zC_up hi.1, ← hg]; first | (rw [z1_t (show S_sees ms a i = true from cb_iff.mpr ⟨c_13, hb_22⟩)]; done) | (rw [z1_f (show S_sees ms a i = false from cb_f.mpr (fun h9 => hb_22 h9.2))]; omega) | (rw [z1_f (show S_sees ms a i = false from cb_f.mpr (fun h9 => h9.1 c_13))]; omega)) (by first | assumption | rfl | omega) (by omega)
      · refine lv_aload_n hx hb dX10_seen_16 rfl (lv_at hl 2 rfl) ?_
        refine lv_iload_n hx hb dX10_seen_17 rfl (lv_at hl 3 rfl) ?_
        refine lv_iload_n hx hb dX10_seen_18 rfl (lv_at hl 1 rfl) ?_
        refine z_calli hP hD hS hA (va_runV (As := [.int (zI a), .int (zI i)]) (rest := [.int (zI g)]) hC (c_X10_isSeen l D τ β δ ms mb mo mp mf mn mi mc mq mr mw mk ml mt ma mx mh a i (by first | assumption | rfl | omega) (by first | assumption | rfl | omega) (by first | assumption | rfl | omega) _) (cwV 2 hts (gV hB wl_X10_223 wn_X10_isSeen ws_X10_isSeen wi_X10 wc_X10_isSeen) rfl rfl rfl hd_X10_isSeen ⟨Nat.le_of_ble_eq_true rfl, Nat.le_of_ble_eq_true rfl⟩) (zp_V hK hP hD hS hA hG (ci := 10) (q0 := 0) rfl rfl rfl) rfl rfl hl.1 rfl (lv_room (Nat.le_of_ble_eq_true rfl)) dX10_seen_19 ⟨Nat.le_of_ble_eq_true rfl, Nat.le_of_ble_eq_true rfl⟩) (fun r w1 H locs hq9 hP hD hS => ?_)
        obtain ⟨v19_1, hv19_0, rfl, rfl⟩ := hq9
        have hP : va_P D vwCl (wM β δ ms mb mo mp mf mn mi mc mq mr mw mk ml mt ma mx mh) H := hP
        have hD : va_D A (wM β δ ms mb mo mp mf mn mi mc mq mr mw mk ml mt ma mx mh) := hD
        refine z_ifeqB (tgt := 29) hx hb dX10_seen_22 (by decide) (fun c_22 => ?_) (fun c_22 => ?_)
        · have hb_22 := zb_neg hv19_0 c_22
          refine lv_iconst (v := zI 0) hx hb dX10_seen_29 rfl ?_
          refine z_iadd hx hb dX10_seen_30 ?_
          refine lv_istore_n (lv' := [(2, .int (zI (g + 0))), (3, .int (zI i)), (0, .ref (β 0)), (1, .int (zI a))]) hx hb dX10_seen_31 rfl hl (by decide) rfl (fun ls hl => ?_)
          refine z_iinc (k := 1) (v := i + 1) (lv' := [(3, .int (zI (i + 1))), (2, .int (zI (g + 0))), (0, .ref (β 0)), (1, .int (zI a))]) hx hb dX10_seen_32 hl rfl rfl (by decide) rfl (fun ls hl => ?_)
          refine lv_goto (tgt := 4) hx hb dX10_seen_35 (by decide) ?_
          exact ih_4 (g + 0) (i + 1) _ _ hP hD hS _ (lv_sub hl [1, 0, 2, 3] rfl) (by first | assumption | rfl | omega) (by rw [zC_up hi.1, ← hg]; first | (rw [z1_t (show S_sees ms a i = true from cb_iff.mpr ⟨c_13, hb_22⟩)]; done) | (rw [z1_f (show S_sees ms a i = false from cb_f.mpr (fun h9 => hb_22 h9.2))]; omega) | (rw [z1_f (show S_sees ms a i = false from cb_f.mpr (fun h9 => h9.1 c_13))]; omega)) (by first | assumption | rfl | omega) (by omega)
        · have hb_22 := hv19_0.mp c_22
          refine lv_iconst (v := zI 1) hx hb dX10_seen_25 rfl ?_
          refine lv_goto (tgt := 30) hx hb dX10_seen_26 (by decide) ?_
          refine z_iadd hx hb dX10_seen_30 ?_
          refine lv_istore_n (lv' := [(2, .int (zI (g + 1))), (3, .int (zI i)), (0, .ref (β 0)), (1, .int (zI a))]) hx hb dX10_seen_31 rfl hl (by decide) rfl (fun ls hl => ?_)
          refine z_iinc (k := 1) (v := i + 1) (lv' := [(3, .int (zI (i + 1))), (2, .int (zI (g + 1))), (0, .ref (β 0)), (1, .int (zI a))]) hx hb dX10_seen_32 hl rfl rfl (by decide) rfl (fun ls hl => ?_)
          refine lv_goto (tgt := 4) hx hb dX10_seen_35 (by decide) ?_
          exact ih_4 (g + 1) (i + 1) _ _ hP hD hS _ (lv_sub hl [1, 0, 2, 3] rfl) (by first | assumption | rfl | omega) (by rw [zC_up hi.1, ← hg]; first | (rw [z1_t (show S_sees ms a i = true from cb_iff.mpr ⟨c_13, hb_22⟩)]; done) | (rw [z1_f (show S_sees ms a i = false from cb_f.mpr (fun h9 => hb_22 h9.2))]; omega) | (rw [z1_f (show S_sees ms a i = false from cb_f.mpr (fun h9 => h9.1 c_13))]; omega)) (by first | assumption | rfl | omega) (by omega)

abbrev wz_X10_areThere : List Cond := .code yX10_areThere cX10_areThere 5 (some .boolean) :: W0
abbrev rm_X10_areThere : Room := { frames := 2, cells := 0, slots := 0, locals := 43 }
theorem hd_X10_areThere : yX10_areThere.cls = RX10 ∧ yX10_areThere.cls ≠ "java/lang/invoke/MethodHandle" ∧ yX10_areThere.cls ≠ "java/lang/invoke/VarHandle" ∧ (parseMethodDescriptor yX10_areThere.desc).map (fun d => d.parameters.length) = some 4 := by decide +kernel
set_option maxHeartbeats 4000000 in
set_option maxRecDepth 100000 in
theorem c_X10_areThere (l : Launch) (D : va_G) (τ : Nat → Nat) (β : Nat → Nat) (δ : Nat → ClassId) (ms : IA) (mb : IA) (mo : IA) (mp : BA) (mf : IA) (mn : IA) (mi : IA) (mc : IA) (mq : BA) (mr : IA) (mw : IA) (mk : Int) (ml : Int) (mt : Int) (ma : Int) (mx : Bool) (mh : Int64) (r9 : Int) (c9 : Int) (r8 : Int) (c8 : Int) (hr9 : -2147483648 ≤ r9 ∧ r9 < 2147483648) (hc9 : -2147483648 ≤ c9 ∧ c9 < 2147483648) (hr8 : -2147483648 ≤ r8 ∧ r8 < 2147483648) (hc8 : -2147483648 ≤ c8 ∧ c8 < 2147483648) : cM l yX10_areThere wz_X10_areThere rm_X10_areThere D τ (tyM δ) [.ref (β 0), .int (zI r9), .int (zI c9), .int (zI r8), .int (zI c8)] (wM β δ ms mb mo mp mf mn mi mc mq mr mw mk ml mt ma mx mh) (zQi (fun r w => ∃ (t2 : Int), ∃ (v : Bool), (v = true ↔ (((0 ≤ r9 ∧ r9 ≤ 6) ∧ (0 ≤ c9 ∧ c9 ≤ 6)) ∧ ((0 ≤ r8 ∧ r8 ≤ 6) ∧ (0 ≤ c8 ∧ c8 ≤ 6)))) ∧ (t2 = S_tcut r9 c9 r8 c8) ∧ r = bI v ∧ wM β δ ms mb mo mp mf mn mi mc mq mr mw mk ml t2 ma mx mh = w)) := by
  refine z_ofM (cc := cX10_areThere) (maxL := 5) (ret := (some .boolean)) (by decide +kernel) rfl (Nat.le_of_ble_eq_true rfl) ?_
  intro pg e s m args below meth c hC hr hlk hnm hK hP A hD hG hA hS ls hl Q hQ
  have hx := hC.1
  have hb := hC.2.1
  have hml := hC.2.2.1
  have hown := hC.2.2.2.1
  have hts := hC.2.2.2.2
  have hB : ∀ w ∈ W0, w ∈ wz_X10_areThere := fun _ h => List.mem_cons_of_mem _ h
  have hW0 : ∀ w ∈ W0, w.before args s = true := fun w h => hts w (hB w h)
  have hl : lv_has ls 5 [(0, .ref (β 0)), (1, .int (zI r9)), (2, .int (zI c9)), (3, .int (zI r8)), (4, .int (zI c8))] := hl
  refine lv_aload_n hx hb dX10_areThere_0 rfl (lv_at hl 0 rfl) ?_
  refine lv_iload_n hx hb dX10_areThere_1 rfl (lv_at hl 1 rfl) ?_
  refine lv_iload_n hx hb dX10_areThere_2 rfl (lv_at hl 2 rfl) ?_
  refine z_calli hP hD hS hA (va_runS (As := [.int (zI r9), .int (zI c9)]) (rest := [.ref (β 0)]) hC (c_X10_isPoint l D τ _ _ r9 c9 (by first | assumption | rfl | omega) (by first | assumption | rfl | omega) _) (va_cwS 2 hts (gS hB wl_X10_55 wt_X10_isPoint wi_X10 wc_X10_isPoint) rfl rfl rfl hd_X10_isPoint.2 ⟨Nat.le_of_ble_eq_true rfl, Nat.le_of_ble_eq_true rfl⟩) (zp_S hK hP hD hS hA hG) rfl rfl hl.1 rfl (lv_room (Nat.le_of_ble_eq_true rfl)) dX10_areThere_3 ⟨Nat.le_of_ble_eq_true rfl, Nat.le_of_ble_eq_true rfl⟩) (fun r w1 H locs hq9 hP hD hS => ?_)
  obtain ⟨v3_1, hv3_0, rfl, rfl⟩ := hq9
  refine z_ifeqB (tgt := 22) hx hb dX10_areThere_6 (by decide) (fun c_6 => ?_) (fun c_6 => ?_)
  · have hb_6 := zb_neg hv3_0 c_6
    refine lv_iconst (v := zI 1) hx hb dX10_areThere_22 rfl ?_
    refine va_put (D := D) (ci := 10) (v := .int (zI 1)) (ty := .int) (C := RX10) (T := TX10) (N := 17) hx hb hts (fun w h => List.mem_cons_of_mem _ (wx_X10 w h)) tyX10 tyX10_ok nmX10 hown hK hP hD hS 0 rfl rfl 7 (by decide) (hW0 _ wf_X10_44) (fun _ h9 => h9) rfl (by decide +kernel) rfl rfl (Nat.le_of_ble_eq_true rfl) dX10_areThere_23 (fun H locs hP hD hS => ?_)
    have hP : va_P D vwCl (wM β δ ms mb mo mp mf mn mi mc mq mr mw mk ml 1 ma mx mh) H := hP
    have hD : va_D A (wM β δ ms mb mo mp mf mn mi mc mq mr mw mk ml 1 ma mx mh) := hD
    refine lv_aload_n hx hb dX10_areThere_26 rfl (lv_at hl 0 rfl) ?_
    refine va_get (D := D) (ci := 10) (v := .int (zI 1)) (C := RX10) (T := TX10) (N := 17) hx hb hts (fun w h => List.mem_cons_of_mem _ (wx_X10 w h)) hown hK hP 0 rfl rfl 7 (by decide) (hW0 _ wf_X10_44) (fun _ h9 => h9) rfl dX10_areThere_27 ?_
    refine z_ifne (tgt := 37) hx hb ⟨by omega, by omega⟩ dX10_areThere_30 (by decide) (fun c_30 => ?_) (fun c_30 => ?_)
    · refine lv_iconst (v := zI 0) hx hb dX10_areThere_37 rfl ?_
      refine W.eq (g2 := F0 m 38 ls [.int (bI false)]) rfl ?_
      exact z_zret hC hr hlk hQ hP hD hS ⟨1, false, (by first | exact zb_T ⟨hb_6, hb_15⟩ | exact zb_F (fun h9 => hb_6 h9.1) | exact zb_F (fun h9 => hb_15 h9.2)), (by unfold S_tcut; first | (rw [if_pos ⟨hb_6, hb_15⟩]; done) | (rw [if_neg (fun h9 => hb_6 h9.1)]; done) | (rw [if_neg (fun h9 => hb_15 h9.2)]; done)), rfl, rfl⟩ dX10_areThere_38
    · exact absurd c_30 (by decide)
  · have hb_6 := hv3_0.mp c_6
    refine lv_iload_n hx hb dX10_areThere_9 rfl (lv_at hl 3 rfl) ?_
    refine lv_iload hx hb dX10_areThere_10 (lv_at hl 4 rfl) ?_
    refine z_calli hP hD hS hA (va_runS (As := [.int (zI r8), .int (zI c8)]) (rest := [.ref (β 0)]) hC (c_X10_isPoint l D τ _ _ r8 c8 (by first | assumption | rfl | omega) (by first | assumption | rfl | omega) _) (va_cwS 2 hts (gS hB wl_X10_55 wt_X10_isPoint wi_X10 wc_X10_isPoint) rfl rfl rfl hd_X10_isPoint.2 ⟨Nat.le_of_ble_eq_true rfl, Nat.le_of_ble_eq_true rfl⟩) (zp_S hK hP hD hS hA hG) rfl rfl hl.1 rfl (lv_room (Nat.le_of_ble_eq_true rfl)) dX10_areThere_12 ⟨Nat.le_of_ble_eq_true rfl, Nat.le_of_ble_eq_true rfl⟩) (fun r w1 H locs hq9 hP hD hS => ?_)
    obtain ⟨v12_2, hv12_0, rfl, rfl⟩ := hq9
    refine z_ifeqB (tgt := 22) hx hb dX10_areThere_15 (by decide) (fun c_15 => ?_) (fun c_15 => ?_)
    · have hb_15 := zb_neg hv12_0 c_15
      refine lv_iconst (v := zI 1) hx hb dX10_areThere_22 rfl ?_
      refine va_put (D := D) (ci := 10) (v := .int (zI 1)) (ty := .int) (C := RX10) (T := TX10) (N := 17) hx hb hts (fun w h => List.mem_cons_of_mem _ (wx_X10 w h)) tyX10 tyX10_ok nmX10 hown hK hP hD hS 0 rfl rfl 7 (by decide) (hW0 _ wf_X10_44) (fun _ h9 => h9) rfl (by decide +kernel) rfl rfl (Nat.le_of_ble_eq_true rfl) dX10_areThere_23 (fun H locs hP hD hS => ?_)
      have hP : va_P D vwCl (wM β δ ms mb mo mp mf mn mi mc mq mr mw mk ml 1 ma mx mh) H := hP
      have hD : va_D A (wM β δ ms mb mo mp mf mn mi mc mq mr mw mk ml 1 ma mx mh) := hD
      refine lv_aload_n hx hb dX10_areThere_26 rfl (lv_at hl 0 rfl) ?_
      refine va_get (D := D) (ci := 10) (v := .int (zI 1)) (C := RX10) (T := TX10) (N := 17) hx hb hts (fun w h => List.mem_cons_of_mem _ (wx_X10 w h)) hown hK hP 0 rfl rfl 7 (by decide) (hW0 _ wf_X10_44) (fun _ h9 => h9) rfl dX10_areThere_27 ?_
      refine z_ifne (tgt := 37) hx hb ⟨by omega, by omega⟩ dX10_areThere_30 (by decide) (fun c_30 => ?_) (fun c_30 => ?_)
      · refine lv_iconst (v := zI 0) hx hb dX10_areThere_37 rfl ?_
        refine W.eq (g2 := F0 m 38 ls [.int (bI false)]) rfl ?_
        exact z_zret hC hr hlk hQ hP hD hS ⟨1, false, (by first | exact zb_T ⟨hb_6, hb_15⟩ | exact zb_F (fun h9 => hb_6 h9.1) | exact zb_F (fun h9 => hb_15 h9.2)), (by unfold S_tcut; first | (rw [if_pos ⟨hb_6, hb_15⟩]; done) | (rw [if_neg (fun h9 => hb_6 h9.1)]; done) | (rw [if_neg (fun h9 => hb_15 h9.2)]; done)), rfl, rfl⟩ dX10_areThere_38
      · exact absurd c_30 (by decide)
    · have hb_15 := hv12_0.mp c_15
      refine lv_iconst (v := zI 0) hx hb dX10_areThere_18 rfl ?_
      refine lv_goto (tgt := 23) hx hb dX10_areThere_19 (by decide) ?_
      refine va_put (D := D) (ci := 10) (v := .int (zI 0)) (ty := .int) (C := RX10) (T := TX10) (N := 17) hx hb hts (fun w h => List.mem_cons_of_mem _ (wx_X10 w h)) tyX10 tyX10_ok nmX10 hown hK hP hD hS 0 rfl rfl 7 (by decide) (hW0 _ wf_X10_44) (fun _ h9 => h9) rfl (by decide +kernel) rfl rfl (Nat.le_of_ble_eq_true rfl) dX10_areThere_23 (fun H locs hP hD hS => ?_)
      have hP : va_P D vwCl (wM β δ ms mb mo mp mf mn mi mc mq mr mw mk ml 0 ma mx mh) H := hP
      have hD : va_D A (wM β δ ms mb mo mp mf mn mi mc mq mr mw mk ml 0 ma mx mh) := hD
      refine lv_aload_n hx hb dX10_areThere_26 rfl (lv_at hl 0 rfl) ?_
      refine va_get (D := D) (ci := 10) (v := .int (zI 0)) (C := RX10) (T := TX10) (N := 17) hx hb hts (fun w h => List.mem_cons_of_mem _ (wx_X10 w h)) hown hK hP 0 rfl rfl 7 (by decide) (hW0 _ wf_X10_44) (fun _ h9 => h9) rfl dX10_areThere_27 ?_
      refine z_ifne (tgt := 37) hx hb ⟨by omega, by omega⟩ dX10_areThere_30 (by decide) (fun c_30 => ?_) (fun c_30 => ?_)
      · exact absurd c_30 (by decide)
      · refine lv_iconst (v := zI 1) hx hb dX10_areThere_33 rfl ?_
        refine lv_goto (tgt := 38) hx hb dX10_areThere_34 (by decide) ?_
        refine W.eq (g2 := F0 m 38 ls [.int (bI true)]) rfl ?_
        exact z_zret hC hr hlk hQ hP hD hS ⟨0, true, (by first | exact zb_T ⟨hb_6, hb_15⟩ | exact zb_F (fun h9 => hb_6 h9.1) | exact zb_F (fun h9 => hb_15 h9.2)), (by unfold S_tcut; first | (rw [if_pos ⟨hb_6, hb_15⟩]; done) | (rw [if_neg (fun h9 => hb_6 h9.1)]; done) | (rw [if_neg (fun h9 => hb_15 h9.2)]; done)), rfl, rfl⟩ dX10_areThere_38

abbrev wz_X10_cutLength : List Cond := .code yX10_cutLength cX10_cutLength 5 (some .int) :: W0
abbrev rm_X10_cutLength : Room := { frames := 3, cells := 0, slots := 0, locals := 67 }
theorem hd_X10_cutLength : yX10_cutLength.cls = RX10 ∧ yX10_cutLength.cls ≠ "java/lang/invoke/MethodHandle" ∧ yX10_cutLength.cls ≠ "java/lang/invoke/VarHandle" ∧ (parseMethodDescriptor yX10_cutLength.desc).map (fun d => d.parameters.length) = some 4 := by decide +kernel
set_option maxHeartbeats 4000000 in
set_option maxRecDepth 100000 in
theorem c_X10_cutLength (l : Launch) (D : va_G) (τ : Nat → Nat) (β : Nat → Nat) (δ : Nat → ClassId) (ms : IA) (mb : IA) (mo : IA) (mp : BA) (mf : IA) (mn : IA) (mi : IA) (mc : IA) (mq : BA) (mr : IA) (mw : IA) (mk : Int) (ml : Int) (mt : Int) (ma : Int) (mx : Bool) (mh : Int64) (r9 : Int) (c9 : Int) (r8 : Int) (c8 : Int) (hr9 : -2147483648 ≤ r9 ∧ r9 < 2147483648) (hc9 : -2147483648 ≤ c9 ∧ c9 < 2147483648) (hr8 : -2147483648 ≤ r8 ∧ r8 < 2147483648) (hc8 : -2147483648 ≤ c8 ∧ c8 < 2147483648) : cM l yX10_cutLength wz_X10_cutLength rm_X10_cutLength D τ (tyM δ) [.ref (β 0), .int (zI r9), .int (zI c9), .int (zI r8), .int (zI c8)] (wM β δ ms mb mo mp mf mn mi mc mq mr mw mk ml mt ma mx mh) (zQi (fun r w => ∃ (t2 : Int), ∃ (v : Int), (t2 = S_tcut r9 c9 r8 c8) ∧ (t2 = 0 → v = S_cutn (7 * r9 + c9) (7 * r8 + c8) + 1) ∧ r = zI v ∧ wM β δ ms mb mo mp mf mn mi mc mq mr mw mk ml t2 ma mx mh = w)) := by
  refine z_ofM (cc := cX10_cutLength) (maxL := 5) (ret := (some .int)) (by decide +kernel) rfl (Nat.le_of_ble_eq_true rfl) ?_
  intro pg e s m args below meth c hC hr hlk hnm hK hP A hD hG hA hS ls hl Q hQ
  have hx := hC.1
  have hb := hC.2.1
  have hml := hC.2.2.1
  have hown := hC.2.2.2.1
  have hts := hC.2.2.2.2
  have hB : ∀ w ∈ W0, w ∈ wz_X10_cutLength := fun _ h => List.mem_cons_of_mem _ h
  have hW0 : ∀ w ∈ W0, w.before args s = true := fun w h => hts w (hB w h)
  have hl : lv_has ls 5 [(0, .ref (β 0)), (1, .int (zI r9)), (2, .int (zI c9)), (3, .int (zI r8)), (4, .int (zI c8))] := hl
  refine lv_aload_n hx hb dX10_cutLength_0 rfl (lv_at hl 0 rfl) ?_
  refine lv_iload_n hx hb dX10_cutLength_1 rfl (lv_at hl 1 rfl) ?_
  refine lv_iload_n hx hb dX10_cutLength_2 rfl (lv_at hl 2 rfl) ?_
  refine lv_iload_n hx hb dX10_cutLength_3 rfl (lv_at hl 3 rfl) ?_
  refine lv_iload hx hb dX10_cutLength_4 (lv_at hl 4 rfl) ?_
  refine z_calli hP hD hS hA (va_runV (As := [.int (zI r9), .int (zI c9), .int (zI r8), .int (zI c8)]) (rest := []) hC (c_X10_areThere l D τ β δ ms mb mo mp mf mn mi mc mq mr mw mk ml mt ma mx mh r9 c9 r8 c8 (by first | assumption | rfl | omega) (by first | assumption | rfl | omega) (by first | assumption | rfl | omega) (by first | assumption | rfl | omega) _) (cwV 4 hts (gV hB wl_X10_226 wn_X10_areThere ws_X10_areThere wi_X10 wc_X10_areThere) rfl rfl rfl hd_X10_areThere ⟨Nat.le_of_ble_eq_true rfl, Nat.le_of_ble_eq_true rfl⟩) (zp_V hK hP hD hS hA hG (ci := 10) (q0 := 0) rfl rfl rfl) rfl rfl hl.1 rfl (lv_room (Nat.le_of_ble_eq_true rfl)) dX10_cutLength_6 ⟨Nat.le_of_ble_eq_true rfl, Nat.le_of_ble_eq_true rfl⟩) (fun r w1 H locs hq9 hP hD hS => ?_)
  obtain ⟨t6_1, v6_2, hv6_0, hv6_1, rfl, rfl⟩ := hq9
  have hP : va_P D vwCl (wM β δ ms mb mo mp mf mn mi mc mq mr mw mk ml t6_1 ma mx mh) H := hP
  have hD : va_D A (wM β δ ms mb mo mp mf mn mi mc mq mr mw mk ml t6_1 ma mx mh) := hD
  refine z_ifeqB (tgt := 33) hx hb dX10_cutLength_9 (by decide) (fun c_9 => ?_) (fun c_9 => ?_)
  · have hb_9 := zb_neg hv6_0 c_9
    refine lv_iconst (v := zI 0) hx hb dX10_cutLength_33 rfl ?_
    exact z_iret hC hr hlk hQ hP hD hS ⟨t6_1, 0, (by exact hv6_1), (by first | exact fun _ => by rw [hv25_0] | (intro h9; rw [hv6_1] at h9; unfold S_tcut at h9; rw [if_neg hb_9] at h9; exact absurd h9 (by decide))), rfl, rfl⟩ dX10_cutLength_34
  · have hb_9 := hv6_0.mp c_9
    refine lv_bipush (v := zI 7) hx hb dX10_cutLength_12 (zI_b8 (by decide)) ?_
    refine lv_iload_n hx hb dX10_cutLength_14 rfl (lv_at hl 1 rfl) ?_
    refine z_imul hx hb dX10_cutLength_15 ?_
    refine lv_iload_n hx hb dX10_cutLength_16 rfl (lv_at hl 2 rfl) ?_
    refine z_iadd hx hb dX10_cutLength_17 ?_
    refine lv_bipush (v := zI 7) hx hb dX10_cutLength_18 (zI_b8 (by decide)) ?_
    refine lv_iload_n hx hb dX10_cutLength_20 rfl (lv_at hl 3 rfl) ?_
    refine z_imul hx hb dX10_cutLength_21 ?_
    refine lv_iload hx hb dX10_cutLength_22 (lv_at hl 4 rfl) ?_
    refine z_iadd hx hb dX10_cutLength_24 ?_
    refine z_calli hP hD hS hA (va_runS (As := [.int (zI ((7 * r9) + c9)), .int (zI ((7 * r8) + c8))]) (rest := []) hC (c_X10_cutOf l D τ _ _ ((7 * r9) + c9) ((7 * r8) + c8) (by omega) (by omega) _) (va_cwS 2 hts (gS hB wl_X10_217 wt_X10_cutOf wi_X10 wc_X10_cutOf) rfl rfl rfl hd_X10_cutOf.2 ⟨Nat.le_of_ble_eq_true rfl, Nat.le_of_ble_eq_true rfl⟩) (zp_S hK hP hD hS hA hG) rfl rfl hl.1 rfl (lv_room (Nat.le_of_ble_eq_true rfl)) dX10_cutLength_25 ⟨Nat.le_of_ble_eq_true rfl, Nat.le_of_ble_eq_true rfl⟩) (fun r w1 H locs hq9 hP hD hS => ?_)
    obtain ⟨v25_3, hv25_0, hv25_1, rfl, rfl⟩ := hq9
    refine lv_iconst (v := zI 1) hx hb dX10_cutLength_28 rfl ?_
    refine z_iadd hx hb dX10_cutLength_29 ?_
    refine lv_goto (tgt := 34) hx hb dX10_cutLength_30 (by decide) ?_
    exact z_iret hC hr hlk hQ hP hD hS ⟨t6_1, v25_3 + 1, (by exact hv6_1), (by first | exact fun _ => by rw [hv25_0] | (intro h9; rw [hv6_1] at h9; unfold S_tcut at h9; rw [if_neg hb_9] at h9; exact absurd h9 (by decide))), rfl, rfl⟩ dX10_cutLength_34

abbrev wz_X10_cutHeight : List Cond := .code yX10_cutHeight cX10_cutHeight 8 (some .int) :: W0
abbrev rm_X10_cutHeight : Room := { frames := 3, cells := 0, slots := 0, locals := 68 }
theorem hd_X10_cutHeight : yX10_cutHeight.cls = RX10 ∧ yX10_cutHeight.cls ≠ "java/lang/invoke/MethodHandle" ∧ yX10_cutHeight.cls ≠ "java/lang/invoke/VarHandle" ∧ (parseMethodDescriptor yX10_cutHeight.desc).map (fun d => d.parameters.length) = some 5 := by decide +kernel
set_option maxHeartbeats 4000000 in
set_option maxRecDepth 100000 in
theorem c_X10_cutHeight (l : Launch) (D : va_G) (τ : Nat → Nat) (β : Nat → Nat) (δ : Nat → ClassId) (ms : IA) (mb : IA) (mo : IA) (mp : BA) (mf : IA) (mn : IA) (mi : IA) (mc : IA) (mq : BA) (mr : IA) (mw : IA) (mk : Int) (ml : Int) (mt : Int) (ma : Int) (mx : Bool) (mh : Int64) (r9 : Int) (c9 : Int) (r8 : Int) (c8 : Int) (i : Int) (hr9 : -2147483648 ≤ r9 ∧ r9 < 2147483648) (hc9 : -2147483648 ≤ c9 ∧ c9 < 2147483648) (hr8 : -2147483648 ≤ r8 ∧ r8 < 2147483648) (hc8 : -2147483648 ≤ c8 ∧ c8 < 2147483648) (hi9 : -2147483648 ≤ i ∧ i < 2147483648) (hms : ∀ k, 0 ≤ k → k < 49 → 0 ≤ ms k ∧ ms k ≤ 99) : cM l yX10_cutHeight wz_X10_cutHeight rm_X10_cutHeight D τ (tyM δ) [.ref (β 0), .int (zI r9), .int (zI c9), .int (zI r8), .int (zI c8), .int (zI i)] (wM β δ ms mb mo mp mf mn mi mc mq mr mw mk ml mt ma mx mh) (zQi (fun r w => ∃ (t2 : Int), ∃ (v : Int), (t2 = S_tch r9 c9 r8 c8 i) ∧ (t2 = 0 → v = ms (S_on (7 * r9 + c9) (7 * r8 + c8) i)) ∧ r = zI v ∧ wM β δ ms mb mo mp mf mn mi mc mq mr mw mk ml t2 ma mx mh = w)) := by
  refine z_ofM (cc := cX10_cutHeight) (maxL := 8) (ret := (some .int)) (by decide +kernel) rfl (Nat.le_of_ble_eq_true rfl) ?_
  intro pg e s m args below meth c hC hr hlk hnm hK hP A hD hG hA hS ls hl Q hQ
  have hx := hC.1
  have hb := hC.2.1
  have hml := hC.2.2.1
  have hown := hC.2.2.2.1
  have hts := hC.2.2.2.2
  have hB : ∀ w ∈ W0, w ∈ wz_X10_cutHeight := fun _ h => List.mem_cons_of_mem _ h
  have hW0 : ∀ w ∈ W0, w.before args s = true := fun w h => hts w (hB w h)
  have hl : lv_has ls 8 [(0, .ref (β 0)), (1, .int (zI r9)), (2, .int (zI c9)), (3, .int (zI r8)), (4, .int (zI c8)), (5, .int (zI i))] := hl
  refine lv_aload_n hx hb dX10_cutHeight_0 rfl (lv_at hl 0 rfl) ?_
  refine lv_iload_n hx hb dX10_cutHeight_1 rfl (lv_at hl 1 rfl) ?_
  refine lv_iload_n hx hb dX10_cutHeight_2 rfl (lv_at hl 2 rfl) ?_
  refine lv_iload_n hx hb dX10_cutHeight_3 rfl (lv_at hl 3 rfl) ?_
  refine lv_iload hx hb dX10_cutHeight_4 (lv_at hl 4 rfl) ?_
  refine z_calli hP hD hS hA (va_runV (As := [.int (zI r9), .int (zI c9), .int (zI r8), .int (zI c8)]) (rest := []) hC (c_X10_areThere l D τ β δ ms mb mo mp mf mn mi mc mq mr mw mk ml mt ma mx mh r9 c9 r8 c8 (by first | assumption | rfl | omega) (by first | assumption | rfl | omega) (by first | assumption | rfl | omega) (by first | assumption | rfl | omega) _) (cwV 4 hts (gV hB wl_X10_226 wn_X10_areThere ws_X10_areThere wi_X10 wc_X10_areThere) rfl rfl rfl hd_X10_areThere ⟨Nat.le_of_ble_eq_true rfl, Nat.le_of_ble_eq_true rfl⟩) (zp_V hK hP hD hS hA hG (ci := 10) (q0 := 0) rfl rfl rfl) rfl rfl hl.1 rfl (lv_room (Nat.le_of_ble_eq_true rfl)) dX10_cutHeight_6 ⟨Nat.le_of_ble_eq_true rfl, Nat.le_of_ble_eq_true rfl⟩) (fun r w1 H locs hq9 hP hD hS => ?_)
  obtain ⟨t6_1, v6_2, hv6_0, hv6_1, rfl, rfl⟩ := hq9
  have hP : va_P D vwCl (wM β δ ms mb mo mp mf mn mi mc mq mr mw mk ml t6_1 ma mx mh) H := hP
  have hD : va_D A (wM β δ ms mb mo mp mf mn mi mc mq mr mw mk ml t6_1 ma mx mh) := hD
  refine z_ifneB (tgt := 14) hx hb dX10_cutHeight_9 (by decide) (fun c_9 => ?_) (fun c_9 => ?_)
  · have hb_9 := hv6_0.mp c_9
    refine lv_bipush (v := zI 7) hx hb dX10_cutHeight_14 (zI_b8 (by decide)) ?_
    refine lv_iload_n hx hb dX10_cutHeight_16 rfl (lv_at hl 1 rfl) ?_
    refine z_imul hx hb dX10_cutHeight_17 ?_
    refine lv_iload_n hx hb dX10_cutHeight_18 rfl (lv_at hl 2 rfl) ?_
    refine z_iadd hx hb dX10_cutHeight_19 ?_
    refine lv_istore (lv' := [(6, .int (zI ((7 * r9) + c9))), (0, .ref (β 0)), (1, .int (zI r9)), (2, .int (zI c9)), (3, .int (zI r8)), (4, .int (zI c8)), (5, .int (zI i))]) hx hb dX10_cutHeight_20 hl (by decide) rfl (fun ls hl => ?_)
    refine lv_bipush (v := zI 7) hx hb dX10_cutHeight_22 (zI_b8 (by decide)) ?_
    refine lv_iload_n hx hb dX10_cutHeight_24 rfl (lv_at hl 4 rfl) ?_
    refine z_imul hx hb dX10_cutHeight_25 ?_
    refine lv_iload hx hb dX10_cutHeight_26 (lv_at hl 5 rfl) ?_
    refine z_iadd hx hb dX10_cutHeight_28 ?_
    refine lv_istore (lv' := [(7, .int (zI ((7 * r8) + c8))), (6, .int (zI ((7 * r9) + c9))), (0, .ref (β 0)), (1, .int (zI r9)), (2, .int (zI c9)), (3, .int (zI r8)), (4, .int (zI c8)), (5, .int (zI i))]) hx hb dX10_cutHeight_29 hl (by decide) rfl (fun ls hl => ?_)
    refine lv_iload hx hb dX10_cutHeight_31 (lv_at hl 7 rfl) ?_
    refine lv_iconst (v := zI 0) hx hb dX10_cutHeight_33 rfl ?_
    refine lv_iload hx hb dX10_cutHeight_34 (lv_at hl 1 rfl) ?_
    refine lv_iload hx hb dX10_cutHeight_36 (lv_at hl 0 rfl) ?_
    refine z_calli hP hD hS hA (va_runS (As := [.int (zI ((7 * r9) + c9)), .int (zI ((7 * r8) + c8))]) (rest := [.int (zI 0), .int (zI i)]) hC (c_X10_cutOf l D τ _ _ ((7 * r9) + c9) ((7 * r8) + c8) (by omega) (by omega) _) (va_cwS 2 hts (gS hB wl_X10_217 wt_X10_cutOf wi_X10 wc_X10_cutOf) rfl rfl rfl hd_X10_cutOf.2 ⟨Nat.le_of_ble_eq_true rfl, Nat.le_of_ble_eq_true rfl⟩) (zp_S hK hP hD hS hA hG) rfl rfl hl.1 rfl (lv_room (Nat.le_of_ble_eq_true rfl)) dX10_cutHeight_38 ⟨Nat.le_of_ble_eq_true rfl, Nat.le_of_ble_eq_true rfl⟩) (fun r w1 H locs hq9 hP hD hS => ?_)
    obtain ⟨v38_3, hv38_0, hv38_1, rfl, rfl⟩ := hq9
    refine z_calli hP hD hS hA (va_runS (As := [.int (zI i), .int (zI 0), .int (zI v38_3)]) (rest := []) hC (c_X10_in l D τ _ _ i 0 v38_3 (by first | assumption | rfl | omega) (by first | assumption | rfl | omega) (by first | assumption | rfl | omega) _) (va_cwS 3 hts (gS hB wl_X10_48 wt_X10_in wi_X10 wc_X10_in) rfl rfl rfl hd_X10_in.2 ⟨Nat.le_of_ble_eq_true rfl, Nat.le_of_ble_eq_true rfl⟩) (zp_S hK hP hD hS hA hG) rfl rfl hl.1 rfl (lv_room (Nat.le_of_ble_eq_true rfl)) dX10_cutHeight_41 ⟨Nat.le_of_ble_eq_true rfl, Nat.le_of_ble_eq_true rfl⟩) (fun r w1 H locs hq9 hP hD hS => ?_)
    obtain ⟨v41_4, hv41_0, rfl, rfl⟩ := hq9
    refine z_ifeqB (tgt := 64) hx hb dX10_cutHeight_44 (by decide) (fun c_44 => ?_) (fun c_44 => ?_)
    · have hb_44 := zb_neg hv41_0 c_44
      refine lv_aload_n hx hb dX10_cutHeight_64 rfl (lv_at hl 2 rfl) ?_
      refine lv_iconst (v := zI 1) hx hb dX10_cutHeight_65 rfl ?_
      refine z_calli hP hD hS hA (va_runV (As := [.int (zI 1)]) (rest := []) hC (c_X10_throwing l D τ β δ ms mb mo mp mf mn mi mc mq mr mw mk ml t6_1 ma mx mh 1 _) (cwV 1 hts (gV hB wl_X10_90 wn_X10_throwing ws_X10_throwing wi_X10 wc_X10_throwing) rfl rfl rfl hd_X10_throwing ⟨Nat.le_of_ble_eq_true rfl, Nat.le_of_ble_eq_true rfl⟩) (zp_V hK hP hD hS hA hG (ci := 10) (q0 := 0) rfl rfl rfl) rfl rfl hl.1 rfl (lv_room (Nat.le_of_ble_eq_true rfl)) dX10_cutHeight_66 ⟨Nat.le_of_ble_eq_true rfl, Nat.le_of_ble_eq_true rfl⟩) (fun r w1 H locs hq9 hP hD hS => ?_)
      obtain ⟨t66_5, v66_6, hv66_0, hv66_1, rfl, rfl⟩ := hq9
      have hP : va_P D vwCl (wM β δ ms mb mo mp mf mn mi mc mq mr mw mk ml t66_5 ma mx mh) H := hP
      have hD : va_D A (wM β δ ms mb mo mp mf mn mi mc mq mr mw mk ml t66_5 ma mx mh) := hD
      exact z_iret hC hr hlk hQ hP hD hS ⟨t66_5, v66_6, (by first | (rw [hv6_1]; unfold S_tcut S_tch; rw [if_neg hb_9, if_neg hb_9]; done) | (rw [hv66_1]; unfold S_tch; rw [if_pos hb_9, if_neg (by rw [← hv38_0]; exact hb_44)]; done) | (rw [hv6_1]; unfold S_tcut S_tch; rw [if_pos hb_9, if_pos hb_9, if_pos (by rw [← hv38_0]; exact hb_44)]; done)), (by first | exact fun _ => congrArg ms hv57_0 | (intro h9; exfalso; rw [hv6_1] at h9; unfold S_tcut at h9; rw [if_neg hb_9] at h9; exact absurd h9 (by decide)) | (intro h9; exfalso; omega)), rfl, rfl⟩ dX10_cutHeight_69
    · have hb_44 := hv41_0.mp c_44
      refine lv_aload_n hx hb dX10_cutHeight_47 rfl (lv_at hl 2 rfl) ?_
      refine va_get (D := D) (ci := 10) (v := .ref (β 1)) (C := RX10) (T := TX10) (N := 17) hx hb hts (fun w h => List.mem_cons_of_mem _ (wx_X10 w h)) hown hK hP 0 rfl rfl 0 (by decide) (hW0 _ wf_X10_7) (fun _ h9 => h9) rfl dX10_cutHeight_48 ?_
      refine lv_iload hx hb dX10_cutHeight_51 (lv_at hl 1 rfl) ?_
      refine lv_iload hx hb dX10_cutHeight_53 (lv_at hl 0 rfl) ?_
      refine lv_iload hx hb dX10_cutHeight_55 (lv_at hl 7 rfl) ?_
      refine z_calli hP hD hS hA (va_runS (As := [.int (zI ((7 * r9) + c9)), .int (zI ((7 * r8) + c8)), .int (zI i)]) (rest := [.ref (β 1)]) hC (c_X10_onCut l D τ _ _ ((7 * r9) + c9) ((7 * r8) + c8) i (by omega) (by omega) (by rw [← hv38_0]; exact hb_44) _) (va_cwS 3 hts (gS hB wl_X10_220 wt_X10_onCut wi_X10 wc_X10_onCut) rfl rfl rfl hd_X10_onCut.2 ⟨Nat.le_of_ble_eq_true rfl, Nat.le_of_ble_eq_true rfl⟩) (zp_S hK hP hD hS hA hG) rfl rfl hl.1 rfl (lv_room (Nat.le_of_ble_eq_true rfl)) dX10_cutHeight_57 ⟨Nat.le_of_ble_eq_true rfl, Nat.le_of_ble_eq_true rfl⟩) (fun r w1 H locs hq9 hP hD hS => ?_)
      obtain ⟨v57_7, hv57_0, hv57_1, rfl, rfl⟩ := hq9
      refine z_iald (f := ms) hx hb hK hP 1 0 rfl rfl ⟨⟨by omega, by omega⟩, by decide⟩ dX10_cutHeight_60 ?_
      refine lv_goto (tgt := 69) hx hb dX10_cutHeight_61 (by decide) ?_
      exact z_iret hC hr hlk hQ hP hD hS ⟨t6_1, ms v57_7, (by first | (rw [hv6_1]; unfold S_tcut S_tch; rw [if_neg hb_9, if_neg hb_9]; done) | (rw [hv66_1]; unfold S_tch; rw [if_pos hb_9, if_neg (by rw [← hv38_0]; exact hb_44)]; done) | (rw [hv6_1]; unfold S_tcut S_tch; rw [if_pos hb_9, if_pos hb_9, if_pos (by rw [← hv38_0]; exact hb_44)]; done)), (by first | exact fun _ => congrArg ms hv57_0 | (intro h9; exfalso; rw [hv6_1] at h9; unfold S_tcut at h9; rw [if_neg hb_9] at h9; exact absurd h9 (by decide)) | (intro h9; exfalso; omega)), rfl, rfl⟩ dX10_cutHeight_69
  · have hb_9 := zb_neg hv6_0 c_9
    refine lv_iconst (v := zI 0) hx hb dX10_cutHeight_12 rfl ?_
    exact z_iret hC hr hlk hQ hP hD hS ⟨t6_1, 0, (by first | (rw [hv6_1]; unfold S_tcut S_tch; rw [if_neg hb_9, if_neg hb_9]; done) | (rw [hv66_1]; unfold S_tch; rw [if_pos hb_9, if_neg (by rw [← hv38_0]; exact hb_44)]; done) | (rw [hv6_1]; unfold S_tcut S_tch; rw [if_pos hb_9, if_pos hb_9, if_pos (by rw [← hv38_0]; exact hb_44)]; done)), (by first | exact fun _ => congrArg ms hv57_0 | (intro h9; exfalso; rw [hv6_1] at h9; unfold S_tcut at h9; rw [if_neg hb_9] at h9; exact absurd h9 (by decide)) | (intro h9; exfalso; omega)), rfl, rfl⟩ dX10_cutHeight_13

abbrev wz_X10_climb : List Cond := .code yX10_climb cX10_climb 10 (some .int) :: W0
abbrev rm_X10_climb : Room := { frames := 3, cells := 0, slots := 0, locals := 68 }
theorem hd_X10_climb : yX10_climb.cls = RX10 ∧ yX10_climb.cls ≠ "java/lang/invoke/MethodHandle" ∧ yX10_climb.cls ≠ "java/lang/invoke/VarHandle" ∧ (parseMethodDescriptor yX10_climb.desc).map (fun d => d.parameters.length) = some 4 := by decide +kernel
set_option maxHeartbeats 4000000 in
set_option maxRecDepth 100000 in
theorem c_X10_climb (l : Launch) (D : va_G) (τ : Nat → Nat) (β : Nat → Nat) (δ : Nat → ClassId) (ms : IA) (mb : IA) (mo : IA) (mp : BA) (mf : IA) (mn : IA) (mi : IA) (mc : IA) (mq : BA) (mr : IA) (mw : IA) (mk : Int) (ml : Int) (mt : Int) (ma : Int) (mx : Bool) (mh : Int64) (r9 : Int) (c9 : Int) (r8 : Int) (c8 : Int) (hr9 : -2147483648 ≤ r9 ∧ r9 < 2147483648) (hc9 : -2147483648 ≤ c9 ∧ c9 < 2147483648) (hr8 : -2147483648 ≤ r8 ∧ r8 < 2147483648) (hc8 : -2147483648 ≤ c8 ∧ c8 < 2147483648) (hms : ∀ k, 0 ≤ k → k < 49 → 0 ≤ ms k ∧ ms k ≤ 99) : cM l yX10_climb wz_X10_climb rm_X10_climb D τ (tyM δ) [.ref (β 0), .int (zI r9), .int (zI c9), .int (zI r8), .int (zI c8)] (wM β δ ms mb mo mp mf mn mi mc mq mr mw mk ml mt ma mx mh) (zQi (fun r w => ∃ (t2 : Int), ∃ (v : Int), (t2 = S_tcut r9 c9 r8 c8) ∧ (t2 = 0 → v = S_rise ms (7 * r9 + c9) (7 * r8 + c8)) ∧ r = zI v ∧ wM β δ ms mb mo mp mf mn mi mc mq mr mw mk ml t2 ma mx mh = w)) := by
  refine z_ofM (cc := cX10_climb) (maxL := 10) (ret := (some .int)) (by decide +kernel) rfl (Nat.le_of_ble_eq_true rfl) ?_
  intro pg e s m args below meth c hC hr hlk hnm hK hP A hD hG hA hS ls hl Q hQ
  have hx := hC.1
  have hb := hC.2.1
  have hml := hC.2.2.1
  have hown := hC.2.2.2.1
  have hts := hC.2.2.2.2
  have hB : ∀ w ∈ W0, w ∈ wz_X10_climb := fun _ h => List.mem_cons_of_mem _ h
  have hW0 : ∀ w ∈ W0, w.before args s = true := fun w h => hts w (hB w h)
  have hl : lv_has ls 10 [(0, .ref (β 0)), (1, .int (zI r9)), (2, .int (zI c9)), (3, .int (zI r8)), (4, .int (zI c8))] := hl
  refine lv_aload_n hx hb dX10_climb_0 rfl (lv_at hl 0 rfl) ?_
  refine lv_iload_n hx hb dX10_climb_1 rfl (lv_at hl 1 rfl) ?_
  refine lv_iload_n hx hb dX10_climb_2 rfl (lv_at hl 2 rfl) ?_
  refine lv_iload_n hx hb dX10_climb_3 rfl (lv_at hl 3 rfl) ?_
  refine lv_iload hx hb dX10_climb_4 (lv_at hl 4 rfl) ?_
  refine z_calli hP hD hS hA (va_runV (As := [.int (zI r9), .int (zI c9), .int (zI r8), .int (zI c8)]) (rest := []) hC (c_X10_areThere l D τ β δ ms mb mo mp mf mn mi mc mq mr mw mk ml mt ma mx mh r9 c9 r8 c8 (by first | assumption | rfl | omega) (by first | assumption | rfl | omega) (by first | assumption | rfl | omega) (by first | assumption | rfl | omega) _) (cwV 4 hts (gV hB wl_X10_226 wn_X10_areThere ws_X10_areThere wi_X10 wc_X10_areThere) rfl rfl rfl hd_X10_areThere ⟨Nat.le_of_ble_eq_true rfl, Nat.le_of_ble_eq_true rfl⟩) (zp_V hK hP hD hS hA hG (ci := 10) (q0 := 0) rfl rfl rfl) rfl rfl hl.1 rfl (lv_room (Nat.le_of_ble_eq_true rfl)) dX10_climb_6 ⟨Nat.le_of_ble_eq_true rfl, Nat.le_of_ble_eq_true rfl⟩) (fun r w1 H locs hq9 hP hD hS => ?_)
  obtain ⟨t6_1, v6_2, hv6_0, hv6_1, rfl, rfl⟩ := hq9
  have hP : va_P D vwCl (wM β δ ms mb mo mp mf mn mi mc mq mr mw mk ml t6_1 ma mx mh) H := hP
  have hD : va_D A (wM β δ ms mb mo mp mf mn mi mc mq mr mw mk ml t6_1 ma mx mh) := hD
  refine z_ifneB (tgt := 14) hx hb dX10_climb_9 (by decide) (fun c_9 => ?_) (fun c_9 => ?_)
  · have hb_9 := hv6_0.mp c_9
    refine lv_bipush (v := zI 7) hx hb dX10_climb_14 (zI_b8 (by decide)) ?_
    refine lv_iload_n hx hb dX10_climb_16 rfl (lv_at hl 1 rfl) ?_
    refine z_imul hx hb dX10_climb_17 ?_
    refine lv_iload_n hx hb dX10_climb_18 rfl (lv_at hl 2 rfl) ?_
    refine z_iadd hx hb dX10_climb_19 ?_
    refine lv_istore (lv' := [(5, .int (zI ((7 * r9) + c9))), (0, .ref (β 0)), (1, .int (zI r9)), (2, .int (zI c9)), (3, .int (zI r8)), (4, .int (zI c8))]) hx hb dX10_climb_20 hl (by decide) rfl (fun ls hl => ?_)
    refine lv_bipush (v := zI 7) hx hb dX10_climb_22 (zI_b8 (by decide)) ?_
    refine lv_iload_n hx hb dX10_climb_24 rfl (lv_at hl 4 rfl) ?_
    refine z_imul hx hb dX10_climb_25 ?_
    refine lv_iload hx hb dX10_climb_26 (lv_at hl 5 rfl) ?_
    refine z_iadd hx hb dX10_climb_28 ?_
    refine lv_istore (lv' := [(6, .int (zI ((7 * r8) + c8))), (5, .int (zI ((7 * r9) + c9))), (0, .ref (β 0)), (1, .int (zI r9)), (2, .int (zI c9)), (3, .int (zI r8)), (4, .int (zI c8))]) hx hb dX10_climb_29 hl (by decide) rfl (fun ls hl => ?_)
    refine lv_iconst (v := zI 0) hx hb dX10_climb_31 rfl ?_
    refine lv_istore (lv' := [(7, .int (zI 0)), (6, .int (zI ((7 * r8) + c8))), (5, .int (zI ((7 * r9) + c9))), (0, .ref (β 0)), (1, .int (zI r9)), (2, .int (zI c9)), (3, .int (zI r8)), (4, .int (zI c8))]) hx hb dX10_climb_32 hl (by decide) rfl (fun ls hl => ?_)
    have hcb := S_cutn_b (a := (7 * r9 + c9)) (b := (7 * r8 + c8)) (by omega) (by omega)
    refine lv_iconst (v := zI 0) hx hb dX10_climb_34 rfl ?_
    refine lv_istore (lv' := [(8, .int (zI 0)), (7, .int (zI 0)), (6, .int (zI ((7 * r8) + c8))), (5, .int (zI ((7 * r9) + c9))), (0, .ref (β 0)), (1, .int (zI r9)), (2, .int (zI c9)), (3, .int (zI r8)), (4, .int (zI c8))]) hx hb dX10_climb_35 hl (by decide) rfl (fun ls hl => ?_)
    suffices HL_37 : ∀ (n_37 : Nat), ∀ (g : Int) (i : Int) (H : Heap) (locs : List Loc) (hP : va_P D vwCl (wM β δ ms mb mo mp mf mn mi mc mq mr mw mk ml t6_1 ma mx mh) H) (hD : va_D A (wM β δ ms mb mo mp mf mn mi mc mq mr mw mk ml t6_1 ma mx mh)) (hS : va_S A s.heap H locs) (ls : Array Slot) (hl : lv_has ls 10 [(7, .int (zI g)), (8, .int (zI i)), (6, .int (zI ((7 * r8) + c8))), (5, .int (zI ((7 * r9) + c9))), (0, .ref (β 0)), (1, .int (zI r9)), (2, .int (zI c9)), (3, .int (zI r8)), (4, .int (zI c8))]) (hi : 0 ≤ i ∧ i ≤ S_cutn (7 * r9 + c9) (7 * r8 + c8)) (hg : g = zS (fun i => zmax 0 (ms (S_on (7 * r9 + c9) (7 * r8 + c8) (i + 1)) - ms (S_on (7 * r9 + c9) (7 * r8 + c8) i))) i) (hgb : 0 ≤ g ∧ g ≤ 99 * i) (hm : (S_cutn (7 * r9 + c9) (7 * r8 + c8) - i).toNat < n_37), W pg l e rm_X10_climb s m args below meth c H locs 0 0 Q (F0 m 37 ls []) from HL_37 _ 0 0 _ _ hP hD hS _ (lv_sub hl [1, 0, 2, 3, 4, 5, 6, 7, 8] rfl) (by first | assumption | rfl | omega) (by exact (zS_0 _).symm) (by first | assumption | rfl | omega) (Nat.lt_succ_self _)
    intro n_37
    induction n_37 with
    | zero => intro g i H locs hP hD hS ls hl hi hg hgb hm; exact absurd hm (Nat.not_lt_zero _)
    | succ n_37 ih_37 =>
      intro g i H locs hP hD hS ls hl hi hg hgb hm
      refine lv_iload hx hb dX10_climb_37 (lv_at hl 1 rfl) ?_
      refine lv_iload hx hb dX10_climb_39 (lv_at hl 3 rfl) ?_
      refine lv_iload hx hb dX10_climb_41 (lv_at hl 2 rfl) ?_
      refine z_calli hP hD hS hA (va_runS (As := [.int (zI ((7 * r9) + c9)), .int (zI ((7 * r8) + c8))]) (rest := [.int (zI i)]) hC (c_X10_cutOf l D τ _ _ ((7 * r9) + c9) ((7 * r8) + c8) (by omega) (by omega) _) (va_cwS 2 hts (gS hB wl_X10_217 wt_X10_cutOf wi_X10 wc_X10_cutOf) rfl rfl rfl hd_X10_cutOf.2 ⟨Nat.le_of_ble_eq_true rfl, Nat.le_of_ble_eq_true rfl⟩) (zp_S hK hP hD hS hA hG) rfl rfl hl.1 rfl (lv_room (Nat.le_of_ble_eq_true rfl)) dX10_climb_43 ⟨Nat.le_of_ble_eq_true rfl, Nat.le_of_ble_eq_true rfl⟩) (fun r w1 H locs hq9 hP hD hS => ?_)
      obtain ⟨v43_3, hv43_0, hv43_1, rfl, rfl⟩ := hq9
      refine z_icge (tgt := 104) hx hb ⟨by omega, by omega⟩ ⟨by omega, by omega⟩ dX10_climb_46 (by decide) (fun c_46 => ?_) (fun c_46 => ?_)
      · refine lv_iload hx hb dX10_climb_104 (lv_at hl 0 rfl) ?_
        exact z_iret hC hr hlk hQ hP hD hS ⟨t6_1, g, (by exact hv6_1), (by first | exact fun _ => by rw [hg, show i = S_cutn _ _ by omega]; rfl | (intro h9; rw [hv6_1] at h9; unfold S_tcut at h9; rw [if_neg hb_9] at h9; exact absurd h9 (by decide))), rfl, rfl⟩ dX10_climb_106
      · refine lv_aload_n hx hb dX10_climb_49 rfl (lv_at hl 4 rfl) ?_
        refine va_get (D := D) (ci := 10) (v := .ref (β 1)) (C := RX10) (T := TX10) (N := 17) hx hb hts (fun w h => List.mem_cons_of_mem _ (wx_X10 w h)) hown hK hP 0 rfl rfl 0 (by decide) (hW0 _ wf_X10_7) (fun _ h9 => h9) rfl dX10_climb_50 ?_
        refine lv_iload hx hb dX10_climb_53 (lv_at hl 3 rfl) ?_
        refine lv_iload hx hb dX10_climb_55 (lv_at hl 2 rfl) ?_
        refine lv_iload hx hb dX10_climb_57 (lv_at hl 1 rfl) ?_
        refine lv_iconst (v := zI 1) hx hb dX10_climb_59 rfl ?_
        refine z_iadd hx hb dX10_climb_60 ?_
        refine z_calli hP hD hS hA (va_runS (As := [.int (zI ((7 * r9) + c9)), .int (zI ((7 * r8) + c8)), .int (zI (i + 1))]) (rest := [.ref (β 1)]) hC (c_X10_onCut l D τ _ _ ((7 * r9) + c9) ((7 * r8) + c8) (i + 1) (by omega) (by omega) (by omega) _) (va_cwS 3 hts (gS hB wl_X10_220 wt_X10_onCut wi_X10 wc_X10_onCut) rfl rfl rfl hd_X10_onCut.2 ⟨Nat.le_of_ble_eq_true rfl, Nat.le_of_ble_eq_true rfl⟩) (zp_S hK hP hD hS hA hG) rfl rfl hl.1 rfl (lv_room (Nat.le_of_ble_eq_true rfl)) dX10_climb_61 ⟨Nat.le_of_ble_eq_true rfl, Nat.le_of_ble_eq_true rfl⟩) (fun r w1 H locs hq9 hP hD hS => ?_)
        obtain ⟨v61_4, hv61_0, hv61_1, rfl, rfl⟩ := hq9
        refine z_iald (f := ms) hx hb hK hP 1 0 rfl rfl ⟨⟨by omega, by omega⟩, by decide⟩ dX10_climb_64 ?_
        have hb_64 := hms v61_4 (by omega) (by omega)
        refine lv_aload_n hx hb dX10_climb_65 rfl (lv_at hl 4 rfl) ?_
        refine va_get (D := D) (ci := 10) (v := .ref (β 1)) (C := RX10) (T := TX10) (N := 17) hx hb hts (fun w h => List.mem_cons_of_mem _ (wx_X10 w h)) hown hK hP 0 rfl rfl 0 (by decide) (hW0 _ wf_X10_7) (fun _ h9 => h9) rfl dX10_climb_66 ?_
        refine lv_iload hx hb dX10_climb_69 (lv_at hl 3 rfl) ?_
        refine lv_iload hx hb dX10_climb_71 (lv_at hl 2 rfl) ?_
        refine lv_iload hx hb dX10_climb_73 (lv_at hl 1 rfl) ?_
        refine z_calli hP hD hS hA (va_runS (As := [.int (zI ((7 * r9) + c9)), .int (zI ((7 * r8) + c8)), .int (zI i)]) (rest := [.ref (β 1), .int (zI (ms v61_4))]) hC (c_X10_onCut l D τ _ _ ((7 * r9) + c9) ((7 * r8) + c8) i (by omega) (by omega) (by omega) _) (va_cwS 3 hts (gS hB wl_X10_220 wt_X10_onCut wi_X10 wc_X10_onCut) rfl rfl rfl hd_X10_onCut.2 ⟨Nat.le_of_ble_eq_true rfl, Nat.le_of_ble_eq_true rfl⟩) (zp_S hK hP hD hS hA hG) rfl rfl hl.1 rfl (lv_room (Nat.le_of_ble_eq_true rfl)) dX10_climb_75 ⟨Nat.le_of_ble_eq_true rfl, Nat.le_of_ble_eq_true rfl⟩) (fun r w1 H locs hq9 hP hD hS => ?_)
        obtain ⟨v75_5, hv75_0, hv75_1, rfl, rfl⟩ := hq9
        refine z_iald (f := ms) hx hb hK hP 1 0 rfl rfl ⟨⟨by omega, by omega⟩, by decide⟩ dX10_climb_78 ?_
        have hb_78 := hms v75_5 (by omega) (by omega)
        refine z_isub hx hb dX10_climb_79 ?_
        refine lv_istore (lv' := [(9, .int (zI ((ms v61_4) - (ms v75_5)))), (7, .int (zI g)), (8, .int (zI i)), (6, .int (zI ((7 * r8) + c8))), (5, .int (zI ((7 * r9) + c9))), (0, .ref (β 0)), (1, .int (zI r9)), (2, .int (zI c9)), (3, .int (zI r8)), (4, .int (zI c8))]) hx hb dX10_climb_80 hl (by decide) rfl (fun ls hl => ?_)
        refine lv_iload hx hb dX10_climb_82 (lv_at hl 1 rfl) ?_
        refine lv_iload hx hb dX10_climb_84 (lv_at hl 0 rfl) ?_
        refine z_ifle (tgt := 94) hx hb ⟨by omega, by omega⟩ dX10_climb_86 (by decide) (fun c_86 => ?_) (fun c_86 => ?_)
        · refine lv_iconst (v := zI 0) hx hb dX10_climb_94 rfl ?_
          refine z_iadd hx hb dX10_climb_95 ?_
          refine lv_istore (lv' := [(7, .int (zI (g + 0))), (9, .int (zI ((ms v61_4) - (ms v75_5)))), (8, .int (zI i)), (6, .int (zI ((7 * r8) + c8))), (5, .int (zI ((7 * r9) + c9))), (0, .ref (β 0)), (1, .int (zI r9)), (2, .int (zI c9)), (3, .int (zI r8)), (4, .int (zI c8))]) hx hb dX10_climb_96 hl (by decide) rfl (fun ls hl => ?_)
          refine z_iinc (k := 2) (v := i + 1) (lv' := [(8, .int (zI (i + 1))), (7, .int (zI (g + 0))), (9, .int (zI ((ms v61_4) - (ms v75_5)))), (6, .int (zI ((7 * r8) + c8))), (5, .int (zI ((7 * r9) + c9))), (0, .ref (β 0)), (1, .int (zI r9)), (2, .int (zI c9)), (3, .int (zI r8)), (4, .int (zI c8))]) hx hb dX10_climb_98 hl rfl rfl (by decide) rfl (fun ls hl => ?_)
          refine lv_goto (tgt := 37) hx hb dX10_climb_101 (by decide) ?_
          exact ih_37 (g + 0) (i + 1) _ _ hP hD hS _ (lv_sub hl [1, 0, 3, 4, 5, 6, 7, 8, 9] rfl) (by first | assumption | rfl | omega) (by rw [zS_up hi.1, ← hg]; show _ = g + zmax 0 (ms (S_on _ _ (i + 1)) - ms (S_on _ _ i)); unfold zmax; rw [← hv61_0, ← hv75_0]; split <;> omega) (by first | assumption | rfl | omega) (by omega)
        · refine lv_iload hx hb dX10_climb_89 (lv_at hl 0 rfl) ?_
          refine lv_goto (tgt := 95) hx hb dX10_climb_91 (by decide) ?_
          refine z_iadd hx hb dX10_climb_95 ?_
          refine lv_istore (lv' := [(7, .int (zI (g + ((ms v61_4) - (ms v75_5))))), (9, .int (zI ((ms v61_4) - (ms v75_5)))), (8, .int (zI i)), (6, .int (zI ((7 * r8) + c8))), (5, .int (zI ((7 * r9) + c9))), (0, .ref (β 0)), (1, .int (zI r9)), (2, .int (zI c9)), (3, .int (zI r8)), (4, .int (zI c8))]) hx hb dX10_climb_96 hl (by decide) rfl (fun ls hl => ?_)
          refine z_iinc (k := 2) (v := i + 1) (lv' := [(8, .int (zI (i + 1))), (7, .int (zI (g + ((ms v61_4) - (ms v75_5))))), (9, .int (zI ((ms v61_4) - (ms v75_5)))), (6, .int (zI ((7 * r8) + c8))), (5, .int (zI ((7 * r9) + c9))), (0, .ref (β 0)), (1, .int (zI r9)), (2, .int (zI c9)), (3, .int (zI r8)), (4, .int (zI c8))]) hx hb dX10_climb_98 hl rfl rfl (by decide) rfl (fun ls hl => ?_)
          refine lv_goto (tgt := 37) hx hb dX10_climb_101 (by decide) ?_
          exact ih_37 (g + ((ms v61_4) - (ms v75_5))) (i + 1) _ _ hP hD hS _ (lv_sub hl [1, 0, 3, 4, 5, 6, 7, 8, 9] rfl) (by first | assumption | rfl | omega) (by rw [zS_up hi.1, ← hg]; show _ = g + zmax 0 (ms (S_on _ _ (i + 1)) - ms (S_on _ _ i)); unfold zmax; rw [← hv61_0, ← hv75_0]; split <;> omega) (by first | assumption | rfl | omega) (by omega)
  · have hb_9 := zb_neg hv6_0 c_9
    refine lv_iconst (v := zI 0) hx hb dX10_climb_12 rfl ?_
    exact z_iret hC hr hlk hQ hP hD hS ⟨t6_1, 0, (by exact hv6_1), (by first | exact fun _ => by rw [hg, show i = S_cutn _ _ by omega]; rfl | (intro h9; rw [hv6_1] at h9; unfold S_tcut at h9; rw [if_neg hb_9] at h9; exact absurd h9 (by decide))), rfl, rfl⟩ dX10_climb_13

abbrev wz_X10_pass : List Cond := .code yX10_pass cX10_pass 10 (some .int) :: W0
abbrev rm_X10_pass : Room := { frames := 3, cells := 0, slots := 0, locals := 68 }
theorem hd_X10_pass : yX10_pass.cls = RX10 ∧ yX10_pass.cls ≠ "java/lang/invoke/MethodHandle" ∧ yX10_pass.cls ≠ "java/lang/invoke/VarHandle" ∧ (parseMethodDescriptor yX10_pass.desc).map (fun d => d.parameters.length) = some 4 := by decide +kernel
set_option maxHeartbeats 4000000 in
set_option maxRecDepth 100000 in
theorem c_X10_pass (l : Launch) (D : va_G) (τ : Nat → Nat) (β : Nat → Nat) (δ : Nat → ClassId) (ms : IA) (mb : IA) (mo : IA) (mp : BA) (mf : IA) (mn : IA) (mi : IA) (mc : IA) (mq : BA) (mr : IA) (mw : IA) (mk : Int) (ml : Int) (mt : Int) (ma : Int) (mx : Bool) (mh : Int64) (r9 : Int) (c9 : Int) (r8 : Int) (c8 : Int) (hr9 : -2147483648 ≤ r9 ∧ r9 < 2147483648) (hc9 : -2147483648 ≤ c9 ∧ c9 < 2147483648) (hr8 : -2147483648 ≤ r8 ∧ r8 < 2147483648) (hc8 : -2147483648 ≤ c8 ∧ c8 < 2147483648) (hms : ∀ k, 0 ≤ k → k < 49 → 0 ≤ ms k ∧ ms k ≤ 99) : cM l yX10_pass wz_X10_pass rm_X10_pass D τ (tyM δ) [.ref (β 0), .int (zI r9), .int (zI c9), .int (zI r8), .int (zI c8)] (wM β δ ms mb mo mp mf mn mi mc mq mr mw mk ml mt ma mx mh) (zQi (fun r w => ∃ (t2 : Int), ∃ (v : Int), (t2 = S_tcut r9 c9 r8 c8) ∧ (t2 = 0 → v = S_pass ms (7 * r9 + c9) (7 * r8 + c8)) ∧ r = zI v ∧ wM β δ ms mb mo mp mf mn mi mc mq mr mw mk ml t2 ma mx mh = w)) := by
  refine z_ofM (cc := cX10_pass) (maxL := 10) (ret := (some .int)) (by decide +kernel) rfl (Nat.le_of_ble_eq_true rfl) ?_
  intro pg e s m args below meth c hC hr hlk hnm hK hP A hD hG hA hS ls hl Q hQ
  have hx := hC.1
  have hb := hC.2.1
  have hml := hC.2.2.1
  have hown := hC.2.2.2.1
  have hts := hC.2.2.2.2
  have hB : ∀ w ∈ W0, w ∈ wz_X10_pass := fun _ h => List.mem_cons_of_mem _ h
  have hW0 : ∀ w ∈ W0, w.before args s = true := fun w h => hts w (hB w h)
  have hl : lv_has ls 10 [(0, .ref (β 0)), (1, .int (zI r9)), (2, .int (zI c9)), (3, .int (zI r8)), (4, .int (zI c8))] := hl
  refine lv_aload_n hx hb dX10_pass_0 rfl (lv_at hl 0 rfl) ?_
  refine lv_iload_n hx hb dX10_pass_1 rfl (lv_at hl 1 rfl) ?_
  refine lv_iload_n hx hb dX10_pass_2 rfl (lv_at hl 2 rfl) ?_
  refine lv_iload_n hx hb dX10_pass_3 rfl (lv_at hl 3 rfl) ?_
  refine lv_iload hx hb dX10_pass_4 (lv_at hl 4 rfl) ?_
  refine z_calli hP hD hS hA (va_runV (As := [.int (zI r9), .int (zI c9), .int (zI r8), .int (zI c8)]) (rest := []) hC (c_X10_areThere l D τ β δ ms mb mo mp mf mn mi mc mq mr mw mk ml mt ma mx mh r9 c9 r8 c8 (by first | assumption | rfl | omega) (by first | assumption | rfl | omega) (by first | assumption | rfl | omega) (by first | assumption | rfl | omega) _) (cwV 4 hts (gV hB wl_X10_226 wn_X10_areThere ws_X10_areThere wi_X10 wc_X10_areThere) rfl rfl rfl hd_X10_areThere ⟨Nat.le_of_ble_eq_true rfl, Nat.le_of_ble_eq_true rfl⟩) (zp_V hK hP hD hS hA hG (ci := 10) (q0 := 0) rfl rfl rfl) rfl rfl hl.1 rfl (lv_room (Nat.le_of_ble_eq_true rfl)) dX10_pass_6 ⟨Nat.le_of_ble_eq_true rfl, Nat.le_of_ble_eq_true rfl⟩) (fun r w1 H locs hq9 hP hD hS => ?_)
  obtain ⟨t6_1, v6_2, hv6_0, hv6_1, rfl, rfl⟩ := hq9
  have hP : va_P D vwCl (wM β δ ms mb mo mp mf mn mi mc mq mr mw mk ml t6_1 ma mx mh) H := hP
  have hD : va_D A (wM β δ ms mb mo mp mf mn mi mc mq mr mw mk ml t6_1 ma mx mh) := hD
  refine z_ifneB (tgt := 14) hx hb dX10_pass_9 (by decide) (fun c_9 => ?_) (fun c_9 => ?_)
  · have hb_9 := hv6_0.mp c_9
    refine lv_bipush (v := zI 7) hx hb dX10_pass_14 (zI_b8 (by decide)) ?_
    refine lv_iload_n hx hb dX10_pass_16 rfl (lv_at hl 1 rfl) ?_
    refine z_imul hx hb dX10_pass_17 ?_
    refine lv_iload_n hx hb dX10_pass_18 rfl (lv_at hl 2 rfl) ?_
    refine z_iadd hx hb dX10_pass_19 ?_
    refine lv_istore (lv' := [(5, .int (zI ((7 * r9) + c9))), (0, .ref (β 0)), (1, .int (zI r9)), (2, .int (zI c9)), (3, .int (zI r8)), (4, .int (zI c8))]) hx hb dX10_pass_20 hl (by decide) rfl (fun ls hl => ?_)
    refine lv_bipush (v := zI 7) hx hb dX10_pass_22 (zI_b8 (by decide)) ?_
    refine lv_iload_n hx hb dX10_pass_24 rfl (lv_at hl 4 rfl) ?_
    refine z_imul hx hb dX10_pass_25 ?_
    refine lv_iload hx hb dX10_pass_26 (lv_at hl 5 rfl) ?_
    refine z_iadd hx hb dX10_pass_28 ?_
    refine lv_istore (lv' := [(6, .int (zI ((7 * r8) + c8))), (5, .int (zI ((7 * r9) + c9))), (0, .ref (β 0)), (1, .int (zI r9)), (2, .int (zI c9)), (3, .int (zI r8)), (4, .int (zI c8))]) hx hb dX10_pass_29 hl (by decide) rfl (fun ls hl => ?_)
    refine lv_iconst (v := zI 0) hx hb dX10_pass_31 rfl ?_
    refine lv_istore (lv' := [(7, .int (zI 0)), (6, .int (zI ((7 * r8) + c8))), (5, .int (zI ((7 * r9) + c9))), (0, .ref (β 0)), (1, .int (zI r9)), (2, .int (zI c9)), (3, .int (zI r8)), (4, .int (zI c8))]) hx hb dX10_pass_32 hl (by decide) rfl (fun ls hl => ?_)
    have hcb := S_cutn_b (a := (7 * r9 + c9)) (b := (7 * r8 + c8)) (by omega) (by omega)
    refine lv_iconst (v := zI 0) hx hb dX10_pass_34 rfl ?_
    refine lv_istore (lv' := [(8, .int (zI 0)), (7, .int (zI 0)), (6, .int (zI ((7 * r8) + c8))), (5, .int (zI ((7 * r9) + c9))), (0, .ref (β 0)), (1, .int (zI r9)), (2, .int (zI c9)), (3, .int (zI r8)), (4, .int (zI c8))]) hx hb dX10_pass_35 hl (by decide) rfl (fun ls hl => ?_)
    suffices HL_37 : ∀ (n_37 : Nat), ∀ (g : Int) (i : Int) (H : Heap) (locs : List Loc) (hP : va_P D vwCl (wM β δ ms mb mo mp mf mn mi mc mq mr mw mk ml t6_1 ma mx mh) H) (hD : va_D A (wM β δ ms mb mo mp mf mn mi mc mq mr mw mk ml t6_1 ma mx mh)) (hS : va_S A s.heap H locs) (ls : Array Slot) (hl : lv_has ls 10 [(7, .int (zI g)), (8, .int (zI i)), (6, .int (zI ((7 * r8) + c8))), (5, .int (zI ((7 * r9) + c9))), (0, .ref (β 0)), (1, .int (zI r9)), (2, .int (zI c9)), (3, .int (zI r8)), (4, .int (zI c8))]) (hi : 0 ≤ i ∧ i ≤ S_cutn (7 * r9 + c9) (7 * r8 + c8) + 1) (hg : g = S_top (fun i => ms (S_on (7 * r9 + c9) (7 * r8 + c8) i)) i) (hgb : 0 ≤ g ∧ g ≤ 99) (hm : (S_cutn (7 * r9 + c9) (7 * r8 + c8) + 1 - i).toNat < n_37), W pg l e rm_X10_pass s m args below meth c H locs 0 0 Q (F0 m 37 ls []) from HL_37 _ 0 0 _ _ hP hD hS _ (lv_sub hl [1, 0, 2, 3, 4, 5, 6, 7, 8] rfl) (by first | assumption | rfl | omega) (by exact (S_top_0 _).symm) (by first | assumption | rfl | omega) (Nat.lt_succ_self _)
    intro n_37
    induction n_37 with
    | zero => intro g i H locs hP hD hS ls hl hi hg hgb hm; exact absurd hm (Nat.not_lt_zero _)
    | succ n_37 ih_37 =>
      intro g i H locs hP hD hS ls hl hi hg hgb hm
      refine lv_iload hx hb dX10_pass_37 (lv_at hl 1 rfl) ?_
      refine lv_iload hx hb dX10_pass_39 (lv_at hl 3 rfl) ?_
      refine lv_iload hx hb dX10_pass_41 (lv_at hl 2 rfl) ?_
      refine z_calli hP hD hS hA (va_runS (As := [.int (zI ((7 * r9) + c9)), .int (zI ((7 * r8) + c8))]) (rest := [.int (zI i)]) hC (c_X10_cutOf l D τ _ _ ((7 * r9) + c9) ((7 * r8) + c8) (by omega) (by omega) _) (va_cwS 2 hts (gS hB wl_X10_217 wt_X10_cutOf wi_X10 wc_X10_cutOf) rfl rfl rfl hd_X10_cutOf.2 ⟨Nat.le_of_ble_eq_true rfl, Nat.le_of_ble_eq_true rfl⟩) (zp_S hK hP hD hS hA hG) rfl rfl hl.1 rfl (lv_room (Nat.le_of_ble_eq_true rfl)) dX10_pass_43 ⟨Nat.le_of_ble_eq_true rfl, Nat.le_of_ble_eq_true rfl⟩) (fun r w1 H locs hq9 hP hD hS => ?_)
      obtain ⟨v43_3, hv43_0, hv43_1, rfl, rfl⟩ := hq9
      refine z_icgt (tgt := 87) hx hb ⟨by omega, by omega⟩ ⟨by omega, by omega⟩ dX10_pass_46 (by decide) (fun c_46 => ?_) (fun c_46 => ?_)
      · refine lv_iload hx hb dX10_pass_87 (lv_at hl 0 rfl) ?_
        exact z_iret hC hr hlk hQ hP hD hS ⟨t6_1, g, (by exact hv6_1), (by first | exact fun _ => by rw [hg, show i = S_cutn _ _ + 1 by omega]; rfl | (intro h9; rw [hv6_1] at h9; unfold S_tcut at h9; rw [if_neg hb_9] at h9; exact absurd h9 (by decide))), rfl, rfl⟩ dX10_pass_89
      · refine lv_aload_n hx hb dX10_pass_49 rfl (lv_at hl 4 rfl) ?_
        refine va_get (D := D) (ci := 10) (v := .ref (β 1)) (C := RX10) (T := TX10) (N := 17) hx hb hts (fun w h => List.mem_cons_of_mem _ (wx_X10 w h)) hown hK hP 0 rfl rfl 0 (by decide) (hW0 _ wf_X10_7) (fun _ h9 => h9) rfl dX10_pass_50 ?_
        refine lv_iload hx hb dX10_pass_53 (lv_at hl 3 rfl) ?_
        refine lv_iload hx hb dX10_pass_55 (lv_at hl 2 rfl) ?_
        refine lv_iload hx hb dX10_pass_57 (lv_at hl 1 rfl) ?_
        refine z_calli hP hD hS hA (va_runS (As := [.int (zI ((7 * r9) + c9)), .int (zI ((7 * r8) + c8)), .int (zI i)]) (rest := [.ref (β 1)]) hC (c_X10_onCut l D τ _ _ ((7 * r9) + c9) ((7 * r8) + c8) i (by omega) (by omega) (by omega) _) (va_cwS 3 hts (gS hB wl_X10_220 wt_X10_onCut wi_X10 wc_X10_onCut) rfl rfl rfl hd_X10_onCut.2 ⟨Nat.le_of_ble_eq_true rfl, Nat.le_of_ble_eq_true rfl⟩) (zp_S hK hP hD hS hA hG) rfl rfl hl.1 rfl (lv_room (Nat.le_of_ble_eq_true rfl)) dX10_pass_59 ⟨Nat.le_of_ble_eq_true rfl, Nat.le_of_ble_eq_true rfl⟩) (fun r w1 H locs hq9 hP hD hS => ?_)
        obtain ⟨v59_4, hv59_0, hv59_1, rfl, rfl⟩ := hq9
        refine z_iald (f := ms) hx hb hK hP 1 0 rfl rfl ⟨⟨by omega, by omega⟩, by decide⟩ dX10_pass_62 ?_
        have hb_62 := hms v59_4 (by omega) (by omega)
        refine lv_istore (lv' := [(9, .int (zI (ms v59_4))), (7, .int (zI g)), (8, .int (zI i)), (6, .int (zI ((7 * r8) + c8))), (5, .int (zI ((7 * r9) + c9))), (0, .ref (β 0)), (1, .int (zI r9)), (2, .int (zI c9)), (3, .int (zI r8)), (4, .int (zI c8))]) hx hb dX10_pass_63 hl (by decide) rfl (fun ls hl => ?_)
        refine lv_iload hx hb dX10_pass_65 (lv_at hl 0 rfl) ?_
        refine lv_iload hx hb dX10_pass_67 (lv_at hl 1 rfl) ?_
        refine z_icle (tgt := 77) hx hb ⟨by omega, by omega⟩ ⟨by omega, by omega⟩ dX10_pass_69 (by decide) (fun c_69 => ?_) (fun c_69 => ?_)
        · refine lv_iload hx hb dX10_pass_77 (lv_at hl 1 rfl) ?_
          refine lv_istore (lv' := [(7, .int (zI g)), (9, .int (zI (ms v59_4))), (8, .int (zI i)), (6, .int (zI ((7 * r8) + c8))), (5, .int (zI ((7 * r9) + c9))), (0, .ref (β 0)), (1, .int (zI r9)), (2, .int (zI c9)), (3, .int (zI r8)), (4, .int (zI c8))]) hx hb dX10_pass_79 hl (by decide) rfl (fun ls hl => ?_)
          refine z_iinc (k := 2) (v := i + 1) (lv' := [(8, .int (zI (i + 1))), (7, .int (zI g)), (9, .int (zI (ms v59_4))), (6, .int (zI ((7 * r8) + c8))), (5, .int (zI ((7 * r9) + c9))), (0, .ref (β 0)), (1, .int (zI r9)), (2, .int (zI c9)), (3, .int (zI r8)), (4, .int (zI c8))]) hx hb dX10_pass_81 hl rfl rfl (by decide) rfl (fun ls hl => ?_)
          refine lv_goto (tgt := 37) hx hb dX10_pass_84 (by decide) ?_
          exact ih_37 g (i + 1) _ _ hP hD hS _ (lv_sub hl [1, 0, 3, 4, 5, 6, 7, 8, 9] rfl) (by first | assumption | rfl | omega) (by rw [S_top_up hi.1, ← hg]; show _ = zmax g (ms (S_on _ _ i)); unfold zmax; rw [← hv59_0]; split <;> omega) (by first | assumption | rfl | omega) (by omega)
        · refine lv_iload hx hb dX10_pass_72 (lv_at hl 0 rfl) ?_
          refine lv_goto (tgt := 79) hx hb dX10_pass_74 (by decide) ?_
          refine lv_istore (lv' := [(7, .int (zI (ms v59_4))), (9, .int (zI (ms v59_4))), (8, .int (zI i)), (6, .int (zI ((7 * r8) + c8))), (5, .int (zI ((7 * r9) + c9))), (0, .ref (β 0)), (1, .int (zI r9)), (2, .int (zI c9)), (3, .int (zI r8)), (4, .int (zI c8))]) hx hb dX10_pass_79 hl (by decide) rfl (fun ls hl => ?_)
          refine z_iinc (k := 2) (v := i + 1) (lv' := [(8, .int (zI (i + 1))), (7, .int (zI (ms v59_4))), (9, .int (zI (ms v59_4))), (6, .int (zI ((7 * r8) + c8))), (5, .int (zI ((7 * r9) + c9))), (0, .ref (β 0)), (1, .int (zI r9)), (2, .int (zI c9)), (3, .int (zI r8)), (4, .int (zI c8))]) hx hb dX10_pass_81 hl rfl rfl (by decide) rfl (fun ls hl => ?_)
          refine lv_goto (tgt := 37) hx hb dX10_pass_84 (by decide) ?_
          exact ih_37 (ms v59_4) (i + 1) _ _ hP hD hS _ (lv_sub hl [1, 0, 3, 4, 5, 6, 7, 8, 9] rfl) (by first | assumption | rfl | omega) (by rw [S_top_up hi.1, ← hg]; show _ = zmax g (ms (S_on _ _ i)); unfold zmax; rw [← hv59_0]; split <;> omega) (by first | assumption | rfl | omega) (by omega)
  · have hb_9 := zb_neg hv6_0 c_9
    refine lv_iconst (v := zI 0) hx hb dX10_pass_12 rfl ?_
    exact z_iret hC hr hlk hQ hP hD hS ⟨t6_1, 0, (by exact hv6_1), (by first | exact fun _ => by rw [hg, show i = S_cutn _ _ + 1 by omega]; rfl | (intro h9; rw [hv6_1] at h9; unfold S_tcut at h9; rw [if_neg hb_9] at h9; exact absurd h9 (by decide))), rfl, rfl⟩ dX10_pass_13

abbrev wz_X10_sees : List Cond := .code yX10_sees cX10_sees 5 (some .boolean) :: W0
abbrev rm_X10_sees : Room := { frames := 4, cells := 0, slots := 0, locals := 93 }
theorem hd_X10_sees : yX10_sees.cls = RX10 ∧ yX10_sees.cls ≠ "java/lang/invoke/MethodHandle" ∧ yX10_sees.cls ≠ "java/lang/invoke/VarHandle" ∧ (parseMethodDescriptor yX10_sees.desc).map (fun d => d.parameters.length) = some 4 := by decide +kernel
set_option maxHeartbeats 4000000 in
set_option maxRecDepth 100000 in
theorem c_X10_sees (l : Launch) (D : va_G) (τ : Nat → Nat) (β : Nat → Nat) (δ : Nat → ClassId) (ms : IA) (mb : IA) (mo : IA) (mp : BA) (mf : IA) (mn : IA) (mi : IA) (mc : IA) (mq : BA) (mr : IA) (mw : IA) (mk : Int) (ml : Int) (mt : Int) (ma : Int) (mx : Bool) (mh : Int64) (r9 : Int) (c9 : Int) (r8 : Int) (c8 : Int) (hr9 : -2147483648 ≤ r9 ∧ r9 < 2147483648) (hc9 : -2147483648 ≤ c9 ∧ c9 < 2147483648) (hr8 : -2147483648 ≤ r8 ∧ r8 < 2147483648) (hc8 : -2147483648 ≤ c8 ∧ c8 < 2147483648) (hms : ∀ k, 0 ≤ k → k < 49 → 0 ≤ ms k ∧ ms k ≤ 99) : cM l yX10_sees wz_X10_sees rm_X10_sees D τ (tyM δ) [.ref (β 0), .int (zI r9), .int (zI c9), .int (zI r8), .int (zI c8)] (wM β δ ms mb mo mp mf mn mi mc mq mr mw mk ml mt ma mx mh) (zQi (fun r w => ∃ (t2 : Int), ∃ (v : Bool), (t2 = S_tcut r9 c9 r8 c8) ∧ (t2 = 0 → (v = true ↔ S_clear ms (7 * r9 + c9) (7 * r8 + c8))) ∧ r = bI v ∧ wM β δ ms mb mo mp mf mn mi mc mq mr mw mk ml t2 ma mx mh = w)) := by
  refine z_ofM (cc := cX10_sees) (maxL := 5) (ret := (some .boolean)) (by decide +kernel) rfl (Nat.le_of_ble_eq_true rfl) ?_
  intro pg e s m args below meth c hC hr hlk hnm hK hP A hD hG hA hS ls hl Q hQ
  have hx := hC.1
  have hb := hC.2.1
  have hml := hC.2.2.1
  have hown := hC.2.2.2.1
  have hts := hC.2.2.2.2
  have hB : ∀ w ∈ W0, w ∈ wz_X10_sees := fun _ h => List.mem_cons_of_mem _ h
  have hW0 : ∀ w ∈ W0, w.before args s = true := fun w h => hts w (hB w h)
  have hl : lv_has ls 5 [(0, .ref (β 0)), (1, .int (zI r9)), (2, .int (zI c9)), (3, .int (zI r8)), (4, .int (zI c8))] := hl
  refine lv_aload_n hx hb dX10_sees_0 rfl (lv_at hl 0 rfl) ?_
  refine lv_iload_n hx hb dX10_sees_1 rfl (lv_at hl 1 rfl) ?_
  refine lv_iload_n hx hb dX10_sees_2 rfl (lv_at hl 2 rfl) ?_
  refine lv_iload_n hx hb dX10_sees_3 rfl (lv_at hl 3 rfl) ?_
  refine lv_iload hx hb dX10_sees_4 (lv_at hl 4 rfl) ?_
  refine z_calli hP hD hS hA (va_runV (As := [.int (zI r9), .int (zI c9), .int (zI r8), .int (zI c8)]) (rest := []) hC (c_X10_areThere l D τ β δ ms mb mo mp mf mn mi mc mq mr mw mk ml mt ma mx mh r9 c9 r8 c8 (by first | assumption | rfl | omega) (by first | assumption | rfl | omega) (by first | assumption | rfl | omega) (by first | assumption | rfl | omega) _) (cwV 4 hts (gV hB wl_X10_226 wn_X10_areThere ws_X10_areThere wi_X10 wc_X10_areThere) rfl rfl rfl hd_X10_areThere ⟨Nat.le_of_ble_eq_true rfl, Nat.le_of_ble_eq_true rfl⟩) (zp_V hK hP hD hS hA hG (ci := 10) (q0 := 0) rfl rfl rfl) rfl rfl hl.1 rfl (lv_room (Nat.le_of_ble_eq_true rfl)) dX10_sees_6 ⟨Nat.le_of_ble_eq_true rfl, Nat.le_of_ble_eq_true rfl⟩) (fun r w1 H locs hq9 hP hD hS => ?_)
  obtain ⟨t6_1, v6_2, hv6_0, hv6_1, rfl, rfl⟩ := hq9
  have hP : va_P D vwCl (wM β δ ms mb mo mp mf mn mi mc mq mr mw mk ml t6_1 ma mx mh) H := hP
  have hD : va_D A (wM β δ ms mb mo mp mf mn mi mc mq mr mw mk ml t6_1 ma mx mh) := hD
  refine z_ifeqB (tgt := 36) hx hb dX10_sees_9 (by decide) (fun c_9 => ?_) (fun c_9 => ?_)
  · have hb_9 := zb_neg hv6_0 c_9
    refine lv_iconst (v := zI 0) hx hb dX10_sees_36 rfl ?_
    refine W.eq (g2 := F0 m 37 ls [.int (bI false)]) rfl ?_
    exact z_zret hC hr hlk hQ hP hD hS ⟨t6_1, false, (by exact hv6_1), (by first | exact fun _ => zb_T hb_29 | exact fun _ => zb_F hb_29 | (intro h9; exfalso; rw [hv6_1] at h9; unfold S_tcut at h9; rw [if_neg hb_9] at h9; exact absurd h9 (by decide))), rfl, rfl⟩ dX10_sees_37
  · have hb_9 := hv6_0.mp c_9
    refine lv_aload_n hx hb dX10_sees_12 rfl (lv_at hl 0 rfl) ?_
    refine lv_bipush (v := zI 7) hx hb dX10_sees_13 (zI_b8 (by decide)) ?_
    refine lv_iload_n hx hb dX10_sees_15 rfl (lv_at hl 1 rfl) ?_
    refine z_imul hx hb dX10_sees_16 ?_
    refine lv_iload_n hx hb dX10_sees_17 rfl (lv_at hl 2 rfl) ?_
    refine z_iadd hx hb dX10_sees_18 ?_
    refine lv_bipush (v := zI 7) hx hb dX10_sees_19 (zI_b8 (by decide)) ?_
    refine lv_iload_n hx hb dX10_sees_21 rfl (lv_at hl 3 rfl) ?_
    refine z_imul hx hb dX10_sees_22 ?_
    refine lv_iload hx hb dX10_sees_23 (lv_at hl 4 rfl) ?_
    refine z_iadd hx hb dX10_sees_25 ?_
    refine z_calli hP hD hS hA (va_runV (As := [.int (zI ((7 * r9) + c9)), .int (zI ((7 * r8) + c8))]) (rest := []) hC (c_X10_isSeen l D τ β δ ms mb mo mp mf mn mi mc mq mr mw mk ml t6_1 ma mx mh ((7 * r9) + c9) ((7 * r8) + c8) (by omega) (by omega) (by first | assumption | rfl | omega) _) (cwV 2 hts (gV hB wl_X10_223 wn_X10_isSeen ws_X10_isSeen wi_X10 wc_X10_isSeen) rfl rfl rfl hd_X10_isSeen ⟨Nat.le_of_ble_eq_true rfl, Nat.le_of_ble_eq_true rfl⟩) (zp_V hK hP hD hS hA hG (ci := 10) (q0 := 0) rfl rfl rfl) rfl rfl hl.1 rfl (lv_room (Nat.le_of_ble_eq_true rfl)) dX10_sees_26 ⟨Nat.le_of_ble_eq_true rfl, Nat.le_of_ble_eq_true rfl⟩) (fun r w1 H locs hq9 hP hD hS => ?_)
    obtain ⟨v26_3, hv26_0, rfl, rfl⟩ := hq9
    have hP : va_P D vwCl (wM β δ ms mb mo mp mf mn mi mc mq mr mw mk ml t6_1 ma mx mh) H := hP
    have hD : va_D A (wM β δ ms mb mo mp mf mn mi mc mq mr mw mk ml t6_1 ma mx mh) := hD
    refine z_ifeqB (tgt := 36) hx hb dX10_sees_29 (by decide) (fun c_29 => ?_) (fun c_29 => ?_)
    · have hb_29 := zb_neg hv26_0 c_29
      refine lv_iconst (v := zI 0) hx hb dX10_sees_36 rfl ?_
      refine W.eq (g2 := F0 m 37 ls [.int (bI false)]) rfl ?_
      exact z_zret hC hr hlk hQ hP hD hS ⟨t6_1, false, (by exact hv6_1), (by first | exact fun _ => zb_T hb_29 | exact fun _ => zb_F hb_29 | (intro h9; exfalso; rw [hv6_1] at h9; unfold S_tcut at h9; rw [if_neg hb_9] at h9; exact absurd h9 (by decide))), rfl, rfl⟩ dX10_sees_37
    · have hb_29 := hv26_0.mp c_29
      refine lv_iconst (v := zI 1) hx hb dX10_sees_32 rfl ?_
      refine lv_goto (tgt := 37) hx hb dX10_sees_33 (by decide) ?_
      refine W.eq (g2 := F0 m 37 ls [.int (bI true)]) rfl ?_
      exact z_zret hC hr hlk hQ hP hD hS ⟨t6_1, true, (by exact hv6_1), (by first | exact fun _ => zb_T hb_29 | exact fun _ => zb_F hb_29 | (intro h9; exfalso; rw [hv6_1] at h9; unfold S_tcut at h9; rw [if_neg hb_9] at h9; exact absurd h9 (by decide))), rfl, rfl⟩ dX10_sees_37

abbrev wz_X10_seenFrom : List Cond := .code yX10_seenFrom cX10_seenFrom 3 (some .int) :: W0
abbrev rm_X10_seenFrom : Room := { frames := 5, cells := 0, slots := 0, locals := 116 }
theorem hd_X10_seenFrom : yX10_seenFrom.cls = RX10 ∧ yX10_seenFrom.cls ≠ "java/lang/invoke/MethodHandle" ∧ yX10_seenFrom.cls ≠ "java/lang/invoke/VarHandle" ∧ (parseMethodDescriptor yX10_seenFrom.desc).map (fun d => d.parameters.length) = some 2 := by decide +kernel
set_option maxHeartbeats 4000000 in
set_option maxRecDepth 100000 in
theorem c_X10_seenFrom (l : Launch) (D : va_G) (τ : Nat → Nat) (β : Nat → Nat) (δ : Nat → ClassId) (ms : IA) (mb : IA) (mo : IA) (mp : BA) (mf : IA) (mn : IA) (mi : IA) (mc : IA) (mq : BA) (mr : IA) (mw : IA) (mk : Int) (ml : Int) (mt : Int) (ma : Int) (mx : Bool) (mh : Int64) (r9 : Int) (c9 : Int) (hr9 : -2147483648 ≤ r9 ∧ r9 < 2147483648) (hc9 : -2147483648 ≤ c9 ∧ c9 < 2147483648) (hms : ∀ k, 0 ≤ k → k < 49 → 0 ≤ ms k ∧ ms k ≤ 99) : cM l yX10_seenFrom wz_X10_seenFrom rm_X10_seenFrom D τ (tyM δ) [.ref (β 0), .int (zI r9), .int (zI c9)] (wM β δ ms mb mo mp mf mn mi mc mq mr mw mk ml mt ma mx mh) (zQi (fun r w => ∃ (t2 : Int), ∃ (v : Int), (t2 = S_tpt r9 c9) ∧ (t2 = 0 → v = S_seen ms (7 * r9 + c9)) ∧ r = zI v ∧ wM β δ ms mb mo mp mf mn mi mc mq mr mw mk ml t2 ma mx mh = w)) := by
  refine z_ofM (cc := cX10_seenFrom) (maxL := 3) (ret := (some .int)) (by decide +kernel) rfl (Nat.le_of_ble_eq_true rfl) ?_
  intro pg e s m args below meth c hC hr hlk hnm hK hP A hD hG hA hS ls hl Q hQ
  have hx := hC.1
  have hb := hC.2.1
  have hml := hC.2.2.1
  have hown := hC.2.2.2.1
  have hts := hC.2.2.2.2
  have hB : ∀ w ∈ W0, w ∈ wz_X10_seenFrom := fun _ h => List.mem_cons_of_mem _ h
  have hW0 : ∀ w ∈ W0, w.before args s = true := fun w h => hts w (hB w h)
  have hl : lv_has ls 3 [(0, .ref (β 0)), (1, .int (zI r9)), (2, .int (zI c9))] := hl
  refine lv_aload_n hx hb dX10_seenFrom_0 rfl (lv_at hl 0 rfl) ?_
  refine lv_iload_n hx hb dX10_seenFrom_1 rfl (lv_at hl 1 rfl) ?_
  refine lv_iload_n hx hb dX10_seenFrom_2 rfl (lv_at hl 2 rfl) ?_
  refine z_calli hP hD hS hA (va_runV (As := [.int (zI r9), .int (zI c9)]) (rest := []) hC (c_X10_isThere l D τ β δ ms mb mo mp mf mn mi mc mq mr mw mk ml mt ma mx mh r9 c9 (by first | assumption | rfl | omega) (by first | assumption | rfl | omega) _) (cwV 2 hts (gV hB wl_X10_120 wn_X10_isThere ws_X10_isThere wi_X10 wc_X10_isThere) rfl rfl rfl hd_X10_isThere ⟨Nat.le_of_ble_eq_true rfl, Nat.le_of_ble_eq_true rfl⟩) (zp_V hK hP hD hS hA hG (ci := 10) (q0 := 0) rfl rfl rfl) rfl rfl hl.1 rfl (lv_room (Nat.le_of_ble_eq_true rfl)) dX10_seenFrom_3 ⟨Nat.le_of_ble_eq_true rfl, Nat.le_of_ble_eq_true rfl⟩) (fun r w1 H locs hq9 hP hD hS => ?_)
  obtain ⟨t3_1, v3_2, hv3_0, hv3_1, rfl, rfl⟩ := hq9
  have hP : va_P D vwCl (wM β δ ms mb mo mp mf mn mi mc mq mr mw mk ml t3_1 ma mx mh) H := hP
  have hD : va_D A (wM β δ ms mb mo mp mf mn mi mc mq mr mw mk ml t3_1 ma mx mh) := hD
  refine z_ifeqB (tgt := 22) hx hb dX10_seenFrom_6 (by decide) (fun c_6 => ?_) (fun c_6 => ?_)
  · have hb_6 := zb_neg hv3_0 c_6
    refine lv_iconst (v := zI 0) hx hb dX10_seenFrom_22 rfl ?_
    exact z_iret hC hr hlk hQ hP hD hS ⟨t3_1, 0, (by exact hv3_1), (by first | exact fun _ => hv16_0 | (intro h9; rw [hv3_1] at h9; unfold S_tpt at h9; rw [if_neg hb_6] at h9; exact absurd h9 (by decide))), rfl, rfl⟩ dX10_seenFrom_23
  · have hb_6 := hv3_0.mp c_6
    refine lv_aload_n hx hb dX10_seenFrom_9 rfl (lv_at hl 0 rfl) ?_
    refine lv_bipush (v := zI 7) hx hb dX10_seenFrom_10 (zI_b8 (by decide)) ?_
    refine lv_iload_n hx hb dX10_seenFrom_12 rfl (lv_at hl 1 rfl) ?_
    refine z_imul hx hb dX10_seenFrom_13 ?_
    refine lv_iload_n hx hb dX10_seenFrom_14 rfl (lv_at hl 2 rfl) ?_
    refine z_iadd hx hb dX10_seenFrom_15 ?_
    refine z_calli hP hD hS hA (va_runV (As := [.int (zI ((7 * r9) + c9))]) (rest := []) hC (c_X10_seen l D τ β δ ms mb mo mp mf mn mi mc mq mr mw mk ml t3_1 ma mx mh ((7 * r9) + c9) (by omega) (by first | assumption | rfl | omega) _) (cwV 1 hts (gV hB wl_X10_230 wn_X10_seen ws_X10_seen wi_X10 wc_X10_seen) rfl rfl rfl hd_X10_seen ⟨Nat.le_of_ble_eq_true rfl, Nat.le_of_ble_eq_true rfl⟩) (zp_V hK hP hD hS hA hG (ci := 10) (q0 := 0) rfl rfl rfl) rfl rfl hl.1 rfl (lv_room (Nat.le_of_ble_eq_true rfl)) dX10_seenFrom_16 ⟨Nat.le_of_ble_eq_true rfl, Nat.le_of_ble_eq_true rfl⟩) (fun r w1 H locs hq9 hP hD hS => ?_)
    obtain ⟨v16_3, hv16_0, hv16_1, rfl, rfl⟩ := hq9
    have hP : va_P D vwCl (wM β δ ms mb mo mp mf mn mi mc mq mr mw mk ml t3_1 ma mx mh) H := hP
    have hD : va_D A (wM β δ ms mb mo mp mf mn mi mc mq mr mw mk ml t3_1 ma mx mh) := hD
    refine lv_goto (tgt := 23) hx hb dX10_seenFrom_19 (by decide) ?_
    exact z_iret hC hr hlk hQ hP hD hS ⟨t3_1, v16_3, (by exact hv3_1), (by first | exact fun _ => hv16_0 | (intro h9; rw [hv3_1] at h9; unfold S_tpt at h9; rw [if_neg hb_6] at h9; exact absurd h9 (by decide))), rfl, rfl⟩ dX10_seenFrom_23

abbrev wz_X10_outlook : List Cond := .code yX10_outlook cX10_outlook 5 (some .int) :: W0
abbrev rm_X10_outlook : Room := { frames := 5, cells := 0, slots := 0, locals := 116 }
theorem hd_X10_outlook : yX10_outlook.cls = RX10 ∧ yX10_outlook.cls ≠ "java/lang/invoke/MethodHandle" ∧ yX10_outlook.cls ≠ "java/lang/invoke/VarHandle" ∧ (parseMethodDescriptor yX10_outlook.desc).map (fun d => d.parameters.length) = some 0 := by decide +kernel
set_option maxHeartbeats 4000000 in
set_option maxRecDepth 100000 in
theorem c_X10_outlook (l : Launch) (D : va_G) (τ : Nat → Nat) (β : Nat → Nat) (δ : Nat → ClassId) (ms : IA) (mb : IA) (mo : IA) (mp : BA) (mf : IA) (mn : IA) (mi : IA) (mc : IA) (mq : BA) (mr : IA) (mw : IA) (mk : Int) (ml : Int) (mt : Int) (ma : Int) (mx : Bool) (mh : Int64) (hms : ∀ k, 0 ≤ k → k < 49 → 0 ≤ ms k ∧ ms k ≤ 99) : cM l yX10_outlook wz_X10_outlook rm_X10_outlook D τ (tyM δ) [.ref (β 0)] (wM β δ ms mb mo mp mf mn mi mc mq mr mw mk ml mt ma mx mh) (zQi (fun r w => ∃ (v : Int), (v = S_arg (S_seen ms) 49) ∧ (0 ≤ v ∧ v < 49) ∧ r = zI v ∧ wM β δ ms mb mo mp mf mn mi mc mq mr mw mk ml mt ma mx mh = w)) := by
  refine z_ofM (cc := cX10_outlook) (maxL := 5) (ret := (some .int)) (by decide +kernel) rfl (Nat.le_of_ble_eq_true rfl) ?_
  intro pg e s m args below meth c hC hr hlk hnm hK hP A hD hG hA hS ls hl Q hQ
  have hx := hC.1
  have hb := hC.2.1
  have hml := hC.2.2.1
  have hown := hC.2.2.2.1
  have hts := hC.2.2.2.2
  have hB : ∀ w ∈ W0, w ∈ wz_X10_outlook := fun _ h => List.mem_cons_of_mem _ h
  have hW0 : ∀ w ∈ W0, w.before args s = true := fun w h => hts w (hB w h)
  have hl : lv_has ls 5 [(0, .ref (β 0))] := hl
  refine lv_iconst (v := zI 0) hx hb dX10_outlook_0 rfl ?_
  refine lv_istore_n (lv' := [(1, .int (zI 0)), (0, .ref (β 0))]) hx hb dX10_outlook_1 rfl hl (by decide) rfl (fun ls hl => ?_)
  refine lv_iconst (v := zI (-1)) hx hb dX10_outlook_2 rfl ?_
  refine lv_istore_n (lv' := [(2, .int (zI (-1))), (1, .int (zI 0)), (0, .ref (β 0))]) hx hb dX10_outlook_3 rfl hl (by decide) rfl (fun ls hl => ?_)
  refine lv_iconst (v := zI 0) hx hb dX10_outlook_4 rfl ?_
  refine lv_istore_n (lv' := [(3, .int (zI 0)), (2, .int (zI (-1))), (1, .int (zI 0)), (0, .ref (β 0))]) hx hb dX10_outlook_5 rfl hl (by decide) rfl (fun ls hl => ?_)
  suffices HL_6 : ∀ (n_6 : Nat), ∀ (q : Int) (mo : Int) (i : Int) (H : Heap) (locs : List Loc) (hP : va_P D vwCl (wM β δ ms mb mo mp mf mn mi mc mq mr mw mk ml mt ma mx mh) H) (hD : va_D A (wM β δ ms mb mo mp mf mn mi mc mq mr mw mk ml mt ma mx mh)) (hS : va_S A s.heap H locs) (ls : Array Slot) (hl : lv_has ls 5 [(1, .int (zI q)), (2, .int (zI mo)), (3, .int (zI i)), (0, .ref (β 0))]) (hi : 0 ≤ i ∧ i ≤ 49) (hq : q = S_arg (S_seen ms) i) (hqb : 0 ≤ q ∧ q < 49) (hmo : (i = 0 ∧ mo ≤ S_seen ms 0 ∧ (S_seen ms 0 ≤ mo → mo = S_seen ms 0)) ∨ (1 ≤ i ∧ mo = S_seen ms q)) (hmb : -1 ≤ mo ∧ mo ≤ 49) (hm : (49 - i).toNat < n_6), W pg l e rm_X10_outlook s m args below meth c H locs 0 0 Q (F0 m 6 ls []) from HL_6 _ 0 (-1) 0 _ _ hP hD hS _ (lv_sub hl [2, 1, 0, 3] rfl) (by first | assumption | rfl | omega) (by exact (S_arg_0 _).symm) (by first | assumption | rfl | omega) (by have z9 := S_seen_b ms 0; exact Or.inl ⟨rfl, by omega, fun _ => by omega⟩) (by first | assumption | rfl | omega) (Nat.lt_succ_self _)
  intro n_6
  induction n_6 with
  | zero => intro q mo i H locs hP hD hS ls hl hi hq hqb hmo hmb hm; exact absurd hm (Nat.not_lt_zero _)
  | succ n_6 ih_6 =>
    intro q mo i H locs hP hD hS ls hl hi hq hqb hmo hmb hm
    refine lv_iload_n hx hb dX10_outlook_6 rfl (lv_at hl 2 rfl) ?_
    refine lv_bipush (v := zI 49) hx hb dX10_outlook_7 (zI_b8 (by decide)) ?_
    refine z_icge (tgt := 50) hx hb ⟨by omega, by omega⟩ ⟨by omega, by omega⟩ dX10_outlook_9 (by decide) (fun c_9 => ?_) (fun c_9 => ?_)
    · refine lv_iload_n hx hb dX10_outlook_50 rfl (lv_at hl 0 rfl) ?_
      exact z_iret hC hr hlk hQ hP hD hS ⟨q, (by rw [hq, show i = 49 by omega]), (by omega), rfl, rfl⟩ dX10_outlook_51
    · refine lv_aload_n hx hb dX10_outlook_12 rfl (lv_at hl 3 rfl) ?_
      refine lv_iload_n hx hb dX10_outlook_13 rfl (lv_at hl 2 rfl) ?_
      refine z_calli hP hD hS hA (va_runV (As := [.int (zI i)]) (rest := []) hC (c_X10_seen l D τ β δ ms mb mo mp mf mn mi mc mq mr mw mk ml mt ma mx mh i (by first | assumption | rfl | omega) (by first | assumption | rfl | omega) _) (cwV 1 hts (gV hB wl_X10_230 wn_X10_seen ws_X10_seen wi_X10 wc_X10_seen) rfl rfl rfl hd_X10_seen ⟨Nat.le_of_ble_eq_true rfl, Nat.le_of_ble_eq_true rfl⟩) (zp_V hK hP hD hS hA hG (ci := 10) (q0 := 0) rfl rfl rfl) rfl rfl hl.1 rfl (lv_room (Nat.le_of_ble_eq_true rfl)) dX10_outlook_14 ⟨Nat.le_of_ble_eq_true rfl, Nat.le_of_ble_eq_true rfl⟩) (fun r w1 H locs hq9 hP hD hS => ?_)
      obtain ⟨v14_1, hv14_0, hv14_1, rfl, rfl⟩ := hq9
      have hP : va_P D vwCl (wM β δ ms mb mo mp mf mn mi mc mq mr mw mk ml mt ma mx mh) H := hP
      have hD : va_D A (wM β δ ms mb mo mp mf mn mi mc mq mr mw mk ml mt ma mx mh) := hD
      have hup := arg_up (f := S_seen ms) hi.1 hq hmo
      refine lv_istore (lv' := [(4, .int (zI v14_1)), (1, .int (zI q)), (2, .int (zI mo)), (3, .int (zI i)), (0, .ref (β 0))]) hx hb dX10_outlook_17 hl (by decide) rfl (fun ls hl => ?_)
      refine lv_iload hx hb dX10_outlook_19 (lv_at hl 0 rfl) ?_
      refine lv_iload_n hx hb dX10_outlook_21 rfl (lv_at hl 2 rfl) ?_
      refine z_icle (tgt := 29) hx hb ⟨by omega, by omega⟩ ⟨by omega, by omega⟩ dX10_outlook_22 (by decide) (fun c_22 => ?_) (fun c_22 => ?_)
      · refine lv_iload_n hx hb dX10_outlook_29 rfl (lv_at hl 1 rfl) ?_
        refine lv_istore_n (lv' := [(1, .int (zI q)), (4, .int (zI v14_1)), (2, .int (zI mo)), (3, .int (zI i)), (0, .ref (β 0))]) hx hb dX10_outlook_30 rfl hl (by decide) rfl (fun ls hl => ?_)
        refine lv_iload hx hb dX10_outlook_31 (lv_at hl 1 rfl) ?_
        refine lv_iload_n hx hb dX10_outlook_33 rfl (lv_at hl 2 rfl) ?_
        refine z_icle (tgt := 42) hx hb ⟨by omega, by omega⟩ ⟨by omega, by omega⟩ dX10_outlook_34 (by decide) (fun c_34 => ?_) (fun c_34 => ?_)
        · have h34 := c_34
          refine lv_iload_n hx hb dX10_outlook_42 rfl (lv_at hl 2 rfl) ?_
          refine lv_istore_n (lv' := [(2, .int (zI mo)), (1, .int (zI q)), (4, .int (zI v14_1)), (3, .int (zI i)), (0, .ref (β 0))]) hx hb dX10_outlook_43 rfl hl (by decide) rfl (fun ls hl => ?_)
          refine z_iinc (k := 3) (v := i + 1) (lv' := [(3, .int (zI (i + 1))), (2, .int (zI mo)), (1, .int (zI q)), (4, .int (zI v14_1)), (0, .ref (β 0))]) hx hb dX10_outlook_44 hl rfl rfl (by decide) rfl (fun ls hl => ?_)
          refine lv_goto (tgt := 6) hx hb dX10_outlook_47 (by decide) ?_
          exact ih_6 q mo (i + 1) _ _ hP hD hS _ (lv_sub hl [2, 1, 0, 4] rfl) (by first | assumption | rfl | omega) (by rw [hv14_0] at c_22; first | exact (hup.1 c_22).1 | exact (hup.2 (Int.not_lt.mpr c_22)).1) (by first | assumption | rfl | omega) (by refine Or.inr ⟨by omega, ?_⟩; first | exact hv14_0 | (rw [hv14_0] at c_22; exact (hup.2 (Int.not_lt.mpr c_22)).2)) (by first | assumption | rfl | omega) (by omega)
        · have h34 := c_34
          refine lv_iload hx hb dX10_outlook_37 (lv_at hl 1 rfl) ?_
          refine lv_goto (tgt := 43) hx hb dX10_outlook_39 (by decide) ?_
          refine lv_istore_n (lv' := [(2, .int (zI v14_1)), (1, .int (zI q)), (4, .int (zI v14_1)), (3, .int (zI i)), (0, .ref (β 0))]) hx hb dX10_outlook_43 rfl hl (by decide) rfl (fun ls hl => ?_)
          refine z_iinc (k := 3) (v := i + 1) (lv' := [(3, .int (zI (i + 1))), (2, .int (zI v14_1)), (1, .int (zI q)), (4, .int (zI v14_1)), (0, .ref (β 0))]) hx hb dX10_outlook_44 hl rfl rfl (by decide) rfl (fun ls hl => ?_)
          refine lv_goto (tgt := 6) hx hb dX10_outlook_47 (by decide) ?_
          exact ih_6 q v14_1 (i + 1) _ _ hP hD hS _ (lv_sub hl [2, 1, 0, 4] rfl) (by first | assumption | rfl | omega) (by rw [hv14_0] at c_22; first | exact (hup.1 c_22).1 | exact (hup.2 (Int.not_lt.mpr c_22)).1) (by first | assumption | rfl | omega) (by refine Or.inr ⟨by omega, ?_⟩; first | exact hv14_0 | (rw [hv14_0] at c_22; exact (hup.2 (Int.not_lt.mpr c_22)).2)) (by first | assumption | rfl | omega) (by omega)
      · refine lv_iload_n hx hb dX10_outlook_25 rfl (lv_at hl 3 rfl) ?_
        refine lv_goto (tgt := 30) hx hb dX10_outlook_26 (by decide) ?_
        refine lv_istore_n (lv' := [(1, .int (zI i)), (4, .int (zI v14_1)), (2, .int (zI mo)), (3, .int (zI i)), (0, .ref (β 0))]) hx hb dX10_outlook_30 rfl hl (by decide) rfl (fun ls hl => ?_)
        refine lv_iload hx hb dX10_outlook_31 (lv_at hl 1 rfl) ?_
        refine lv_iload_n hx hb dX10_outlook_33 rfl (lv_at hl 2 rfl) ?_
        refine z_icle (tgt := 42) hx hb ⟨by omega, by omega⟩ ⟨by omega, by omega⟩ dX10_outlook_34 (by decide) (fun c_34 => ?_) (fun c_34 => ?_)
        · have h34 := c_34
          refine lv_iload_n hx hb dX10_outlook_42 rfl (lv_at hl 2 rfl) ?_
          refine lv_istore_n (lv' := [(2, .int (zI mo)), (1, .int (zI i)), (4, .int (zI v14_1)), (3, .int (zI i)), (0, .ref (β 0))]) hx hb dX10_outlook_43 rfl hl (by decide) rfl (fun ls hl => ?_)
          refine z_iinc (k := 3) (v := i + 1) (lv' := [(3, .int (zI (i + 1))), (2, .int (zI mo)), (1, .int (zI i)), (4, .int (zI v14_1)), (0, .ref (β 0))]) hx hb dX10_outlook_44 hl rfl rfl (by decide) rfl (fun ls hl => ?_)
          refine lv_goto (tgt := 6) hx hb dX10_outlook_47 (by decide) ?_
          exact ih_6 i mo (i + 1) _ _ hP hD hS _ (lv_sub hl [2, 1, 0, 4] rfl) (by first | assumption | rfl | omega) (by rw [hv14_0] at c_22; first | exact (hup.1 c_22).1 | exact (hup.2 (Int.not_lt.mpr c_22)).1) (by first | assumption | rfl | omega) (by refine Or.inr ⟨by omega, ?_⟩; first | exact hv14_0 | (rw [hv14_0] at c_22; exact (hup.2 (Int.not_lt.mpr c_22)).2)) (by first | assumption | rfl | omega) (by omega)
        · have h34 := c_34
          refine lv_iload hx hb dX10_outlook_37 (lv_at hl 1 rfl) ?_
          refine lv_goto (tgt := 43) hx hb dX10_outlook_39 (by decide) ?_
          refine lv_istore_n (lv' := [(2, .int (zI v14_1)), (1, .int (zI i)), (4, .int (zI v14_1)), (3, .int (zI i)), (0, .ref (β 0))]) hx hb dX10_outlook_43 rfl hl (by decide) rfl (fun ls hl => ?_)
          refine z_iinc (k := 3) (v := i + 1) (lv' := [(3, .int (zI (i + 1))), (2, .int (zI v14_1)), (1, .int (zI i)), (4, .int (zI v14_1)), (0, .ref (β 0))]) hx hb dX10_outlook_44 hl rfl rfl (by decide) rfl (fun ls hl => ?_)
          refine lv_goto (tgt := 6) hx hb dX10_outlook_47 (by decide) ?_
          exact ih_6 i v14_1 (i + 1) _ _ hP hD hS _ (lv_sub hl [2, 1, 0, 4] rfl) (by first | assumption | rfl | omega) (by rw [hv14_0] at c_22; first | exact (hup.1 c_22).1 | exact (hup.2 (Int.not_lt.mpr c_22)).1) (by first | assumption | rfl | omega) (by refine Or.inr ⟨by omega, ?_⟩; first | exact hv14_0 | (rw [hv14_0] at c_22; exact (hup.2 (Int.not_lt.mpr c_22)).2)) (by first | assumption | rfl | omega) (by omega)

abbrev wz_X10_lookout : List Cond := .code yX10_lookout cX10_lookout 1 (some .int) :: W0
abbrev rm_X10_lookout : Room := { frames := 6, cells := 0, slots := 0, locals := 140 }
theorem hd_X10_lookout : yX10_lookout.cls = RX10 ∧ yX10_lookout.cls ≠ "java/lang/invoke/MethodHandle" ∧ yX10_lookout.cls ≠ "java/lang/invoke/VarHandle" ∧ (parseMethodDescriptor yX10_lookout.desc).map (fun d => d.parameters.length) = some 0 := by decide +kernel
set_option maxHeartbeats 4000000 in
set_option maxRecDepth 100000 in
theorem c_X10_lookout (l : Launch) (D : va_G) (τ : Nat → Nat) (β : Nat → Nat) (δ : Nat → ClassId) (ms : IA) (mb : IA) (mo : IA) (mp : BA) (mf : IA) (mn : IA) (mi : IA) (mc : IA) (mq : BA) (mr : IA) (mw : IA) (mk : Int) (ml : Int) (mt : Int) (ma : Int) (mx : Bool) (mh : Int64) (hms : ∀ k, 0 ≤ k → k < 49 → 0 ≤ ms k ∧ ms k ≤ 99) : cM l yX10_lookout wz_X10_lookout rm_X10_lookout D τ (tyM δ) [.ref (β 0)] (wM β δ ms mb mo mp mf mn mi mc mq mr mw mk ml mt ma mx mh) (zQi (fun r w => ∃ (v : Int), (v = S_arg (S_seen ms) 49) ∧ (0 ≤ v ∧ v < 49) ∧ r = zI v ∧ wM β δ ms mb mo mp mf mn mi mc mq mr mw mk ml 0 ma mx mh = w)) := by
  refine z_ofM (cc := cX10_lookout) (maxL := 1) (ret := (some .int)) (by decide +kernel) rfl (Nat.le_of_ble_eq_true rfl) ?_
  intro pg e s m args below meth c hC hr hlk hnm hK hP A hD hG hA hS ls hl Q hQ
  have hx := hC.1
  have hb := hC.2.1
  have hml := hC.2.2.1
  have hown := hC.2.2.2.1
  have hts := hC.2.2.2.2
  have hB : ∀ w ∈ W0, w ∈ wz_X10_lookout := fun _ h => List.mem_cons_of_mem _ h
  have hW0 : ∀ w ∈ W0, w.before args s = true := fun w h => hts w (hB w h)
  have hl : lv_has ls 1 [(0, .ref (β 0))] := hl
  refine lv_aload_n hx hb dX10_lookout_0 rfl (lv_at hl 0 rfl) ?_
  refine lv_iconst (v := zI 0) hx hb dX10_lookout_1 rfl ?_
  refine va_put (D := D) (ci := 10) (v := .int (zI 0)) (ty := .int) (C := RX10) (T := TX10) (N := 17) hx hb hts (fun w h => List.mem_cons_of_mem _ (wx_X10 w h)) tyX10 tyX10_ok nmX10 hown hK hP hD hS 0 rfl rfl 7 (by decide) (hW0 _ wf_X10_44) (fun _ h9 => h9) rfl (by decide +kernel) rfl rfl (Nat.le_of_ble_eq_true rfl) dX10_lookout_2 (fun H locs hP hD hS => ?_)
  have hP : va_P D vwCl (wM β δ ms mb mo mp mf mn mi mc mq mr mw mk ml 0 ma mx mh) H := hP
  have hD : va_D A (wM β δ ms mb mo mp mf mn mi mc mq mr mw mk ml 0 ma mx mh) := hD
  refine lv_aload_n hx hb dX10_lookout_5 rfl (lv_at hl 0 rfl) ?_
  refine z_calli hP hD hS hA (va_runV (As := []) (rest := []) hC (c_X10_outlook l D τ β δ ms mb mo mp mf mn mi mc mq mr mw mk ml 0 ma mx mh (by first | assumption | rfl | omega) _) (cwV 0 hts (gV hB wl_X10_233 wn_X10_outlook ws_X10_outlook wi_X10 wc_X10_outlook) rfl rfl rfl hd_X10_outlook ⟨Nat.le_of_ble_eq_true rfl, Nat.le_of_ble_eq_true rfl⟩) (zp_V hK hP hD hS hA hG (ci := 10) (q0 := 0) rfl rfl rfl) rfl rfl hl.1 rfl (lv_room (Nat.le_of_ble_eq_true rfl)) dX10_lookout_6 ⟨Nat.le_of_ble_eq_true rfl, Nat.le_of_ble_eq_true rfl⟩) (fun r w1 H locs hq9 hP hD hS => ?_)
  obtain ⟨v6_1, hv6_0, hv6_1, rfl, rfl⟩ := hq9
  have hP : va_P D vwCl (wM β δ ms mb mo mp mf mn mi mc mq mr mw mk ml 0 ma mx mh) H := hP
  have hD : va_D A (wM β δ ms mb mo mp mf mn mi mc mq mr mw mk ml 0 ma mx mh) := hD
  exact z_iret hC hr hlk hQ hP hD hS ⟨v6_1, (by first | assumption | rfl | omega), (by first | assumption | rfl | omega), rfl, rfl⟩ dX10_lookout_9

