theorem bool_iff2 {a b : Bool} {P : Prop} (h1 : a = true ↔ P) (h2 : b = true ↔ P) : a = b := by
  cases a <;> cases b <;> first | rfl | exact absurd (h1.mpr (h2.mp rfl)) (by decide) | exact absurd (h2.mpr (h1.mp rfl)) (by decide)
theorem dc_refl {x : UInt64} (hx : FP.Core.val64 x ≠ .nan) (op : CmpOp) : dcI x x op = 0 := dcI_eq op (FP.Core.dcmp_eq.mpr ⟨hx, hx, rfl⟩)
theorem DOK_nn {x : UInt64} (h : DOK x) : FP.Core.val64 x ≠ .nan := by
  rcases h with h | ⟨c, q, h, -⟩
  · rw [h]; exact D_nn DZv
  · exact D_nn h.1
theorem dc_mean {h : IA} (hh : ∀ k, 0 ≤ k → k < 49 → 0 ≤ h k ∧ h k ≤ 99) {a b : UInt64} (h1 : a = dmean (zS (S_drop h) 49)) (h2 : b = dmean (zS (S_drop h) 49)) : dcI a b .l = 0 := by
  rw [h1, h2]; exact dc_refl (DOK_nn (dmean_DOK (S_dsum_b hh))) .l
set_option maxHeartbeats 4000000 in
set_option maxRecDepth 100000 in
theorem law_260 {p : Program} {l : Launch} {e : Env} {s : State} {m : MethodId} {below : List Frame} {meth : Method} {c : Code} {Q : State → Prop} {D : va_G} {τ : Nat → Nat} {A : Nat → Prop} {α β : Nat → Nat} {cI cB cL : ClassId} {o b L : Nat} {xs : Nat → Int32} {i : Int} {cells slots : Nat} (hX : LCx p l s m c D τ A cI cB cL b L xs) (hi : 0 ≤ i ∧ i + 6 ≤ L) (hc : cells + 2 ≤ 1083 ∧ slots + 12 ≤ 10672)
    (hk : LSt p l e s m below meth c Q D A α β cI cB cL o b i 2893 (cells + 2) (slots + 12)) : LSt p l e s m below meth c Q D A α β cI cB cL o b i 260 cells slots := by
  obtain ⟨hC, hKm, hKo, hKh, hG, hA, hGX, hst, hXs, hbl, hbA, hL⟩ := hX
  intro h old ch rg ln sl pd ct sg cd ln9 pl le ro co nu sv sl9 tk ct9 mn mi mc mq mr mw mt ma mx mh fo H locs ls hI hP hD hS hl
  obtain ⟨rg0, rg1⟩ := rg
  obtain ⟨ln_0, ln_1, ln_2, ln_3, ln_4, ln_5, ln_6, ln_7, ln_8, ln_9⟩ := ln
  obtain ⟨sl_0, sl_1, sl_2⟩ := sl
  obtain ⟨pd0, pd1⟩ := pd
  obtain ⟨ct_0, ct_1⟩ := ct
  have hx := hC.1
  have hb := hC.2.1
  have hml := hC.2.2.1
  have hts := hC.2.2.2.2
  have hB : ∀ w ∈ W0, w ∈ W0 := fun _ h => h
  have hh := hI.1
  have hct := hI.2.2.2.1
  have hln := hI.2.2.2.2.1
  have hmf := hI.2.2.2.2.2.1
  have hov := hI.2.2.2.2.2.2
  have hcd : ∀ k, 0 ≤ k → k < ln9 → 0 ≤ cd k ∧ cd k ≤ 126 := fun k a b => by have z := hmf k a b; omega
  have hP : va_P D vwCl ((wM β (gM cI cB) h sv sl9 tk cd mn mi mc mq mr mw ct9 ln9 mt ma mx mh) ++ (oC cL o fo ++ (wH α (gH cI cB) (h, old, ch) (rg0, rg1) (ln_0, ln_1, ln_2, ln_3, ln_4, ln_5, ln_6, ln_7, ln_8, ln_9) (sl_0, sl_1, sl_2) (pd0, pd1) (ct_0, ct_1) sg (cd, ln9, pl, le, ro, co, nu) (sv, sl9, tk, ct9)))) H := hP
  have hD : va_D A ((wM β (gM cI cB) h sv sl9 tk cd mn mi mc mq mr mw ct9 ln9 mt ma mx mh) ++ (oC cL o fo ++ (wH α (gH cI cB) (h, old, ch) (rg0, rg1) (ln_0, ln_1, ln_2, ln_3, ln_4, ln_5, ln_6, ln_7, ln_8, ln_9) (sl_0, sl_1, sl_2) (pd0, pd1) (ct_0, ct_1) sg (cd, ln9, pl, le, ro, co, nu) (sv, sl9, tk, ct9)))) := hD
  refine lv_aload_n hx hb dL_law_260 rfl (lv_at hl 1 rfl) ?_
  refine lv_aload_n hx hb dL_law_261 rfl (lv_at hl 0 rfl) ?_
  refine lv_iload hx hb dL_law_262 (lv_at hl 4 rfl) ?_
  refine lv_iconst (v := zI 1) hx hb dL_law_264 rfl ?_
  refine z_iadd hx hb dL_law_265 ?_
  refine z_sld hx hb hXs hbl hbA hS ⟨⟨by omega, by omega⟩, hL⟩ dL_law_266 ?_
  refine lv_aload_n hx hb dL_law_267 rfl (lv_at hl 0 rfl) ?_
  refine lv_iload hx hb dL_law_268 (lv_at hl 4 rfl) ?_
  refine lv_iconst (v := zI 2) hx hb dL_law_270 rfl ?_
  refine z_iadd hx hb dL_law_271 ?_
  refine z_sld hx hb hXs hbl hbA hS ⟨⟨by omega, by omega⟩, hL⟩ dL_law_272 ?_
  refine lv_aload_n hx hb dL_law_273 rfl (lv_at hl 0 rfl) ?_
  refine lv_iload hx hb dL_law_274 (lv_at hl 4 rfl) ?_
  refine lv_iconst (v := zI 3) hx hb dL_law_276 rfl ?_
  refine z_iadd hx hb dL_law_277 ?_
  refine z_sld hx hb hXs hbl hbA hS ⟨⟨by omega, by omega⟩, hL⟩ dL_law_278 ?_
  refine lv_aload_n hx hb dL_law_279 rfl (lv_at hl 3 rfl) ?_
  refine zfw_calli (mc := 2) (ms := 12) (wr := (wM β (gM cI cB) h sv sl9 tk cd mn mi mc mq mr mw ct9 ln9 mt ma mx mh)) (wc := oC cL o fo ++ (wH α (gH cI cB) (h, old, ch) (rg0, rg1) (ln_0, ln_1, ln_2, ln_3, ln_4, ln_5, ln_6, ln_7, ln_8, ln_9) (sl_0, sl_1, sl_2) (pd0, pd1) (ct_0, ct_1) sg (cd, ln9, pl, le, ro, co, nu) (sv, sl9, tk, ct9))) hP hD hS hA (vx_runSW (As := [.ref (α 0), .int (zI (xI xs (i + 1))), .int (zI (xI xs (i + 2))), .int (zI (xI xs (i + 3))), .ref o]) (rest := []) hC (c_L_set l D τ α (gH cI cB) h old ch (rg0, rg1) (ln_0, ln_1, ln_2, ln_3, ln_4, ln_5, ln_6, ln_7, ln_8, ln_9) (sl_0, sl_1, sl_2) (pd0, pd1) (ct_0, ct_1) sg (cd, ln9, pl, le, ro, co, nu) sv sl9 tk ct9 (xI xs (i + 1)) (xI xs (i + 2)) (xI xs (i + 3)) (xI_b xs _) (xI_b xs _) (xI_b xs _) hh hct hst cL o fo _) (vx_cwSW 5 hts (gSW hB wl_L_139 wt_L_set wi_L wc_L_set) rfl rfl rfl hd_L_set.2 ⟨Nat.le_of_ble_eq_true rfl, Nat.le_of_ble_eq_true rfl⟩) (zpX_S hKo (zPc hP) (zDc hD) hS hA hG hGX) rfl rfl hl.1 rfl (lv_room (Nat.le_of_ble_eq_true rfl)) dL_law_280 ⟨by show _ ≤ 1083; omega, by show _ ≤ 10672; omega⟩) (fun r w1 H locs hq9 hP hD hS => ?_)
  rcases hq9 with hq9 | hq9 | hq9
  · skip
    obtain ⟨h2c, s2c, c2c, vc, go, hf0, hf1, hf2, hf3, hf4, hgo, rfl, rfl⟩ := hq9
    subst hf2
    subst hf3
    subst hf4
    refine lv_istore (lv' := [(5, .int (zI 0)), (0, .ref b), (1, .ref (α 0)), (2, .ref (β 0)), (3, .ref o), (4, .int (zI i))]) hx hb dL_law_283 hl (by decide) rfl (fun ls hl => ?_)
    refine lv_aload_n hx hb dL_law_285 rfl (lv_at hl 3 rfl) ?_
    refine lv_aload_n hx hb dL_law_286 rfl (lv_at hl 1 rfl) ?_
    refine lv_iload hx hb dL_law_287 (lv_at hl 5 rfl) ?_
    refine lv_iconst (v := zI 1) hx hb dL_law_289 rfl ?_
    refine z_iadd hx hb dL_law_290 ?_
    refine z_sld hx hb hXs hbl hbA hS ⟨⟨by omega, by omega⟩, hL⟩ dL_law_291 ?_
    refine lv_aload_n hx hb dL_law_292 rfl (lv_at hl 1 rfl) ?_
    refine lv_iload hx hb dL_law_293 (lv_at hl 5 rfl) ?_
    refine lv_iconst (v := zI 2) hx hb dL_law_295 rfl ?_
    refine z_iadd hx hb dL_law_296 ?_
    refine z_sld hx hb hXs hbl hbA hS ⟨⟨by omega, by omega⟩, hL⟩ dL_law_297 ?_
    refine lv_aload_n hx hb dL_law_298 rfl (lv_at hl 1 rfl) ?_
    refine lv_iload hx hb dL_law_299 (lv_at hl 5 rfl) ?_
    refine lv_iconst (v := zI 3) hx hb dL_law_301 rfl ?_
    refine z_iadd hx hb dL_law_302 ?_
    refine z_sld hx hb hXs hbl hbA hS ⟨⟨by omega, by omega⟩, hL⟩ dL_law_303 ?_
    have hP := zPswap hP
    have hD := zDswap hD
    refine zfw_calli (mc := 0) (ms := 0)  hP hD hS hA (va_runV (As := [.int (zI (xI xs (i + 1))), .int (zI (xI xs (i + 2))), .int (zI (xI xs (i + 3)))]) (rest := []) hC (c_X10_set l D τ β (gM cI cB) h sv sl9 tk cd mn mi mc mq mr mw ct9 ln9 mt ma mx mh (xI xs (i + 1)) (xI xs (i + 2)) (xI xs (i + 3)) (xI_b xs _) (xI_b xs _) (xI_b xs _) hct _) (cwV 3 hts (gV hB wl_L_144 wn_X10_set ws_X10_set wi_X10 wc_X10_set) rfl rfl rfl hd_X10_set ⟨Nat.le_of_ble_eq_true rfl, Nat.le_of_ble_eq_true rfl⟩) (zp_V hKm (zPc hP) (zDc hD) hS hA hG (ci := 10) (q0 := 0) rfl rfl rfl) rfl rfl hl.1 rfl (lv_room (Nat.le_of_ble_eq_true rfl)) dL_law_304 ⟨by show _ ≤ 1083; omega, by show _ ≤ 10672; omega⟩) (fun r w1 H locs hq9 hP hD hS => ?_)
    obtain ⟨s2m, b2m, k2m, t2m, vm, hm0, hm1, hm2, hm3, hm4, rfl, rfl⟩ := hq9
    rw [if_pos hf0] at hm2
    subst hm2
    rw [if_pos hf0] at hm3
    subst hm3
    rw [if_pos hf0] at hm4
    subst hm4
    have hP := zPswap hP
    have hD := zDswap hD
    refine lv_istore (lv' := [(6, .int (zI vm)), (5, .int (zI 0)), (0, .ref b), (1, .ref (α 0)), (2, .ref (β 0)), (3, .ref o), (4, .int (zI i))]) hx hb dL_law_307 hl (by decide) rfl (fun ls hl => ?_)
    refine lv_aload_n hx hb dL_law_309 rfl (lv_at hl 4 rfl) ?_
    have hP := zPswap hP
    have hD := zDswap hD
    refine zfw_calli (mc := 0) (ms := 0)  hP hD hS hA (va_runV (As := []) (rest := []) hC (c_X10_thrown l D τ β (gM cI cB) _ _ _ _ _ _ _ _ _ _ _ _ _ _ _ _ _ _) (cwV 0 hts (gV hB wl_L_145 wn_X10_thrown ws_X10_thrown wi_X10 wc_X10_thrown) rfl rfl rfl hd_X10_thrown ⟨Nat.le_of_ble_eq_true rfl, Nat.le_of_ble_eq_true rfl⟩) (zp_V hKm (zPc hP) (zDc hD) hS hA hG (ci := 10) (q0 := 0) rfl rfl rfl) rfl rfl hl.1 rfl (lv_room (Nat.le_of_ble_eq_true rfl)) dL_law_310 ⟨by show _ ≤ 1083; omega, by show _ ≤ 10672; omega⟩) (fun r w1 H locs hq9 hP hD hS => ?_)
    obtain ⟨vt, ht0, rfl, rfl⟩ := hq9
    have hP := zPswap hP
    have hD := zDswap hD
    refine lv_iload hx hb dL_law_313 (lv_at hl 1 rfl) ?_
    have heq_315 : vt = 0 := by rw [ht0, hm0, hf0]
    refine z_iceqE (tgt := 320) hx hb heq_315 dL_law_315 (by decide) ?_
    refine lv_iload hx hb dL_law_320 (lv_at hl 1 rfl) ?_
    refine z_ifne (tgt := 337) hx hb ⟨by omega, by omega⟩ dL_law_322 (by decide) (fun c_322 => absurd rfl c_322) (fun c_322 => ?_)
    refine lv_aload_n hx hb dL_law_325 rfl (lv_at hl 5 rfl) ?_
    refine lv_iconst (v := zI 0) hx hb dL_law_326 rfl ?_
    refine zo_lald hx hb hKo (zPc hP) dL_law_327 ?_
    refine lv_iload hx hb dL_law_328 (lv_at hl 0 rfl) ?_
    refine lv_i2l (v := (zI vm).toInt64) hx hb dL_law_330 rfl ?_
    refine z_lcmpE hx hb (by rw [hgo, hf1, (hm1 (hm0.trans hf0))]) dL_law_331 ?_
    refine z_ifeq (tgt := 337) hx hb ⟨by omega, by omega⟩ dL_law_332 (by decide) (fun c_332 => ?_) (fun c_332 => absurd rfl c_332)
    refine lv_goto (tgt := 2893) hx hb dL_law_337 (by decide) ?_
    refine W.widen (k := cells + 2) (n := slots + 12) (by omega) (by omega) ?_
    exact hk _ _ _ _ _ _ _ _ _ _ _ _ _ _ _ _ _ _ _ _ _ _ _ _ _ _ _ _ _ _ _ H locs ls (LI_h hI (set_b hI.1 hf0)) hP hD hS (lv_sub hl [2, 3, 4, 5, 6] rfl)
  · skip
    obtain ⟨hx9, rfl, rfl⟩ := hq9
    refine lv_istore (lv' := [(5, .int (zI 1)), (0, .ref b), (1, .ref (α 0)), (2, .ref (β 0)), (3, .ref o), (4, .int (zI i))]) hx hb dL_law_283 hl (by decide) rfl (fun ls hl => ?_)
    refine lv_aload_n hx hb dL_law_285 rfl (lv_at hl 3 rfl) ?_
    refine lv_aload_n hx hb dL_law_286 rfl (lv_at hl 1 rfl) ?_
    refine lv_iload hx hb dL_law_287 (lv_at hl 5 rfl) ?_
    refine lv_iconst (v := zI 1) hx hb dL_law_289 rfl ?_
    refine z_iadd hx hb dL_law_290 ?_
    refine z_sld hx hb hXs hbl hbA hS ⟨⟨by omega, by omega⟩, hL⟩ dL_law_291 ?_
    refine lv_aload_n hx hb dL_law_292 rfl (lv_at hl 1 rfl) ?_
    refine lv_iload hx hb dL_law_293 (lv_at hl 5 rfl) ?_
    refine lv_iconst (v := zI 2) hx hb dL_law_295 rfl ?_
    refine z_iadd hx hb dL_law_296 ?_
    refine z_sld hx hb hXs hbl hbA hS ⟨⟨by omega, by omega⟩, hL⟩ dL_law_297 ?_
    refine lv_aload_n hx hb dL_law_298 rfl (lv_at hl 1 rfl) ?_
    refine lv_iload hx hb dL_law_299 (lv_at hl 5 rfl) ?_
    refine lv_iconst (v := zI 3) hx hb dL_law_301 rfl ?_
    refine z_iadd hx hb dL_law_302 ?_
    refine z_sld hx hb hXs hbl hbA hS ⟨⟨by omega, by omega⟩, hL⟩ dL_law_303 ?_
    have hP := zPswap hP
    have hD := zDswap hD
    refine zfw_calli (mc := 0) (ms := 0)  hP hD hS hA (va_runV (As := [.int (zI (xI xs (i + 1))), .int (zI (xI xs (i + 2))), .int (zI (xI xs (i + 3)))]) (rest := []) hC (c_X10_set l D τ β (gM cI cB) h sv sl9 tk cd mn mi mc mq mr mw ct9 ln9 mt ma mx mh (xI xs (i + 1)) (xI xs (i + 2)) (xI xs (i + 3)) (xI_b xs _) (xI_b xs _) (xI_b xs _) hct _) (cwV 3 hts (gV hB wl_L_144 wn_X10_set ws_X10_set wi_X10 wc_X10_set) rfl rfl rfl hd_X10_set ⟨Nat.le_of_ble_eq_true rfl, Nat.le_of_ble_eq_true rfl⟩) (zp_V hKm (zPc hP) (zDc hD) hS hA hG (ci := 10) (q0 := 0) rfl rfl rfl) rfl rfl hl.1 rfl (lv_room (Nat.le_of_ble_eq_true rfl)) dL_law_304 ⟨by show _ ≤ 1083; omega, by show _ ≤ 10672; omega⟩) (fun r w1 H locs hq9 hP hD hS => ?_)
    obtain ⟨s2m, b2m, k2m, t2m, vm, hm0, hm1, hm2, hm3, hm4, rfl, rfl⟩ := hq9
    rw [if_neg (by rw [hx9]; decide)] at hm2
    subst hm2
    rw [if_neg (by rw [hx9]; decide)] at hm3
    subst hm3
    rw [if_neg (by rw [hx9]; decide)] at hm4
    subst hm4
    have hP := zPswap hP
    have hD := zDswap hD
    refine lv_istore (lv' := [(6, .int (zI vm)), (5, .int (zI 1)), (0, .ref b), (1, .ref (α 0)), (2, .ref (β 0)), (3, .ref o), (4, .int (zI i))]) hx hb dL_law_307 hl (by decide) rfl (fun ls hl => ?_)
    refine lv_aload_n hx hb dL_law_309 rfl (lv_at hl 4 rfl) ?_
    have hP := zPswap hP
    have hD := zDswap hD
    refine zfw_calli (mc := 0) (ms := 0)  hP hD hS hA (va_runV (As := []) (rest := []) hC (c_X10_thrown l D τ β (gM cI cB) _ _ _ _ _ _ _ _ _ _ _ _ _ _ _ _ _ _) (cwV 0 hts (gV hB wl_L_145 wn_X10_thrown ws_X10_thrown wi_X10 wc_X10_thrown) rfl rfl rfl hd_X10_thrown ⟨Nat.le_of_ble_eq_true rfl, Nat.le_of_ble_eq_true rfl⟩) (zp_V hKm (zPc hP) (zDc hD) hS hA hG (ci := 10) (q0 := 0) rfl rfl rfl) rfl rfl hl.1 rfl (lv_room (Nat.le_of_ble_eq_true rfl)) dL_law_310 ⟨by show _ ≤ 1083; omega, by show _ ≤ 10672; omega⟩) (fun r w1 H locs hq9 hP hD hS => ?_)
    obtain ⟨vt, ht0, rfl, rfl⟩ := hq9
    have hP := zPswap hP
    have hD := zDswap hD
    refine lv_iload hx hb dL_law_313 (lv_at hl 1 rfl) ?_
    have heq_315 : vt = 1 := by rw [ht0, hm0, hx9]
    refine z_iceqE (tgt := 320) hx hb heq_315 dL_law_315 (by decide) ?_
    refine lv_iload hx hb dL_law_320 (lv_at hl 1 rfl) ?_
    refine z_ifne (tgt := 337) hx hb ⟨by omega, by omega⟩ dL_law_322 (by decide) (fun c_322 => ?_) (fun c_322 => absurd c_322 (by decide))
    refine lv_goto (tgt := 2893) hx hb dL_law_337 (by decide) ?_
    refine W.widen (k := cells + 2) (n := slots + 12) (by omega) (by omega) ?_
    exact hk _ _ _ _ _ _ _ _ _ _ _ _ _ _ _ _ _ _ _ _ _ _ _ _ _ _ _ _ _ _ _ H locs ls (hI) hP hD hS (lv_sub hl [2, 3, 4, 5, 6] rfl)
  · skip
    obtain ⟨hx9, rfl, rfl⟩ := hq9
    refine lv_istore (lv' := [(5, .int (zI 2)), (0, .ref b), (1, .ref (α 0)), (2, .ref (β 0)), (3, .ref o), (4, .int (zI i))]) hx hb dL_law_283 hl (by decide) rfl (fun ls hl => ?_)
    refine lv_aload_n hx hb dL_law_285 rfl (lv_at hl 3 rfl) ?_
    refine lv_aload_n hx hb dL_law_286 rfl (lv_at hl 1 rfl) ?_
    refine lv_iload hx hb dL_law_287 (lv_at hl 5 rfl) ?_
    refine lv_iconst (v := zI 1) hx hb dL_law_289 rfl ?_
    refine z_iadd hx hb dL_law_290 ?_
    refine z_sld hx hb hXs hbl hbA hS ⟨⟨by omega, by omega⟩, hL⟩ dL_law_291 ?_
    refine lv_aload_n hx hb dL_law_292 rfl (lv_at hl 1 rfl) ?_
    refine lv_iload hx hb dL_law_293 (lv_at hl 5 rfl) ?_
    refine lv_iconst (v := zI 2) hx hb dL_law_295 rfl ?_
    refine z_iadd hx hb dL_law_296 ?_
    refine z_sld hx hb hXs hbl hbA hS ⟨⟨by omega, by omega⟩, hL⟩ dL_law_297 ?_
    refine lv_aload_n hx hb dL_law_298 rfl (lv_at hl 1 rfl) ?_
    refine lv_iload hx hb dL_law_299 (lv_at hl 5 rfl) ?_
    refine lv_iconst (v := zI 3) hx hb dL_law_301 rfl ?_
    refine z_iadd hx hb dL_law_302 ?_
    refine z_sld hx hb hXs hbl hbA hS ⟨⟨by omega, by omega⟩, hL⟩ dL_law_303 ?_
    have hP := zPswap hP
    have hD := zDswap hD
    refine zfw_calli (mc := 0) (ms := 0)  hP hD hS hA (va_runV (As := [.int (zI (xI xs (i + 1))), .int (zI (xI xs (i + 2))), .int (zI (xI xs (i + 3)))]) (rest := []) hC (c_X10_set l D τ β (gM cI cB) h sv sl9 tk cd mn mi mc mq mr mw ct9 ln9 mt ma mx mh (xI xs (i + 1)) (xI xs (i + 2)) (xI xs (i + 3)) (xI_b xs _) (xI_b xs _) (xI_b xs _) hct _) (cwV 3 hts (gV hB wl_L_144 wn_X10_set ws_X10_set wi_X10 wc_X10_set) rfl rfl rfl hd_X10_set ⟨Nat.le_of_ble_eq_true rfl, Nat.le_of_ble_eq_true rfl⟩) (zp_V hKm (zPc hP) (zDc hD) hS hA hG (ci := 10) (q0 := 0) rfl rfl rfl) rfl rfl hl.1 rfl (lv_room (Nat.le_of_ble_eq_true rfl)) dL_law_304 ⟨by show _ ≤ 1083; omega, by show _ ≤ 10672; omega⟩) (fun r w1 H locs hq9 hP hD hS => ?_)
    obtain ⟨s2m, b2m, k2m, t2m, vm, hm0, hm1, hm2, hm3, hm4, rfl, rfl⟩ := hq9
    rw [if_neg (by rw [hx9]; decide)] at hm2
    subst hm2
    rw [if_neg (by rw [hx9]; decide)] at hm3
    subst hm3
    rw [if_neg (by rw [hx9]; decide)] at hm4
    subst hm4
    have hP := zPswap hP
    have hD := zDswap hD
    refine lv_istore (lv' := [(6, .int (zI vm)), (5, .int (zI 2)), (0, .ref b), (1, .ref (α 0)), (2, .ref (β 0)), (3, .ref o), (4, .int (zI i))]) hx hb dL_law_307 hl (by decide) rfl (fun ls hl => ?_)
    refine lv_aload_n hx hb dL_law_309 rfl (lv_at hl 4 rfl) ?_
    have hP := zPswap hP
    have hD := zDswap hD
    refine zfw_calli (mc := 0) (ms := 0)  hP hD hS hA (va_runV (As := []) (rest := []) hC (c_X10_thrown l D τ β (gM cI cB) _ _ _ _ _ _ _ _ _ _ _ _ _ _ _ _ _ _) (cwV 0 hts (gV hB wl_L_145 wn_X10_thrown ws_X10_thrown wi_X10 wc_X10_thrown) rfl rfl rfl hd_X10_thrown ⟨Nat.le_of_ble_eq_true rfl, Nat.le_of_ble_eq_true rfl⟩) (zp_V hKm (zPc hP) (zDc hD) hS hA hG (ci := 10) (q0 := 0) rfl rfl rfl) rfl rfl hl.1 rfl (lv_room (Nat.le_of_ble_eq_true rfl)) dL_law_310 ⟨by show _ ≤ 1083; omega, by show _ ≤ 10672; omega⟩) (fun r w1 H locs hq9 hP hD hS => ?_)
    obtain ⟨vt, ht0, rfl, rfl⟩ := hq9
    have hP := zPswap hP
    have hD := zDswap hD
    refine lv_iload hx hb dL_law_313 (lv_at hl 1 rfl) ?_
    have heq_315 : vt = 2 := by rw [ht0, hm0, hx9]
    refine z_iceqE (tgt := 320) hx hb heq_315 dL_law_315 (by decide) ?_
    refine lv_iload hx hb dL_law_320 (lv_at hl 1 rfl) ?_
    refine z_ifne (tgt := 337) hx hb ⟨by omega, by omega⟩ dL_law_322 (by decide) (fun c_322 => ?_) (fun c_322 => absurd c_322 (by decide))
    refine lv_goto (tgt := 2893) hx hb dL_law_337 (by decide) ?_
    refine W.widen (k := cells + 2) (n := slots + 12) (by omega) (by omega) ?_
    exact hk _ _ _ _ _ _ _ _ _ _ _ _ _ _ _ _ _ _ _ _ _ _ _ _ _ _ _ _ _ _ _ H locs ls (hI) hP hD hS (lv_sub hl [2, 3, 4, 5, 6] rfl)
set_option maxHeartbeats 4000000 in
set_option maxRecDepth 100000 in
theorem law_340 {p : Program} {l : Launch} {e : Env} {s : State} {m : MethodId} {below : List Frame} {meth : Method} {c : Code} {Q : State → Prop} {D : va_G} {τ : Nat → Nat} {A : Nat → Prop} {α β : Nat → Nat} {cI cB cL : ClassId} {o b L : Nat} {xs : Nat → Int32} {i : Int} {cells slots : Nat} (hX : LCx p l s m c D τ A cI cB cL b L xs) (hi : 0 ≤ i ∧ i + 6 ≤ L) (hc : cells + 2 ≤ 1083 ∧ slots + 12 ≤ 10672)
    (hk : LSt p l e s m below meth c Q D A α β cI cB cL o b i 2893 (cells + 2) (slots + 12)) : LSt p l e s m below meth c Q D A α β cI cB cL o b i 340 cells slots := by
  obtain ⟨hC, hKm, hKo, hKh, hG, hA, hGX, hst, hXs, hbl, hbA, hL⟩ := hX
  intro h old ch rg ln sl pd ct sg cd ln9 pl le ro co nu sv sl9 tk ct9 mn mi mc mq mr mw mt ma mx mh fo H locs ls hI hP hD hS hl
  obtain ⟨rg0, rg1⟩ := rg
  obtain ⟨ln_0, ln_1, ln_2, ln_3, ln_4, ln_5, ln_6, ln_7, ln_8, ln_9⟩ := ln
  obtain ⟨sl_0, sl_1, sl_2⟩ := sl
  obtain ⟨pd0, pd1⟩ := pd
  obtain ⟨ct_0, ct_1⟩ := ct
  have hx := hC.1
  have hb := hC.2.1
  have hml := hC.2.2.1
  have hts := hC.2.2.2.2
  have hB : ∀ w ∈ W0, w ∈ W0 := fun _ h => h
  have hh := hI.1
  have hct := hI.2.2.2.1
  have hln := hI.2.2.2.2.1
  have hmf := hI.2.2.2.2.2.1
  have hov := hI.2.2.2.2.2.2
  have hcd : ∀ k, 0 ≤ k → k < ln9 → 0 ≤ cd k ∧ cd k ≤ 126 := fun k a b => by have z := hmf k a b; omega
  have hP : va_P D vwCl ((wM β (gM cI cB) h sv sl9 tk cd mn mi mc mq mr mw ct9 ln9 mt ma mx mh) ++ (oC cL o fo ++ (wH α (gH cI cB) (h, old, ch) (rg0, rg1) (ln_0, ln_1, ln_2, ln_3, ln_4, ln_5, ln_6, ln_7, ln_8, ln_9) (sl_0, sl_1, sl_2) (pd0, pd1) (ct_0, ct_1) sg (cd, ln9, pl, le, ro, co, nu) (sv, sl9, tk, ct9)))) H := hP
  have hD : va_D A ((wM β (gM cI cB) h sv sl9 tk cd mn mi mc mq mr mw ct9 ln9 mt ma mx mh) ++ (oC cL o fo ++ (wH α (gH cI cB) (h, old, ch) (rg0, rg1) (ln_0, ln_1, ln_2, ln_3, ln_4, ln_5, ln_6, ln_7, ln_8, ln_9) (sl_0, sl_1, sl_2) (pd0, pd1) (ct_0, ct_1) sg (cd, ln9, pl, le, ro, co, nu) (sv, sl9, tk, ct9)))) := hD
  refine lv_aload_n hx hb dL_law_340 rfl (lv_at hl 1 rfl) ?_
  refine lv_aload_n hx hb dL_law_341 rfl (lv_at hl 0 rfl) ?_
  refine lv_iload hx hb dL_law_342 (lv_at hl 4 rfl) ?_
  refine lv_iconst (v := zI 1) hx hb dL_law_344 rfl ?_
  refine z_iadd hx hb dL_law_345 ?_
  refine z_sld hx hb hXs hbl hbA hS ⟨⟨by omega, by omega⟩, hL⟩ dL_law_346 ?_
  refine lv_aload_n hx hb dL_law_347 rfl (lv_at hl 0 rfl) ?_
  refine lv_iload hx hb dL_law_348 (lv_at hl 4 rfl) ?_
  refine lv_iconst (v := zI 2) hx hb dL_law_350 rfl ?_
  refine z_iadd hx hb dL_law_351 ?_
  refine z_sld hx hb hXs hbl hbA hS ⟨⟨by omega, by omega⟩, hL⟩ dL_law_352 ?_
  refine lv_aload_n hx hb dL_law_353 rfl (lv_at hl 0 rfl) ?_
  refine lv_iload hx hb dL_law_354 (lv_at hl 4 rfl) ?_
  refine lv_iconst (v := zI 3) hx hb dL_law_356 rfl ?_
  refine z_iadd hx hb dL_law_357 ?_
  refine z_sld hx hb hXs hbl hbA hS ⟨⟨by omega, by omega⟩, hL⟩ dL_law_358 ?_
  refine lv_aload_n hx hb dL_law_359 rfl (lv_at hl 3 rfl) ?_
  refine zfw_calli (mc := 2) (ms := 12) (wr := (wM β (gM cI cB) h sv sl9 tk cd mn mi mc mq mr mw ct9 ln9 mt ma mx mh)) (wc := oC cL o fo ++ (wH α (gH cI cB) (h, old, ch) (rg0, rg1) (ln_0, ln_1, ln_2, ln_3, ln_4, ln_5, ln_6, ln_7, ln_8, ln_9) (sl_0, sl_1, sl_2) (pd0, pd1) (ct_0, ct_1) sg (cd, ln9, pl, le, ro, co, nu) (sv, sl9, tk, ct9))) hP hD hS hA (vx_runSW (As := [.ref (α 0), .int (zI (xI xs (i + 1))), .int (zI (xI xs (i + 2))), .int (zI (xI xs (i + 3))), .ref o]) (rest := []) hC (c_L_heap l D τ α (gH cI cB) h old ch (rg0, rg1) (ln_0, ln_1, ln_2, ln_3, ln_4, ln_5, ln_6, ln_7, ln_8, ln_9) (sl_0, sl_1, sl_2) (pd0, pd1) (ct_0, ct_1) sg (cd, ln9, pl, le, ro, co, nu) sv sl9 tk ct9 (xI xs (i + 1)) (xI xs (i + 2)) (xI xs (i + 3)) (xI_b xs _) (xI_b xs _) (xI_b xs _) hh hct hst cL o fo _) (vx_cwSW 5 hts (gSW hB wl_L_148 wt_L_heap wi_L wc_L_heap) rfl rfl rfl hd_L_heap.2 ⟨Nat.le_of_ble_eq_true rfl, Nat.le_of_ble_eq_true rfl⟩) (zpX_S hKo (zPc hP) (zDc hD) hS hA hG hGX) rfl rfl hl.1 rfl (lv_room (Nat.le_of_ble_eq_true rfl)) dL_law_360 ⟨by show _ ≤ 1083; omega, by show _ ≤ 10672; omega⟩) (fun r w1 H locs hq9 hP hD hS => ?_)
  rcases hq9 with hq9 | hq9 | hq9
  · skip
    obtain ⟨h2c, o2c, s2c, c2c, vc, go, hf0, hf1, hf2, hf3, hf4, hgo, rfl, rfl⟩ := hq9
    subst hf2
    subst hf3
    subst hf4
    refine lv_istore (lv' := [(5, .int (zI 0)), (0, .ref b), (1, .ref (α 0)), (2, .ref (β 0)), (3, .ref o), (4, .int (zI i))]) hx hb dL_law_363 hl (by decide) rfl (fun ls hl => ?_)
    refine lv_aload_n hx hb dL_law_365 rfl (lv_at hl 3 rfl) ?_
    refine lv_aload_n hx hb dL_law_366 rfl (lv_at hl 1 rfl) ?_
    refine lv_iload hx hb dL_law_367 (lv_at hl 5 rfl) ?_
    refine lv_iconst (v := zI 1) hx hb dL_law_369 rfl ?_
    refine z_iadd hx hb dL_law_370 ?_
    refine z_sld hx hb hXs hbl hbA hS ⟨⟨by omega, by omega⟩, hL⟩ dL_law_371 ?_
    refine lv_aload_n hx hb dL_law_372 rfl (lv_at hl 1 rfl) ?_
    refine lv_iload hx hb dL_law_373 (lv_at hl 5 rfl) ?_
    refine lv_iconst (v := zI 2) hx hb dL_law_375 rfl ?_
    refine z_iadd hx hb dL_law_376 ?_
    refine z_sld hx hb hXs hbl hbA hS ⟨⟨by omega, by omega⟩, hL⟩ dL_law_377 ?_
    refine lv_aload_n hx hb dL_law_378 rfl (lv_at hl 1 rfl) ?_
    refine lv_iload hx hb dL_law_379 (lv_at hl 5 rfl) ?_
    refine lv_iconst (v := zI 3) hx hb dL_law_381 rfl ?_
    refine z_iadd hx hb dL_law_382 ?_
    refine z_sld hx hb hXs hbl hbA hS ⟨⟨by omega, by omega⟩, hL⟩ dL_law_383 ?_
    have hP := zPswap hP
    have hD := zDswap hD
    refine zfw_calli (mc := 0) (ms := 0)  hP hD hS hA (va_runV (As := [.int (zI (xI xs (i + 1))), .int (zI (xI xs (i + 2))), .int (zI (xI xs (i + 3)))]) (rest := []) hC (c_X10_heap l D τ β (gM cI cB) h sv sl9 tk cd mn mi mc mq mr mw ct9 ln9 mt ma mx mh (xI xs (i + 1)) (xI xs (i + 2)) (xI xs (i + 3)) (xI_b xs _) (xI_b xs _) (xI_b xs _) hct hh _) (cwV 3 hts (gV hB wl_L_150 wn_X10_heap ws_X10_heap wi_X10 wc_X10_heap) rfl rfl rfl hd_X10_heap ⟨Nat.le_of_ble_eq_true rfl, Nat.le_of_ble_eq_true rfl⟩) (zp_V hKm (zPc hP) (zDc hD) hS hA hG (ci := 10) (q0 := 0) rfl rfl rfl) rfl rfl hl.1 rfl (lv_room (Nat.le_of_ble_eq_true rfl)) dL_law_384 ⟨by show _ ≤ 1083; omega, by show _ ≤ 10672; omega⟩) (fun r w1 H locs hq9 hP hD hS => ?_)
    obtain ⟨s2m, n2m, b2m, k2m, t2m, vm, hm0, hm1, hm2, hm3, hm4, rfl, rfl⟩ := hq9
    rw [if_pos hf0] at hm2
    subst hm2
    rw [if_pos hf0] at hm3
    subst hm3
    rw [if_pos hf0] at hm4
    subst hm4
    have hP := zPswap hP
    have hD := zDswap hD
    refine lv_istore (lv' := [(6, .int (zI vm)), (5, .int (zI 0)), (0, .ref b), (1, .ref (α 0)), (2, .ref (β 0)), (3, .ref o), (4, .int (zI i))]) hx hb dL_law_387 hl (by decide) rfl (fun ls hl => ?_)
    refine lv_aload_n hx hb dL_law_389 rfl (lv_at hl 4 rfl) ?_
    have hP := zPswap hP
    have hD := zDswap hD
    refine zfw_calli (mc := 0) (ms := 0)  hP hD hS hA (va_runV (As := []) (rest := []) hC (c_X10_thrown l D τ β (gM cI cB) _ _ _ _ _ _ _ _ _ _ _ _ _ _ _ _ _ _) (cwV 0 hts (gV hB wl_L_145 wn_X10_thrown ws_X10_thrown wi_X10 wc_X10_thrown) rfl rfl rfl hd_X10_thrown ⟨Nat.le_of_ble_eq_true rfl, Nat.le_of_ble_eq_true rfl⟩) (zp_V hKm (zPc hP) (zDc hD) hS hA hG (ci := 10) (q0 := 0) rfl rfl rfl) rfl rfl hl.1 rfl (lv_room (Nat.le_of_ble_eq_true rfl)) dL_law_390 ⟨by show _ ≤ 1083; omega, by show _ ≤ 10672; omega⟩) (fun r w1 H locs hq9 hP hD hS => ?_)
    obtain ⟨vt, ht0, rfl, rfl⟩ := hq9
    have hP := zPswap hP
    have hD := zDswap hD
    refine lv_iload hx hb dL_law_393 (lv_at hl 1 rfl) ?_
    have heq_395 : vt = 0 := by rw [ht0, hm0, hf0]
    refine z_iceqE (tgt := 400) hx hb heq_395 dL_law_395 (by decide) ?_
    refine lv_iload hx hb dL_law_400 (lv_at hl 1 rfl) ?_
    refine z_ifne (tgt := 417) hx hb ⟨by omega, by omega⟩ dL_law_402 (by decide) (fun c_402 => absurd rfl c_402) (fun c_402 => ?_)
    refine lv_aload_n hx hb dL_law_405 rfl (lv_at hl 5 rfl) ?_
    refine lv_iconst (v := zI 0) hx hb dL_law_406 rfl ?_
    refine zo_lald hx hb hKo (zPc hP) dL_law_407 ?_
    refine lv_iload hx hb dL_law_408 (lv_at hl 0 rfl) ?_
    refine lv_i2l (v := (zI vm).toInt64) hx hb dL_law_410 rfl ?_
    refine z_lcmpE hx hb (by rw [hgo, hf1, (hm1 (hm0.trans hf0))]) dL_law_411 ?_
    refine z_ifeq (tgt := 417) hx hb ⟨by omega, by omega⟩ dL_law_412 (by decide) (fun c_412 => ?_) (fun c_412 => absurd rfl c_412)
    refine lv_goto (tgt := 2893) hx hb dL_law_417 (by decide) ?_
    refine W.widen (k := cells + 2) (n := slots + 12) (by omega) (by omega) ?_
    exact hk _ _ _ _ _ _ _ _ _ _ _ _ _ _ _ _ _ _ _ _ _ _ _ _ _ _ _ _ _ _ _ H locs ls (LI_h hI (heap_b hI.1)) hP hD hS (lv_sub hl [2, 3, 4, 5, 6] rfl)
  · skip
    obtain ⟨hx9, rfl, rfl⟩ := hq9
    refine lv_istore (lv' := [(5, .int (zI 1)), (0, .ref b), (1, .ref (α 0)), (2, .ref (β 0)), (3, .ref o), (4, .int (zI i))]) hx hb dL_law_363 hl (by decide) rfl (fun ls hl => ?_)
    refine lv_aload_n hx hb dL_law_365 rfl (lv_at hl 3 rfl) ?_
    refine lv_aload_n hx hb dL_law_366 rfl (lv_at hl 1 rfl) ?_
    refine lv_iload hx hb dL_law_367 (lv_at hl 5 rfl) ?_
    refine lv_iconst (v := zI 1) hx hb dL_law_369 rfl ?_
    refine z_iadd hx hb dL_law_370 ?_
    refine z_sld hx hb hXs hbl hbA hS ⟨⟨by omega, by omega⟩, hL⟩ dL_law_371 ?_
    refine lv_aload_n hx hb dL_law_372 rfl (lv_at hl 1 rfl) ?_
    refine lv_iload hx hb dL_law_373 (lv_at hl 5 rfl) ?_
    refine lv_iconst (v := zI 2) hx hb dL_law_375 rfl ?_
    refine z_iadd hx hb dL_law_376 ?_
    refine z_sld hx hb hXs hbl hbA hS ⟨⟨by omega, by omega⟩, hL⟩ dL_law_377 ?_
    refine lv_aload_n hx hb dL_law_378 rfl (lv_at hl 1 rfl) ?_
    refine lv_iload hx hb dL_law_379 (lv_at hl 5 rfl) ?_
    refine lv_iconst (v := zI 3) hx hb dL_law_381 rfl ?_
    refine z_iadd hx hb dL_law_382 ?_
    refine z_sld hx hb hXs hbl hbA hS ⟨⟨by omega, by omega⟩, hL⟩ dL_law_383 ?_
    have hP := zPswap hP
    have hD := zDswap hD
    refine zfw_calli (mc := 0) (ms := 0)  hP hD hS hA (va_runV (As := [.int (zI (xI xs (i + 1))), .int (zI (xI xs (i + 2))), .int (zI (xI xs (i + 3)))]) (rest := []) hC (c_X10_heap l D τ β (gM cI cB) h sv sl9 tk cd mn mi mc mq mr mw ct9 ln9 mt ma mx mh (xI xs (i + 1)) (xI xs (i + 2)) (xI xs (i + 3)) (xI_b xs _) (xI_b xs _) (xI_b xs _) hct hh _) (cwV 3 hts (gV hB wl_L_150 wn_X10_heap ws_X10_heap wi_X10 wc_X10_heap) rfl rfl rfl hd_X10_heap ⟨Nat.le_of_ble_eq_true rfl, Nat.le_of_ble_eq_true rfl⟩) (zp_V hKm (zPc hP) (zDc hD) hS hA hG (ci := 10) (q0 := 0) rfl rfl rfl) rfl rfl hl.1 rfl (lv_room (Nat.le_of_ble_eq_true rfl)) dL_law_384 ⟨by show _ ≤ 1083; omega, by show _ ≤ 10672; omega⟩) (fun r w1 H locs hq9 hP hD hS => ?_)
    obtain ⟨s2m, n2m, b2m, k2m, t2m, vm, hm0, hm1, hm2, hm3, hm4, rfl, rfl⟩ := hq9
    rw [if_neg (by rw [hx9]; decide)] at hm2
    subst hm2
    rw [if_neg (by rw [hx9]; decide)] at hm3
    subst hm3
    rw [if_neg (by rw [hx9]; decide)] at hm4
    subst hm4
    have hP := zPswap hP
    have hD := zDswap hD
    refine lv_istore (lv' := [(6, .int (zI vm)), (5, .int (zI 1)), (0, .ref b), (1, .ref (α 0)), (2, .ref (β 0)), (3, .ref o), (4, .int (zI i))]) hx hb dL_law_387 hl (by decide) rfl (fun ls hl => ?_)
    refine lv_aload_n hx hb dL_law_389 rfl (lv_at hl 4 rfl) ?_
    have hP := zPswap hP
    have hD := zDswap hD
    refine zfw_calli (mc := 0) (ms := 0)  hP hD hS hA (va_runV (As := []) (rest := []) hC (c_X10_thrown l D τ β (gM cI cB) _ _ _ _ _ _ _ _ _ _ _ _ _ _ _ _ _ _) (cwV 0 hts (gV hB wl_L_145 wn_X10_thrown ws_X10_thrown wi_X10 wc_X10_thrown) rfl rfl rfl hd_X10_thrown ⟨Nat.le_of_ble_eq_true rfl, Nat.le_of_ble_eq_true rfl⟩) (zp_V hKm (zPc hP) (zDc hD) hS hA hG (ci := 10) (q0 := 0) rfl rfl rfl) rfl rfl hl.1 rfl (lv_room (Nat.le_of_ble_eq_true rfl)) dL_law_390 ⟨by show _ ≤ 1083; omega, by show _ ≤ 10672; omega⟩) (fun r w1 H locs hq9 hP hD hS => ?_)
    obtain ⟨vt, ht0, rfl, rfl⟩ := hq9
    have hP := zPswap hP
    have hD := zDswap hD
    refine lv_iload hx hb dL_law_393 (lv_at hl 1 rfl) ?_
    have heq_395 : vt = 1 := by rw [ht0, hm0, hx9]
    refine z_iceqE (tgt := 400) hx hb heq_395 dL_law_395 (by decide) ?_
    refine lv_iload hx hb dL_law_400 (lv_at hl 1 rfl) ?_
    refine z_ifne (tgt := 417) hx hb ⟨by omega, by omega⟩ dL_law_402 (by decide) (fun c_402 => ?_) (fun c_402 => absurd c_402 (by decide))
    refine lv_goto (tgt := 2893) hx hb dL_law_417 (by decide) ?_
    refine W.widen (k := cells + 2) (n := slots + 12) (by omega) (by omega) ?_
    exact hk _ _ _ _ _ _ _ _ _ _ _ _ _ _ _ _ _ _ _ _ _ _ _ _ _ _ _ _ _ _ _ H locs ls (hI) hP hD hS (lv_sub hl [2, 3, 4, 5, 6] rfl)
  · skip
    obtain ⟨hx9, rfl, rfl⟩ := hq9
    refine lv_istore (lv' := [(5, .int (zI 2)), (0, .ref b), (1, .ref (α 0)), (2, .ref (β 0)), (3, .ref o), (4, .int (zI i))]) hx hb dL_law_363 hl (by decide) rfl (fun ls hl => ?_)
    refine lv_aload_n hx hb dL_law_365 rfl (lv_at hl 3 rfl) ?_
    refine lv_aload_n hx hb dL_law_366 rfl (lv_at hl 1 rfl) ?_
    refine lv_iload hx hb dL_law_367 (lv_at hl 5 rfl) ?_
    refine lv_iconst (v := zI 1) hx hb dL_law_369 rfl ?_
    refine z_iadd hx hb dL_law_370 ?_
    refine z_sld hx hb hXs hbl hbA hS ⟨⟨by omega, by omega⟩, hL⟩ dL_law_371 ?_
    refine lv_aload_n hx hb dL_law_372 rfl (lv_at hl 1 rfl) ?_
    refine lv_iload hx hb dL_law_373 (lv_at hl 5 rfl) ?_
    refine lv_iconst (v := zI 2) hx hb dL_law_375 rfl ?_
    refine z_iadd hx hb dL_law_376 ?_
    refine z_sld hx hb hXs hbl hbA hS ⟨⟨by omega, by omega⟩, hL⟩ dL_law_377 ?_
    refine lv_aload_n hx hb dL_law_378 rfl (lv_at hl 1 rfl) ?_
    refine lv_iload hx hb dL_law_379 (lv_at hl 5 rfl) ?_
    refine lv_iconst (v := zI 3) hx hb dL_law_381 rfl ?_
    refine z_iadd hx hb dL_law_382 ?_
    refine z_sld hx hb hXs hbl hbA hS ⟨⟨by omega, by omega⟩, hL⟩ dL_law_383 ?_
    have hP := zPswap hP
    have hD := zDswap hD
    refine zfw_calli (mc := 0) (ms := 0)  hP hD hS hA (va_runV (As := [.int (zI (xI xs (i + 1))), .int (zI (xI xs (i + 2))), .int (zI (xI xs (i + 3)))]) (rest := []) hC (c_X10_heap l D τ β (gM cI cB) h sv sl9 tk cd mn mi mc mq mr mw ct9 ln9 mt ma mx mh (xI xs (i + 1)) (xI xs (i + 2)) (xI xs (i + 3)) (xI_b xs _) (xI_b xs _) (xI_b xs _) hct hh _) (cwV 3 hts (gV hB wl_L_150 wn_X10_heap ws_X10_heap wi_X10 wc_X10_heap) rfl rfl rfl hd_X10_heap ⟨Nat.le_of_ble_eq_true rfl, Nat.le_of_ble_eq_true rfl⟩) (zp_V hKm (zPc hP) (zDc hD) hS hA hG (ci := 10) (q0 := 0) rfl rfl rfl) rfl rfl hl.1 rfl (lv_room (Nat.le_of_ble_eq_true rfl)) dL_law_384 ⟨by show _ ≤ 1083; omega, by show _ ≤ 10672; omega⟩) (fun r w1 H locs hq9 hP hD hS => ?_)
    obtain ⟨s2m, n2m, b2m, k2m, t2m, vm, hm0, hm1, hm2, hm3, hm4, rfl, rfl⟩ := hq9
    rw [if_neg (by rw [hx9]; decide)] at hm2
    subst hm2
    rw [if_neg (by rw [hx9]; decide)] at hm3
    subst hm3
    rw [if_neg (by rw [hx9]; decide)] at hm4
    subst hm4
    have hP := zPswap hP
    have hD := zDswap hD
    refine lv_istore (lv' := [(6, .int (zI vm)), (5, .int (zI 2)), (0, .ref b), (1, .ref (α 0)), (2, .ref (β 0)), (3, .ref o), (4, .int (zI i))]) hx hb dL_law_387 hl (by decide) rfl (fun ls hl => ?_)
    refine lv_aload_n hx hb dL_law_389 rfl (lv_at hl 4 rfl) ?_
    have hP := zPswap hP
    have hD := zDswap hD
    refine zfw_calli (mc := 0) (ms := 0)  hP hD hS hA (va_runV (As := []) (rest := []) hC (c_X10_thrown l D τ β (gM cI cB) _ _ _ _ _ _ _ _ _ _ _ _ _ _ _ _ _ _) (cwV 0 hts (gV hB wl_L_145 wn_X10_thrown ws_X10_thrown wi_X10 wc_X10_thrown) rfl rfl rfl hd_X10_thrown ⟨Nat.le_of_ble_eq_true rfl, Nat.le_of_ble_eq_true rfl⟩) (zp_V hKm (zPc hP) (zDc hD) hS hA hG (ci := 10) (q0 := 0) rfl rfl rfl) rfl rfl hl.1 rfl (lv_room (Nat.le_of_ble_eq_true rfl)) dL_law_390 ⟨by show _ ≤ 1083; omega, by show _ ≤ 10672; omega⟩) (fun r w1 H locs hq9 hP hD hS => ?_)
    obtain ⟨vt, ht0, rfl, rfl⟩ := hq9
    have hP := zPswap hP
    have hD := zDswap hD
    refine lv_iload hx hb dL_law_393 (lv_at hl 1 rfl) ?_
    have heq_395 : vt = 2 := by rw [ht0, hm0, hx9]
    refine z_iceqE (tgt := 400) hx hb heq_395 dL_law_395 (by decide) ?_
    refine lv_iload hx hb dL_law_400 (lv_at hl 1 rfl) ?_
    refine z_ifne (tgt := 417) hx hb ⟨by omega, by omega⟩ dL_law_402 (by decide) (fun c_402 => ?_) (fun c_402 => absurd c_402 (by decide))
    refine lv_goto (tgt := 2893) hx hb dL_law_417 (by decide) ?_
    refine W.widen (k := cells + 2) (n := slots + 12) (by omega) (by omega) ?_
    exact hk _ _ _ _ _ _ _ _ _ _ _ _ _ _ _ _ _ _ _ _ _ _ _ _ _ _ _ _ _ _ _ H locs ls (hI) hP hD hS (lv_sub hl [2, 3, 4, 5, 6] rfl)
set_option maxHeartbeats 4000000 in
set_option maxRecDepth 100000 in
theorem law_420 {p : Program} {l : Launch} {e : Env} {s : State} {m : MethodId} {below : List Frame} {meth : Method} {c : Code} {Q : State → Prop} {D : va_G} {τ : Nat → Nat} {A : Nat → Prop} {α β : Nat → Nat} {cI cB cL : ClassId} {o b L : Nat} {xs : Nat → Int32} {i : Int} {cells slots : Nat} (hX : LCx p l s m c D τ A cI cB cL b L xs) (hi : 0 ≤ i ∧ i + 6 ≤ L) (hc : cells + 2 ≤ 1083 ∧ slots + 12 ≤ 10672)
    (hk : LSt p l e s m below meth c Q D A α β cI cB cL o b i 2893 (cells + 2) (slots + 12)) : LSt p l e s m below meth c Q D A α β cI cB cL o b i 420 cells slots := by
  obtain ⟨hC, hKm, hKo, hKh, hG, hA, hGX, hst, hXs, hbl, hbA, hL⟩ := hX
  intro h old ch rg ln sl pd ct sg cd ln9 pl le ro co nu sv sl9 tk ct9 mn mi mc mq mr mw mt ma mx mh fo H locs ls hI hP hD hS hl
  obtain ⟨rg0, rg1⟩ := rg
  obtain ⟨ln_0, ln_1, ln_2, ln_3, ln_4, ln_5, ln_6, ln_7, ln_8, ln_9⟩ := ln
  obtain ⟨sl_0, sl_1, sl_2⟩ := sl
  obtain ⟨pd0, pd1⟩ := pd
  obtain ⟨ct_0, ct_1⟩ := ct
  have hx := hC.1
  have hb := hC.2.1
  have hml := hC.2.2.1
  have hts := hC.2.2.2.2
  have hB : ∀ w ∈ W0, w ∈ W0 := fun _ h => h
  have hh := hI.1
  have hct := hI.2.2.2.1
  have hln := hI.2.2.2.2.1
  have hmf := hI.2.2.2.2.2.1
  have hov := hI.2.2.2.2.2.2
  have hcd : ∀ k, 0 ≤ k → k < ln9 → 0 ≤ cd k ∧ cd k ≤ 126 := fun k a b => by have z := hmf k a b; omega
  have hP : va_P D vwCl ((wM β (gM cI cB) h sv sl9 tk cd mn mi mc mq mr mw ct9 ln9 mt ma mx mh) ++ (oC cL o fo ++ (wH α (gH cI cB) (h, old, ch) (rg0, rg1) (ln_0, ln_1, ln_2, ln_3, ln_4, ln_5, ln_6, ln_7, ln_8, ln_9) (sl_0, sl_1, sl_2) (pd0, pd1) (ct_0, ct_1) sg (cd, ln9, pl, le, ro, co, nu) (sv, sl9, tk, ct9)))) H := hP
  have hD : va_D A ((wM β (gM cI cB) h sv sl9 tk cd mn mi mc mq mr mw ct9 ln9 mt ma mx mh) ++ (oC cL o fo ++ (wH α (gH cI cB) (h, old, ch) (rg0, rg1) (ln_0, ln_1, ln_2, ln_3, ln_4, ln_5, ln_6, ln_7, ln_8, ln_9) (sl_0, sl_1, sl_2) (pd0, pd1) (ct_0, ct_1) sg (cd, ln9, pl, le, ro, co, nu) (sv, sl9, tk, ct9)))) := hD
  refine lv_aload_n hx hb dL_law_420 rfl (lv_at hl 1 rfl) ?_
  have hP : va_P D vwCl (((wM β (gM cI cB) h sv sl9 tk cd mn mi mc mq mr mw ct9 ln9 mt ma mx mh) ++ oC cL o fo) ++ (wH α (gH cI cB) (h, old, ch) (rg0, rg1) (ln_0, ln_1, ln_2, ln_3, ln_4, ln_5, ln_6, ln_7, ln_8, ln_9) (sl_0, sl_1, sl_2) (pd0, pd1) (ct_0, ct_1) sg (cd, ln9, pl, le, ro, co, nu) (sv, sl9, tk, ct9))) H := by rw [List.append_assoc]; exact hP
  have hD : va_D A (((wM β (gM cI cB) h sv sl9 tk cd mn mi mc mq mr mw ct9 ln9 mt ma mx mh) ++ oC cL o fo) ++ (wH α (gH cI cB) (h, old, ch) (rg0, rg1) (ln_0, ln_1, ln_2, ln_3, ln_4, ln_5, ln_6, ln_7, ln_8, ln_9) (sl_0, sl_1, sl_2) (pd0, pd1) (ct_0, ct_1) sg (cd, ln9, pl, le, ro, co, nu) (sv, sl9, tk, ct9))) := by rw [List.append_assoc]; exact hD
  refine zfw_calli (mc := 0) (ms := 0) (wr := (wM β (gM cI cB) h sv sl9 tk cd mn mi mc mq mr mw ct9 ln9 mt ma mx mh) ++ oC cL o fo) (wc := (wH α (gH cI cB) (h, old, ch) (rg0, rg1) (ln_0, ln_1, ln_2, ln_3, ln_4, ln_5, ln_6, ln_7, ln_8, ln_9) (sl_0, sl_1, sl_2) (pd0, pd1) (ct_0, ct_1) sg (cd, ln9, pl, le, ro, co, nu) (sv, sl9, tk, ct9))) hP hD hS hA (va_runV (As := []) (rest := []) hC (c_X9_smooth l D τ α (gH cI cB) h old ch (rg0, rg1) (ln_0, ln_1, ln_2, ln_3, ln_4, ln_5, ln_6, ln_7, ln_8, ln_9) (sl_0, sl_1, sl_2) (pd0, pd1) (ct_0, ct_1) sg (cd, ln9, pl, le, ro, co, nu) sv sl9 tk ct9 hh hct _) (cwV 0 hts (gV hB wl_L_151 wn_X9_smooth ws_X9_smooth wi_X9 wc_X9_smooth) rfl rfl rfl hd_X9_smooth ⟨Nat.le_of_ble_eq_true rfl, Nat.le_of_ble_eq_true rfl⟩) (zp_V hKh (zPc hP) (zDc hD) hS hA hG (ci := 9) (q0 := 0) rfl rfl rfl) rfl rfl hl.1 rfl (lv_room (Nat.le_of_ble_eq_true rfl)) dL_law_421 ⟨by show _ ≤ 1083; omega, by show _ ≤ 10672; omega⟩) (fun r w1 H locs hq9 hP hD hS => ?_)
  obtain ⟨h2c, o2c, s2c, c2c, vc, hf0, hf1, hf2, hf3, rfl, rfl⟩ := hq9
  rw [List.append_assoc] at hP hD
  subst hf1
  subst hf2
  subst hf3
  refine lv_aload_n hx hb dL_law_424 rfl (lv_at hl 2 rfl) ?_
  have hP := zPswap hP
  have hD := zDswap hD
  refine zfw_calli (mc := 0) (ms := 0)  hP hD hS hA (va_runV (As := []) (rest := [.int (zI vc)]) hC (c_X10_smooth l D τ β (gM cI cB) h sv sl9 tk cd mn mi mc mq mr mw ct9 ln9 mt ma mx mh hct hh _) (cwV 0 hts (gV hB wl_L_154 wn_X10_smooth ws_X10_smooth wi_X10 wc_X10_smooth) rfl rfl rfl hd_X10_smooth ⟨Nat.le_of_ble_eq_true rfl, Nat.le_of_ble_eq_true rfl⟩) (zp_V hKm (zPc hP) (zDc hD) hS hA hG (ci := 10) (q0 := 0) rfl rfl rfl) rfl rfl hl.1 rfl (lv_room (Nat.le_of_ble_eq_true rfl)) dL_law_425 ⟨by show _ ≤ 1083; omega, by show _ ≤ 10672; omega⟩) (fun r w1 H locs hq9 hP hD hS => ?_)
  obtain ⟨s2m, n2m, b2m, k2m, vm, hm0, hm1, hm2, hm3, rfl, rfl⟩ := hq9
  subst hm0
  subst hm2
  subst hm3
  have hP := zPswap hP
  have hD := zDswap hD
  have heq_428 : vc = vm := by rw [hf0, hm1]
  refine z_iceqE (tgt := 2893) hx hb heq_428 dL_law_428 (by decide) ?_
  refine W.widen (k := cells + 2) (n := slots + 12) (by omega) (by omega) ?_
  exact hk _ _ _ _ _ _ _ _ _ _ _ _ _ _ _ _ _ _ _ _ _ _ _ _ _ _ _ _ _ _ _ H locs ls (LI_h hI (smooth_b hI.1)) hP hD hS (lv_sub hl [0, 1, 2, 3, 4] rfl)
set_option maxHeartbeats 4000000 in
set_option maxRecDepth 100000 in
theorem law_433 {p : Program} {l : Launch} {e : Env} {s : State} {m : MethodId} {below : List Frame} {meth : Method} {c : Code} {Q : State → Prop} {D : va_G} {τ : Nat → Nat} {A : Nat → Prop} {α β : Nat → Nat} {cI cB cL : ClassId} {o b L : Nat} {xs : Nat → Int32} {i : Int} {cells slots : Nat} (hX : LCx p l s m c D τ A cI cB cL b L xs) (hi : 0 ≤ i ∧ i + 6 ≤ L) (hc : cells + 2 ≤ 1083 ∧ slots + 12 ≤ 10672)
    (hk : LSt p l e s m below meth c Q D A α β cI cB cL o b i 2893 (cells + 2) (slots + 12)) : LSt p l e s m below meth c Q D A α β cI cB cL o b i 433 cells slots := by
  obtain ⟨hC, hKm, hKo, hKh, hG, hA, hGX, hst, hXs, hbl, hbA, hL⟩ := hX
  intro h old ch rg ln sl pd ct sg cd ln9 pl le ro co nu sv sl9 tk ct9 mn mi mc mq mr mw mt ma mx mh fo H locs ls hI hP hD hS hl
  obtain ⟨rg0, rg1⟩ := rg
  obtain ⟨ln_0, ln_1, ln_2, ln_3, ln_4, ln_5, ln_6, ln_7, ln_8, ln_9⟩ := ln
  obtain ⟨sl_0, sl_1, sl_2⟩ := sl
  obtain ⟨pd0, pd1⟩ := pd
  obtain ⟨ct_0, ct_1⟩ := ct
  have hx := hC.1
  have hb := hC.2.1
  have hml := hC.2.2.1
  have hts := hC.2.2.2.2
  have hB : ∀ w ∈ W0, w ∈ W0 := fun _ h => h
  have hh := hI.1
  have hct := hI.2.2.2.1
  have hln := hI.2.2.2.2.1
  have hmf := hI.2.2.2.2.2.1
  have hov := hI.2.2.2.2.2.2
  have hcd : ∀ k, 0 ≤ k → k < ln9 → 0 ≤ cd k ∧ cd k ≤ 126 := fun k a b => by have z := hmf k a b; omega
  have hP : va_P D vwCl ((wM β (gM cI cB) h sv sl9 tk cd mn mi mc mq mr mw ct9 ln9 mt ma mx mh) ++ (oC cL o fo ++ (wH α (gH cI cB) (h, old, ch) (rg0, rg1) (ln_0, ln_1, ln_2, ln_3, ln_4, ln_5, ln_6, ln_7, ln_8, ln_9) (sl_0, sl_1, sl_2) (pd0, pd1) (ct_0, ct_1) sg (cd, ln9, pl, le, ro, co, nu) (sv, sl9, tk, ct9)))) H := hP
  have hD : va_D A ((wM β (gM cI cB) h sv sl9 tk cd mn mi mc mq mr mw ct9 ln9 mt ma mx mh) ++ (oC cL o fo ++ (wH α (gH cI cB) (h, old, ch) (rg0, rg1) (ln_0, ln_1, ln_2, ln_3, ln_4, ln_5, ln_6, ln_7, ln_8, ln_9) (sl_0, sl_1, sl_2) (pd0, pd1) (ct_0, ct_1) sg (cd, ln9, pl, le, ro, co, nu) (sv, sl9, tk, ct9)))) := hD
  refine lv_aload_n hx hb dL_law_433 rfl (lv_at hl 1 rfl) ?_
  refine lv_aload_n hx hb dL_law_434 rfl (lv_at hl 0 rfl) ?_
  refine lv_iload hx hb dL_law_435 (lv_at hl 4 rfl) ?_
  refine lv_iconst (v := zI 1) hx hb dL_law_437 rfl ?_
  refine z_iadd hx hb dL_law_438 ?_
  refine z_sld hx hb hXs hbl hbA hS ⟨⟨by omega, by omega⟩, hL⟩ dL_law_439 ?_
  refine lv_aload_n hx hb dL_law_440 rfl (lv_at hl 3 rfl) ?_
  refine zfw_calli (mc := 1) (ms := 6) (wr := (wM β (gM cI cB) h sv sl9 tk cd mn mi mc mq mr mw ct9 ln9 mt ma mx mh)) (wc := oC cL o fo ++ (wH α (gH cI cB) (h, old, ch) (rg0, rg1) (ln_0, ln_1, ln_2, ln_3, ln_4, ln_5, ln_6, ln_7, ln_8, ln_9) (sl_0, sl_1, sl_2) (pd0, pd1) (ct_0, ct_1) sg (cd, ln9, pl, le, ro, co, nu) (sv, sl9, tk, ct9))) hP hD hS hA (vx_runSW (As := [.ref (α 0), .int (zI (xI xs (i + 1))), .ref o]) (rest := []) hC (c_L_wash l D τ α (gH cI cB) h old ch (rg0, rg1) (ln_0, ln_1, ln_2, ln_3, ln_4, ln_5, ln_6, ln_7, ln_8, ln_9) sl_0 sl_1 sl_2 (pd0, pd1) (ct_0, ct_1) sg (cd, ln9, pl, le, ro, co, nu) sv sl9 tk ct9 (xI xs (i + 1)) (xI_b xs _) hh hct hst cL o fo _) (vx_cwSW 3 hts (gSW hB wl_L_155 wt_L_wash wi_L wc_L_wash) rfl rfl rfl hd_L_wash.2 ⟨Nat.le_of_ble_eq_true rfl, Nat.le_of_ble_eq_true rfl⟩) (zpX_S hKo (zPc hP) (zDc hD) hS hA hG hGX) rfl rfl hl.1 rfl (lv_room (Nat.le_of_ble_eq_true rfl)) dL_law_441 ⟨by show _ ≤ 1083; omega, by show _ ≤ 10672; omega⟩) (fun r w1 H locs hq9 hP hD hS => ?_)
  rcases hq9 with hq9 | hq9
  · skip
    obtain ⟨h2c, ch2c, s2c, c2c, n2c, d2c, vc, go, hf0, hf1, hf2, hf3, hf4, hgo, rfl, rfl⟩ := hq9
    subst hf2
    subst hf3
    subst hf4
    refine lv_istore (lv' := [(5, .int (zI 0)), (0, .ref b), (1, .ref (α 0)), (2, .ref (β 0)), (3, .ref o), (4, .int (zI i))]) hx hb dL_law_444 hl (by decide) rfl (fun ls hl => ?_)
    refine lv_aload_n hx hb dL_law_446 rfl (lv_at hl 3 rfl) ?_
    refine lv_aload_n hx hb dL_law_447 rfl (lv_at hl 1 rfl) ?_
    refine lv_iload hx hb dL_law_448 (lv_at hl 5 rfl) ?_
    refine lv_iconst (v := zI 1) hx hb dL_law_450 rfl ?_
    refine z_iadd hx hb dL_law_451 ?_
    refine z_sld hx hb hXs hbl hbA hS ⟨⟨by omega, by omega⟩, hL⟩ dL_law_452 ?_
    have hP := zPswap hP
    have hD := zDswap hD
    refine zfw_calli (mc := 0) (ms := 0)  hP hD hS hA (va_runV (As := [.int (zI (xI xs (i + 1)))]) (rest := []) hC (c_X10_wash l D τ β (gM cI cB) h sv sl9 tk cd mn mi mc mq mr mw ct9 ln9 mt ma mx mh (xI xs (i + 1)) (xI_b xs _) hct hh _) (cwV 1 hts (gV hB wl_L_158 wn_X10_wash ws_X10_wash wi_X10 wc_X10_wash) rfl rfl rfl hd_X10_wash ⟨Nat.le_of_ble_eq_true rfl, Nat.le_of_ble_eq_true rfl⟩) (zp_V hKm (zPc hP) (zDc hD) hS hA hG (ci := 10) (q0 := 0) rfl rfl rfl) rfl rfl hl.1 rfl (lv_room (Nat.le_of_ble_eq_true rfl)) dL_law_453 ⟨by show _ ≤ 1083; omega, by show _ ≤ 10672; omega⟩) (fun r w1 H locs hq9 hP hD hS => ?_)
    obtain ⟨s2m, n2m, b2m, k2m, t2m, vm, hm0, hm1, hm2, hm3, hm4, rfl, rfl⟩ := hq9
    rw [if_pos hf0] at hm2
    subst hm2
    rw [if_pos hf0] at hm3
    subst hm3
    rw [if_pos hf0] at hm4
    subst hm4
    have hP := zPswap hP
    have hD := zDswap hD
    refine lv_istore (lv' := [(6, .int (zI vm)), (5, .int (zI 0)), (0, .ref b), (1, .ref (α 0)), (2, .ref (β 0)), (3, .ref o), (4, .int (zI i))]) hx hb dL_law_456 hl (by decide) rfl (fun ls hl => ?_)
    refine lv_aload_n hx hb dL_law_458 rfl (lv_at hl 4 rfl) ?_
    have hP := zPswap hP
    have hD := zDswap hD
    refine zfw_calli (mc := 0) (ms := 0)  hP hD hS hA (va_runV (As := []) (rest := []) hC (c_X10_thrown l D τ β (gM cI cB) _ _ _ _ _ _ _ _ _ _ _ _ _ _ _ _ _ _) (cwV 0 hts (gV hB wl_L_145 wn_X10_thrown ws_X10_thrown wi_X10 wc_X10_thrown) rfl rfl rfl hd_X10_thrown ⟨Nat.le_of_ble_eq_true rfl, Nat.le_of_ble_eq_true rfl⟩) (zp_V hKm (zPc hP) (zDc hD) hS hA hG (ci := 10) (q0 := 0) rfl rfl rfl) rfl rfl hl.1 rfl (lv_room (Nat.le_of_ble_eq_true rfl)) dL_law_459 ⟨by show _ ≤ 1083; omega, by show _ ≤ 10672; omega⟩) (fun r w1 H locs hq9 hP hD hS => ?_)
    obtain ⟨vt, ht0, rfl, rfl⟩ := hq9
    have hP := zPswap hP
    have hD := zDswap hD
    refine lv_iload hx hb dL_law_462 (lv_at hl 1 rfl) ?_
    have heq_464 : vt = 0 := by rw [ht0, hm0, hf0]
    refine z_iceqE (tgt := 469) hx hb heq_464 dL_law_464 (by decide) ?_
    refine lv_iload hx hb dL_law_469 (lv_at hl 1 rfl) ?_
    refine z_ifne (tgt := 486) hx hb ⟨by omega, by omega⟩ dL_law_471 (by decide) (fun c_471 => absurd rfl c_471) (fun c_471 => ?_)
    refine lv_aload_n hx hb dL_law_474 rfl (lv_at hl 5 rfl) ?_
    refine lv_iconst (v := zI 0) hx hb dL_law_475 rfl ?_
    refine zo_lald hx hb hKo (zPc hP) dL_law_476 ?_
    refine lv_iload hx hb dL_law_477 (lv_at hl 0 rfl) ?_
    refine lv_i2l (v := (zI vm).toInt64) hx hb dL_law_479 rfl ?_
    refine z_lcmpE hx hb (by rw [hgo, hf1, (hm1 (hm0.trans hf0))]) dL_law_480 ?_
    refine z_ifeq (tgt := 486) hx hb ⟨by omega, by omega⟩ dL_law_481 (by decide) (fun c_481 => ?_) (fun c_481 => absurd rfl c_481)
    refine lv_goto (tgt := 2893) hx hb dL_law_486 (by decide) ?_
    refine W.widen (k := cells + 2) (n := slots + 12) (by omega) (by omega) ?_
    exact hk _ _ _ _ _ _ _ _ _ _ _ _ _ _ _ _ _ _ _ _ _ _ _ _ _ _ _ _ _ _ _ H locs ls (LI_h hI (wash_b hI.1 hf0)) hP hD hS (lv_sub hl [2, 3, 4, 5, 6] rfl)
  · skip
    obtain ⟨hx9, rfl, rfl⟩ := hq9
    refine lv_istore (lv' := [(5, .int (zI 1)), (0, .ref b), (1, .ref (α 0)), (2, .ref (β 0)), (3, .ref o), (4, .int (zI i))]) hx hb dL_law_444 hl (by decide) rfl (fun ls hl => ?_)
    refine lv_aload_n hx hb dL_law_446 rfl (lv_at hl 3 rfl) ?_
    refine lv_aload_n hx hb dL_law_447 rfl (lv_at hl 1 rfl) ?_
    refine lv_iload hx hb dL_law_448 (lv_at hl 5 rfl) ?_
    refine lv_iconst (v := zI 1) hx hb dL_law_450 rfl ?_
    refine z_iadd hx hb dL_law_451 ?_
    refine z_sld hx hb hXs hbl hbA hS ⟨⟨by omega, by omega⟩, hL⟩ dL_law_452 ?_
    have hP := zPswap hP
    have hD := zDswap hD
    refine zfw_calli (mc := 0) (ms := 0)  hP hD hS hA (va_runV (As := [.int (zI (xI xs (i + 1)))]) (rest := []) hC (c_X10_wash l D τ β (gM cI cB) h sv sl9 tk cd mn mi mc mq mr mw ct9 ln9 mt ma mx mh (xI xs (i + 1)) (xI_b xs _) hct hh _) (cwV 1 hts (gV hB wl_L_158 wn_X10_wash ws_X10_wash wi_X10 wc_X10_wash) rfl rfl rfl hd_X10_wash ⟨Nat.le_of_ble_eq_true rfl, Nat.le_of_ble_eq_true rfl⟩) (zp_V hKm (zPc hP) (zDc hD) hS hA hG (ci := 10) (q0 := 0) rfl rfl rfl) rfl rfl hl.1 rfl (lv_room (Nat.le_of_ble_eq_true rfl)) dL_law_453 ⟨by show _ ≤ 1083; omega, by show _ ≤ 10672; omega⟩) (fun r w1 H locs hq9 hP hD hS => ?_)
    obtain ⟨s2m, n2m, b2m, k2m, t2m, vm, hm0, hm1, hm2, hm3, hm4, rfl, rfl⟩ := hq9
    rw [if_neg (by rw [hx9]; decide)] at hm2
    subst hm2
    rw [if_neg (by rw [hx9]; decide)] at hm3
    subst hm3
    rw [if_neg (by rw [hx9]; decide)] at hm4
    subst hm4
    have hP := zPswap hP
    have hD := zDswap hD
    refine lv_istore (lv' := [(6, .int (zI vm)), (5, .int (zI 1)), (0, .ref b), (1, .ref (α 0)), (2, .ref (β 0)), (3, .ref o), (4, .int (zI i))]) hx hb dL_law_456 hl (by decide) rfl (fun ls hl => ?_)
    refine lv_aload_n hx hb dL_law_458 rfl (lv_at hl 4 rfl) ?_
    have hP := zPswap hP
    have hD := zDswap hD
    refine zfw_calli (mc := 0) (ms := 0)  hP hD hS hA (va_runV (As := []) (rest := []) hC (c_X10_thrown l D τ β (gM cI cB) _ _ _ _ _ _ _ _ _ _ _ _ _ _ _ _ _ _) (cwV 0 hts (gV hB wl_L_145 wn_X10_thrown ws_X10_thrown wi_X10 wc_X10_thrown) rfl rfl rfl hd_X10_thrown ⟨Nat.le_of_ble_eq_true rfl, Nat.le_of_ble_eq_true rfl⟩) (zp_V hKm (zPc hP) (zDc hD) hS hA hG (ci := 10) (q0 := 0) rfl rfl rfl) rfl rfl hl.1 rfl (lv_room (Nat.le_of_ble_eq_true rfl)) dL_law_459 ⟨by show _ ≤ 1083; omega, by show _ ≤ 10672; omega⟩) (fun r w1 H locs hq9 hP hD hS => ?_)
    obtain ⟨vt, ht0, rfl, rfl⟩ := hq9
    have hP := zPswap hP
    have hD := zDswap hD
    refine lv_iload hx hb dL_law_462 (lv_at hl 1 rfl) ?_
    have heq_464 : vt = 1 := by rw [ht0, hm0, hx9]
    refine z_iceqE (tgt := 469) hx hb heq_464 dL_law_464 (by decide) ?_
    refine lv_iload hx hb dL_law_469 (lv_at hl 1 rfl) ?_
    refine z_ifne (tgt := 486) hx hb ⟨by omega, by omega⟩ dL_law_471 (by decide) (fun c_471 => ?_) (fun c_471 => absurd c_471 (by decide))
    refine lv_goto (tgt := 2893) hx hb dL_law_486 (by decide) ?_
    refine W.widen (k := cells + 2) (n := slots + 12) (by omega) (by omega) ?_
    exact hk _ _ _ _ _ _ _ _ _ _ _ _ _ _ _ _ _ _ _ _ _ _ _ _ _ _ _ _ _ _ _ H locs ls (hI) hP hD hS (lv_sub hl [2, 3, 4, 5, 6] rfl)
set_option maxHeartbeats 4000000 in
set_option maxRecDepth 100000 in
theorem law_489 {p : Program} {l : Launch} {e : Env} {s : State} {m : MethodId} {below : List Frame} {meth : Method} {c : Code} {Q : State → Prop} {D : va_G} {τ : Nat → Nat} {A : Nat → Prop} {α β : Nat → Nat} {cI cB cL : ClassId} {o b L : Nat} {xs : Nat → Int32} {i : Int} {cells slots : Nat} (hX : LCx p l s m c D τ A cI cB cL b L xs) (hi : 0 ≤ i ∧ i + 6 ≤ L) (hc : cells + 2 ≤ 1083 ∧ slots + 12 ≤ 10672)
    (hk : LSt p l e s m below meth c Q D A α β cI cB cL o b i 2893 (cells + 2) (slots + 12)) : LSt p l e s m below meth c Q D A α β cI cB cL o b i 489 cells slots := by
  obtain ⟨hC, hKm, hKo, hKh, hG, hA, hGX, hst, hXs, hbl, hbA, hL⟩ := hX
  intro h old ch rg ln sl pd ct sg cd ln9 pl le ro co nu sv sl9 tk ct9 mn mi mc mq mr mw mt ma mx mh fo H locs ls hI hP hD hS hl
  obtain ⟨rg0, rg1⟩ := rg
  obtain ⟨ln_0, ln_1, ln_2, ln_3, ln_4, ln_5, ln_6, ln_7, ln_8, ln_9⟩ := ln
  obtain ⟨sl_0, sl_1, sl_2⟩ := sl
  obtain ⟨pd0, pd1⟩ := pd
  obtain ⟨ct_0, ct_1⟩ := ct
  have hx := hC.1
  have hb := hC.2.1
  have hml := hC.2.2.1
  have hts := hC.2.2.2.2
  have hB : ∀ w ∈ W0, w ∈ W0 := fun _ h => h
  have hh := hI.1
  have hct := hI.2.2.2.1
  have hln := hI.2.2.2.2.1
  have hmf := hI.2.2.2.2.2.1
  have hov := hI.2.2.2.2.2.2
  have hcd : ∀ k, 0 ≤ k → k < ln9 → 0 ≤ cd k ∧ cd k ≤ 126 := fun k a b => by have z := hmf k a b; omega
  have hP : va_P D vwCl ((wM β (gM cI cB) h sv sl9 tk cd mn mi mc mq mr mw ct9 ln9 mt ma mx mh) ++ (oC cL o fo ++ (wH α (gH cI cB) (h, old, ch) (rg0, rg1) (ln_0, ln_1, ln_2, ln_3, ln_4, ln_5, ln_6, ln_7, ln_8, ln_9) (sl_0, sl_1, sl_2) (pd0, pd1) (ct_0, ct_1) sg (cd, ln9, pl, le, ro, co, nu) (sv, sl9, tk, ct9)))) H := hP
  have hD : va_D A ((wM β (gM cI cB) h sv sl9 tk cd mn mi mc mq mr mw ct9 ln9 mt ma mx mh) ++ (oC cL o fo ++ (wH α (gH cI cB) (h, old, ch) (rg0, rg1) (ln_0, ln_1, ln_2, ln_3, ln_4, ln_5, ln_6, ln_7, ln_8, ln_9) (sl_0, sl_1, sl_2) (pd0, pd1) (ct_0, ct_1) sg (cd, ln9, pl, le, ro, co, nu) (sv, sl9, tk, ct9)))) := hD
  refine lv_aload_n hx hb dL_law_489 rfl (lv_at hl 1 rfl) ?_
  have hP : va_P D vwCl (((wM β (gM cI cB) h sv sl9 tk cd mn mi mc mq mr mw ct9 ln9 mt ma mx mh) ++ oC cL o fo) ++ (wH α (gH cI cB) (h, old, ch) (rg0, rg1) (ln_0, ln_1, ln_2, ln_3, ln_4, ln_5, ln_6, ln_7, ln_8, ln_9) (sl_0, sl_1, sl_2) (pd0, pd1) (ct_0, ct_1) sg (cd, ln9, pl, le, ro, co, nu) (sv, sl9, tk, ct9))) H := by rw [List.append_assoc]; exact hP
  have hD : va_D A (((wM β (gM cI cB) h sv sl9 tk cd mn mi mc mq mr mw ct9 ln9 mt ma mx mh) ++ oC cL o fo) ++ (wH α (gH cI cB) (h, old, ch) (rg0, rg1) (ln_0, ln_1, ln_2, ln_3, ln_4, ln_5, ln_6, ln_7, ln_8, ln_9) (sl_0, sl_1, sl_2) (pd0, pd1) (ct_0, ct_1) sg (cd, ln9, pl, le, ro, co, nu) (sv, sl9, tk, ct9))) := by rw [List.append_assoc]; exact hD
  refine zfw_calli (mc := 0) (ms := 0) (wr := (wM β (gM cI cB) h sv sl9 tk cd mn mi mc mq mr mw ct9 ln9 mt ma mx mh) ++ oC cL o fo) (wc := (wH α (gH cI cB) (h, old, ch) (rg0, rg1) (ln_0, ln_1, ln_2, ln_3, ln_4, ln_5, ln_6, ln_7, ln_8, ln_9) (sl_0, sl_1, sl_2) (pd0, pd1) (ct_0, ct_1) sg (cd, ln9, pl, le, ro, co, nu) (sv, sl9, tk, ct9))) hP hD hS hA (va_runV (As := []) (rest := []) hC (c_X9_turnMap l D τ α (gH cI cB) h old ch (rg0, rg1) (ln_0, ln_1, ln_2, ln_3, ln_4, ln_5, ln_6, ln_7, ln_8, ln_9) (sl_0, sl_1, sl_2) (pd0, pd1) (ct_0, ct_1) sg (cd, ln9, pl, le, ro, co, nu) sv sl9 tk ct9 hh hct _) (cwV 0 hts (gV hB wl_L_159 wn_X9_turnMap ws_X9_turnMap wi_X9 wc_X9_turnMap) rfl rfl rfl hd_X9_turnMap ⟨Nat.le_of_ble_eq_true rfl, Nat.le_of_ble_eq_true rfl⟩) (zp_V hKh (zPc hP) (zDc hD) hS hA hG (ci := 9) (q0 := 0) rfl rfl rfl) rfl rfl hl.1 rfl (lv_room (Nat.le_of_ble_eq_true rfl)) dL_law_490 ⟨by show _ ≤ 1083; omega, by show _ ≤ 10672; omega⟩) (fun r w1 H locs hq9 hP hD hS => ?_)
  obtain ⟨h2c, o2c, s2c, c2c, vc, hf0, hf1, hf2, hf3, rfl, rfl⟩ := hq9
  rw [List.append_assoc] at hP hD
  subst hf1
  subst hf2
  subst hf3
  refine lv_aload_n hx hb dL_law_493 rfl (lv_at hl 2 rfl) ?_
  have hP := zPswap hP
  have hD := zDswap hD
  refine zfw_calli (mc := 0) (ms := 0)  hP hD hS hA (va_runV (As := []) (rest := [.int (zI vc)]) hC (c_X10_turnMap l D τ β (gM cI cB) h sv sl9 tk cd mn mi mc mq mr mw ct9 ln9 mt ma mx mh hct hh _) (cwV 0 hts (gV hB wl_L_162 wn_X10_turnMap ws_X10_turnMap wi_X10 wc_X10_turnMap) rfl rfl rfl hd_X10_turnMap ⟨Nat.le_of_ble_eq_true rfl, Nat.le_of_ble_eq_true rfl⟩) (zp_V hKm (zPc hP) (zDc hD) hS hA hG (ci := 10) (q0 := 0) rfl rfl rfl) rfl rfl hl.1 rfl (lv_room (Nat.le_of_ble_eq_true rfl)) dL_law_494 ⟨by show _ ≤ 1083; omega, by show _ ≤ 10672; omega⟩) (fun r w1 H locs hq9 hP hD hS => ?_)
  obtain ⟨s2m, n2m, b2m, k2m, vm, hm0, hm1, hm2, hm3, rfl, rfl⟩ := hq9
  subst hm0
  subst hm2
  subst hm3
  have hP := zPswap hP
  have hD := zDswap hD
  have heq_497 : vc = vm := by rw [hf0, hm1]
  refine z_iceqE (tgt := 2893) hx hb heq_497 dL_law_497 (by decide) ?_
  refine W.widen (k := cells + 2) (n := slots + 12) (by omega) (by omega) ?_
  exact hk _ _ _ _ _ _ _ _ _ _ _ _ _ _ _ _ _ _ _ _ _ _ _ _ _ _ _ _ _ _ _ H locs ls (LI_h hI (turn_b hI.1)) hP hD hS (lv_sub hl [0, 1, 2, 3, 4] rfl)
set_option maxHeartbeats 4000000 in
set_option maxRecDepth 100000 in
theorem law_502 {p : Program} {l : Launch} {e : Env} {s : State} {m : MethodId} {below : List Frame} {meth : Method} {c : Code} {Q : State → Prop} {D : va_G} {τ : Nat → Nat} {A : Nat → Prop} {α β : Nat → Nat} {cI cB cL : ClassId} {o b L : Nat} {xs : Nat → Int32} {i : Int} {cells slots : Nat} (hX : LCx p l s m c D τ A cI cB cL b L xs) (hi : 0 ≤ i ∧ i + 6 ≤ L) (hc : cells + 2 ≤ 1083 ∧ slots + 12 ≤ 10672)
    (hk : LSt p l e s m below meth c Q D A α β cI cB cL o b i 2893 (cells + 2) (slots + 12)) : LSt p l e s m below meth c Q D A α β cI cB cL o b i 502 cells slots := by
  obtain ⟨hC, hKm, hKo, hKh, hG, hA, hGX, hst, hXs, hbl, hbA, hL⟩ := hX
  intro h old ch rg ln sl pd ct sg cd ln9 pl le ro co nu sv sl9 tk ct9 mn mi mc mq mr mw mt ma mx mh fo H locs ls hI hP hD hS hl
  obtain ⟨rg0, rg1⟩ := rg
  obtain ⟨ln_0, ln_1, ln_2, ln_3, ln_4, ln_5, ln_6, ln_7, ln_8, ln_9⟩ := ln
  obtain ⟨sl_0, sl_1, sl_2⟩ := sl
  obtain ⟨pd0, pd1⟩ := pd
  obtain ⟨ct_0, ct_1⟩ := ct
  have hx := hC.1
  have hb := hC.2.1
  have hml := hC.2.2.1
  have hts := hC.2.2.2.2
  have hB : ∀ w ∈ W0, w ∈ W0 := fun _ h => h
  have hh := hI.1
  have hct := hI.2.2.2.1
  have hln := hI.2.2.2.2.1
  have hmf := hI.2.2.2.2.2.1
  have hov := hI.2.2.2.2.2.2
  have hcd : ∀ k, 0 ≤ k → k < ln9 → 0 ≤ cd k ∧ cd k ≤ 126 := fun k a b => by have z := hmf k a b; omega
  have hP : va_P D vwCl ((wM β (gM cI cB) h sv sl9 tk cd mn mi mc mq mr mw ct9 ln9 mt ma mx mh) ++ (oC cL o fo ++ (wH α (gH cI cB) (h, old, ch) (rg0, rg1) (ln_0, ln_1, ln_2, ln_3, ln_4, ln_5, ln_6, ln_7, ln_8, ln_9) (sl_0, sl_1, sl_2) (pd0, pd1) (ct_0, ct_1) sg (cd, ln9, pl, le, ro, co, nu) (sv, sl9, tk, ct9)))) H := hP
  have hD : va_D A ((wM β (gM cI cB) h sv sl9 tk cd mn mi mc mq mr mw ct9 ln9 mt ma mx mh) ++ (oC cL o fo ++ (wH α (gH cI cB) (h, old, ch) (rg0, rg1) (ln_0, ln_1, ln_2, ln_3, ln_4, ln_5, ln_6, ln_7, ln_8, ln_9) (sl_0, sl_1, sl_2) (pd0, pd1) (ct_0, ct_1) sg (cd, ln9, pl, le, ro, co, nu) (sv, sl9, tk, ct9)))) := hD
  refine lv_aload_n hx hb dL_law_502 rfl (lv_at hl 1 rfl) ?_
  refine lv_aload_n hx hb dL_law_503 rfl (lv_at hl 0 rfl) ?_
  refine lv_iload hx hb dL_law_504 (lv_at hl 4 rfl) ?_
  refine lv_iconst (v := zI 1) hx hb dL_law_506 rfl ?_
  refine z_iadd hx hb dL_law_507 ?_
  refine z_sld hx hb hXs hbl hbA hS ⟨⟨by omega, by omega⟩, hL⟩ dL_law_508 ?_
  refine lv_aload_n hx hb dL_law_509 rfl (lv_at hl 3 rfl) ?_
  refine zfw_calli (mc := 1) (ms := 6) (wr := (wM β (gM cI cB) h sv sl9 tk cd mn mi mc mq mr mw ct9 ln9 mt ma mx mh)) (wc := oC cL o fo ++ (wH α (gH cI cB) (h, old, ch) (rg0, rg1) (ln_0, ln_1, ln_2, ln_3, ln_4, ln_5, ln_6, ln_7, ln_8, ln_9) (sl_0, sl_1, sl_2) (pd0, pd1) (ct_0, ct_1) sg (cd, ln9, pl, le, ro, co, nu) (sv, sl9, tk, ct9))) hP hD hS hA (vx_runSW (As := [.ref (α 0), .int (zI (xI xs (i + 1))), .ref o]) (rest := []) hC (c_L_append l D τ α (gH cI cB) (h, old, ch) (rg0, rg1) (ln_0, ln_1, ln_2, ln_3, ln_4, ln_5, ln_6, ln_7, ln_8, ln_9) (sl_0, sl_1, sl_2) (pd0, pd1) (ct_0, ct_1) sg cd ln9 pl le ro co nu (sv, sl9, tk, ct9) (xI xs (i + 1)) (xI_b xs _) hln hst cL o fo _) (vx_cwSW 3 hts (gSW hB wl_L_163 wt_L_append wi_L wc_L_append) rfl rfl rfl hd_L_append.2 ⟨Nat.le_of_ble_eq_true rfl, Nat.le_of_ble_eq_true rfl⟩) (zpX_S hKo (zPc hP) (zDc hD) hS hA hG hGX) rfl rfl hl.1 rfl (lv_room (Nat.le_of_ble_eq_true rfl)) dL_law_510 ⟨by show _ ≤ 1083; omega, by show _ ≤ 10672; omega⟩) (fun r w1 H locs hq9 hP hD hS => ?_)
  rcases hq9 with hq9 | hq9 | hq9
  · skip
    obtain ⟨f2c, n2c, vc, go, hf0, hf1, hf2, hf3, hgo, rfl, rfl⟩ := hq9
    subst hf2
    subst hf3
    refine lv_istore (lv' := [(5, .int (zI 0)), (0, .ref b), (1, .ref (α 0)), (2, .ref (β 0)), (3, .ref o), (4, .int (zI i))]) hx hb dL_law_513 hl (by decide) rfl (fun ls hl => ?_)
    refine lv_aload_n hx hb dL_law_515 rfl (lv_at hl 3 rfl) ?_
    refine lv_aload_n hx hb dL_law_516 rfl (lv_at hl 1 rfl) ?_
    refine lv_iload hx hb dL_law_517 (lv_at hl 5 rfl) ?_
    refine lv_iconst (v := zI 1) hx hb dL_law_519 rfl ?_
    refine z_iadd hx hb dL_law_520 ?_
    refine z_sld hx hb hXs hbl hbA hS ⟨⟨by omega, by omega⟩, hL⟩ dL_law_521 ?_
    have hP := zPswap hP
    have hD := zDswap hD
    refine zfw_calli (mc := 0) (ms := 0)  hP hD hS hA (va_runV (As := [.int (zI (xI xs (i + 1)))]) (rest := []) hC (c_X10_append l D τ β (gM cI cB) h sv sl9 tk cd mn mi mc mq mr mw ct9 ln9 mt ma mx mh (xI xs (i + 1)) (xI_b xs _) hln _) (cwV 1 hts (gV hB wl_L_165 wn_X10_append ws_X10_append wi_X10 wc_X10_append) rfl rfl rfl hd_X10_append ⟨Nat.le_of_ble_eq_true rfl, Nat.le_of_ble_eq_true rfl⟩) (zp_V hKm (zPc hP) (zDc hD) hS hA hG (ci := 10) (q0 := 0) rfl rfl rfl) rfl rfl hl.1 rfl (lv_room (Nat.le_of_ble_eq_true rfl)) dL_law_522 ⟨by show _ ≤ 1083; omega, by show _ ≤ 10672; omega⟩) (fun r w1 H locs hq9 hP hD hS => ?_)
    obtain ⟨f2m, l2m, t2m, vm, hm0, hm1, hm2, hm3, rfl, rfl⟩ := hq9
    rw [if_pos hf0] at hm2
    subst hm2
    rw [if_pos hf0] at hm3
    subst hm3
    have hP := zPswap hP
    have hD := zDswap hD
    refine lv_istore (lv' := [(6, .int (zI vm)), (5, .int (zI 0)), (0, .ref b), (1, .ref (α 0)), (2, .ref (β 0)), (3, .ref o), (4, .int (zI i))]) hx hb dL_law_525 hl (by decide) rfl (fun ls hl => ?_)
    refine lv_aload_n hx hb dL_law_527 rfl (lv_at hl 4 rfl) ?_
    have hP := zPswap hP
    have hD := zDswap hD
    refine zfw_calli (mc := 0) (ms := 0)  hP hD hS hA (va_runV (As := []) (rest := []) hC (c_X10_thrown l D τ β (gM cI cB) _ _ _ _ _ _ _ _ _ _ _ _ _ _ _ _ _ _) (cwV 0 hts (gV hB wl_L_145 wn_X10_thrown ws_X10_thrown wi_X10 wc_X10_thrown) rfl rfl rfl hd_X10_thrown ⟨Nat.le_of_ble_eq_true rfl, Nat.le_of_ble_eq_true rfl⟩) (zp_V hKm (zPc hP) (zDc hD) hS hA hG (ci := 10) (q0 := 0) rfl rfl rfl) rfl rfl hl.1 rfl (lv_room (Nat.le_of_ble_eq_true rfl)) dL_law_528 ⟨by show _ ≤ 1083; omega, by show _ ≤ 10672; omega⟩) (fun r w1 H locs hq9 hP hD hS => ?_)
    obtain ⟨vt, ht0, rfl, rfl⟩ := hq9
    have hP := zPswap hP
    have hD := zDswap hD
    refine lv_iload hx hb dL_law_531 (lv_at hl 1 rfl) ?_
    have heq_533 : vt = 0 := by rw [ht0, hm0, hf0]
    refine z_iceqE (tgt := 538) hx hb heq_533 dL_law_533 (by decide) ?_
    refine lv_iload hx hb dL_law_538 (lv_at hl 1 rfl) ?_
    refine z_ifne (tgt := 555) hx hb ⟨by omega, by omega⟩ dL_law_540 (by decide) (fun c_540 => absurd rfl c_540) (fun c_540 => ?_)
    refine lv_aload_n hx hb dL_law_543 rfl (lv_at hl 5 rfl) ?_
    refine lv_iconst (v := zI 0) hx hb dL_law_544 rfl ?_
    refine zo_lald hx hb hKo (zPc hP) dL_law_545 ?_
    refine lv_iload hx hb dL_law_546 (lv_at hl 0 rfl) ?_
    refine lv_i2l (v := (zI vm).toInt64) hx hb dL_law_548 rfl ?_
    refine z_lcmpE hx hb (by rw [hgo, hf1, (hm1 (hm0.trans hf0))]) dL_law_549 ?_
    refine z_ifeq (tgt := 555) hx hb ⟨by omega, by omega⟩ dL_law_550 (by decide) (fun c_550 => ?_) (fun c_550 => absurd rfl c_550)
    refine lv_goto (tgt := 2893) hx hb dL_law_555 (by decide) ?_
    refine W.widen (k := cells + 2) (n := slots + 12) (by omega) (by omega) ?_
    exact hk _ _ _ _ _ _ _ _ _ _ _ _ _ _ _ _ _ _ _ _ _ _ _ _ _ _ _ _ _ _ _ H locs ls (LI_app hI hf0) hP hD hS (lv_sub hl [2, 3, 4, 5, 6] rfl)
  · skip
    obtain ⟨hx9, rfl, rfl⟩ := hq9
    refine lv_istore (lv' := [(5, .int (zI 1)), (0, .ref b), (1, .ref (α 0)), (2, .ref (β 0)), (3, .ref o), (4, .int (zI i))]) hx hb dL_law_513 hl (by decide) rfl (fun ls hl => ?_)
    refine lv_aload_n hx hb dL_law_515 rfl (lv_at hl 3 rfl) ?_
    refine lv_aload_n hx hb dL_law_516 rfl (lv_at hl 1 rfl) ?_
    refine lv_iload hx hb dL_law_517 (lv_at hl 5 rfl) ?_
    refine lv_iconst (v := zI 1) hx hb dL_law_519 rfl ?_
    refine z_iadd hx hb dL_law_520 ?_
    refine z_sld hx hb hXs hbl hbA hS ⟨⟨by omega, by omega⟩, hL⟩ dL_law_521 ?_
    have hP := zPswap hP
    have hD := zDswap hD
    refine zfw_calli (mc := 0) (ms := 0)  hP hD hS hA (va_runV (As := [.int (zI (xI xs (i + 1)))]) (rest := []) hC (c_X10_append l D τ β (gM cI cB) h sv sl9 tk cd mn mi mc mq mr mw ct9 ln9 mt ma mx mh (xI xs (i + 1)) (xI_b xs _) hln _) (cwV 1 hts (gV hB wl_L_165 wn_X10_append ws_X10_append wi_X10 wc_X10_append) rfl rfl rfl hd_X10_append ⟨Nat.le_of_ble_eq_true rfl, Nat.le_of_ble_eq_true rfl⟩) (zp_V hKm (zPc hP) (zDc hD) hS hA hG (ci := 10) (q0 := 0) rfl rfl rfl) rfl rfl hl.1 rfl (lv_room (Nat.le_of_ble_eq_true rfl)) dL_law_522 ⟨by show _ ≤ 1083; omega, by show _ ≤ 10672; omega⟩) (fun r w1 H locs hq9 hP hD hS => ?_)
    obtain ⟨f2m, l2m, t2m, vm, hm0, hm1, hm2, hm3, rfl, rfl⟩ := hq9
    rw [if_neg (by rw [hx9]; decide)] at hm2
    subst hm2
    rw [if_neg (by rw [hx9]; decide)] at hm3
    subst hm3
    have hP := zPswap hP
    have hD := zDswap hD
    refine lv_istore (lv' := [(6, .int (zI vm)), (5, .int (zI 1)), (0, .ref b), (1, .ref (α 0)), (2, .ref (β 0)), (3, .ref o), (4, .int (zI i))]) hx hb dL_law_525 hl (by decide) rfl (fun ls hl => ?_)
    refine lv_aload_n hx hb dL_law_527 rfl (lv_at hl 4 rfl) ?_
    have hP := zPswap hP
    have hD := zDswap hD
    refine zfw_calli (mc := 0) (ms := 0)  hP hD hS hA (va_runV (As := []) (rest := []) hC (c_X10_thrown l D τ β (gM cI cB) _ _ _ _ _ _ _ _ _ _ _ _ _ _ _ _ _ _) (cwV 0 hts (gV hB wl_L_145 wn_X10_thrown ws_X10_thrown wi_X10 wc_X10_thrown) rfl rfl rfl hd_X10_thrown ⟨Nat.le_of_ble_eq_true rfl, Nat.le_of_ble_eq_true rfl⟩) (zp_V hKm (zPc hP) (zDc hD) hS hA hG (ci := 10) (q0 := 0) rfl rfl rfl) rfl rfl hl.1 rfl (lv_room (Nat.le_of_ble_eq_true rfl)) dL_law_528 ⟨by show _ ≤ 1083; omega, by show _ ≤ 10672; omega⟩) (fun r w1 H locs hq9 hP hD hS => ?_)
    obtain ⟨vt, ht0, rfl, rfl⟩ := hq9
    have hP := zPswap hP
    have hD := zDswap hD
    refine lv_iload hx hb dL_law_531 (lv_at hl 1 rfl) ?_
    have heq_533 : vt = 1 := by rw [ht0, hm0, hx9]
    refine z_iceqE (tgt := 538) hx hb heq_533 dL_law_533 (by decide) ?_
    refine lv_iload hx hb dL_law_538 (lv_at hl 1 rfl) ?_
    refine z_ifne (tgt := 555) hx hb ⟨by omega, by omega⟩ dL_law_540 (by decide) (fun c_540 => ?_) (fun c_540 => absurd c_540 (by decide))
    refine lv_goto (tgt := 2893) hx hb dL_law_555 (by decide) ?_
    refine W.widen (k := cells + 2) (n := slots + 12) (by omega) (by omega) ?_
    exact hk _ _ _ _ _ _ _ _ _ _ _ _ _ _ _ _ _ _ _ _ _ _ _ _ _ _ _ _ _ _ _ H locs ls (hI) hP hD hS (lv_sub hl [2, 3, 4, 5, 6] rfl)
  · skip
    obtain ⟨hx9, rfl, rfl⟩ := hq9
    refine lv_istore (lv' := [(5, .int (zI 2)), (0, .ref b), (1, .ref (α 0)), (2, .ref (β 0)), (3, .ref o), (4, .int (zI i))]) hx hb dL_law_513 hl (by decide) rfl (fun ls hl => ?_)
    refine lv_aload_n hx hb dL_law_515 rfl (lv_at hl 3 rfl) ?_
    refine lv_aload_n hx hb dL_law_516 rfl (lv_at hl 1 rfl) ?_
    refine lv_iload hx hb dL_law_517 (lv_at hl 5 rfl) ?_
    refine lv_iconst (v := zI 1) hx hb dL_law_519 rfl ?_
    refine z_iadd hx hb dL_law_520 ?_
    refine z_sld hx hb hXs hbl hbA hS ⟨⟨by omega, by omega⟩, hL⟩ dL_law_521 ?_
    have hP := zPswap hP
    have hD := zDswap hD
    refine zfw_calli (mc := 0) (ms := 0)  hP hD hS hA (va_runV (As := [.int (zI (xI xs (i + 1)))]) (rest := []) hC (c_X10_append l D τ β (gM cI cB) h sv sl9 tk cd mn mi mc mq mr mw ct9 ln9 mt ma mx mh (xI xs (i + 1)) (xI_b xs _) hln _) (cwV 1 hts (gV hB wl_L_165 wn_X10_append ws_X10_append wi_X10 wc_X10_append) rfl rfl rfl hd_X10_append ⟨Nat.le_of_ble_eq_true rfl, Nat.le_of_ble_eq_true rfl⟩) (zp_V hKm (zPc hP) (zDc hD) hS hA hG (ci := 10) (q0 := 0) rfl rfl rfl) rfl rfl hl.1 rfl (lv_room (Nat.le_of_ble_eq_true rfl)) dL_law_522 ⟨by show _ ≤ 1083; omega, by show _ ≤ 10672; omega⟩) (fun r w1 H locs hq9 hP hD hS => ?_)
    obtain ⟨f2m, l2m, t2m, vm, hm0, hm1, hm2, hm3, rfl, rfl⟩ := hq9
    rw [if_neg (by rw [hx9]; decide)] at hm2
    subst hm2
    rw [if_neg (by rw [hx9]; decide)] at hm3
    subst hm3
    have hP := zPswap hP
    have hD := zDswap hD
    refine lv_istore (lv' := [(6, .int (zI vm)), (5, .int (zI 2)), (0, .ref b), (1, .ref (α 0)), (2, .ref (β 0)), (3, .ref o), (4, .int (zI i))]) hx hb dL_law_525 hl (by decide) rfl (fun ls hl => ?_)
    refine lv_aload_n hx hb dL_law_527 rfl (lv_at hl 4 rfl) ?_
    have hP := zPswap hP
    have hD := zDswap hD
    refine zfw_calli (mc := 0) (ms := 0)  hP hD hS hA (va_runV (As := []) (rest := []) hC (c_X10_thrown l D τ β (gM cI cB) _ _ _ _ _ _ _ _ _ _ _ _ _ _ _ _ _ _) (cwV 0 hts (gV hB wl_L_145 wn_X10_thrown ws_X10_thrown wi_X10 wc_X10_thrown) rfl rfl rfl hd_X10_thrown ⟨Nat.le_of_ble_eq_true rfl, Nat.le_of_ble_eq_true rfl⟩) (zp_V hKm (zPc hP) (zDc hD) hS hA hG (ci := 10) (q0 := 0) rfl rfl rfl) rfl rfl hl.1 rfl (lv_room (Nat.le_of_ble_eq_true rfl)) dL_law_528 ⟨by show _ ≤ 1083; omega, by show _ ≤ 10672; omega⟩) (fun r w1 H locs hq9 hP hD hS => ?_)
    obtain ⟨vt, ht0, rfl, rfl⟩ := hq9
    have hP := zPswap hP
    have hD := zDswap hD
    refine lv_iload hx hb dL_law_531 (lv_at hl 1 rfl) ?_
    have heq_533 : vt = 2 := by rw [ht0, hm0, hx9]
    refine z_iceqE (tgt := 538) hx hb heq_533 dL_law_533 (by decide) ?_
    refine lv_iload hx hb dL_law_538 (lv_at hl 1 rfl) ?_
    refine z_ifne (tgt := 555) hx hb ⟨by omega, by omega⟩ dL_law_540 (by decide) (fun c_540 => ?_) (fun c_540 => absurd c_540 (by decide))
    refine lv_goto (tgt := 2893) hx hb dL_law_555 (by decide) ?_
    refine W.widen (k := cells + 2) (n := slots + 12) (by omega) (by omega) ?_
    exact hk _ _ _ _ _ _ _ _ _ _ _ _ _ _ _ _ _ _ _ _ _ _ _ _ _ _ _ _ _ _ _ H locs ls (hI) hP hD hS (lv_sub hl [2, 3, 4, 5, 6] rfl)
set_option maxHeartbeats 4000000 in
set_option maxRecDepth 100000 in
theorem law_558 {p : Program} {l : Launch} {e : Env} {s : State} {m : MethodId} {below : List Frame} {meth : Method} {c : Code} {Q : State → Prop} {D : va_G} {τ : Nat → Nat} {A : Nat → Prop} {α β : Nat → Nat} {cI cB cL : ClassId} {o b L : Nat} {xs : Nat → Int32} {i : Int} {cells slots : Nat} (hX : LCx p l s m c D τ A cI cB cL b L xs) (hi : 0 ≤ i ∧ i + 6 ≤ L) (hc : cells + 2 ≤ 1083 ∧ slots + 12 ≤ 10672)
    (hk : LSt p l e s m below meth c Q D A α β cI cB cL o b i 2893 (cells + 2) (slots + 12)) : LSt p l e s m below meth c Q D A α β cI cB cL o b i 558 cells slots := by
  obtain ⟨hC, hKm, hKo, hKh, hG, hA, hGX, hst, hXs, hbl, hbA, hL⟩ := hX
  intro h old ch rg ln sl pd ct sg cd ln9 pl le ro co nu sv sl9 tk ct9 mn mi mc mq mr mw mt ma mx mh fo H locs ls hI hP hD hS hl
  obtain ⟨rg0, rg1⟩ := rg
  obtain ⟨ln_0, ln_1, ln_2, ln_3, ln_4, ln_5, ln_6, ln_7, ln_8, ln_9⟩ := ln
  obtain ⟨sl_0, sl_1, sl_2⟩ := sl
  obtain ⟨pd0, pd1⟩ := pd
  obtain ⟨ct_0, ct_1⟩ := ct
  have hx := hC.1
  have hb := hC.2.1
  have hml := hC.2.2.1
  have hts := hC.2.2.2.2
  have hB : ∀ w ∈ W0, w ∈ W0 := fun _ h => h
  have hh := hI.1
  have hct := hI.2.2.2.1
  have hln := hI.2.2.2.2.1
  have hmf := hI.2.2.2.2.2.1
  have hov := hI.2.2.2.2.2.2
  have hcd : ∀ k, 0 ≤ k → k < ln9 → 0 ≤ cd k ∧ cd k ≤ 126 := fun k a b => by have z := hmf k a b; omega
  have hP : va_P D vwCl ((wM β (gM cI cB) h sv sl9 tk cd mn mi mc mq mr mw ct9 ln9 mt ma mx mh) ++ (oC cL o fo ++ (wH α (gH cI cB) (h, old, ch) (rg0, rg1) (ln_0, ln_1, ln_2, ln_3, ln_4, ln_5, ln_6, ln_7, ln_8, ln_9) (sl_0, sl_1, sl_2) (pd0, pd1) (ct_0, ct_1) sg (cd, ln9, pl, le, ro, co, nu) (sv, sl9, tk, ct9)))) H := hP
  have hD : va_D A ((wM β (gM cI cB) h sv sl9 tk cd mn mi mc mq mr mw ct9 ln9 mt ma mx mh) ++ (oC cL o fo ++ (wH α (gH cI cB) (h, old, ch) (rg0, rg1) (ln_0, ln_1, ln_2, ln_3, ln_4, ln_5, ln_6, ln_7, ln_8, ln_9) (sl_0, sl_1, sl_2) (pd0, pd1) (ct_0, ct_1) sg (cd, ln9, pl, le, ro, co, nu) (sv, sl9, tk, ct9)))) := hD
  refine lv_aload_n hx hb dL_law_558 rfl (lv_at hl 1 rfl) ?_
  have hP : va_P D vwCl (((wM β (gM cI cB) h sv sl9 tk cd mn mi mc mq mr mw ct9 ln9 mt ma mx mh) ++ oC cL o fo) ++ (wH α (gH cI cB) (h, old, ch) (rg0, rg1) (ln_0, ln_1, ln_2, ln_3, ln_4, ln_5, ln_6, ln_7, ln_8, ln_9) (sl_0, sl_1, sl_2) (pd0, pd1) (ct_0, ct_1) sg (cd, ln9, pl, le, ro, co, nu) (sv, sl9, tk, ct9))) H := by rw [List.append_assoc]; exact hP
  have hD : va_D A (((wM β (gM cI cB) h sv sl9 tk cd mn mi mc mq mr mw ct9 ln9 mt ma mx mh) ++ oC cL o fo) ++ (wH α (gH cI cB) (h, old, ch) (rg0, rg1) (ln_0, ln_1, ln_2, ln_3, ln_4, ln_5, ln_6, ln_7, ln_8, ln_9) (sl_0, sl_1, sl_2) (pd0, pd1) (ct_0, ct_1) sg (cd, ln9, pl, le, ro, co, nu) (sv, sl9, tk, ct9))) := by rw [List.append_assoc]; exact hD
  refine zfw_calli (mc := 0) (ms := 0) (wr := (wM β (gM cI cB) h sv sl9 tk cd mn mi mc mq mr mw ct9 ln9 mt ma mx mh) ++ oC cL o fo) (wc := (wH α (gH cI cB) (h, old, ch) (rg0, rg1) (ln_0, ln_1, ln_2, ln_3, ln_4, ln_5, ln_6, ln_7, ln_8, ln_9) (sl_0, sl_1, sl_2) (pd0, pd1) (ct_0, ct_1) sg (cd, ln9, pl, le, ro, co, nu) (sv, sl9, tk, ct9))) hP hD hS hA (va_runV (As := []) (rest := []) hC (c_X9_clearBuffer l D τ α (gH cI cB) (h, old, ch) (rg0, rg1) (ln_0, ln_1, ln_2, ln_3, ln_4, ln_5, ln_6, ln_7, ln_8, ln_9) (sl_0, sl_1, sl_2) (pd0, pd1) (ct_0, ct_1) sg cd ln9 pl le ro co nu (sv, sl9, tk, ct9) _) (cwV 0 hts (gV hB wl_L_166 wn_X9_clearBuffer ws_X9_clearBuffer wi_X9 wc_X9_clearBuffer) rfl rfl rfl hd_X9_clearBuffer ⟨Nat.le_of_ble_eq_true rfl, Nat.le_of_ble_eq_true rfl⟩) (zp_V hKh (zPc hP) (zDc hD) hS hA hG (ci := 9) (q0 := 0) rfl rfl rfl) rfl rfl hl.1 rfl (lv_room (Nat.le_of_ble_eq_true rfl)) dL_law_559 ⟨by show _ ≤ 1083; omega, by show _ ≤ 10672; omega⟩) (fun r w1 H locs hq9 hP hD hS => ?_)
  obtain ⟨vc, hf0, rfl, rfl⟩ := hq9
  rw [List.append_assoc] at hP hD
  refine lv_aload_n hx hb dL_law_562 rfl (lv_at hl 2 rfl) ?_
  have hP := zPswap hP
  have hD := zDswap hD
  refine zfw_calli (mc := 0) (ms := 0)  hP hD hS hA (va_runV (As := []) (rest := [.int (zI vc)]) hC (c_X10_clearBuffer l D τ β (gM cI cB) h sv sl9 tk cd mn mi mc mq mr mw ct9 ln9 mt ma mx mh _) (cwV 0 hts (gV hB wl_L_169 wn_X10_clearBuffer ws_X10_clearBuffer wi_X10 wc_X10_clearBuffer) rfl rfl rfl hd_X10_clearBuffer ⟨Nat.le_of_ble_eq_true rfl, Nat.le_of_ble_eq_true rfl⟩) (zp_V hKm (zPc hP) (zDc hD) hS hA hG (ci := 10) (q0 := 0) rfl rfl rfl) rfl rfl hl.1 rfl (lv_room (Nat.le_of_ble_eq_true rfl)) dL_law_563 ⟨by show _ ≤ 1083; omega, by show _ ≤ 10672; omega⟩) (fun r w1 H locs hq9 hP hD hS => ?_)
  obtain ⟨vm, hm0, rfl, rfl⟩ := hq9
  have hP := zPswap hP
  have hD := zDswap hD
  have heq_566 : vc = vm := by rw [hf0, hm0]
  refine z_iceqE (tgt := 2893) hx hb heq_566 dL_law_566 (by decide) ?_
  refine W.widen (k := cells + 2) (n := slots + 12) (by omega) (by omega) ?_
  exact hk _ _ _ _ _ _ _ _ _ _ _ _ _ _ _ _ _ _ _ _ _ _ _ _ _ _ _ _ _ _ _ H locs ls (LIz0 hI) hP hD hS (lv_sub hl [0, 1, 2, 3, 4] rfl)
set_option maxHeartbeats 4000000 in
set_option maxRecDepth 100000 in
theorem law_571 {p : Program} {l : Launch} {e : Env} {s : State} {m : MethodId} {below : List Frame} {meth : Method} {c : Code} {Q : State → Prop} {D : va_G} {τ : Nat → Nat} {A : Nat → Prop} {α β : Nat → Nat} {cI cB cL : ClassId} {o b L : Nat} {xs : Nat → Int32} {i : Int} {cells slots : Nat} (hX : LCx p l s m c D τ A cI cB cL b L xs) (hi : 0 ≤ i ∧ i + 6 ≤ L) (hc : cells + 2 ≤ 1083 ∧ slots + 12 ≤ 10672)
    (hk : LSt p l e s m below meth c Q D A α β cI cB cL o b i 2893 (cells + 2) (slots + 12)) : LSt p l e s m below meth c Q D A α β cI cB cL o b i 571 cells slots := by
  obtain ⟨hC, hKm, hKo, hKh, hG, hA, hGX, hst, hXs, hbl, hbA, hL⟩ := hX
  intro h old ch rg ln sl pd ct sg cd ln9 pl le ro co nu sv sl9 tk ct9 mn mi mc mq mr mw mt ma mx mh fo H locs ls hI hP hD hS hl
  obtain ⟨rg0, rg1⟩ := rg
  obtain ⟨ln_0, ln_1, ln_2, ln_3, ln_4, ln_5, ln_6, ln_7, ln_8, ln_9⟩ := ln
  obtain ⟨sl_0, sl_1, sl_2⟩ := sl
  obtain ⟨pd0, pd1⟩ := pd
  obtain ⟨ct_0, ct_1⟩ := ct
  have hx := hC.1
  have hb := hC.2.1
  have hml := hC.2.2.1
  have hts := hC.2.2.2.2
  have hB : ∀ w ∈ W0, w ∈ W0 := fun _ h => h
  have hh := hI.1
  have hct := hI.2.2.2.1
  have hln := hI.2.2.2.2.1
  have hmf := hI.2.2.2.2.2.1
  have hov := hI.2.2.2.2.2.2
  have hcd : ∀ k, 0 ≤ k → k < ln9 → 0 ≤ cd k ∧ cd k ≤ 126 := fun k a b => by have z := hmf k a b; omega
  have hP : va_P D vwCl ((wM β (gM cI cB) h sv sl9 tk cd mn mi mc mq mr mw ct9 ln9 mt ma mx mh) ++ (oC cL o fo ++ (wH α (gH cI cB) (h, old, ch) (rg0, rg1) (ln_0, ln_1, ln_2, ln_3, ln_4, ln_5, ln_6, ln_7, ln_8, ln_9) (sl_0, sl_1, sl_2) (pd0, pd1) (ct_0, ct_1) sg (cd, ln9, pl, le, ro, co, nu) (sv, sl9, tk, ct9)))) H := hP
  have hD : va_D A ((wM β (gM cI cB) h sv sl9 tk cd mn mi mc mq mr mw ct9 ln9 mt ma mx mh) ++ (oC cL o fo ++ (wH α (gH cI cB) (h, old, ch) (rg0, rg1) (ln_0, ln_1, ln_2, ln_3, ln_4, ln_5, ln_6, ln_7, ln_8, ln_9) (sl_0, sl_1, sl_2) (pd0, pd1) (ct_0, ct_1) sg (cd, ln9, pl, le, ro, co, nu) (sv, sl9, tk, ct9)))) := hD
  refine lv_aload_n hx hb dL_law_571 rfl (lv_at hl 1 rfl) ?_
  have hP : va_P D vwCl (((wM β (gM cI cB) h sv sl9 tk cd mn mi mc mq mr mw ct9 ln9 mt ma mx mh) ++ oC cL o fo) ++ (wH α (gH cI cB) (h, old, ch) (rg0, rg1) (ln_0, ln_1, ln_2, ln_3, ln_4, ln_5, ln_6, ln_7, ln_8, ln_9) (sl_0, sl_1, sl_2) (pd0, pd1) (ct_0, ct_1) sg (cd, ln9, pl, le, ro, co, nu) (sv, sl9, tk, ct9))) H := by rw [List.append_assoc]; exact hP
  have hD : va_D A (((wM β (gM cI cB) h sv sl9 tk cd mn mi mc mq mr mw ct9 ln9 mt ma mx mh) ++ oC cL o fo) ++ (wH α (gH cI cB) (h, old, ch) (rg0, rg1) (ln_0, ln_1, ln_2, ln_3, ln_4, ln_5, ln_6, ln_7, ln_8, ln_9) (sl_0, sl_1, sl_2) (pd0, pd1) (ct_0, ct_1) sg (cd, ln9, pl, le, ro, co, nu) (sv, sl9, tk, ct9))) := by rw [List.append_assoc]; exact hD
  refine zfw_calli (mc := 0) (ms := 0) (wr := (wM β (gM cI cB) h sv sl9 tk cd mn mi mc mq mr mw ct9 ln9 mt ma mx mh) ++ oC cL o fo) (wc := (wH α (gH cI cB) (h, old, ch) (rg0, rg1) (ln_0, ln_1, ln_2, ln_3, ln_4, ln_5, ln_6, ln_7, ln_8, ln_9) (sl_0, sl_1, sl_2) (pd0, pd1) (ct_0, ct_1) sg (cd, ln9, pl, le, ro, co, nu) (sv, sl9, tk, ct9))) hP hD hS hA (va_runV (As := []) (rest := []) hC (c_X9_firstError l D τ α (gH cI cB) (h, old, ch) (rg0, rg1) (ln_0, ln_1, ln_2, ln_3, ln_4, ln_5, ln_6, ln_7, ln_8, ln_9) (sl_0, sl_1, sl_2) (pd0, pd1) (ct_0, ct_1) sg cd ln9 pl le ro co nu (sv, sl9, tk, ct9) hln hcd hov _) (cwV 0 hts (gV hB wl_L_170 wn_X9_firstError ws_X9_firstError wi_X9 wc_X9_firstError) rfl rfl rfl hd_X9_firstError ⟨Nat.le_of_ble_eq_true rfl, Nat.le_of_ble_eq_true rfl⟩) (zp_V hKh (zPc hP) (zDc hD) hS hA hG (ci := 9) (q0 := 0) rfl rfl rfl) rfl rfl hl.1 rfl (lv_room (Nat.le_of_ble_eq_true rfl)) dL_law_572 ⟨by show _ ≤ 1083; omega, by show _ ≤ 10672; omega⟩) (fun r w1 H locs hq9 hP hD hS => ?_)
  obtain ⟨p2c, l2c, r2c, c2c, n2c, vc, hf0, hf1, hf2, rfl, rfl⟩ := hq9
  rw [List.append_assoc] at hP hD
  refine lv_aload_n hx hb dL_law_575 rfl (lv_at hl 2 rfl) ?_
  have hP := zPswap hP
  have hD := zDswap hD
  refine zfw_calli (mc := 0) (ms := 0)  hP hD hS hA (va_runV (As := []) (rest := [.int (zI vc)]) hC (c_X10_firstError l D τ β (gM cI cB) h sv sl9 tk cd mn mi mc mq mr mw ct9 ln9 mt ma mx mh hh hln hmf _) (cwV 0 hts (gV hB wl_L_173 wn_X10_firstError ws_X10_firstError wi_X10 wc_X10_firstError) rfl rfl rfl hd_X10_firstError ⟨Nat.le_of_ble_eq_true rfl, Nat.le_of_ble_eq_true rfl⟩) (zp_V hKm (zPc hP) (zDc hD) hS hA hG (ci := 10) (q0 := 0) rfl rfl rfl) rfl rfl hl.1 rfl (lv_room (Nat.le_of_ble_eq_true rfl)) dL_law_576 ⟨by show _ ≤ 1083; omega, by show _ ≤ 10672; omega⟩) (fun r w1 H locs hq9 hP hD hS => ?_)
  obtain ⟨s2m, n2m, a2m, x2m, vm, hm0, hm1, hm2, rfl, rfl⟩ := hq9
  subst hm0
  have hP := zPswap hP
  have hD := zDswap hD
  have heq_579 : vc = vm := by rw [hf0, hm1]
  refine z_iceqE (tgt := 2893) hx hb heq_579 dL_law_579 (by decide) ?_
  refine W.widen (k := cells + 2) (n := slots + 12) (by omega) (by omega) ?_
  exact hk _ _ _ _ _ _ _ _ _ _ _ _ _ _ _ _ _ _ _ _ _ _ _ _ _ _ _ _ _ _ _ H locs ls (LI_o hI hf2) hP hD hS (lv_sub hl [0, 1, 2, 3, 4] rfl)
set_option maxHeartbeats 4000000 in
set_option maxRecDepth 100000 in
theorem law_584 {p : Program} {l : Launch} {e : Env} {s : State} {m : MethodId} {below : List Frame} {meth : Method} {c : Code} {Q : State → Prop} {D : va_G} {τ : Nat → Nat} {A : Nat → Prop} {α β : Nat → Nat} {cI cB cL : ClassId} {o b L : Nat} {xs : Nat → Int32} {i : Int} {cells slots : Nat} (hX : LCx p l s m c D τ A cI cB cL b L xs) (hi : 0 ≤ i ∧ i + 6 ≤ L) (hc : cells + 2 ≤ 1083 ∧ slots + 12 ≤ 10672)
    (hk : LSt p l e s m below meth c Q D A α β cI cB cL o b i 2893 (cells + 2) (slots + 12)) : LSt p l e s m below meth c Q D A α β cI cB cL o b i 584 cells slots := by
  obtain ⟨hC, hKm, hKo, hKh, hG, hA, hGX, hst, hXs, hbl, hbA, hL⟩ := hX
  intro h old ch rg ln sl pd ct sg cd ln9 pl le ro co nu sv sl9 tk ct9 mn mi mc mq mr mw mt ma mx mh fo H locs ls hI hP hD hS hl
  obtain ⟨rg0, rg1⟩ := rg
  obtain ⟨ln_0, ln_1, ln_2, ln_3, ln_4, ln_5, ln_6, ln_7, ln_8, ln_9⟩ := ln
  obtain ⟨sl_0, sl_1, sl_2⟩ := sl
  obtain ⟨pd0, pd1⟩ := pd
  obtain ⟨ct_0, ct_1⟩ := ct
  have hx := hC.1
  have hb := hC.2.1
  have hml := hC.2.2.1
  have hts := hC.2.2.2.2
  have hB : ∀ w ∈ W0, w ∈ W0 := fun _ h => h
  have hh := hI.1
  have hct := hI.2.2.2.1
  have hln := hI.2.2.2.2.1
  have hmf := hI.2.2.2.2.2.1
  have hov := hI.2.2.2.2.2.2
  have hcd : ∀ k, 0 ≤ k → k < ln9 → 0 ≤ cd k ∧ cd k ≤ 126 := fun k a b => by have z := hmf k a b; omega
  have hP : va_P D vwCl ((wM β (gM cI cB) h sv sl9 tk cd mn mi mc mq mr mw ct9 ln9 mt ma mx mh) ++ (oC cL o fo ++ (wH α (gH cI cB) (h, old, ch) (rg0, rg1) (ln_0, ln_1, ln_2, ln_3, ln_4, ln_5, ln_6, ln_7, ln_8, ln_9) (sl_0, sl_1, sl_2) (pd0, pd1) (ct_0, ct_1) sg (cd, ln9, pl, le, ro, co, nu) (sv, sl9, tk, ct9)))) H := hP
  have hD : va_D A ((wM β (gM cI cB) h sv sl9 tk cd mn mi mc mq mr mw ct9 ln9 mt ma mx mh) ++ (oC cL o fo ++ (wH α (gH cI cB) (h, old, ch) (rg0, rg1) (ln_0, ln_1, ln_2, ln_3, ln_4, ln_5, ln_6, ln_7, ln_8, ln_9) (sl_0, sl_1, sl_2) (pd0, pd1) (ct_0, ct_1) sg (cd, ln9, pl, le, ro, co, nu) (sv, sl9, tk, ct9)))) := hD
  refine lv_aload_n hx hb dL_law_584 rfl (lv_at hl 1 rfl) ?_
  refine lv_aload_n hx hb dL_law_585 rfl (lv_at hl 3 rfl) ?_
  refine zfw_calli (mc := 1) (ms := 6) (wr := (wM β (gM cI cB) h sv sl9 tk cd mn mi mc mq mr mw ct9 ln9 mt ma mx mh)) (wc := oC cL o fo ++ (wH α (gH cI cB) (h, old, ch) (rg0, rg1) (ln_0, ln_1, ln_2, ln_3, ln_4, ln_5, ln_6, ln_7, ln_8, ln_9) (sl_0, sl_1, sl_2) (pd0, pd1) (ct_0, ct_1) sg (cd, ln9, pl, le, ro, co, nu) (sv, sl9, tk, ct9))) hP hD hS hA (vx_runSW (As := [.ref (α 0), .ref o]) (rest := []) hC (c_L_draw l D τ α (gH cI cB) h old ch (rg0, rg1) (ln_0, ln_1, ln_2, ln_3, ln_4, ln_5, ln_6, ln_7, ln_8, ln_9) (sl_0, sl_1, sl_2) (pd0, pd1) (ct_0, ct_1) sg cd ln9 pl le ro co nu sv sl9 tk ct9 hh hct hln hcd hov hst cL o fo _) (vx_cwSW 2 hts (gSW hB wl_L_174 wt_L_draw wi_L wc_L_draw) rfl rfl rfl hd_L_draw.2 ⟨Nat.le_of_ble_eq_true rfl, Nat.le_of_ble_eq_true rfl⟩) (zpX_S hKo (zPc hP) (zDc hD) hS hA hG hGX) rfl rfl hl.1 rfl (lv_room (Nat.le_of_ble_eq_true rfl)) dL_law_586 ⟨by show _ ≤ 1083; omega, by show _ ≤ 10672; omega⟩) (fun r w1 H locs hq9 hP hD hS => ?_)
  rcases hq9 with hq9 | hq9
  · skip
    obtain ⟨p2c, l2c, r2c, c2c, n2c, h2c, o2c, s2c, k2c, vc, go, hf0, hf1, hf2, hf3, hf4, hf5, hf6, hgo, rfl, rfl⟩ := hq9
    subst hf2
    subst hf3
    have hfp := Prod.ext_iff.mp hf1
    have hfa := hfp.1
    dsimp only at hfa
    subst hfa
    refine lv_istore (lv' := [(5, .int (zI 0)), (0, .ref b), (1, .ref (α 0)), (2, .ref (β 0)), (3, .ref o), (4, .int (zI i))]) hx hb dL_law_589 hl (by decide) rfl (fun ls hl => ?_)
    refine lv_aload_n hx hb dL_law_591 rfl (lv_at hl 3 rfl) ?_
    have hP := zPswap hP
    have hD := zDswap hD
    refine zfw_calli (mc := 0) (ms := 0)  hP hD hS hA (va_runV (As := []) (rest := []) hC (c_X10_draw l D τ β (gM cI cB) h sv sl9 tk cd mn mi mc mq mr mw ct9 ln9 mt ma mx mh hh hln hmf hct _) (cwV 0 hts (gV hB wl_L_177 wn_X10_draw ws_X10_draw wi_X10 wc_X10_draw) rfl rfl rfl hd_X10_draw ⟨Nat.le_of_ble_eq_true rfl, Nat.le_of_ble_eq_true rfl⟩) (zp_V hKm (zPc hP) (zDc hD) hS hA hG (ci := 10) (q0 := 0) rfl rfl rfl) rfl rfl hl.1 rfl (lv_room (Nat.le_of_ble_eq_true rfl)) dL_law_592 ⟨by show _ ≤ 1083; omega, by show _ ≤ 10672; omega⟩) (fun r w1 H locs hq9 hP hD hS => ?_)
    obtain ⟨s2m, n2m, b2m, k2m, a2m, x2m, l2m, t2m, vm, hm0, hm1, hm2, hm3, hm4, hm5, hm6, rfl, rfl⟩ := hq9
    rw [if_pos hf0] at hm2
    subst hm2
    rw [if_pos hf0] at hm3
    subst hm3
    rw [if_pos hf0] at hm4
    subst hm4
    rw [if_pos hf0] at hm5
    subst hm5
    have hP := zPswap hP
    have hD := zDswap hD
    refine lv_istore (lv' := [(6, .int (zI vm)), (5, .int (zI 0)), (0, .ref b), (1, .ref (α 0)), (2, .ref (β 0)), (3, .ref o), (4, .int (zI i))]) hx hb dL_law_595 hl (by decide) rfl (fun ls hl => ?_)
    refine lv_aload_n hx hb dL_law_597 rfl (lv_at hl 4 rfl) ?_
    have hP := zPswap hP
    have hD := zDswap hD
    refine zfw_calli (mc := 0) (ms := 0)  hP hD hS hA (va_runV (As := []) (rest := []) hC (c_X10_thrown l D τ β (gM cI cB) _ _ _ _ _ _ _ _ _ _ _ _ _ _ _ _ _ _) (cwV 0 hts (gV hB wl_L_145 wn_X10_thrown ws_X10_thrown wi_X10 wc_X10_thrown) rfl rfl rfl hd_X10_thrown ⟨Nat.le_of_ble_eq_true rfl, Nat.le_of_ble_eq_true rfl⟩) (zp_V hKm (zPc hP) (zDc hD) hS hA hG (ci := 10) (q0 := 0) rfl rfl rfl) rfl rfl hl.1 rfl (lv_room (Nat.le_of_ble_eq_true rfl)) dL_law_598 ⟨by show _ ≤ 1083; omega, by show _ ≤ 10672; omega⟩) (fun r w1 H locs hq9 hP hD hS => ?_)
    obtain ⟨vt, ht0, rfl, rfl⟩ := hq9
    have hP := zPswap hP
    have hD := zDswap hD
    refine lv_iload hx hb dL_law_601 (lv_at hl 1 rfl) ?_
    have heq_603 : vt = 0 := by rw [ht0, hm0, hf0]
    refine z_iceqE (tgt := 608) hx hb heq_603 dL_law_603 (by decide) ?_
    refine lv_iload hx hb dL_law_608 (lv_at hl 1 rfl) ?_
    refine z_ifne (tgt := 625) hx hb ⟨by omega, by omega⟩ dL_law_610 (by decide) (fun c_610 => absurd rfl c_610) (fun c_610 => ?_)
    refine lv_aload_n hx hb dL_law_613 rfl (lv_at hl 5 rfl) ?_
    refine lv_iconst (v := zI 0) hx hb dL_law_614 rfl ?_
    refine zo_lald hx hb hKo (zPc hP) dL_law_615 ?_
    refine lv_iload hx hb dL_law_616 (lv_at hl 0 rfl) ?_
    refine lv_i2l (v := (zI vm).toInt64) hx hb dL_law_618 rfl ?_
    refine z_lcmpE hx hb (by rw [hgo, show vc = (O_draw cd ln9 0 OS0 h 0).2 from hfp.2, show vm = (O_draw cd ln9 0 OS0 h 0).2 from (Prod.ext_iff.mp (hm1 (hm0.trans hf0))).2]) dL_law_619 ?_
    refine z_ifeq (tgt := 625) hx hb ⟨by omega, by omega⟩ dL_law_620 (by decide) (fun c_620 => ?_) (fun c_620 => absurd rfl c_620)
    refine lv_goto (tgt := 2893) hx hb dL_law_625 (by decide) ?_
    refine W.widen (k := cells + 2) (n := slots + 12) (by omega) (by omega) ?_
    exact hk _ _ _ _ _ _ _ _ _ _ _ _ _ _ _ _ _ _ _ _ _ _ _ _ _ _ _ _ _ _ _ H locs ls (LIz0 (LI_o (LI_h hI hf5) hf4)) hP hD hS (lv_sub hl [2, 3, 4, 5, 6] rfl)
  · skip
    obtain ⟨p2c, l2c, r2c, c2c, n2c, hx9, rfl, rfl⟩ := hq9
    refine lv_istore (lv' := [(5, .int (zI 1)), (0, .ref b), (1, .ref (α 0)), (2, .ref (β 0)), (3, .ref o), (4, .int (zI i))]) hx hb dL_law_589 hl (by decide) rfl (fun ls hl => ?_)
    refine lv_aload_n hx hb dL_law_591 rfl (lv_at hl 3 rfl) ?_
    have hP := zPswap hP
    have hD := zDswap hD
    refine zfw_calli (mc := 0) (ms := 0)  hP hD hS hA (va_runV (As := []) (rest := []) hC (c_X10_draw l D τ β (gM cI cB) h sv sl9 tk cd mn mi mc mq mr mw ct9 ln9 mt ma mx mh hh hln hmf hct _) (cwV 0 hts (gV hB wl_L_177 wn_X10_draw ws_X10_draw wi_X10 wc_X10_draw) rfl rfl rfl hd_X10_draw ⟨Nat.le_of_ble_eq_true rfl, Nat.le_of_ble_eq_true rfl⟩) (zp_V hKm (zPc hP) (zDc hD) hS hA hG (ci := 10) (q0 := 0) rfl rfl rfl) rfl rfl hl.1 rfl (lv_room (Nat.le_of_ble_eq_true rfl)) dL_law_592 ⟨by show _ ≤ 1083; omega, by show _ ≤ 10672; omega⟩) (fun r w1 H locs hq9 hP hD hS => ?_)
    obtain ⟨s2m, n2m, b2m, k2m, a2m, x2m, l2m, t2m, vm, hm0, hm1, hm2, hm3, hm4, hm5, hm6, rfl, rfl⟩ := hq9
    rw [if_neg (by rw [hx9.1]; decide)] at hm2
    subst hm2
    rw [if_neg (by rw [hx9.1]; decide)] at hm3
    subst hm3
    rw [if_neg (by rw [hx9.1]; decide)] at hm4
    subst hm4
    rw [if_neg (by rw [hx9.1]; decide)] at hm5
    subst hm5
    have hP := zPswap hP
    have hD := zDswap hD
    refine lv_istore (lv' := [(6, .int (zI vm)), (5, .int (zI 1)), (0, .ref b), (1, .ref (α 0)), (2, .ref (β 0)), (3, .ref o), (4, .int (zI i))]) hx hb dL_law_595 hl (by decide) rfl (fun ls hl => ?_)
    refine lv_aload_n hx hb dL_law_597 rfl (lv_at hl 4 rfl) ?_
    have hP := zPswap hP
    have hD := zDswap hD
    refine zfw_calli (mc := 0) (ms := 0)  hP hD hS hA (va_runV (As := []) (rest := []) hC (c_X10_thrown l D τ β (gM cI cB) _ _ _ _ _ _ _ _ _ _ _ _ _ _ _ _ _ _) (cwV 0 hts (gV hB wl_L_145 wn_X10_thrown ws_X10_thrown wi_X10 wc_X10_thrown) rfl rfl rfl hd_X10_thrown ⟨Nat.le_of_ble_eq_true rfl, Nat.le_of_ble_eq_true rfl⟩) (zp_V hKm (zPc hP) (zDc hD) hS hA hG (ci := 10) (q0 := 0) rfl rfl rfl) rfl rfl hl.1 rfl (lv_room (Nat.le_of_ble_eq_true rfl)) dL_law_598 ⟨by show _ ≤ 1083; omega, by show _ ≤ 10672; omega⟩) (fun r w1 H locs hq9 hP hD hS => ?_)
    obtain ⟨vt, ht0, rfl, rfl⟩ := hq9
    have hP := zPswap hP
    have hD := zDswap hD
    refine lv_iload hx hb dL_law_601 (lv_at hl 1 rfl) ?_
    have heq_603 : vt = 1 := by rw [ht0, hm0, hx9.1]
    refine z_iceqE (tgt := 608) hx hb heq_603 dL_law_603 (by decide) ?_
    refine lv_iload hx hb dL_law_608 (lv_at hl 1 rfl) ?_
    refine z_ifne (tgt := 625) hx hb ⟨by omega, by omega⟩ dL_law_610 (by decide) (fun c_610 => ?_) (fun c_610 => absurd c_610 (by decide))
    refine lv_goto (tgt := 2893) hx hb dL_law_625 (by decide) ?_
    refine W.widen (k := cells + 2) (n := slots + 12) (by omega) (by omega) ?_
    exact hk _ _ _ _ _ _ _ _ _ _ _ _ _ _ _ _ _ _ _ _ _ _ _ _ _ _ _ _ _ _ _ H locs ls (LI_o hI hx9.2) hP hD hS (lv_sub hl [2, 3, 4, 5, 6] rfl)
set_option maxHeartbeats 4000000 in
set_option maxRecDepth 100000 in
theorem law_628 {p : Program} {l : Launch} {e : Env} {s : State} {m : MethodId} {below : List Frame} {meth : Method} {c : Code} {Q : State → Prop} {D : va_G} {τ : Nat → Nat} {A : Nat → Prop} {α β : Nat → Nat} {cI cB cL : ClassId} {o b L : Nat} {xs : Nat → Int32} {i : Int} {cells slots : Nat} (hX : LCx p l s m c D τ A cI cB cL b L xs) (hi : 0 ≤ i ∧ i + 6 ≤ L) (hc : cells + 2 ≤ 1083 ∧ slots + 12 ≤ 10672)
    (hk : LSt p l e s m below meth c Q D A α β cI cB cL o b i 2893 (cells + 2) (slots + 12)) : LSt p l e s m below meth c Q D A α β cI cB cL o b i 628 cells slots := by
  obtain ⟨hC, hKm, hKo, hKh, hG, hA, hGX, hst, hXs, hbl, hbA, hL⟩ := hX
  intro h old ch rg ln sl pd ct sg cd ln9 pl le ro co nu sv sl9 tk ct9 mn mi mc mq mr mw mt ma mx mh fo H locs ls hI hP hD hS hl
  obtain ⟨rg0, rg1⟩ := rg
  obtain ⟨ln_0, ln_1, ln_2, ln_3, ln_4, ln_5, ln_6, ln_7, ln_8, ln_9⟩ := ln
  obtain ⟨sl_0, sl_1, sl_2⟩ := sl
  obtain ⟨pd0, pd1⟩ := pd
  obtain ⟨ct_0, ct_1⟩ := ct
  have hx := hC.1
  have hb := hC.2.1
  have hml := hC.2.2.1
  have hts := hC.2.2.2.2
  have hB : ∀ w ∈ W0, w ∈ W0 := fun _ h => h
  have hh := hI.1
  have hct := hI.2.2.2.1
  have hln := hI.2.2.2.2.1
  have hmf := hI.2.2.2.2.2.1
  have hov := hI.2.2.2.2.2.2
  have hcd : ∀ k, 0 ≤ k → k < ln9 → 0 ≤ cd k ∧ cd k ≤ 126 := fun k a b => by have z := hmf k a b; omega
  have hP : va_P D vwCl ((wM β (gM cI cB) h sv sl9 tk cd mn mi mc mq mr mw ct9 ln9 mt ma mx mh) ++ (oC cL o fo ++ (wH α (gH cI cB) (h, old, ch) (rg0, rg1) (ln_0, ln_1, ln_2, ln_3, ln_4, ln_5, ln_6, ln_7, ln_8, ln_9) (sl_0, sl_1, sl_2) (pd0, pd1) (ct_0, ct_1) sg (cd, ln9, pl, le, ro, co, nu) (sv, sl9, tk, ct9)))) H := hP
  have hD : va_D A ((wM β (gM cI cB) h sv sl9 tk cd mn mi mc mq mr mw ct9 ln9 mt ma mx mh) ++ (oC cL o fo ++ (wH α (gH cI cB) (h, old, ch) (rg0, rg1) (ln_0, ln_1, ln_2, ln_3, ln_4, ln_5, ln_6, ln_7, ln_8, ln_9) (sl_0, sl_1, sl_2) (pd0, pd1) (ct_0, ct_1) sg (cd, ln9, pl, le, ro, co, nu) (sv, sl9, tk, ct9)))) := hD
  refine lv_aload_n hx hb dL_law_628 rfl (lv_at hl 1 rfl) ?_
  refine lv_aload_n hx hb dL_law_629 rfl (lv_at hl 0 rfl) ?_
  refine lv_iload hx hb dL_law_630 (lv_at hl 4 rfl) ?_
  refine lv_iconst (v := zI 1) hx hb dL_law_632 rfl ?_
  refine z_iadd hx hb dL_law_633 ?_
  refine z_sld hx hb hXs hbl hbA hS ⟨⟨by omega, by omega⟩, hL⟩ dL_law_634 ?_
  have hP : va_P D vwCl (((wM β (gM cI cB) h sv sl9 tk cd mn mi mc mq mr mw ct9 ln9 mt ma mx mh) ++ oC cL o fo) ++ (wH α (gH cI cB) (h, old, ch) (rg0, rg1) (ln_0, ln_1, ln_2, ln_3, ln_4, ln_5, ln_6, ln_7, ln_8, ln_9) (sl_0, sl_1, sl_2) (pd0, pd1) (ct_0, ct_1) sg (cd, ln9, pl, le, ro, co, nu) (sv, sl9, tk, ct9))) H := by rw [List.append_assoc]; exact hP
  have hD : va_D A (((wM β (gM cI cB) h sv sl9 tk cd mn mi mc mq mr mw ct9 ln9 mt ma mx mh) ++ oC cL o fo) ++ (wH α (gH cI cB) (h, old, ch) (rg0, rg1) (ln_0, ln_1, ln_2, ln_3, ln_4, ln_5, ln_6, ln_7, ln_8, ln_9) (sl_0, sl_1, sl_2) (pd0, pd1) (ct_0, ct_1) sg (cd, ln9, pl, le, ro, co, nu) (sv, sl9, tk, ct9))) := by rw [List.append_assoc]; exact hD
  refine zfw_calli (mc := 1) (ms := 6) (wr := (wM β (gM cI cB) h sv sl9 tk cd mn mi mc mq mr mw ct9 ln9 mt ma mx mh) ++ oC cL o fo) (wc := (wH α (gH cI cB) (h, old, ch) (rg0, rg1) (ln_0, ln_1, ln_2, ln_3, ln_4, ln_5, ln_6, ln_7, ln_8, ln_9) (sl_0, sl_1, sl_2) (pd0, pd1) (ct_0, ct_1) sg (cd, ln9, pl, le, ro, co, nu) (sv, sl9, tk, ct9))) hP hD hS hA (vx_runSW (As := [.ref (α 0), .int (zI (xI xs (i + 1)))]) (rest := []) hC (c_L_keep l D τ α (gH cI cB) h old ch (rg0, rg1) (ln_0, ln_1, ln_2, ln_3, ln_4, ln_5, ln_6, ln_7, ln_8, ln_9) (sl_0, sl_1, sl_2) (pd0, pd1) (ct_0, ct_1) sg (cd, ln9, pl, le, ro, co, nu) sv sl9 tk ct9 (xI xs (i + 1)) (xI_b xs _) hst _) (vx_cwSW 2 hts (gSW hB wl_L_178 wt_L_keep wi_L wc_L_keep) rfl rfl rfl hd_L_keep.2 ⟨Nat.le_of_ble_eq_true rfl, Nat.le_of_ble_eq_true rfl⟩) (zpX_S hKh (zPc hP) (zDc hD) hS hA hG hGX) rfl rfl hl.1 rfl (lv_room (Nat.le_of_ble_eq_true rfl)) dL_law_635 ⟨by show _ ≤ 1083; omega, by show _ ≤ 10672; omega⟩) (fun r w1 H locs hq9 hP hD hS => ?_)
  rcases hq9 with hq9 | hq9
  · skip
    obtain ⟨s2c, t2c, hf0, hf1, hf2, rfl, rfl⟩ := hq9
    subst hf1
    subst hf2
    rw [List.append_assoc] at hP hD
    refine lv_istore (lv' := [(5, .int (zI 0)), (0, .ref b), (1, .ref (α 0)), (2, .ref (β 0)), (3, .ref o), (4, .int (zI i))]) hx hb dL_law_638 hl (by decide) rfl (fun ls hl => ?_)
    refine lv_aload_n hx hb dL_law_640 rfl (lv_at hl 3 rfl) ?_
    refine lv_aload_n hx hb dL_law_641 rfl (lv_at hl 1 rfl) ?_
    refine lv_iload hx hb dL_law_642 (lv_at hl 5 rfl) ?_
    refine lv_iconst (v := zI 1) hx hb dL_law_644 rfl ?_
    refine z_iadd hx hb dL_law_645 ?_
    refine z_sld hx hb hXs hbl hbA hS ⟨⟨by omega, by omega⟩, hL⟩ dL_law_646 ?_
    have hP := zPswap hP
    have hD := zDswap hD
    refine zfw_callv (mc := 0) (ms := 0)  hP hD hS hA (va_runV (As := [.int (zI (xI xs (i + 1)))]) (rest := []) hC (c_X10_keep l D τ β (gM cI cB) h sv sl9 tk cd mn mi mc mq mr mw ct9 ln9 mt ma mx mh (xI xs (i + 1)) (xI_b xs _) _) (cwV 1 hts (gV hB wl_L_181 wn_X10_keep ws_X10_keep wi_X10 wc_X10_keep) rfl rfl rfl hd_X10_keep ⟨Nat.le_of_ble_eq_true rfl, Nat.le_of_ble_eq_true rfl⟩) (zp_V hKm (zPc hP) (zDc hD) hS hA hG (ci := 10) (q0 := 0) rfl rfl rfl) rfl rfl hl.1 rfl (lv_room (Nat.le_of_ble_eq_true rfl)) dL_law_647 ⟨by show _ ≤ 1083; omega, by show _ ≤ 10672; omega⟩) (fun w1 H locs hq9 hP hD hS => ?_)
    obtain ⟨o2m, p2m, t2m, hm0, hm1, hm2, rfl⟩ := hq9
    rw [if_pos hf0] at hm1
    subst hm1
    rw [if_pos hf0] at hm2
    subst hm2
    have hP := zPswap hP
    have hD := zDswap hD
    refine lv_aload_n hx hb dL_law_650 rfl (lv_at hl 3 rfl) ?_
    have hP := zPswap hP
    have hD := zDswap hD
    refine zfw_calli (mc := 0) (ms := 0)  hP hD hS hA (va_runV (As := []) (rest := []) hC (c_X10_thrown l D τ β (gM cI cB) _ _ _ _ _ _ _ _ _ _ _ _ _ _ _ _ _ _) (cwV 0 hts (gV hB wl_L_145 wn_X10_thrown ws_X10_thrown wi_X10 wc_X10_thrown) rfl rfl rfl hd_X10_thrown ⟨Nat.le_of_ble_eq_true rfl, Nat.le_of_ble_eq_true rfl⟩) (zp_V hKm (zPc hP) (zDc hD) hS hA hG (ci := 10) (q0 := 0) rfl rfl rfl) rfl rfl hl.1 rfl (lv_room (Nat.le_of_ble_eq_true rfl)) dL_law_651 ⟨by show _ ≤ 1083; omega, by show _ ≤ 10672; omega⟩) (fun r w1 H locs hq9 hP hD hS => ?_)
    obtain ⟨vt, ht0, rfl, rfl⟩ := hq9
    have hP := zPswap hP
    have hD := zDswap hD
    refine lv_iload hx hb dL_law_654 (lv_at hl 0 rfl) ?_
    have heq_656 : vt = 0 := by rw [ht0, hm0, hf0]
    refine z_iceqE (tgt := 661) hx hb heq_656 dL_law_656 (by decide) ?_
    refine lv_goto (tgt := 2893) hx hb dL_law_661 (by decide) ?_
    refine W.widen (k := cells + 2) (n := slots + 12) (by omega) (by omega) ?_
    exact hk _ _ _ _ _ _ _ _ _ _ _ _ _ _ _ _ _ _ _ _ _ _ _ _ _ _ _ _ _ _ _ H locs ls (LI_keep hI hf0) hP hD hS (lv_sub hl [1, 2, 3, 4, 5] rfl)
  · skip
    obtain ⟨hx9, rfl, rfl⟩ := hq9
    rw [List.append_assoc] at hP hD
    refine lv_istore (lv' := [(5, .int (zI 1)), (0, .ref b), (1, .ref (α 0)), (2, .ref (β 0)), (3, .ref o), (4, .int (zI i))]) hx hb dL_law_638 hl (by decide) rfl (fun ls hl => ?_)
    refine lv_aload_n hx hb dL_law_640 rfl (lv_at hl 3 rfl) ?_
    refine lv_aload_n hx hb dL_law_641 rfl (lv_at hl 1 rfl) ?_
    refine lv_iload hx hb dL_law_642 (lv_at hl 5 rfl) ?_
    refine lv_iconst (v := zI 1) hx hb dL_law_644 rfl ?_
    refine z_iadd hx hb dL_law_645 ?_
    refine z_sld hx hb hXs hbl hbA hS ⟨⟨by omega, by omega⟩, hL⟩ dL_law_646 ?_
    have hP := zPswap hP
    have hD := zDswap hD
    refine zfw_callv (mc := 0) (ms := 0)  hP hD hS hA (va_runV (As := [.int (zI (xI xs (i + 1)))]) (rest := []) hC (c_X10_keep l D τ β (gM cI cB) h sv sl9 tk cd mn mi mc mq mr mw ct9 ln9 mt ma mx mh (xI xs (i + 1)) (xI_b xs _) _) (cwV 1 hts (gV hB wl_L_181 wn_X10_keep ws_X10_keep wi_X10 wc_X10_keep) rfl rfl rfl hd_X10_keep ⟨Nat.le_of_ble_eq_true rfl, Nat.le_of_ble_eq_true rfl⟩) (zp_V hKm (zPc hP) (zDc hD) hS hA hG (ci := 10) (q0 := 0) rfl rfl rfl) rfl rfl hl.1 rfl (lv_room (Nat.le_of_ble_eq_true rfl)) dL_law_647 ⟨by show _ ≤ 1083; omega, by show _ ≤ 10672; omega⟩) (fun w1 H locs hq9 hP hD hS => ?_)
    obtain ⟨o2m, p2m, t2m, hm0, hm1, hm2, rfl⟩ := hq9
    rw [if_neg (by rw [hx9]; decide)] at hm1
    subst hm1
    rw [if_neg (by rw [hx9]; decide)] at hm2
    subst hm2
    have hP := zPswap hP
    have hD := zDswap hD
    refine lv_aload_n hx hb dL_law_650 rfl (lv_at hl 3 rfl) ?_
    have hP := zPswap hP
    have hD := zDswap hD
    refine zfw_calli (mc := 0) (ms := 0)  hP hD hS hA (va_runV (As := []) (rest := []) hC (c_X10_thrown l D τ β (gM cI cB) _ _ _ _ _ _ _ _ _ _ _ _ _ _ _ _ _ _) (cwV 0 hts (gV hB wl_L_145 wn_X10_thrown ws_X10_thrown wi_X10 wc_X10_thrown) rfl rfl rfl hd_X10_thrown ⟨Nat.le_of_ble_eq_true rfl, Nat.le_of_ble_eq_true rfl⟩) (zp_V hKm (zPc hP) (zDc hD) hS hA hG (ci := 10) (q0 := 0) rfl rfl rfl) rfl rfl hl.1 rfl (lv_room (Nat.le_of_ble_eq_true rfl)) dL_law_651 ⟨by show _ ≤ 1083; omega, by show _ ≤ 10672; omega⟩) (fun r w1 H locs hq9 hP hD hS => ?_)
    obtain ⟨vt, ht0, rfl, rfl⟩ := hq9
    have hP := zPswap hP
    have hD := zDswap hD
    refine lv_iload hx hb dL_law_654 (lv_at hl 0 rfl) ?_
    have heq_656 : vt = 1 := by rw [ht0, hm0, hx9]
    refine z_iceqE (tgt := 661) hx hb heq_656 dL_law_656 (by decide) ?_
    refine lv_goto (tgt := 2893) hx hb dL_law_661 (by decide) ?_
    refine W.widen (k := cells + 2) (n := slots + 12) (by omega) (by omega) ?_
    exact hk _ _ _ _ _ _ _ _ _ _ _ _ _ _ _ _ _ _ _ _ _ _ _ _ _ _ _ _ _ _ _ H locs ls (hI) hP hD hS (lv_sub hl [1, 2, 3, 4, 5] rfl)
set_option maxHeartbeats 4000000 in
set_option maxRecDepth 100000 in
theorem law_664 {p : Program} {l : Launch} {e : Env} {s : State} {m : MethodId} {below : List Frame} {meth : Method} {c : Code} {Q : State → Prop} {D : va_G} {τ : Nat → Nat} {A : Nat → Prop} {α β : Nat → Nat} {cI cB cL : ClassId} {o b L : Nat} {xs : Nat → Int32} {i : Int} {cells slots : Nat} (hX : LCx p l s m c D τ A cI cB cL b L xs) (hi : 0 ≤ i ∧ i + 6 ≤ L) (hc : cells + 2 ≤ 1083 ∧ slots + 12 ≤ 10672)
    (hk : LSt p l e s m below meth c Q D A α β cI cB cL o b i 2893 (cells + 2) (slots + 12)) : LSt p l e s m below meth c Q D A α β cI cB cL o b i 664 cells slots := by
  obtain ⟨hC, hKm, hKo, hKh, hG, hA, hGX, hst, hXs, hbl, hbA, hL⟩ := hX
  intro h old ch rg ln sl pd ct sg cd ln9 pl le ro co nu sv sl9 tk ct9 mn mi mc mq mr mw mt ma mx mh fo H locs ls hI hP hD hS hl
  obtain ⟨rg0, rg1⟩ := rg
  obtain ⟨ln_0, ln_1, ln_2, ln_3, ln_4, ln_5, ln_6, ln_7, ln_8, ln_9⟩ := ln
  obtain ⟨sl_0, sl_1, sl_2⟩ := sl
  obtain ⟨pd0, pd1⟩ := pd
  obtain ⟨ct_0, ct_1⟩ := ct
  have hx := hC.1
  have hb := hC.2.1
  have hml := hC.2.2.1
  have hts := hC.2.2.2.2
  have hB : ∀ w ∈ W0, w ∈ W0 := fun _ h => h
  have hh := hI.1
  have hct := hI.2.2.2.1
  have hln := hI.2.2.2.2.1
  have hmf := hI.2.2.2.2.2.1
  have hov := hI.2.2.2.2.2.2
  have hcd : ∀ k, 0 ≤ k → k < ln9 → 0 ≤ cd k ∧ cd k ≤ 126 := fun k a b => by have z := hmf k a b; omega
  have hP : va_P D vwCl ((wM β (gM cI cB) h sv sl9 tk cd mn mi mc mq mr mw ct9 ln9 mt ma mx mh) ++ (oC cL o fo ++ (wH α (gH cI cB) (h, old, ch) (rg0, rg1) (ln_0, ln_1, ln_2, ln_3, ln_4, ln_5, ln_6, ln_7, ln_8, ln_9) (sl_0, sl_1, sl_2) (pd0, pd1) (ct_0, ct_1) sg (cd, ln9, pl, le, ro, co, nu) (sv, sl9, tk, ct9)))) H := hP
  have hD : va_D A ((wM β (gM cI cB) h sv sl9 tk cd mn mi mc mq mr mw ct9 ln9 mt ma mx mh) ++ (oC cL o fo ++ (wH α (gH cI cB) (h, old, ch) (rg0, rg1) (ln_0, ln_1, ln_2, ln_3, ln_4, ln_5, ln_6, ln_7, ln_8, ln_9) (sl_0, sl_1, sl_2) (pd0, pd1) (ct_0, ct_1) sg (cd, ln9, pl, le, ro, co, nu) (sv, sl9, tk, ct9)))) := hD
  refine lv_aload_n hx hb dL_law_664 rfl (lv_at hl 1 rfl) ?_
  refine lv_aload_n hx hb dL_law_665 rfl (lv_at hl 0 rfl) ?_
  refine lv_iload hx hb dL_law_666 (lv_at hl 4 rfl) ?_
  refine lv_iconst (v := zI 1) hx hb dL_law_668 rfl ?_
  refine z_iadd hx hb dL_law_669 ?_
  refine z_sld hx hb hXs hbl hbA hS ⟨⟨by omega, by omega⟩, hL⟩ dL_law_670 ?_
  have hP : va_P D vwCl (((wM β (gM cI cB) h sv sl9 tk cd mn mi mc mq mr mw ct9 ln9 mt ma mx mh) ++ oC cL o fo) ++ (wH α (gH cI cB) (h, old, ch) (rg0, rg1) (ln_0, ln_1, ln_2, ln_3, ln_4, ln_5, ln_6, ln_7, ln_8, ln_9) (sl_0, sl_1, sl_2) (pd0, pd1) (ct_0, ct_1) sg (cd, ln9, pl, le, ro, co, nu) (sv, sl9, tk, ct9))) H := by rw [List.append_assoc]; exact hP
  have hD : va_D A (((wM β (gM cI cB) h sv sl9 tk cd mn mi mc mq mr mw ct9 ln9 mt ma mx mh) ++ oC cL o fo) ++ (wH α (gH cI cB) (h, old, ch) (rg0, rg1) (ln_0, ln_1, ln_2, ln_3, ln_4, ln_5, ln_6, ln_7, ln_8, ln_9) (sl_0, sl_1, sl_2) (pd0, pd1) (ct_0, ct_1) sg (cd, ln9, pl, le, ro, co, nu) (sv, sl9, tk, ct9))) := by rw [List.append_assoc]; exact hD
  refine zfw_calli (mc := 2) (ms := 12) (wr := (wM β (gM cI cB) h sv sl9 tk cd mn mi mc mq mr mw ct9 ln9 mt ma mx mh) ++ oC cL o fo) (wc := (wH α (gH cI cB) (h, old, ch) (rg0, rg1) (ln_0, ln_1, ln_2, ln_3, ln_4, ln_5, ln_6, ln_7, ln_8, ln_9) (sl_0, sl_1, sl_2) (pd0, pd1) (ct_0, ct_1) sg (cd, ln9, pl, le, ro, co, nu) (sv, sl9, tk, ct9))) hP hD hS hA (vx_runSW (As := [.ref (α 0), .int (zI (xI xs (i + 1)))]) (rest := []) hC (c_L_goBack l D τ α (gH cI cB) h old ch (rg0, rg1) (ln_0, ln_1, ln_2, ln_3, ln_4, ln_5, ln_6, ln_7, ln_8, ln_9) (sl_0, sl_1, sl_2) (pd0, pd1) (ct_0, ct_1) sg (cd, ln9, pl, le, ro, co, nu) sv sl9 tk ct9 (xI xs (i + 1)) (xI_b xs _) hct hst _) (vx_cwSW 2 hts (gSW hB wl_L_182 wt_L_goBack wi_L wc_L_goBack) rfl rfl rfl hd_L_goBack.2 ⟨Nat.le_of_ble_eq_true rfl, Nat.le_of_ble_eq_true rfl⟩) (zpX_S hKh (zPc hP) (zDc hD) hS hA hG hGX) rfl rfl hl.1 rfl (lv_room (Nat.le_of_ble_eq_true rfl)) dL_law_671 ⟨by show _ ≤ 1083; omega, by show _ ≤ 10672; omega⟩) (fun r w1 H locs hq9 hP hD hS => ?_)
  rcases hq9 with hq9 | hq9 | hq9
  · skip
    obtain ⟨h2c, s2c, c2c, hf0, hf1, hf2, hf3, rfl, rfl⟩ := hq9
    subst hf1
    subst hf2
    subst hf3
    rw [List.append_assoc] at hP hD
    refine lv_istore (lv' := [(5, .int (zI 0)), (0, .ref b), (1, .ref (α 0)), (2, .ref (β 0)), (3, .ref o), (4, .int (zI i))]) hx hb dL_law_674 hl (by decide) rfl (fun ls hl => ?_)
    refine lv_aload_n hx hb dL_law_676 rfl (lv_at hl 3 rfl) ?_
    refine lv_aload_n hx hb dL_law_677 rfl (lv_at hl 1 rfl) ?_
    refine lv_iload hx hb dL_law_678 (lv_at hl 5 rfl) ?_
    refine lv_iconst (v := zI 1) hx hb dL_law_680 rfl ?_
    refine z_iadd hx hb dL_law_681 ?_
    refine z_sld hx hb hXs hbl hbA hS ⟨⟨by omega, by omega⟩, hL⟩ dL_law_682 ?_
    have hP := zPswap hP
    have hD := zDswap hD
    refine zfw_callv (mc := 0) (ms := 0)  hP hD hS hA (va_runV (As := [.int (zI (xI xs (i + 1)))]) (rest := []) hC (c_X10_goBack l D τ β (gM cI cB) h sv sl9 tk cd mn mi mc mq mr mw ct9 ln9 mt ma mx mh (xI xs (i + 1)) (xI_b xs _) hct _) (cwV 1 hts (gV hB wl_L_184 wn_X10_goBack ws_X10_goBack wi_X10 wc_X10_goBack) rfl rfl rfl hd_X10_goBack ⟨Nat.le_of_ble_eq_true rfl, Nat.le_of_ble_eq_true rfl⟩) (zp_V hKm (zPc hP) (zDc hD) hS hA hG (ci := 10) (q0 := 0) rfl rfl rfl) rfl rfl hl.1 rfl (lv_room (Nat.le_of_ble_eq_true rfl)) dL_law_683 ⟨by show _ ≤ 1083; omega, by show _ ≤ 10672; omega⟩) (fun w1 H locs hq9 hP hD hS => ?_)
    obtain ⟨s2m, b2m, k2m, t2m, hm0, hm1, hm2, hm3, rfl⟩ := hq9
    rw [if_pos hf0] at hm1
    subst hm1
    rw [if_pos hf0] at hm2
    subst hm2
    rw [if_pos hf0] at hm3
    subst hm3
    have hP := zPswap hP
    have hD := zDswap hD
    refine lv_aload_n hx hb dL_law_686 rfl (lv_at hl 3 rfl) ?_
    have hP := zPswap hP
    have hD := zDswap hD
    refine zfw_calli (mc := 0) (ms := 0)  hP hD hS hA (va_runV (As := []) (rest := []) hC (c_X10_thrown l D τ β (gM cI cB) _ _ _ _ _ _ _ _ _ _ _ _ _ _ _ _ _ _) (cwV 0 hts (gV hB wl_L_145 wn_X10_thrown ws_X10_thrown wi_X10 wc_X10_thrown) rfl rfl rfl hd_X10_thrown ⟨Nat.le_of_ble_eq_true rfl, Nat.le_of_ble_eq_true rfl⟩) (zp_V hKm (zPc hP) (zDc hD) hS hA hG (ci := 10) (q0 := 0) rfl rfl rfl) rfl rfl hl.1 rfl (lv_room (Nat.le_of_ble_eq_true rfl)) dL_law_687 ⟨by show _ ≤ 1083; omega, by show _ ≤ 10672; omega⟩) (fun r w1 H locs hq9 hP hD hS => ?_)
    obtain ⟨vt, ht0, rfl, rfl⟩ := hq9
    have hP := zPswap hP
    have hD := zDswap hD
    refine lv_iload hx hb dL_law_690 (lv_at hl 0 rfl) ?_
    have heq_692 : vt = 0 := by rw [ht0, hm0, hf0]
    refine z_iceqE (tgt := 697) hx hb heq_692 dL_law_692 (by decide) ?_
    refine lv_goto (tgt := 2893) hx hb dL_law_697 (by decide) ?_
    refine W.widen (k := cells + 2) (n := slots + 12) (by omega) (by omega) ?_
    exact hk _ _ _ _ _ _ _ _ _ _ _ _ _ _ _ _ _ _ _ _ _ _ _ _ _ _ _ _ _ _ _ H locs ls (LI_back hI hf0) hP hD hS (lv_sub hl [1, 2, 3, 4, 5] rfl)
  · skip
    obtain ⟨hx9, rfl, rfl⟩ := hq9
    rw [List.append_assoc] at hP hD
    refine lv_istore (lv' := [(5, .int (zI 1)), (0, .ref b), (1, .ref (α 0)), (2, .ref (β 0)), (3, .ref o), (4, .int (zI i))]) hx hb dL_law_674 hl (by decide) rfl (fun ls hl => ?_)
    refine lv_aload_n hx hb dL_law_676 rfl (lv_at hl 3 rfl) ?_
    refine lv_aload_n hx hb dL_law_677 rfl (lv_at hl 1 rfl) ?_
    refine lv_iload hx hb dL_law_678 (lv_at hl 5 rfl) ?_
    refine lv_iconst (v := zI 1) hx hb dL_law_680 rfl ?_
    refine z_iadd hx hb dL_law_681 ?_
    refine z_sld hx hb hXs hbl hbA hS ⟨⟨by omega, by omega⟩, hL⟩ dL_law_682 ?_
    have hP := zPswap hP
    have hD := zDswap hD
    refine zfw_callv (mc := 0) (ms := 0)  hP hD hS hA (va_runV (As := [.int (zI (xI xs (i + 1)))]) (rest := []) hC (c_X10_goBack l D τ β (gM cI cB) h sv sl9 tk cd mn mi mc mq mr mw ct9 ln9 mt ma mx mh (xI xs (i + 1)) (xI_b xs _) hct _) (cwV 1 hts (gV hB wl_L_184 wn_X10_goBack ws_X10_goBack wi_X10 wc_X10_goBack) rfl rfl rfl hd_X10_goBack ⟨Nat.le_of_ble_eq_true rfl, Nat.le_of_ble_eq_true rfl⟩) (zp_V hKm (zPc hP) (zDc hD) hS hA hG (ci := 10) (q0 := 0) rfl rfl rfl) rfl rfl hl.1 rfl (lv_room (Nat.le_of_ble_eq_true rfl)) dL_law_683 ⟨by show _ ≤ 1083; omega, by show _ ≤ 10672; omega⟩) (fun w1 H locs hq9 hP hD hS => ?_)
    obtain ⟨s2m, b2m, k2m, t2m, hm0, hm1, hm2, hm3, rfl⟩ := hq9
    rw [if_neg (by rw [hx9]; decide)] at hm1
    subst hm1
    rw [if_neg (by rw [hx9]; decide)] at hm2
    subst hm2
    rw [if_neg (by rw [hx9]; decide)] at hm3
    subst hm3
    have hP := zPswap hP
    have hD := zDswap hD
    refine lv_aload_n hx hb dL_law_686 rfl (lv_at hl 3 rfl) ?_
    have hP := zPswap hP
    have hD := zDswap hD
    refine zfw_calli (mc := 0) (ms := 0)  hP hD hS hA (va_runV (As := []) (rest := []) hC (c_X10_thrown l D τ β (gM cI cB) _ _ _ _ _ _ _ _ _ _ _ _ _ _ _ _ _ _) (cwV 0 hts (gV hB wl_L_145 wn_X10_thrown ws_X10_thrown wi_X10 wc_X10_thrown) rfl rfl rfl hd_X10_thrown ⟨Nat.le_of_ble_eq_true rfl, Nat.le_of_ble_eq_true rfl⟩) (zp_V hKm (zPc hP) (zDc hD) hS hA hG (ci := 10) (q0 := 0) rfl rfl rfl) rfl rfl hl.1 rfl (lv_room (Nat.le_of_ble_eq_true rfl)) dL_law_687 ⟨by show _ ≤ 1083; omega, by show _ ≤ 10672; omega⟩) (fun r w1 H locs hq9 hP hD hS => ?_)
    obtain ⟨vt, ht0, rfl, rfl⟩ := hq9
    have hP := zPswap hP
    have hD := zDswap hD
    refine lv_iload hx hb dL_law_690 (lv_at hl 0 rfl) ?_
    have heq_692 : vt = 1 := by rw [ht0, hm0, hx9]
    refine z_iceqE (tgt := 697) hx hb heq_692 dL_law_692 (by decide) ?_
    refine lv_goto (tgt := 2893) hx hb dL_law_697 (by decide) ?_
    refine W.widen (k := cells + 2) (n := slots + 12) (by omega) (by omega) ?_
    exact hk _ _ _ _ _ _ _ _ _ _ _ _ _ _ _ _ _ _ _ _ _ _ _ _ _ _ _ _ _ _ _ H locs ls (hI) hP hD hS (lv_sub hl [1, 2, 3, 4, 5] rfl)
  · skip
    obtain ⟨hx9, rfl, rfl⟩ := hq9
    rw [List.append_assoc] at hP hD
    refine lv_istore (lv' := [(5, .int (zI 2)), (0, .ref b), (1, .ref (α 0)), (2, .ref (β 0)), (3, .ref o), (4, .int (zI i))]) hx hb dL_law_674 hl (by decide) rfl (fun ls hl => ?_)
    refine lv_aload_n hx hb dL_law_676 rfl (lv_at hl 3 rfl) ?_
    refine lv_aload_n hx hb dL_law_677 rfl (lv_at hl 1 rfl) ?_
    refine lv_iload hx hb dL_law_678 (lv_at hl 5 rfl) ?_
    refine lv_iconst (v := zI 1) hx hb dL_law_680 rfl ?_
    refine z_iadd hx hb dL_law_681 ?_
    refine z_sld hx hb hXs hbl hbA hS ⟨⟨by omega, by omega⟩, hL⟩ dL_law_682 ?_
    have hP := zPswap hP
    have hD := zDswap hD
    refine zfw_callv (mc := 0) (ms := 0)  hP hD hS hA (va_runV (As := [.int (zI (xI xs (i + 1)))]) (rest := []) hC (c_X10_goBack l D τ β (gM cI cB) h sv sl9 tk cd mn mi mc mq mr mw ct9 ln9 mt ma mx mh (xI xs (i + 1)) (xI_b xs _) hct _) (cwV 1 hts (gV hB wl_L_184 wn_X10_goBack ws_X10_goBack wi_X10 wc_X10_goBack) rfl rfl rfl hd_X10_goBack ⟨Nat.le_of_ble_eq_true rfl, Nat.le_of_ble_eq_true rfl⟩) (zp_V hKm (zPc hP) (zDc hD) hS hA hG (ci := 10) (q0 := 0) rfl rfl rfl) rfl rfl hl.1 rfl (lv_room (Nat.le_of_ble_eq_true rfl)) dL_law_683 ⟨by show _ ≤ 1083; omega, by show _ ≤ 10672; omega⟩) (fun w1 H locs hq9 hP hD hS => ?_)
    obtain ⟨s2m, b2m, k2m, t2m, hm0, hm1, hm2, hm3, rfl⟩ := hq9
    rw [if_neg (by rw [hx9]; decide)] at hm1
    subst hm1
    rw [if_neg (by rw [hx9]; decide)] at hm2
    subst hm2
    rw [if_neg (by rw [hx9]; decide)] at hm3
    subst hm3
    have hP := zPswap hP
    have hD := zDswap hD
    refine lv_aload_n hx hb dL_law_686 rfl (lv_at hl 3 rfl) ?_
    have hP := zPswap hP
    have hD := zDswap hD
    refine zfw_calli (mc := 0) (ms := 0)  hP hD hS hA (va_runV (As := []) (rest := []) hC (c_X10_thrown l D τ β (gM cI cB) _ _ _ _ _ _ _ _ _ _ _ _ _ _ _ _ _ _) (cwV 0 hts (gV hB wl_L_145 wn_X10_thrown ws_X10_thrown wi_X10 wc_X10_thrown) rfl rfl rfl hd_X10_thrown ⟨Nat.le_of_ble_eq_true rfl, Nat.le_of_ble_eq_true rfl⟩) (zp_V hKm (zPc hP) (zDc hD) hS hA hG (ci := 10) (q0 := 0) rfl rfl rfl) rfl rfl hl.1 rfl (lv_room (Nat.le_of_ble_eq_true rfl)) dL_law_687 ⟨by show _ ≤ 1083; omega, by show _ ≤ 10672; omega⟩) (fun r w1 H locs hq9 hP hD hS => ?_)
    obtain ⟨vt, ht0, rfl, rfl⟩ := hq9
    have hP := zPswap hP
    have hD := zDswap hD
    refine lv_iload hx hb dL_law_690 (lv_at hl 0 rfl) ?_
    have heq_692 : vt = 2 := by rw [ht0, hm0, hx9]
    refine z_iceqE (tgt := 697) hx hb heq_692 dL_law_692 (by decide) ?_
    refine lv_goto (tgt := 2893) hx hb dL_law_697 (by decide) ?_
    refine W.widen (k := cells + 2) (n := slots + 12) (by omega) (by omega) ?_
    exact hk _ _ _ _ _ _ _ _ _ _ _ _ _ _ _ _ _ _ _ _ _ _ _ _ _ _ _ _ _ _ _ H locs ls (hI) hP hD hS (lv_sub hl [1, 2, 3, 4, 5] rfl)
set_option maxHeartbeats 4000000 in
set_option maxRecDepth 100000 in
theorem law_700 {p : Program} {l : Launch} {e : Env} {s : State} {m : MethodId} {below : List Frame} {meth : Method} {c : Code} {Q : State → Prop} {D : va_G} {τ : Nat → Nat} {A : Nat → Prop} {α β : Nat → Nat} {cI cB cL : ClassId} {o b L : Nat} {xs : Nat → Int32} {i : Int} {cells slots : Nat} (hX : LCx p l s m c D τ A cI cB cL b L xs) (hi : 0 ≤ i ∧ i + 6 ≤ L) (hc : cells + 2 ≤ 1083 ∧ slots + 12 ≤ 10672)
    (hk : LSt p l e s m below meth c Q D A α β cI cB cL o b i 2893 (cells + 2) (slots + 12)) : LSt p l e s m below meth c Q D A α β cI cB cL o b i 700 cells slots := by
  obtain ⟨hC, hKm, hKo, hKh, hG, hA, hGX, hst, hXs, hbl, hbA, hL⟩ := hX
  intro h old ch rg ln sl pd ct sg cd ln9 pl le ro co nu sv sl9 tk ct9 mn mi mc mq mr mw mt ma mx mh fo H locs ls hI hP hD hS hl
  obtain ⟨rg0, rg1⟩ := rg
  obtain ⟨ln_0, ln_1, ln_2, ln_3, ln_4, ln_5, ln_6, ln_7, ln_8, ln_9⟩ := ln
  obtain ⟨sl_0, sl_1, sl_2⟩ := sl
  obtain ⟨pd0, pd1⟩ := pd
  obtain ⟨ct_0, ct_1⟩ := ct
  have hx := hC.1
  have hb := hC.2.1
  have hml := hC.2.2.1
  have hts := hC.2.2.2.2
  have hB : ∀ w ∈ W0, w ∈ W0 := fun _ h => h
  have hh := hI.1
  have hct := hI.2.2.2.1
  have hln := hI.2.2.2.2.1
  have hmf := hI.2.2.2.2.2.1
  have hov := hI.2.2.2.2.2.2
  have hcd : ∀ k, 0 ≤ k → k < ln9 → 0 ≤ cd k ∧ cd k ≤ 126 := fun k a b => by have z := hmf k a b; omega
  have hP : va_P D vwCl ((wM β (gM cI cB) h sv sl9 tk cd mn mi mc mq mr mw ct9 ln9 mt ma mx mh) ++ (oC cL o fo ++ (wH α (gH cI cB) (h, old, ch) (rg0, rg1) (ln_0, ln_1, ln_2, ln_3, ln_4, ln_5, ln_6, ln_7, ln_8, ln_9) (sl_0, sl_1, sl_2) (pd0, pd1) (ct_0, ct_1) sg (cd, ln9, pl, le, ro, co, nu) (sv, sl9, tk, ct9)))) H := hP
  have hD : va_D A ((wM β (gM cI cB) h sv sl9 tk cd mn mi mc mq mr mw ct9 ln9 mt ma mx mh) ++ (oC cL o fo ++ (wH α (gH cI cB) (h, old, ch) (rg0, rg1) (ln_0, ln_1, ln_2, ln_3, ln_4, ln_5, ln_6, ln_7, ln_8, ln_9) (sl_0, sl_1, sl_2) (pd0, pd1) (ct_0, ct_1) sg (cd, ln9, pl, le, ro, co, nu) (sv, sl9, tk, ct9)))) := hD
  refine lv_aload_n hx hb dL_law_700 rfl (lv_at hl 1 rfl) ?_
  have hP : va_P D vwCl (((wM β (gM cI cB) h sv sl9 tk cd mn mi mc mq mr mw ct9 ln9 mt ma mx mh) ++ oC cL o fo) ++ (wH α (gH cI cB) (h, old, ch) (rg0, rg1) (ln_0, ln_1, ln_2, ln_3, ln_4, ln_5, ln_6, ln_7, ln_8, ln_9) (sl_0, sl_1, sl_2) (pd0, pd1) (ct_0, ct_1) sg (cd, ln9, pl, le, ro, co, nu) (sv, sl9, tk, ct9))) H := by rw [List.append_assoc]; exact hP
  have hD : va_D A (((wM β (gM cI cB) h sv sl9 tk cd mn mi mc mq mr mw ct9 ln9 mt ma mx mh) ++ oC cL o fo) ++ (wH α (gH cI cB) (h, old, ch) (rg0, rg1) (ln_0, ln_1, ln_2, ln_3, ln_4, ln_5, ln_6, ln_7, ln_8, ln_9) (sl_0, sl_1, sl_2) (pd0, pd1) (ct_0, ct_1) sg (cd, ln9, pl, le, ro, co, nu) (sv, sl9, tk, ct9))) := by rw [List.append_assoc]; exact hD
  refine zfw_calli (mc := 1) (ms := 6) (wr := (wM β (gM cI cB) h sv sl9 tk cd mn mi mc mq mr mw ct9 ln9 mt ma mx mh) ++ oC cL o fo) (wc := (wH α (gH cI cB) (h, old, ch) (rg0, rg1) (ln_0, ln_1, ln_2, ln_3, ln_4, ln_5, ln_6, ln_7, ln_8, ln_9) (sl_0, sl_1, sl_2) (pd0, pd1) (ct_0, ct_1) sg (cd, ln9, pl, le, ro, co, nu) (sv, sl9, tk, ct9))) hP hD hS hA (vx_runSW (As := [.ref (α 0)]) (rest := []) hC (c_L_undo l D τ α (gH cI cB) h old ch (rg0, rg1) (ln_0, ln_1, ln_2, ln_3, ln_4, ln_5, ln_6, ln_7, ln_8, ln_9) (sl_0, sl_1, sl_2) (pd0, pd1) (ct_0, ct_1) sg (cd, ln9, pl, le, ro, co, nu) sv sl9 tk ct9 hct hst _) (vx_cwSW 1 hts (gSW hB wl_L_185 wt_L_undo wi_L wc_L_undo) rfl rfl rfl hd_L_undo.2 ⟨Nat.le_of_ble_eq_true rfl, Nat.le_of_ble_eq_true rfl⟩) (zpX_S hKh (zPc hP) (zDc hD) hS hA hG hGX) rfl rfl hl.1 rfl (lv_room (Nat.le_of_ble_eq_true rfl)) dL_law_701 ⟨by show _ ≤ 1083; omega, by show _ ≤ 10672; omega⟩) (fun r w1 H locs hq9 hP hD hS => ?_)
  rcases hq9 with hq9 | hq9
  · skip
    obtain ⟨h2c, c2c, hf0, hf1, hf2, rfl, rfl⟩ := hq9
    subst hf1
    subst hf2
    rw [List.append_assoc] at hP hD
    refine lv_istore (lv' := [(5, .int (zI 0)), (0, .ref b), (1, .ref (α 0)), (2, .ref (β 0)), (3, .ref o), (4, .int (zI i))]) hx hb dL_law_704 hl (by decide) rfl (fun ls hl => ?_)
    refine lv_aload_n hx hb dL_law_706 rfl (lv_at hl 3 rfl) ?_
    have hP := zPswap hP
    have hD := zDswap hD
    refine zfw_callv (mc := 0) (ms := 0)  hP hD hS hA (va_runV (As := []) (rest := []) hC (c_X10_undo l D τ β (gM cI cB) h sv sl9 tk cd mn mi mc mq mr mw ct9 ln9 mt ma mx mh hct _) (cwV 0 hts (gV hB wl_L_188 wn_X10_undo ws_X10_undo wi_X10 wc_X10_undo) rfl rfl rfl hd_X10_undo ⟨Nat.le_of_ble_eq_true rfl, Nat.le_of_ble_eq_true rfl⟩) (zp_V hKm (zPc hP) (zDc hD) hS hA hG (ci := 10) (q0 := 0) rfl rfl rfl) rfl rfl hl.1 rfl (lv_room (Nat.le_of_ble_eq_true rfl)) dL_law_707 ⟨by show _ ≤ 1083; omega, by show _ ≤ 10672; omega⟩) (fun w1 H locs hq9 hP hD hS => ?_)
    obtain ⟨s2m, k2m, t2m, hm0, hm1, hm2, rfl⟩ := hq9
    rw [if_pos hf0] at hm1
    subst hm1
    rw [if_pos hf0] at hm2
    subst hm2
    have hP := zPswap hP
    have hD := zDswap hD
    refine lv_aload_n hx hb dL_law_710 rfl (lv_at hl 3 rfl) ?_
    have hP := zPswap hP
    have hD := zDswap hD
    refine zfw_calli (mc := 0) (ms := 0)  hP hD hS hA (va_runV (As := []) (rest := []) hC (c_X10_thrown l D τ β (gM cI cB) _ _ _ _ _ _ _ _ _ _ _ _ _ _ _ _ _ _) (cwV 0 hts (gV hB wl_L_145 wn_X10_thrown ws_X10_thrown wi_X10 wc_X10_thrown) rfl rfl rfl hd_X10_thrown ⟨Nat.le_of_ble_eq_true rfl, Nat.le_of_ble_eq_true rfl⟩) (zp_V hKm (zPc hP) (zDc hD) hS hA hG (ci := 10) (q0 := 0) rfl rfl rfl) rfl rfl hl.1 rfl (lv_room (Nat.le_of_ble_eq_true rfl)) dL_law_711 ⟨by show _ ≤ 1083; omega, by show _ ≤ 10672; omega⟩) (fun r w1 H locs hq9 hP hD hS => ?_)
    obtain ⟨vt, ht0, rfl, rfl⟩ := hq9
    have hP := zPswap hP
    have hD := zDswap hD
    refine lv_iload hx hb dL_law_714 (lv_at hl 0 rfl) ?_
    have heq_716 : vt = 0 := by rw [ht0, hm0, hf0]
    refine z_iceqE (tgt := 721) hx hb heq_716 dL_law_716 (by decide) ?_
    refine lv_goto (tgt := 2893) hx hb dL_law_721 (by decide) ?_
    refine W.widen (k := cells + 2) (n := slots + 12) (by omega) (by omega) ?_
    exact hk _ _ _ _ _ _ _ _ _ _ _ _ _ _ _ _ _ _ _ _ _ _ _ _ _ _ _ _ _ _ _ H locs ls (LI_undo hI hf0) hP hD hS (lv_sub hl [1, 2, 3, 4, 5] rfl)
  · skip
    obtain ⟨hx9, rfl, rfl⟩ := hq9
    rw [List.append_assoc] at hP hD
    refine lv_istore (lv' := [(5, .int (zI 1)), (0, .ref b), (1, .ref (α 0)), (2, .ref (β 0)), (3, .ref o), (4, .int (zI i))]) hx hb dL_law_704 hl (by decide) rfl (fun ls hl => ?_)
    refine lv_aload_n hx hb dL_law_706 rfl (lv_at hl 3 rfl) ?_
    have hP := zPswap hP
    have hD := zDswap hD
    refine zfw_callv (mc := 0) (ms := 0)  hP hD hS hA (va_runV (As := []) (rest := []) hC (c_X10_undo l D τ β (gM cI cB) h sv sl9 tk cd mn mi mc mq mr mw ct9 ln9 mt ma mx mh hct _) (cwV 0 hts (gV hB wl_L_188 wn_X10_undo ws_X10_undo wi_X10 wc_X10_undo) rfl rfl rfl hd_X10_undo ⟨Nat.le_of_ble_eq_true rfl, Nat.le_of_ble_eq_true rfl⟩) (zp_V hKm (zPc hP) (zDc hD) hS hA hG (ci := 10) (q0 := 0) rfl rfl rfl) rfl rfl hl.1 rfl (lv_room (Nat.le_of_ble_eq_true rfl)) dL_law_707 ⟨by show _ ≤ 1083; omega, by show _ ≤ 10672; omega⟩) (fun w1 H locs hq9 hP hD hS => ?_)
    obtain ⟨s2m, k2m, t2m, hm0, hm1, hm2, rfl⟩ := hq9
    rw [if_neg (by rw [hx9]; decide)] at hm1
    subst hm1
    rw [if_neg (by rw [hx9]; decide)] at hm2
    subst hm2
    have hP := zPswap hP
    have hD := zDswap hD
    refine lv_aload_n hx hb dL_law_710 rfl (lv_at hl 3 rfl) ?_
    have hP := zPswap hP
    have hD := zDswap hD
    refine zfw_calli (mc := 0) (ms := 0)  hP hD hS hA (va_runV (As := []) (rest := []) hC (c_X10_thrown l D τ β (gM cI cB) _ _ _ _ _ _ _ _ _ _ _ _ _ _ _ _ _ _) (cwV 0 hts (gV hB wl_L_145 wn_X10_thrown ws_X10_thrown wi_X10 wc_X10_thrown) rfl rfl rfl hd_X10_thrown ⟨Nat.le_of_ble_eq_true rfl, Nat.le_of_ble_eq_true rfl⟩) (zp_V hKm (zPc hP) (zDc hD) hS hA hG (ci := 10) (q0 := 0) rfl rfl rfl) rfl rfl hl.1 rfl (lv_room (Nat.le_of_ble_eq_true rfl)) dL_law_711 ⟨by show _ ≤ 1083; omega, by show _ ≤ 10672; omega⟩) (fun r w1 H locs hq9 hP hD hS => ?_)
    obtain ⟨vt, ht0, rfl, rfl⟩ := hq9
    have hP := zPswap hP
    have hD := zDswap hD
    refine lv_iload hx hb dL_law_714 (lv_at hl 0 rfl) ?_
    have heq_716 : vt = 1 := by rw [ht0, hm0, hx9]
    refine z_iceqE (tgt := 721) hx hb heq_716 dL_law_716 (by decide) ?_
    refine lv_goto (tgt := 2893) hx hb dL_law_721 (by decide) ?_
    refine W.widen (k := cells + 2) (n := slots + 12) (by omega) (by omega) ?_
    exact hk _ _ _ _ _ _ _ _ _ _ _ _ _ _ _ _ _ _ _ _ _ _ _ _ _ _ _ _ _ _ _ H locs ls (hI) hP hD hS (lv_sub hl [1, 2, 3, 4, 5] rfl)
set_option maxHeartbeats 4000000 in
set_option maxRecDepth 100000 in
theorem law_724 {p : Program} {l : Launch} {e : Env} {s : State} {m : MethodId} {below : List Frame} {meth : Method} {c : Code} {Q : State → Prop} {D : va_G} {τ : Nat → Nat} {A : Nat → Prop} {α β : Nat → Nat} {cI cB cL : ClassId} {o b L : Nat} {xs : Nat → Int32} {i : Int} {cells slots : Nat} (hX : LCx p l s m c D τ A cI cB cL b L xs) (hi : 0 ≤ i ∧ i + 6 ≤ L) (hc : cells + 2 ≤ 1083 ∧ slots + 12 ≤ 10672)
    (hk : LSt p l e s m below meth c Q D A α β cI cB cL o b i 2893 (cells + 2) (slots + 12)) : LSt p l e s m below meth c Q D A α β cI cB cL o b i 724 cells slots := by
  obtain ⟨hC, hKm, hKo, hKh, hG, hA, hGX, hst, hXs, hbl, hbA, hL⟩ := hX
  intro h old ch rg ln sl pd ct sg cd ln9 pl le ro co nu sv sl9 tk ct9 mn mi mc mq mr mw mt ma mx mh fo H locs ls hI hP hD hS hl
  obtain ⟨rg0, rg1⟩ := rg
  obtain ⟨ln_0, ln_1, ln_2, ln_3, ln_4, ln_5, ln_6, ln_7, ln_8, ln_9⟩ := ln
  obtain ⟨sl_0, sl_1, sl_2⟩ := sl
  obtain ⟨pd0, pd1⟩ := pd
  obtain ⟨ct_0, ct_1⟩ := ct
  have hx := hC.1
  have hb := hC.2.1
  have hml := hC.2.2.1
  have hts := hC.2.2.2.2
  have hB : ∀ w ∈ W0, w ∈ W0 := fun _ h => h
  have hh := hI.1
  have hct := hI.2.2.2.1
  have hln := hI.2.2.2.2.1
  have hmf := hI.2.2.2.2.2.1
  have hov := hI.2.2.2.2.2.2
  have hcd : ∀ k, 0 ≤ k → k < ln9 → 0 ≤ cd k ∧ cd k ≤ 126 := fun k a b => by have z := hmf k a b; omega
  have hP : va_P D vwCl ((wM β (gM cI cB) h sv sl9 tk cd mn mi mc mq mr mw ct9 ln9 mt ma mx mh) ++ (oC cL o fo ++ (wH α (gH cI cB) (h, old, ch) (rg0, rg1) (ln_0, ln_1, ln_2, ln_3, ln_4, ln_5, ln_6, ln_7, ln_8, ln_9) (sl_0, sl_1, sl_2) (pd0, pd1) (ct_0, ct_1) sg (cd, ln9, pl, le, ro, co, nu) (sv, sl9, tk, ct9)))) H := hP
  have hD : va_D A ((wM β (gM cI cB) h sv sl9 tk cd mn mi mc mq mr mw ct9 ln9 mt ma mx mh) ++ (oC cL o fo ++ (wH α (gH cI cB) (h, old, ch) (rg0, rg1) (ln_0, ln_1, ln_2, ln_3, ln_4, ln_5, ln_6, ln_7, ln_8, ln_9) (sl_0, sl_1, sl_2) (pd0, pd1) (ct_0, ct_1) sg (cd, ln9, pl, le, ro, co, nu) (sv, sl9, tk, ct9)))) := hD
  refine lv_aload_n hx hb dL_law_724 rfl (lv_at hl 1 rfl) ?_
  have hP : va_P D vwCl (((wM β (gM cI cB) h sv sl9 tk cd mn mi mc mq mr mw ct9 ln9 mt ma mx mh) ++ oC cL o fo) ++ (wH α (gH cI cB) (h, old, ch) (rg0, rg1) (ln_0, ln_1, ln_2, ln_3, ln_4, ln_5, ln_6, ln_7, ln_8, ln_9) (sl_0, sl_1, sl_2) (pd0, pd1) (ct_0, ct_1) sg (cd, ln9, pl, le, ro, co, nu) (sv, sl9, tk, ct9))) H := by rw [List.append_assoc]; exact hP
  have hD : va_D A (((wM β (gM cI cB) h sv sl9 tk cd mn mi mc mq mr mw ct9 ln9 mt ma mx mh) ++ oC cL o fo) ++ (wH α (gH cI cB) (h, old, ch) (rg0, rg1) (ln_0, ln_1, ln_2, ln_3, ln_4, ln_5, ln_6, ln_7, ln_8, ln_9) (sl_0, sl_1, sl_2) (pd0, pd1) (ct_0, ct_1) sg (cd, ln9, pl, le, ro, co, nu) (sv, sl9, tk, ct9))) := by rw [List.append_assoc]; exact hD
  refine zfw_calli (mc := 0) (ms := 0) (wr := (wM β (gM cI cB) h sv sl9 tk cd mn mi mc mq mr mw ct9 ln9 mt ma mx mh) ++ oC cL o fo) (wc := (wH α (gH cI cB) (h, old, ch) (rg0, rg1) (ln_0, ln_1, ln_2, ln_3, ln_4, ln_5, ln_6, ln_7, ln_8, ln_9) (sl_0, sl_1, sl_2) (pd0, pd1) (ct_0, ct_1) sg (cd, ln9, pl, le, ro, co, nu) (sv, sl9, tk, ct9))) hP hD hS hA (va_runV (As := []) (rest := []) hC (c_X9_savedStates l D τ α (gH cI cB) (h, old, ch) (rg0, rg1) (ln_0, ln_1, ln_2, ln_3, ln_4, ln_5, ln_6, ln_7, ln_8, ln_9) (sl_0, sl_1, sl_2) (pd0, pd1) (ct_0, ct_1) sg (cd, ln9, pl, le, ro, co, nu) sv sl9 tk ct9 _) (cwV 0 hts (gV hB wl_L_189 wn_X9_savedStates ws_X9_savedStates wi_X9 wc_X9_savedStates) rfl rfl rfl hd_X9_savedStates ⟨Nat.le_of_ble_eq_true rfl, Nat.le_of_ble_eq_true rfl⟩) (zp_V hKh (zPc hP) (zDc hD) hS hA hG (ci := 9) (q0 := 0) rfl rfl rfl) rfl rfl hl.1 rfl (lv_room (Nat.le_of_ble_eq_true rfl)) dL_law_725 ⟨by show _ ≤ 1083; omega, by show _ ≤ 10672; omega⟩) (fun r w1 H locs hq9 hP hD hS => ?_)
  obtain ⟨vc, hf0, rfl, rfl⟩ := hq9
  rw [List.append_assoc] at hP hD
  refine lv_aload_n hx hb dL_law_728 rfl (lv_at hl 2 rfl) ?_
  have hP := zPswap hP
  have hD := zDswap hD
  refine zfw_calli (mc := 0) (ms := 0)  hP hD hS hA (va_runV (As := []) (rest := [.int (zI vc)]) hC (c_X10_savedStates l D τ β (gM cI cB) h sv sl9 tk cd mn mi mc mq mr mw ct9 ln9 mt ma mx mh _) (cwV 0 hts (gV hB wl_L_192 wn_X10_savedStates ws_X10_savedStates wi_X10 wc_X10_savedStates) rfl rfl rfl hd_X10_savedStates ⟨Nat.le_of_ble_eq_true rfl, Nat.le_of_ble_eq_true rfl⟩) (zp_V hKm (zPc hP) (zDc hD) hS hA hG (ci := 10) (q0 := 0) rfl rfl rfl) rfl rfl hl.1 rfl (lv_room (Nat.le_of_ble_eq_true rfl)) dL_law_729 ⟨by show _ ≤ 1083; omega, by show _ ≤ 10672; omega⟩) (fun r w1 H locs hq9 hP hD hS => ?_)
  obtain ⟨vm, hm0, rfl, rfl⟩ := hq9
  have hP := zPswap hP
  have hD := zDswap hD
  have heq_732 : vc = vm := by rw [hf0, hm0]
  refine z_iceqE (tgt := 2893) hx hb heq_732 dL_law_732 (by decide) ?_
  refine W.widen (k := cells + 2) (n := slots + 12) (by omega) (by omega) ?_
  exact hk _ _ _ _ _ _ _ _ _ _ _ _ _ _ _ _ _ _ _ _ _ _ _ _ _ _ _ _ _ _ _ H locs ls (hI) hP hD hS (lv_sub hl [0, 1, 2, 3, 4] rfl)
set_option maxHeartbeats 4000000 in
set_option maxRecDepth 100000 in
theorem law_737 {p : Program} {l : Launch} {e : Env} {s : State} {m : MethodId} {below : List Frame} {meth : Method} {c : Code} {Q : State → Prop} {D : va_G} {τ : Nat → Nat} {A : Nat → Prop} {α β : Nat → Nat} {cI cB cL : ClassId} {o b L : Nat} {xs : Nat → Int32} {i : Int} {cells slots : Nat} (hX : LCx p l s m c D τ A cI cB cL b L xs) (hi : 0 ≤ i ∧ i + 6 ≤ L) (hc : cells + 2 ≤ 1083 ∧ slots + 12 ≤ 10672)
    (hk : LSt p l e s m below meth c Q D A α β cI cB cL o b i 2893 (cells + 2) (slots + 12)) : LSt p l e s m below meth c Q D A α β cI cB cL o b i 737 cells slots := by
  obtain ⟨hC, hKm, hKo, hKh, hG, hA, hGX, hst, hXs, hbl, hbA, hL⟩ := hX
  intro h old ch rg ln sl pd ct sg cd ln9 pl le ro co nu sv sl9 tk ct9 mn mi mc mq mr mw mt ma mx mh fo H locs ls hI hP hD hS hl
  obtain ⟨rg0, rg1⟩ := rg
  obtain ⟨ln_0, ln_1, ln_2, ln_3, ln_4, ln_5, ln_6, ln_7, ln_8, ln_9⟩ := ln
  obtain ⟨sl_0, sl_1, sl_2⟩ := sl
  obtain ⟨pd0, pd1⟩ := pd
  obtain ⟨ct_0, ct_1⟩ := ct
  have hx := hC.1
  have hb := hC.2.1
  have hml := hC.2.2.1
  have hts := hC.2.2.2.2
  have hB : ∀ w ∈ W0, w ∈ W0 := fun _ h => h
  have hh := hI.1
  have hct := hI.2.2.2.1
  have hln := hI.2.2.2.2.1
  have hmf := hI.2.2.2.2.2.1
  have hov := hI.2.2.2.2.2.2
  have hcd : ∀ k, 0 ≤ k → k < ln9 → 0 ≤ cd k ∧ cd k ≤ 126 := fun k a b => by have z := hmf k a b; omega
  have hP : va_P D vwCl ((wM β (gM cI cB) h sv sl9 tk cd mn mi mc mq mr mw ct9 ln9 mt ma mx mh) ++ (oC cL o fo ++ (wH α (gH cI cB) (h, old, ch) (rg0, rg1) (ln_0, ln_1, ln_2, ln_3, ln_4, ln_5, ln_6, ln_7, ln_8, ln_9) (sl_0, sl_1, sl_2) (pd0, pd1) (ct_0, ct_1) sg (cd, ln9, pl, le, ro, co, nu) (sv, sl9, tk, ct9)))) H := hP
  have hD : va_D A ((wM β (gM cI cB) h sv sl9 tk cd mn mi mc mq mr mw ct9 ln9 mt ma mx mh) ++ (oC cL o fo ++ (wH α (gH cI cB) (h, old, ch) (rg0, rg1) (ln_0, ln_1, ln_2, ln_3, ln_4, ln_5, ln_6, ln_7, ln_8, ln_9) (sl_0, sl_1, sl_2) (pd0, pd1) (ct_0, ct_1) sg (cd, ln9, pl, le, ro, co, nu) (sv, sl9, tk, ct9)))) := hD
  refine lv_aload_n hx hb dL_law_737 rfl (lv_at hl 1 rfl) ?_
  refine lv_aload_n hx hb dL_law_738 rfl (lv_at hl 0 rfl) ?_
  refine lv_iload hx hb dL_law_739 (lv_at hl 4 rfl) ?_
  refine lv_iconst (v := zI 1) hx hb dL_law_741 rfl ?_
  refine z_iadd hx hb dL_law_742 ?_
  refine z_sld hx hb hXs hbl hbA hS ⟨⟨by omega, by omega⟩, hL⟩ dL_law_743 ?_
  refine lv_aload_n hx hb dL_law_744 rfl (lv_at hl 0 rfl) ?_
  refine lv_iload hx hb dL_law_745 (lv_at hl 4 rfl) ?_
  refine lv_iconst (v := zI 2) hx hb dL_law_747 rfl ?_
  refine z_iadd hx hb dL_law_748 ?_
  refine z_sld hx hb hXs hbl hbA hS ⟨⟨by omega, by omega⟩, hL⟩ dL_law_749 ?_
  refine lv_aload_n hx hb dL_law_750 rfl (lv_at hl 3 rfl) ?_
  refine zfw_calli (mc := 1) (ms := 6) (wr := (wM β (gM cI cB) h sv sl9 tk cd mn mi mc mq mr mw ct9 ln9 mt ma mx mh)) (wc := oC cL o fo ++ (wH α (gH cI cB) (h, old, ch) (rg0, rg1) (ln_0, ln_1, ln_2, ln_3, ln_4, ln_5, ln_6, ln_7, ln_8, ln_9) (sl_0, sl_1, sl_2) (pd0, pd1) (ct_0, ct_1) sg (cd, ln9, pl, le, ro, co, nu) (sv, sl9, tk, ct9))) hP hD hS hA (vx_runSW (As := [.ref (α 0), .int (zI (xI xs (i + 1))), .int (zI (xI xs (i + 2))), .ref o]) (rest := []) hC (c_L_heightOf l D τ α (gH cI cB) h old ch (rg0, rg1) (ln_0, ln_1, ln_2, ln_3, ln_4, ln_5, ln_6, ln_7, ln_8, ln_9) (sl_0, sl_1, sl_2) (pd0, pd1) (ct_0, ct_1) sg (cd, ln9, pl, le, ro, co, nu) (sv, sl9, tk, ct9) (xI xs (i + 1)) (xI xs (i + 2)) (xI_b xs _) (xI_b xs _) hh hst cL o fo _) (vx_cwSW 4 hts (gSW hB wl_L_193 wt_L_heightOf wi_L wc_L_heightOf) rfl rfl rfl hd_L_heightOf.2 ⟨Nat.le_of_ble_eq_true rfl, Nat.le_of_ble_eq_true rfl⟩) (zpX_S hKo (zPc hP) (zDc hD) hS hA hG hGX) rfl rfl hl.1 rfl (lv_room (Nat.le_of_ble_eq_true rfl)) dL_law_751 ⟨by show _ ≤ 1083; omega, by show _ ≤ 10672; omega⟩) (fun r w1 H locs hq9 hP hD hS => ?_)
  rcases hq9 with hq9 | hq9
  · skip
    obtain ⟨vc, go, hf0, hf1, hgo, rfl, rfl⟩ := hq9
    refine lv_istore (lv' := [(5, .int (zI 0)), (0, .ref b), (1, .ref (α 0)), (2, .ref (β 0)), (3, .ref o), (4, .int (zI i))]) hx hb dL_law_754 hl (by decide) rfl (fun ls hl => ?_)
    refine lv_aload_n hx hb dL_law_756 rfl (lv_at hl 3 rfl) ?_
    refine lv_aload_n hx hb dL_law_757 rfl (lv_at hl 1 rfl) ?_
    refine lv_iload hx hb dL_law_758 (lv_at hl 5 rfl) ?_
    refine lv_iconst (v := zI 1) hx hb dL_law_760 rfl ?_
    refine z_iadd hx hb dL_law_761 ?_
    refine z_sld hx hb hXs hbl hbA hS ⟨⟨by omega, by omega⟩, hL⟩ dL_law_762 ?_
    refine lv_aload_n hx hb dL_law_763 rfl (lv_at hl 1 rfl) ?_
    refine lv_iload hx hb dL_law_764 (lv_at hl 5 rfl) ?_
    refine lv_iconst (v := zI 2) hx hb dL_law_766 rfl ?_
    refine z_iadd hx hb dL_law_767 ?_
    refine z_sld hx hb hXs hbl hbA hS ⟨⟨by omega, by omega⟩, hL⟩ dL_law_768 ?_
    have hP := zPswap hP
    have hD := zDswap hD
    refine zfw_calli (mc := 0) (ms := 0)  hP hD hS hA (va_runV (As := [.int (zI (xI xs (i + 1))), .int (zI (xI xs (i + 2)))]) (rest := []) hC (c_X10_heightOf l D τ β (gM cI cB) h sv sl9 tk cd mn mi mc mq mr mw ct9 ln9 mt ma mx mh (xI xs (i + 1)) (xI xs (i + 2)) (xI_b xs _) (xI_b xs _) _) (cwV 2 hts (gV hB wl_L_196 wn_X10_heightOf ws_X10_heightOf wi_X10 wc_X10_heightOf) rfl rfl rfl hd_X10_heightOf ⟨Nat.le_of_ble_eq_true rfl, Nat.le_of_ble_eq_true rfl⟩) (zp_V hKm (zPc hP) (zDc hD) hS hA hG (ci := 10) (q0 := 0) rfl rfl rfl) rfl rfl hl.1 rfl (lv_room (Nat.le_of_ble_eq_true rfl)) dL_law_769 ⟨by show _ ≤ 1083; omega, by show _ ≤ 10672; omega⟩) (fun r w1 H locs hq9 hP hD hS => ?_)
    obtain ⟨t2m, vm, hm0, hm1, rfl, rfl⟩ := hq9
    have hP := zPswap hP
    have hD := zDswap hD
    refine lv_istore (lv' := [(6, .int (zI vm)), (5, .int (zI 0)), (0, .ref b), (1, .ref (α 0)), (2, .ref (β 0)), (3, .ref o), (4, .int (zI i))]) hx hb dL_law_772 hl (by decide) rfl (fun ls hl => ?_)
    refine lv_aload_n hx hb dL_law_774 rfl (lv_at hl 4 rfl) ?_
    have hP := zPswap hP
    have hD := zDswap hD
    refine zfw_calli (mc := 0) (ms := 0)  hP hD hS hA (va_runV (As := []) (rest := []) hC (c_X10_thrown l D τ β (gM cI cB) _ _ _ _ _ _ _ _ _ _ _ _ _ _ _ _ _ _) (cwV 0 hts (gV hB wl_L_145 wn_X10_thrown ws_X10_thrown wi_X10 wc_X10_thrown) rfl rfl rfl hd_X10_thrown ⟨Nat.le_of_ble_eq_true rfl, Nat.le_of_ble_eq_true rfl⟩) (zp_V hKm (zPc hP) (zDc hD) hS hA hG (ci := 10) (q0 := 0) rfl rfl rfl) rfl rfl hl.1 rfl (lv_room (Nat.le_of_ble_eq_true rfl)) dL_law_775 ⟨by show _ ≤ 1083; omega, by show _ ≤ 10672; omega⟩) (fun r w1 H locs hq9 hP hD hS => ?_)
    obtain ⟨vt, ht0, rfl, rfl⟩ := hq9
    have hP := zPswap hP
    have hD := zDswap hD
    refine lv_iload hx hb dL_law_778 (lv_at hl 1 rfl) ?_
    have heq_780 : vt = 0 := by rw [ht0, hm0, hf0]
    refine z_iceqE (tgt := 785) hx hb heq_780 dL_law_780 (by decide) ?_
    refine lv_iload hx hb dL_law_785 (lv_at hl 1 rfl) ?_
    refine z_ifne (tgt := 802) hx hb ⟨by omega, by omega⟩ dL_law_787 (by decide) (fun c_787 => absurd rfl c_787) (fun c_787 => ?_)
    refine lv_aload_n hx hb dL_law_790 rfl (lv_at hl 5 rfl) ?_
    refine lv_iconst (v := zI 0) hx hb dL_law_791 rfl ?_
    refine zo_lald hx hb hKo (zPc hP) dL_law_792 ?_
    refine lv_iload hx hb dL_law_793 (lv_at hl 0 rfl) ?_
    refine lv_i2l (v := (zI vm).toInt64) hx hb dL_law_795 rfl ?_
    refine z_lcmpE hx hb (by rw [hgo, hf1, (hm1 (hm0.trans hf0))]) dL_law_796 ?_
    refine z_ifeq (tgt := 802) hx hb ⟨by omega, by omega⟩ dL_law_797 (by decide) (fun c_797 => ?_) (fun c_797 => absurd rfl c_797)
    refine lv_goto (tgt := 2893) hx hb dL_law_802 (by decide) ?_
    refine W.widen (k := cells + 2) (n := slots + 12) (by omega) (by omega) ?_
    exact hk _ _ _ _ _ _ _ _ _ _ _ _ _ _ _ _ _ _ _ _ _ _ _ _ _ _ _ _ _ _ _ H locs ls (hI) hP hD hS (lv_sub hl [2, 3, 4, 5, 6] rfl)
  · skip
    obtain ⟨hx9, rfl, rfl⟩ := hq9
    refine lv_istore (lv' := [(5, .int (zI 1)), (0, .ref b), (1, .ref (α 0)), (2, .ref (β 0)), (3, .ref o), (4, .int (zI i))]) hx hb dL_law_754 hl (by decide) rfl (fun ls hl => ?_)
    refine lv_aload_n hx hb dL_law_756 rfl (lv_at hl 3 rfl) ?_
    refine lv_aload_n hx hb dL_law_757 rfl (lv_at hl 1 rfl) ?_
    refine lv_iload hx hb dL_law_758 (lv_at hl 5 rfl) ?_
    refine lv_iconst (v := zI 1) hx hb dL_law_760 rfl ?_
    refine z_iadd hx hb dL_law_761 ?_
    refine z_sld hx hb hXs hbl hbA hS ⟨⟨by omega, by omega⟩, hL⟩ dL_law_762 ?_
    refine lv_aload_n hx hb dL_law_763 rfl (lv_at hl 1 rfl) ?_
    refine lv_iload hx hb dL_law_764 (lv_at hl 5 rfl) ?_
    refine lv_iconst (v := zI 2) hx hb dL_law_766 rfl ?_
    refine z_iadd hx hb dL_law_767 ?_
    refine z_sld hx hb hXs hbl hbA hS ⟨⟨by omega, by omega⟩, hL⟩ dL_law_768 ?_
    have hP := zPswap hP
    have hD := zDswap hD
    refine zfw_calli (mc := 0) (ms := 0)  hP hD hS hA (va_runV (As := [.int (zI (xI xs (i + 1))), .int (zI (xI xs (i + 2)))]) (rest := []) hC (c_X10_heightOf l D τ β (gM cI cB) h sv sl9 tk cd mn mi mc mq mr mw ct9 ln9 mt ma mx mh (xI xs (i + 1)) (xI xs (i + 2)) (xI_b xs _) (xI_b xs _) _) (cwV 2 hts (gV hB wl_L_196 wn_X10_heightOf ws_X10_heightOf wi_X10 wc_X10_heightOf) rfl rfl rfl hd_X10_heightOf ⟨Nat.le_of_ble_eq_true rfl, Nat.le_of_ble_eq_true rfl⟩) (zp_V hKm (zPc hP) (zDc hD) hS hA hG (ci := 10) (q0 := 0) rfl rfl rfl) rfl rfl hl.1 rfl (lv_room (Nat.le_of_ble_eq_true rfl)) dL_law_769 ⟨by show _ ≤ 1083; omega, by show _ ≤ 10672; omega⟩) (fun r w1 H locs hq9 hP hD hS => ?_)
    obtain ⟨t2m, vm, hm0, hm1, rfl, rfl⟩ := hq9
    have hP := zPswap hP
    have hD := zDswap hD
    refine lv_istore (lv' := [(6, .int (zI vm)), (5, .int (zI 1)), (0, .ref b), (1, .ref (α 0)), (2, .ref (β 0)), (3, .ref o), (4, .int (zI i))]) hx hb dL_law_772 hl (by decide) rfl (fun ls hl => ?_)
    refine lv_aload_n hx hb dL_law_774 rfl (lv_at hl 4 rfl) ?_
    have hP := zPswap hP
    have hD := zDswap hD
    refine zfw_calli (mc := 0) (ms := 0)  hP hD hS hA (va_runV (As := []) (rest := []) hC (c_X10_thrown l D τ β (gM cI cB) _ _ _ _ _ _ _ _ _ _ _ _ _ _ _ _ _ _) (cwV 0 hts (gV hB wl_L_145 wn_X10_thrown ws_X10_thrown wi_X10 wc_X10_thrown) rfl rfl rfl hd_X10_thrown ⟨Nat.le_of_ble_eq_true rfl, Nat.le_of_ble_eq_true rfl⟩) (zp_V hKm (zPc hP) (zDc hD) hS hA hG (ci := 10) (q0 := 0) rfl rfl rfl) rfl rfl hl.1 rfl (lv_room (Nat.le_of_ble_eq_true rfl)) dL_law_775 ⟨by show _ ≤ 1083; omega, by show _ ≤ 10672; omega⟩) (fun r w1 H locs hq9 hP hD hS => ?_)
    obtain ⟨vt, ht0, rfl, rfl⟩ := hq9
    have hP := zPswap hP
    have hD := zDswap hD
    refine lv_iload hx hb dL_law_778 (lv_at hl 1 rfl) ?_
    have heq_780 : vt = 1 := by rw [ht0, hm0, hx9]
    refine z_iceqE (tgt := 785) hx hb heq_780 dL_law_780 (by decide) ?_
    refine lv_iload hx hb dL_law_785 (lv_at hl 1 rfl) ?_
    refine z_ifne (tgt := 802) hx hb ⟨by omega, by omega⟩ dL_law_787 (by decide) (fun c_787 => ?_) (fun c_787 => absurd c_787 (by decide))
    refine lv_goto (tgt := 2893) hx hb dL_law_802 (by decide) ?_
    refine W.widen (k := cells + 2) (n := slots + 12) (by omega) (by omega) ?_
    exact hk _ _ _ _ _ _ _ _ _ _ _ _ _ _ _ _ _ _ _ _ _ _ _ _ _ _ _ _ _ _ _ H locs ls (hI) hP hD hS (lv_sub hl [2, 3, 4, 5, 6] rfl)
set_option maxHeartbeats 4000000 in
set_option maxRecDepth 100000 in
theorem law_805 {p : Program} {l : Launch} {e : Env} {s : State} {m : MethodId} {below : List Frame} {meth : Method} {c : Code} {Q : State → Prop} {D : va_G} {τ : Nat → Nat} {A : Nat → Prop} {α β : Nat → Nat} {cI cB cL : ClassId} {o b L : Nat} {xs : Nat → Int32} {i : Int} {cells slots : Nat} (hX : LCx p l s m c D τ A cI cB cL b L xs) (hi : 0 ≤ i ∧ i + 6 ≤ L) (hc : cells + 2 ≤ 1083 ∧ slots + 12 ≤ 10672)
    (hk : LSt p l e s m below meth c Q D A α β cI cB cL o b i 2893 (cells + 2) (slots + 12)) : LSt p l e s m below meth c Q D A α β cI cB cL o b i 805 cells slots := by
  obtain ⟨hC, hKm, hKo, hKh, hG, hA, hGX, hst, hXs, hbl, hbA, hL⟩ := hX
  intro h old ch rg ln sl pd ct sg cd ln9 pl le ro co nu sv sl9 tk ct9 mn mi mc mq mr mw mt ma mx mh fo H locs ls hI hP hD hS hl
  obtain ⟨rg0, rg1⟩ := rg
  obtain ⟨ln_0, ln_1, ln_2, ln_3, ln_4, ln_5, ln_6, ln_7, ln_8, ln_9⟩ := ln
  obtain ⟨sl_0, sl_1, sl_2⟩ := sl
  obtain ⟨pd0, pd1⟩ := pd
  obtain ⟨ct_0, ct_1⟩ := ct
  have hx := hC.1
  have hb := hC.2.1
  have hml := hC.2.2.1
  have hts := hC.2.2.2.2
  have hB : ∀ w ∈ W0, w ∈ W0 := fun _ h => h
  have hh := hI.1
  have hct := hI.2.2.2.1
  have hln := hI.2.2.2.2.1
  have hmf := hI.2.2.2.2.2.1
  have hov := hI.2.2.2.2.2.2
  have hcd : ∀ k, 0 ≤ k → k < ln9 → 0 ≤ cd k ∧ cd k ≤ 126 := fun k a b => by have z := hmf k a b; omega
  have hP : va_P D vwCl ((wM β (gM cI cB) h sv sl9 tk cd mn mi mc mq mr mw ct9 ln9 mt ma mx mh) ++ (oC cL o fo ++ (wH α (gH cI cB) (h, old, ch) (rg0, rg1) (ln_0, ln_1, ln_2, ln_3, ln_4, ln_5, ln_6, ln_7, ln_8, ln_9) (sl_0, sl_1, sl_2) (pd0, pd1) (ct_0, ct_1) sg (cd, ln9, pl, le, ro, co, nu) (sv, sl9, tk, ct9)))) H := hP
  have hD : va_D A ((wM β (gM cI cB) h sv sl9 tk cd mn mi mc mq mr mw ct9 ln9 mt ma mx mh) ++ (oC cL o fo ++ (wH α (gH cI cB) (h, old, ch) (rg0, rg1) (ln_0, ln_1, ln_2, ln_3, ln_4, ln_5, ln_6, ln_7, ln_8, ln_9) (sl_0, sl_1, sl_2) (pd0, pd1) (ct_0, ct_1) sg (cd, ln9, pl, le, ro, co, nu) (sv, sl9, tk, ct9)))) := hD
  refine lv_aload_n hx hb dL_law_805 rfl (lv_at hl 1 rfl) ?_
  have hP : va_P D vwCl (((wM β (gM cI cB) h sv sl9 tk cd mn mi mc mq mr mw ct9 ln9 mt ma mx mh) ++ oC cL o fo) ++ (wH α (gH cI cB) (h, old, ch) (rg0, rg1) (ln_0, ln_1, ln_2, ln_3, ln_4, ln_5, ln_6, ln_7, ln_8, ln_9) (sl_0, sl_1, sl_2) (pd0, pd1) (ct_0, ct_1) sg (cd, ln9, pl, le, ro, co, nu) (sv, sl9, tk, ct9))) H := by rw [List.append_assoc]; exact hP
  have hD : va_D A (((wM β (gM cI cB) h sv sl9 tk cd mn mi mc mq mr mw ct9 ln9 mt ma mx mh) ++ oC cL o fo) ++ (wH α (gH cI cB) (h, old, ch) (rg0, rg1) (ln_0, ln_1, ln_2, ln_3, ln_4, ln_5, ln_6, ln_7, ln_8, ln_9) (sl_0, sl_1, sl_2) (pd0, pd1) (ct_0, ct_1) sg (cd, ln9, pl, le, ro, co, nu) (sv, sl9, tk, ct9))) := by rw [List.append_assoc]; exact hD
  refine zfw_calli (mc := 0) (ms := 0) (wr := (wM β (gM cI cB) h sv sl9 tk cd mn mi mc mq mr mw ct9 ln9 mt ma mx mh) ++ oC cL o fo) (wc := (wH α (gH cI cB) (h, old, ch) (rg0, rg1) (ln_0, ln_1, ln_2, ln_3, ln_4, ln_5, ln_6, ln_7, ln_8, ln_9) (sl_0, sl_1, sl_2) (pd0, pd1) (ct_0, ct_1) sg (cd, ln9, pl, le, ro, co, nu) (sv, sl9, tk, ct9))) hP hD hS hA (va_runV (As := []) (rest := []) hC (c_X9_summit l D τ α (gH cI cB) h old ch (rg0, rg1) (ln_0, ln_1, ln_2, ln_3, ln_4, ln_5, ln_6, ln_7, ln_8, ln_9) (sl_0, sl_1, sl_2) (pd0, pd1) (ct_0, ct_1) sg (cd, ln9, pl, le, ro, co, nu) (sv, sl9, tk, ct9) hh _) (cwV 0 hts (gV hB wl_L_197 wn_X9_summit ws_X9_summit wi_X9 wc_X9_summit) rfl rfl rfl hd_X9_summit ⟨Nat.le_of_ble_eq_true rfl, Nat.le_of_ble_eq_true rfl⟩) (zp_V hKh (zPc hP) (zDc hD) hS hA hG (ci := 9) (q0 := 0) rfl rfl rfl) rfl rfl hl.1 rfl (lv_room (Nat.le_of_ble_eq_true rfl)) dL_law_806 ⟨by show _ ≤ 1083; omega, by show _ ≤ 10672; omega⟩) (fun r w1 H locs hq9 hP hD hS => ?_)
  obtain ⟨vc, hf0, hf1, rfl, rfl⟩ := hq9
  rw [List.append_assoc] at hP hD
  refine lv_aload_n hx hb dL_law_809 rfl (lv_at hl 2 rfl) ?_
  have hP := zPswap hP
  have hD := zDswap hD
  refine zfw_calli (mc := 0) (ms := 0)  hP hD hS hA (va_runV (As := []) (rest := [.int (zI vc)]) hC (c_X10_summit l D τ β (gM cI cB) h sv sl9 tk cd mn mi mc mq mr mw ct9 ln9 mt ma mx mh hh _) (cwV 0 hts (gV hB wl_L_200 wn_X10_summit ws_X10_summit wi_X10 wc_X10_summit) rfl rfl rfl hd_X10_summit ⟨Nat.le_of_ble_eq_true rfl, Nat.le_of_ble_eq_true rfl⟩) (zp_V hKm (zPc hP) (zDc hD) hS hA hG (ci := 10) (q0 := 0) rfl rfl rfl) rfl rfl hl.1 rfl (lv_room (Nat.le_of_ble_eq_true rfl)) dL_law_810 ⟨by show _ ≤ 1083; omega, by show _ ≤ 10672; omega⟩) (fun r w1 H locs hq9 hP hD hS => ?_)
  obtain ⟨vm, hm0, hm1, rfl, rfl⟩ := hq9
  have hP := zPswap hP
  have hD := zDswap hD
  have heq_813 : vc = vm := by rw [hf0, hm0]
  refine z_iceqE (tgt := 2893) hx hb heq_813 dL_law_813 (by decide) ?_
  refine W.widen (k := cells + 2) (n := slots + 12) (by omega) (by omega) ?_
  exact hk _ _ _ _ _ _ _ _ _ _ _ _ _ _ _ _ _ _ _ _ _ _ _ _ _ _ _ _ _ _ _ H locs ls (hI) hP hD hS (lv_sub hl [0, 1, 2, 3, 4] rfl)
set_option maxHeartbeats 4000000 in
set_option maxRecDepth 100000 in
theorem law_818 {p : Program} {l : Launch} {e : Env} {s : State} {m : MethodId} {below : List Frame} {meth : Method} {c : Code} {Q : State → Prop} {D : va_G} {τ : Nat → Nat} {A : Nat → Prop} {α β : Nat → Nat} {cI cB cL : ClassId} {o b L : Nat} {xs : Nat → Int32} {i : Int} {cells slots : Nat} (hX : LCx p l s m c D τ A cI cB cL b L xs) (hi : 0 ≤ i ∧ i + 6 ≤ L) (hc : cells + 2 ≤ 1083 ∧ slots + 12 ≤ 10672)
    (hk : LSt p l e s m below meth c Q D A α β cI cB cL o b i 2893 (cells + 2) (slots + 12)) : LSt p l e s m below meth c Q D A α β cI cB cL o b i 818 cells slots := by
  obtain ⟨hC, hKm, hKo, hKh, hG, hA, hGX, hst, hXs, hbl, hbA, hL⟩ := hX
  intro h old ch rg ln sl pd ct sg cd ln9 pl le ro co nu sv sl9 tk ct9 mn mi mc mq mr mw mt ma mx mh fo H locs ls hI hP hD hS hl
  obtain ⟨rg0, rg1⟩ := rg
  obtain ⟨ln_0, ln_1, ln_2, ln_3, ln_4, ln_5, ln_6, ln_7, ln_8, ln_9⟩ := ln
  obtain ⟨sl_0, sl_1, sl_2⟩ := sl
  obtain ⟨pd0, pd1⟩ := pd
  obtain ⟨ct_0, ct_1⟩ := ct
  have hx := hC.1
  have hb := hC.2.1
  have hml := hC.2.2.1
  have hts := hC.2.2.2.2
  have hB : ∀ w ∈ W0, w ∈ W0 := fun _ h => h
  have hh := hI.1
  have hct := hI.2.2.2.1
  have hln := hI.2.2.2.2.1
  have hmf := hI.2.2.2.2.2.1
  have hov := hI.2.2.2.2.2.2
  have hcd : ∀ k, 0 ≤ k → k < ln9 → 0 ≤ cd k ∧ cd k ≤ 126 := fun k a b => by have z := hmf k a b; omega
  have hP : va_P D vwCl ((wM β (gM cI cB) h sv sl9 tk cd mn mi mc mq mr mw ct9 ln9 mt ma mx mh) ++ (oC cL o fo ++ (wH α (gH cI cB) (h, old, ch) (rg0, rg1) (ln_0, ln_1, ln_2, ln_3, ln_4, ln_5, ln_6, ln_7, ln_8, ln_9) (sl_0, sl_1, sl_2) (pd0, pd1) (ct_0, ct_1) sg (cd, ln9, pl, le, ro, co, nu) (sv, sl9, tk, ct9)))) H := hP
  have hD : va_D A ((wM β (gM cI cB) h sv sl9 tk cd mn mi mc mq mr mw ct9 ln9 mt ma mx mh) ++ (oC cL o fo ++ (wH α (gH cI cB) (h, old, ch) (rg0, rg1) (ln_0, ln_1, ln_2, ln_3, ln_4, ln_5, ln_6, ln_7, ln_8, ln_9) (sl_0, sl_1, sl_2) (pd0, pd1) (ct_0, ct_1) sg (cd, ln9, pl, le, ro, co, nu) (sv, sl9, tk, ct9)))) := hD
  refine lv_aload_n hx hb dL_law_818 rfl (lv_at hl 1 rfl) ?_
  have hP : va_P D vwCl (((wM β (gM cI cB) h sv sl9 tk cd mn mi mc mq mr mw ct9 ln9 mt ma mx mh) ++ oC cL o fo) ++ (wH α (gH cI cB) (h, old, ch) (rg0, rg1) (ln_0, ln_1, ln_2, ln_3, ln_4, ln_5, ln_6, ln_7, ln_8, ln_9) (sl_0, sl_1, sl_2) (pd0, pd1) (ct_0, ct_1) sg (cd, ln9, pl, le, ro, co, nu) (sv, sl9, tk, ct9))) H := by rw [List.append_assoc]; exact hP
  have hD : va_D A (((wM β (gM cI cB) h sv sl9 tk cd mn mi mc mq mr mw ct9 ln9 mt ma mx mh) ++ oC cL o fo) ++ (wH α (gH cI cB) (h, old, ch) (rg0, rg1) (ln_0, ln_1, ln_2, ln_3, ln_4, ln_5, ln_6, ln_7, ln_8, ln_9) (sl_0, sl_1, sl_2) (pd0, pd1) (ct_0, ct_1) sg (cd, ln9, pl, le, ro, co, nu) (sv, sl9, tk, ct9))) := by rw [List.append_assoc]; exact hD
  refine zfw_calli (mc := 0) (ms := 0) (wr := (wM β (gM cI cB) h sv sl9 tk cd mn mi mc mq mr mw ct9 ln9 mt ma mx mh) ++ oC cL o fo) (wc := (wH α (gH cI cB) (h, old, ch) (rg0, rg1) (ln_0, ln_1, ln_2, ln_3, ln_4, ln_5, ln_6, ln_7, ln_8, ln_9) (sl_0, sl_1, sl_2) (pd0, pd1) (ct_0, ct_1) sg (cd, ln9, pl, le, ro, co, nu) (sv, sl9, tk, ct9))) hP hD hS hA (va_runV (As := []) (rest := []) hC (c_X9_bulk l D τ α (gH cI cB) h old ch (rg0, rg1) (ln_0, ln_1, ln_2, ln_3, ln_4, ln_5, ln_6, ln_7, ln_8, ln_9) (sl_0, sl_1, sl_2) (pd0, pd1) (ct_0, ct_1) sg (cd, ln9, pl, le, ro, co, nu) (sv, sl9, tk, ct9) hh _) (cwV 0 hts (gV hB wl_L_201 wn_X9_bulk ws_X9_bulk wi_X9 wc_X9_bulk) rfl rfl rfl hd_X9_bulk ⟨Nat.le_of_ble_eq_true rfl, Nat.le_of_ble_eq_true rfl⟩) (zp_V hKh (zPc hP) (zDc hD) hS hA hG (ci := 9) (q0 := 0) rfl rfl rfl) rfl rfl hl.1 rfl (lv_room (Nat.le_of_ble_eq_true rfl)) dL_law_819 ⟨by show _ ≤ 1083; omega, by show _ ≤ 10672; omega⟩) (fun r w1 H locs hq9 hP hD hS => ?_)
  obtain ⟨vc, hf0, hf1, rfl, rfl⟩ := hq9
  rw [List.append_assoc] at hP hD
  refine lv_aload_n hx hb dL_law_822 rfl (lv_at hl 2 rfl) ?_
  have hP := zPswap hP
  have hD := zDswap hD
  refine zfw_calli (mc := 0) (ms := 0)  hP hD hS hA (va_runV (As := []) (rest := [.int (zI vc)]) hC (c_X10_bulk l D τ β (gM cI cB) h sv sl9 tk cd mn mi mc mq mr mw ct9 ln9 mt ma mx mh hh _) (cwV 0 hts (gV hB wl_L_204 wn_X10_bulk ws_X10_bulk wi_X10 wc_X10_bulk) rfl rfl rfl hd_X10_bulk ⟨Nat.le_of_ble_eq_true rfl, Nat.le_of_ble_eq_true rfl⟩) (zp_V hKm (zPc hP) (zDc hD) hS hA hG (ci := 10) (q0 := 0) rfl rfl rfl) rfl rfl hl.1 rfl (lv_room (Nat.le_of_ble_eq_true rfl)) dL_law_823 ⟨by show _ ≤ 1083; omega, by show _ ≤ 10672; omega⟩) (fun r w1 H locs hq9 hP hD hS => ?_)
  obtain ⟨vm, hm0, hm1, rfl, rfl⟩ := hq9
  have hP := zPswap hP
  have hD := zDswap hD
  have heq_826 : vc = vm := by rw [hf0, hm0]
  refine z_iceqE (tgt := 2893) hx hb heq_826 dL_law_826 (by decide) ?_
  refine W.widen (k := cells + 2) (n := slots + 12) (by omega) (by omega) ?_
  exact hk _ _ _ _ _ _ _ _ _ _ _ _ _ _ _ _ _ _ _ _ _ _ _ _ _ _ _ _ _ _ _ H locs ls (hI) hP hD hS (lv_sub hl [0, 1, 2, 3, 4] rfl)
set_option maxHeartbeats 4000000 in
set_option maxRecDepth 100000 in
theorem law_831 {p : Program} {l : Launch} {e : Env} {s : State} {m : MethodId} {below : List Frame} {meth : Method} {c : Code} {Q : State → Prop} {D : va_G} {τ : Nat → Nat} {A : Nat → Prop} {α β : Nat → Nat} {cI cB cL : ClassId} {o b L : Nat} {xs : Nat → Int32} {i : Int} {cells slots : Nat} (hX : LCx p l s m c D τ A cI cB cL b L xs) (hi : 0 ≤ i ∧ i + 6 ≤ L) (hc : cells + 2 ≤ 1083 ∧ slots + 12 ≤ 10672)
    (hk : LSt p l e s m below meth c Q D A α β cI cB cL o b i 2893 (cells + 2) (slots + 12)) : LSt p l e s m below meth c Q D A α β cI cB cL o b i 831 cells slots := by
  obtain ⟨hC, hKm, hKo, hKh, hG, hA, hGX, hst, hXs, hbl, hbA, hL⟩ := hX
  intro h old ch rg ln sl pd ct sg cd ln9 pl le ro co nu sv sl9 tk ct9 mn mi mc mq mr mw mt ma mx mh fo H locs ls hI hP hD hS hl
  obtain ⟨rg0, rg1⟩ := rg
  obtain ⟨ln_0, ln_1, ln_2, ln_3, ln_4, ln_5, ln_6, ln_7, ln_8, ln_9⟩ := ln
  obtain ⟨sl_0, sl_1, sl_2⟩ := sl
  obtain ⟨pd0, pd1⟩ := pd
  obtain ⟨ct_0, ct_1⟩ := ct
  have hx := hC.1
  have hb := hC.2.1
  have hml := hC.2.2.1
  have hts := hC.2.2.2.2
  have hB : ∀ w ∈ W0, w ∈ W0 := fun _ h => h
  have hh := hI.1
  have hct := hI.2.2.2.1
  have hln := hI.2.2.2.2.1
  have hmf := hI.2.2.2.2.2.1
  have hov := hI.2.2.2.2.2.2
  have hcd : ∀ k, 0 ≤ k → k < ln9 → 0 ≤ cd k ∧ cd k ≤ 126 := fun k a b => by have z := hmf k a b; omega
  have hP : va_P D vwCl ((wM β (gM cI cB) h sv sl9 tk cd mn mi mc mq mr mw ct9 ln9 mt ma mx mh) ++ (oC cL o fo ++ (wH α (gH cI cB) (h, old, ch) (rg0, rg1) (ln_0, ln_1, ln_2, ln_3, ln_4, ln_5, ln_6, ln_7, ln_8, ln_9) (sl_0, sl_1, sl_2) (pd0, pd1) (ct_0, ct_1) sg (cd, ln9, pl, le, ro, co, nu) (sv, sl9, tk, ct9)))) H := hP
  have hD : va_D A ((wM β (gM cI cB) h sv sl9 tk cd mn mi mc mq mr mw ct9 ln9 mt ma mx mh) ++ (oC cL o fo ++ (wH α (gH cI cB) (h, old, ch) (rg0, rg1) (ln_0, ln_1, ln_2, ln_3, ln_4, ln_5, ln_6, ln_7, ln_8, ln_9) (sl_0, sl_1, sl_2) (pd0, pd1) (ct_0, ct_1) sg (cd, ln9, pl, le, ro, co, nu) (sv, sl9, tk, ct9)))) := hD
  refine lv_aload_n hx hb dL_law_831 rfl (lv_at hl 1 rfl) ?_
  refine lv_aload_n hx hb dL_law_832 rfl (lv_at hl 0 rfl) ?_
  refine lv_iload hx hb dL_law_833 (lv_at hl 4 rfl) ?_
  refine lv_iconst (v := zI 1) hx hb dL_law_835 rfl ?_
  refine z_iadd hx hb dL_law_836 ?_
  refine z_sld hx hb hXs hbl hbA hS ⟨⟨by omega, by omega⟩, hL⟩ dL_law_837 ?_
  refine lv_aload_n hx hb dL_law_838 rfl (lv_at hl 3 rfl) ?_
  refine zfw_calli (mc := 1) (ms := 6) (wr := (wM β (gM cI cB) h sv sl9 tk cd mn mi mc mq mr mw ct9 ln9 mt ma mx mh)) (wc := oC cL o fo ++ (wH α (gH cI cB) (h, old, ch) (rg0, rg1) (ln_0, ln_1, ln_2, ln_3, ln_4, ln_5, ln_6, ln_7, ln_8, ln_9) (sl_0, sl_1, sl_2) (pd0, pd1) (ct_0, ct_1) sg (cd, ln9, pl, le, ro, co, nu) (sv, sl9, tk, ct9))) hP hD hS hA (vx_runSW (As := [.ref (α 0), .int (zI (xI xs (i + 1))), .ref o]) (rest := []) hC (c_L_pointsAbove l D τ α (gH cI cB) h old ch (rg0, rg1) (ln_0, ln_1, ln_2, ln_3, ln_4, ln_5, ln_6, ln_7, ln_8, ln_9) (sl_0, sl_1, sl_2) (pd0, pd1) (ct_0, ct_1) sg (cd, ln9, pl, le, ro, co, nu) (sv, sl9, tk, ct9) (xI xs (i + 1)) (xI_b xs _) hh hst cL o fo _) (vx_cwSW 3 hts (gSW hB wl_L_205 wt_L_pointsAbove wi_L wc_L_pointsAbove) rfl rfl rfl hd_L_pointsAbove.2 ⟨Nat.le_of_ble_eq_true rfl, Nat.le_of_ble_eq_true rfl⟩) (zpX_S hKo (zPc hP) (zDc hD) hS hA hG hGX) rfl rfl hl.1 rfl (lv_room (Nat.le_of_ble_eq_true rfl)) dL_law_839 ⟨by show _ ≤ 1083; omega, by show _ ≤ 10672; omega⟩) (fun r w1 H locs hq9 hP hD hS => ?_)
  rcases hq9 with hq9 | hq9
  · skip
    obtain ⟨vc, go, hf0, hf1, hf2, hgo, rfl, rfl⟩ := hq9
    refine lv_istore (lv' := [(5, .int (zI 0)), (0, .ref b), (1, .ref (α 0)), (2, .ref (β 0)), (3, .ref o), (4, .int (zI i))]) hx hb dL_law_842 hl (by decide) rfl (fun ls hl => ?_)
    refine lv_aload_n hx hb dL_law_844 rfl (lv_at hl 3 rfl) ?_
    refine lv_aload_n hx hb dL_law_845 rfl (lv_at hl 1 rfl) ?_
    refine lv_iload hx hb dL_law_846 (lv_at hl 5 rfl) ?_
    refine lv_iconst (v := zI 1) hx hb dL_law_848 rfl ?_
    refine z_iadd hx hb dL_law_849 ?_
    refine z_sld hx hb hXs hbl hbA hS ⟨⟨by omega, by omega⟩, hL⟩ dL_law_850 ?_
    have hP := zPswap hP
    have hD := zDswap hD
    refine zfw_calli (mc := 0) (ms := 0)  hP hD hS hA (va_runV (As := [.int (zI (xI xs (i + 1)))]) (rest := []) hC (c_X10_pointsAbove l D τ β (gM cI cB) h sv sl9 tk cd mn mi mc mq mr mw ct9 ln9 mt ma mx mh (xI xs (i + 1)) (xI_b xs _) hh _) (cwV 1 hts (gV hB wl_L_207 wn_X10_pointsAbove ws_X10_pointsAbove wi_X10 wc_X10_pointsAbove) rfl rfl rfl hd_X10_pointsAbove ⟨Nat.le_of_ble_eq_true rfl, Nat.le_of_ble_eq_true rfl⟩) (zp_V hKm (zPc hP) (zDc hD) hS hA hG (ci := 10) (q0 := 0) rfl rfl rfl) rfl rfl hl.1 rfl (lv_room (Nat.le_of_ble_eq_true rfl)) dL_law_851 ⟨by show _ ≤ 1083; omega, by show _ ≤ 10672; omega⟩) (fun r w1 H locs hq9 hP hD hS => ?_)
    obtain ⟨t2m, vm, hm0, hm1, rfl, rfl⟩ := hq9
    have hP := zPswap hP
    have hD := zDswap hD
    refine lv_istore (lv' := [(6, .int (zI vm)), (5, .int (zI 0)), (0, .ref b), (1, .ref (α 0)), (2, .ref (β 0)), (3, .ref o), (4, .int (zI i))]) hx hb dL_law_854 hl (by decide) rfl (fun ls hl => ?_)
    refine lv_aload_n hx hb dL_law_856 rfl (lv_at hl 4 rfl) ?_
    have hP := zPswap hP
    have hD := zDswap hD
    refine zfw_calli (mc := 0) (ms := 0)  hP hD hS hA (va_runV (As := []) (rest := []) hC (c_X10_thrown l D τ β (gM cI cB) _ _ _ _ _ _ _ _ _ _ _ _ _ _ _ _ _ _) (cwV 0 hts (gV hB wl_L_145 wn_X10_thrown ws_X10_thrown wi_X10 wc_X10_thrown) rfl rfl rfl hd_X10_thrown ⟨Nat.le_of_ble_eq_true rfl, Nat.le_of_ble_eq_true rfl⟩) (zp_V hKm (zPc hP) (zDc hD) hS hA hG (ci := 10) (q0 := 0) rfl rfl rfl) rfl rfl hl.1 rfl (lv_room (Nat.le_of_ble_eq_true rfl)) dL_law_857 ⟨by show _ ≤ 1083; omega, by show _ ≤ 10672; omega⟩) (fun r w1 H locs hq9 hP hD hS => ?_)
    obtain ⟨vt, ht0, rfl, rfl⟩ := hq9
    have hP := zPswap hP
    have hD := zDswap hD
    refine lv_iload hx hb dL_law_860 (lv_at hl 1 rfl) ?_
    have heq_862 : vt = 0 := by rw [ht0, hm0, hf0]
    refine z_iceqE (tgt := 867) hx hb heq_862 dL_law_862 (by decide) ?_
    refine lv_iload hx hb dL_law_867 (lv_at hl 1 rfl) ?_
    refine z_ifne (tgt := 884) hx hb ⟨by omega, by omega⟩ dL_law_869 (by decide) (fun c_869 => absurd rfl c_869) (fun c_869 => ?_)
    refine lv_aload_n hx hb dL_law_872 rfl (lv_at hl 5 rfl) ?_
    refine lv_iconst (v := zI 0) hx hb dL_law_873 rfl ?_
    refine zo_lald hx hb hKo (zPc hP) dL_law_874 ?_
    refine lv_iload hx hb dL_law_875 (lv_at hl 0 rfl) ?_
    refine lv_i2l (v := (zI vm).toInt64) hx hb dL_law_877 rfl ?_
    refine z_lcmpE hx hb (by rw [hgo, hf1, (hm1 (hm0.trans hf0))]) dL_law_878 ?_
    refine z_ifeq (tgt := 884) hx hb ⟨by omega, by omega⟩ dL_law_879 (by decide) (fun c_879 => ?_) (fun c_879 => absurd rfl c_879)
    refine lv_goto (tgt := 2893) hx hb dL_law_884 (by decide) ?_
    refine W.widen (k := cells + 2) (n := slots + 12) (by omega) (by omega) ?_
    exact hk _ _ _ _ _ _ _ _ _ _ _ _ _ _ _ _ _ _ _ _ _ _ _ _ _ _ _ _ _ _ _ H locs ls (hI) hP hD hS (lv_sub hl [2, 3, 4, 5, 6] rfl)
  · skip
    obtain ⟨hx9, rfl, rfl⟩ := hq9
    refine lv_istore (lv' := [(5, .int (zI 1)), (0, .ref b), (1, .ref (α 0)), (2, .ref (β 0)), (3, .ref o), (4, .int (zI i))]) hx hb dL_law_842 hl (by decide) rfl (fun ls hl => ?_)
    refine lv_aload_n hx hb dL_law_844 rfl (lv_at hl 3 rfl) ?_
    refine lv_aload_n hx hb dL_law_845 rfl (lv_at hl 1 rfl) ?_
    refine lv_iload hx hb dL_law_846 (lv_at hl 5 rfl) ?_
    refine lv_iconst (v := zI 1) hx hb dL_law_848 rfl ?_
    refine z_iadd hx hb dL_law_849 ?_
    refine z_sld hx hb hXs hbl hbA hS ⟨⟨by omega, by omega⟩, hL⟩ dL_law_850 ?_
    have hP := zPswap hP
    have hD := zDswap hD
    refine zfw_calli (mc := 0) (ms := 0)  hP hD hS hA (va_runV (As := [.int (zI (xI xs (i + 1)))]) (rest := []) hC (c_X10_pointsAbove l D τ β (gM cI cB) h sv sl9 tk cd mn mi mc mq mr mw ct9 ln9 mt ma mx mh (xI xs (i + 1)) (xI_b xs _) hh _) (cwV 1 hts (gV hB wl_L_207 wn_X10_pointsAbove ws_X10_pointsAbove wi_X10 wc_X10_pointsAbove) rfl rfl rfl hd_X10_pointsAbove ⟨Nat.le_of_ble_eq_true rfl, Nat.le_of_ble_eq_true rfl⟩) (zp_V hKm (zPc hP) (zDc hD) hS hA hG (ci := 10) (q0 := 0) rfl rfl rfl) rfl rfl hl.1 rfl (lv_room (Nat.le_of_ble_eq_true rfl)) dL_law_851 ⟨by show _ ≤ 1083; omega, by show _ ≤ 10672; omega⟩) (fun r w1 H locs hq9 hP hD hS => ?_)
    obtain ⟨t2m, vm, hm0, hm1, rfl, rfl⟩ := hq9
    have hP := zPswap hP
    have hD := zDswap hD
    refine lv_istore (lv' := [(6, .int (zI vm)), (5, .int (zI 1)), (0, .ref b), (1, .ref (α 0)), (2, .ref (β 0)), (3, .ref o), (4, .int (zI i))]) hx hb dL_law_854 hl (by decide) rfl (fun ls hl => ?_)
    refine lv_aload_n hx hb dL_law_856 rfl (lv_at hl 4 rfl) ?_
    have hP := zPswap hP
    have hD := zDswap hD
    refine zfw_calli (mc := 0) (ms := 0)  hP hD hS hA (va_runV (As := []) (rest := []) hC (c_X10_thrown l D τ β (gM cI cB) _ _ _ _ _ _ _ _ _ _ _ _ _ _ _ _ _ _) (cwV 0 hts (gV hB wl_L_145 wn_X10_thrown ws_X10_thrown wi_X10 wc_X10_thrown) rfl rfl rfl hd_X10_thrown ⟨Nat.le_of_ble_eq_true rfl, Nat.le_of_ble_eq_true rfl⟩) (zp_V hKm (zPc hP) (zDc hD) hS hA hG (ci := 10) (q0 := 0) rfl rfl rfl) rfl rfl hl.1 rfl (lv_room (Nat.le_of_ble_eq_true rfl)) dL_law_857 ⟨by show _ ≤ 1083; omega, by show _ ≤ 10672; omega⟩) (fun r w1 H locs hq9 hP hD hS => ?_)
    obtain ⟨vt, ht0, rfl, rfl⟩ := hq9
    have hP := zPswap hP
    have hD := zDswap hD
    refine lv_iload hx hb dL_law_860 (lv_at hl 1 rfl) ?_
    have heq_862 : vt = 1 := by rw [ht0, hm0, hx9]
    refine z_iceqE (tgt := 867) hx hb heq_862 dL_law_862 (by decide) ?_
    refine lv_iload hx hb dL_law_867 (lv_at hl 1 rfl) ?_
    refine z_ifne (tgt := 884) hx hb ⟨by omega, by omega⟩ dL_law_869 (by decide) (fun c_869 => ?_) (fun c_869 => absurd c_869 (by decide))
    refine lv_goto (tgt := 2893) hx hb dL_law_884 (by decide) ?_
    refine W.widen (k := cells + 2) (n := slots + 12) (by omega) (by omega) ?_
    exact hk _ _ _ _ _ _ _ _ _ _ _ _ _ _ _ _ _ _ _ _ _ _ _ _ _ _ _ _ _ _ _ H locs ls (hI) hP hD hS (lv_sub hl [2, 3, 4, 5, 6] rfl)
set_option maxHeartbeats 4000000 in
set_option maxRecDepth 100000 in
theorem law_887 {p : Program} {l : Launch} {e : Env} {s : State} {m : MethodId} {below : List Frame} {meth : Method} {c : Code} {Q : State → Prop} {D : va_G} {τ : Nat → Nat} {A : Nat → Prop} {α β : Nat → Nat} {cI cB cL : ClassId} {o b L : Nat} {xs : Nat → Int32} {i : Int} {cells slots : Nat} (hX : LCx p l s m c D τ A cI cB cL b L xs) (hi : 0 ≤ i ∧ i + 6 ≤ L) (hc : cells + 2 ≤ 1083 ∧ slots + 12 ≤ 10672)
    (hk : LSt p l e s m below meth c Q D A α β cI cB cL o b i 2893 (cells + 2) (slots + 12)) : LSt p l e s m below meth c Q D A α β cI cB cL o b i 887 cells slots := by
  obtain ⟨hC, hKm, hKo, hKh, hG, hA, hGX, hst, hXs, hbl, hbA, hL⟩ := hX
  intro h old ch rg ln sl pd ct sg cd ln9 pl le ro co nu sv sl9 tk ct9 mn mi mc mq mr mw mt ma mx mh fo H locs ls hI hP hD hS hl
  obtain ⟨rg0, rg1⟩ := rg
  obtain ⟨ln_0, ln_1, ln_2, ln_3, ln_4, ln_5, ln_6, ln_7, ln_8, ln_9⟩ := ln
  obtain ⟨sl_0, sl_1, sl_2⟩ := sl
  obtain ⟨pd0, pd1⟩ := pd
  obtain ⟨ct_0, ct_1⟩ := ct
  have hx := hC.1
  have hb := hC.2.1
  have hml := hC.2.2.1
  have hts := hC.2.2.2.2
  have hB : ∀ w ∈ W0, w ∈ W0 := fun _ h => h
  have hh := hI.1
  have hct := hI.2.2.2.1
  have hln := hI.2.2.2.2.1
  have hmf := hI.2.2.2.2.2.1
  have hov := hI.2.2.2.2.2.2
  have hcd : ∀ k, 0 ≤ k → k < ln9 → 0 ≤ cd k ∧ cd k ≤ 126 := fun k a b => by have z := hmf k a b; omega
  have hP : va_P D vwCl ((wM β (gM cI cB) h sv sl9 tk cd mn mi mc mq mr mw ct9 ln9 mt ma mx mh) ++ (oC cL o fo ++ (wH α (gH cI cB) (h, old, ch) (rg0, rg1) (ln_0, ln_1, ln_2, ln_3, ln_4, ln_5, ln_6, ln_7, ln_8, ln_9) (sl_0, sl_1, sl_2) (pd0, pd1) (ct_0, ct_1) sg (cd, ln9, pl, le, ro, co, nu) (sv, sl9, tk, ct9)))) H := hP
  have hD : va_D A ((wM β (gM cI cB) h sv sl9 tk cd mn mi mc mq mr mw ct9 ln9 mt ma mx mh) ++ (oC cL o fo ++ (wH α (gH cI cB) (h, old, ch) (rg0, rg1) (ln_0, ln_1, ln_2, ln_3, ln_4, ln_5, ln_6, ln_7, ln_8, ln_9) (sl_0, sl_1, sl_2) (pd0, pd1) (ct_0, ct_1) sg (cd, ln9, pl, le, ro, co, nu) (sv, sl9, tk, ct9)))) := hD
  refine lv_aload_n hx hb dL_law_887 rfl (lv_at hl 1 rfl) ?_
  refine lv_aload_n hx hb dL_law_888 rfl (lv_at hl 0 rfl) ?_
  refine lv_iload hx hb dL_law_889 (lv_at hl 4 rfl) ?_
  refine lv_iconst (v := zI 1) hx hb dL_law_891 rfl ?_
  refine z_iadd hx hb dL_law_892 ?_
  refine z_sld hx hb hXs hbl hbA hS ⟨⟨by omega, by omega⟩, hL⟩ dL_law_893 ?_
  refine lv_aload_n hx hb dL_law_894 rfl (lv_at hl 3 rfl) ?_
  refine zfw_calli (mc := 1) (ms := 6) (wr := (wM β (gM cI cB) h sv sl9 tk cd mn mi mc mq mr mw ct9 ln9 mt ma mx mh)) (wc := oC cL o fo ++ (wH α (gH cI cB) (h, old, ch) (rg0, rg1) (ln_0, ln_1, ln_2, ln_3, ln_4, ln_5, ln_6, ln_7, ln_8, ln_9) (sl_0, sl_1, sl_2) (pd0, pd1) (ct_0, ct_1) sg (cd, ln9, pl, le, ro, co, nu) (sv, sl9, tk, ct9))) hP hD hS hA (vx_runSW (As := [.ref (α 0), .int (zI (xI xs (i + 1))), .ref o]) (rest := []) hC (c_L_bulkAbove l D τ α (gH cI cB) h old ch (rg0, rg1) (ln_0, ln_1, ln_2, ln_3, ln_4, ln_5, ln_6, ln_7, ln_8, ln_9) (sl_0, sl_1, sl_2) (pd0, pd1) (ct_0, ct_1) sg (cd, ln9, pl, le, ro, co, nu) (sv, sl9, tk, ct9) (xI xs (i + 1)) (xI_b xs _) hh hst cL o fo _) (vx_cwSW 3 hts (gSW hB wl_L_208 wt_L_bulkAbove wi_L wc_L_bulkAbove) rfl rfl rfl hd_L_bulkAbove.2 ⟨Nat.le_of_ble_eq_true rfl, Nat.le_of_ble_eq_true rfl⟩) (zpX_S hKo (zPc hP) (zDc hD) hS hA hG hGX) rfl rfl hl.1 rfl (lv_room (Nat.le_of_ble_eq_true rfl)) dL_law_895 ⟨by show _ ≤ 1083; omega, by show _ ≤ 10672; omega⟩) (fun r w1 H locs hq9 hP hD hS => ?_)
  rcases hq9 with hq9 | hq9
  · skip
    obtain ⟨vc, go, hf0, hf1, hf2, hgo, rfl, rfl⟩ := hq9
    refine lv_istore (lv' := [(5, .int (zI 0)), (0, .ref b), (1, .ref (α 0)), (2, .ref (β 0)), (3, .ref o), (4, .int (zI i))]) hx hb dL_law_898 hl (by decide) rfl (fun ls hl => ?_)
    refine lv_aload_n hx hb dL_law_900 rfl (lv_at hl 3 rfl) ?_
    refine lv_aload_n hx hb dL_law_901 rfl (lv_at hl 1 rfl) ?_
    refine lv_iload hx hb dL_law_902 (lv_at hl 5 rfl) ?_
    refine lv_iconst (v := zI 1) hx hb dL_law_904 rfl ?_
    refine z_iadd hx hb dL_law_905 ?_
    refine z_sld hx hb hXs hbl hbA hS ⟨⟨by omega, by omega⟩, hL⟩ dL_law_906 ?_
    have hP := zPswap hP
    have hD := zDswap hD
    refine zfw_calli (mc := 0) (ms := 0)  hP hD hS hA (va_runV (As := [.int (zI (xI xs (i + 1)))]) (rest := []) hC (c_X10_bulkAbove l D τ β (gM cI cB) h sv sl9 tk cd mn mi mc mq mr mw ct9 ln9 mt ma mx mh (xI xs (i + 1)) (xI_b xs _) hh _) (cwV 1 hts (gV hB wl_L_210 wn_X10_bulkAbove ws_X10_bulkAbove wi_X10 wc_X10_bulkAbove) rfl rfl rfl hd_X10_bulkAbove ⟨Nat.le_of_ble_eq_true rfl, Nat.le_of_ble_eq_true rfl⟩) (zp_V hKm (zPc hP) (zDc hD) hS hA hG (ci := 10) (q0 := 0) rfl rfl rfl) rfl rfl hl.1 rfl (lv_room (Nat.le_of_ble_eq_true rfl)) dL_law_907 ⟨by show _ ≤ 1083; omega, by show _ ≤ 10672; omega⟩) (fun r w1 H locs hq9 hP hD hS => ?_)
    obtain ⟨t2m, vm, hm0, hm1, rfl, rfl⟩ := hq9
    have hP := zPswap hP
    have hD := zDswap hD
    refine lv_istore (lv' := [(6, .int (zI vm)), (5, .int (zI 0)), (0, .ref b), (1, .ref (α 0)), (2, .ref (β 0)), (3, .ref o), (4, .int (zI i))]) hx hb dL_law_910 hl (by decide) rfl (fun ls hl => ?_)
    refine lv_aload_n hx hb dL_law_912 rfl (lv_at hl 4 rfl) ?_
    have hP := zPswap hP
    have hD := zDswap hD
    refine zfw_calli (mc := 0) (ms := 0)  hP hD hS hA (va_runV (As := []) (rest := []) hC (c_X10_thrown l D τ β (gM cI cB) _ _ _ _ _ _ _ _ _ _ _ _ _ _ _ _ _ _) (cwV 0 hts (gV hB wl_L_145 wn_X10_thrown ws_X10_thrown wi_X10 wc_X10_thrown) rfl rfl rfl hd_X10_thrown ⟨Nat.le_of_ble_eq_true rfl, Nat.le_of_ble_eq_true rfl⟩) (zp_V hKm (zPc hP) (zDc hD) hS hA hG (ci := 10) (q0 := 0) rfl rfl rfl) rfl rfl hl.1 rfl (lv_room (Nat.le_of_ble_eq_true rfl)) dL_law_913 ⟨by show _ ≤ 1083; omega, by show _ ≤ 10672; omega⟩) (fun r w1 H locs hq9 hP hD hS => ?_)
    obtain ⟨vt, ht0, rfl, rfl⟩ := hq9
    have hP := zPswap hP
    have hD := zDswap hD
    refine lv_iload hx hb dL_law_916 (lv_at hl 1 rfl) ?_
    have heq_918 : vt = 0 := by rw [ht0, hm0, hf0]
    refine z_iceqE (tgt := 923) hx hb heq_918 dL_law_918 (by decide) ?_
    refine lv_iload hx hb dL_law_923 (lv_at hl 1 rfl) ?_
    refine z_ifne (tgt := 940) hx hb ⟨by omega, by omega⟩ dL_law_925 (by decide) (fun c_925 => absurd rfl c_925) (fun c_925 => ?_)
    refine lv_aload_n hx hb dL_law_928 rfl (lv_at hl 5 rfl) ?_
    refine lv_iconst (v := zI 0) hx hb dL_law_929 rfl ?_
    refine zo_lald hx hb hKo (zPc hP) dL_law_930 ?_
    refine lv_iload hx hb dL_law_931 (lv_at hl 0 rfl) ?_
    refine lv_i2l (v := (zI vm).toInt64) hx hb dL_law_933 rfl ?_
    refine z_lcmpE hx hb (by rw [hgo, hf1, (hm1 (hm0.trans hf0))]) dL_law_934 ?_
    refine z_ifeq (tgt := 940) hx hb ⟨by omega, by omega⟩ dL_law_935 (by decide) (fun c_935 => ?_) (fun c_935 => absurd rfl c_935)
    refine lv_goto (tgt := 2893) hx hb dL_law_940 (by decide) ?_
    refine W.widen (k := cells + 2) (n := slots + 12) (by omega) (by omega) ?_
    exact hk _ _ _ _ _ _ _ _ _ _ _ _ _ _ _ _ _ _ _ _ _ _ _ _ _ _ _ _ _ _ _ H locs ls (hI) hP hD hS (lv_sub hl [2, 3, 4, 5, 6] rfl)
  · skip
    obtain ⟨hx9, rfl, rfl⟩ := hq9
    refine lv_istore (lv' := [(5, .int (zI 1)), (0, .ref b), (1, .ref (α 0)), (2, .ref (β 0)), (3, .ref o), (4, .int (zI i))]) hx hb dL_law_898 hl (by decide) rfl (fun ls hl => ?_)
    refine lv_aload_n hx hb dL_law_900 rfl (lv_at hl 3 rfl) ?_
    refine lv_aload_n hx hb dL_law_901 rfl (lv_at hl 1 rfl) ?_
    refine lv_iload hx hb dL_law_902 (lv_at hl 5 rfl) ?_
    refine lv_iconst (v := zI 1) hx hb dL_law_904 rfl ?_
    refine z_iadd hx hb dL_law_905 ?_
    refine z_sld hx hb hXs hbl hbA hS ⟨⟨by omega, by omega⟩, hL⟩ dL_law_906 ?_
    have hP := zPswap hP
    have hD := zDswap hD
    refine zfw_calli (mc := 0) (ms := 0)  hP hD hS hA (va_runV (As := [.int (zI (xI xs (i + 1)))]) (rest := []) hC (c_X10_bulkAbove l D τ β (gM cI cB) h sv sl9 tk cd mn mi mc mq mr mw ct9 ln9 mt ma mx mh (xI xs (i + 1)) (xI_b xs _) hh _) (cwV 1 hts (gV hB wl_L_210 wn_X10_bulkAbove ws_X10_bulkAbove wi_X10 wc_X10_bulkAbove) rfl rfl rfl hd_X10_bulkAbove ⟨Nat.le_of_ble_eq_true rfl, Nat.le_of_ble_eq_true rfl⟩) (zp_V hKm (zPc hP) (zDc hD) hS hA hG (ci := 10) (q0 := 0) rfl rfl rfl) rfl rfl hl.1 rfl (lv_room (Nat.le_of_ble_eq_true rfl)) dL_law_907 ⟨by show _ ≤ 1083; omega, by show _ ≤ 10672; omega⟩) (fun r w1 H locs hq9 hP hD hS => ?_)
    obtain ⟨t2m, vm, hm0, hm1, rfl, rfl⟩ := hq9
    have hP := zPswap hP
    have hD := zDswap hD
    refine lv_istore (lv' := [(6, .int (zI vm)), (5, .int (zI 1)), (0, .ref b), (1, .ref (α 0)), (2, .ref (β 0)), (3, .ref o), (4, .int (zI i))]) hx hb dL_law_910 hl (by decide) rfl (fun ls hl => ?_)
    refine lv_aload_n hx hb dL_law_912 rfl (lv_at hl 4 rfl) ?_
    have hP := zPswap hP
    have hD := zDswap hD
    refine zfw_calli (mc := 0) (ms := 0)  hP hD hS hA (va_runV (As := []) (rest := []) hC (c_X10_thrown l D τ β (gM cI cB) _ _ _ _ _ _ _ _ _ _ _ _ _ _ _ _ _ _) (cwV 0 hts (gV hB wl_L_145 wn_X10_thrown ws_X10_thrown wi_X10 wc_X10_thrown) rfl rfl rfl hd_X10_thrown ⟨Nat.le_of_ble_eq_true rfl, Nat.le_of_ble_eq_true rfl⟩) (zp_V hKm (zPc hP) (zDc hD) hS hA hG (ci := 10) (q0 := 0) rfl rfl rfl) rfl rfl hl.1 rfl (lv_room (Nat.le_of_ble_eq_true rfl)) dL_law_913 ⟨by show _ ≤ 1083; omega, by show _ ≤ 10672; omega⟩) (fun r w1 H locs hq9 hP hD hS => ?_)
    obtain ⟨vt, ht0, rfl, rfl⟩ := hq9
    have hP := zPswap hP
    have hD := zDswap hD
    refine lv_iload hx hb dL_law_916 (lv_at hl 1 rfl) ?_
    have heq_918 : vt = 1 := by rw [ht0, hm0, hx9]
    refine z_iceqE (tgt := 923) hx hb heq_918 dL_law_918 (by decide) ?_
    refine lv_iload hx hb dL_law_923 (lv_at hl 1 rfl) ?_
    refine z_ifne (tgt := 940) hx hb ⟨by omega, by omega⟩ dL_law_925 (by decide) (fun c_925 => ?_) (fun c_925 => absurd c_925 (by decide))
    refine lv_goto (tgt := 2893) hx hb dL_law_940 (by decide) ?_
    refine W.widen (k := cells + 2) (n := slots + 12) (by omega) (by omega) ?_
    exact hk _ _ _ _ _ _ _ _ _ _ _ _ _ _ _ _ _ _ _ _ _ _ _ _ _ _ _ _ _ _ _ H locs ls (hI) hP hD hS (lv_sub hl [2, 3, 4, 5, 6] rfl)
set_option maxHeartbeats 4000000 in
set_option maxRecDepth 100000 in
theorem law_943 {p : Program} {l : Launch} {e : Env} {s : State} {m : MethodId} {below : List Frame} {meth : Method} {c : Code} {Q : State → Prop} {D : va_G} {τ : Nat → Nat} {A : Nat → Prop} {α β : Nat → Nat} {cI cB cL : ClassId} {o b L : Nat} {xs : Nat → Int32} {i : Int} {cells slots : Nat} (hX : LCx p l s m c D τ A cI cB cL b L xs) (hi : 0 ≤ i ∧ i + 6 ≤ L) (hc : cells + 2 ≤ 1083 ∧ slots + 12 ≤ 10672)
    (hk : LSt p l e s m below meth c Q D A α β cI cB cL o b i 2893 (cells + 2) (slots + 12)) : LSt p l e s m below meth c Q D A α β cI cB cL o b i 943 cells slots := by
  obtain ⟨hC, hKm, hKo, hKh, hG, hA, hGX, hst, hXs, hbl, hbA, hL⟩ := hX
  intro h old ch rg ln sl pd ct sg cd ln9 pl le ro co nu sv sl9 tk ct9 mn mi mc mq mr mw mt ma mx mh fo H locs ls hI hP hD hS hl
  obtain ⟨rg0, rg1⟩ := rg
  obtain ⟨ln_0, ln_1, ln_2, ln_3, ln_4, ln_5, ln_6, ln_7, ln_8, ln_9⟩ := ln
  obtain ⟨sl_0, sl_1, sl_2⟩ := sl
  obtain ⟨pd0, pd1⟩ := pd
  obtain ⟨ct_0, ct_1⟩ := ct
  have hx := hC.1
  have hb := hC.2.1
  have hml := hC.2.2.1
  have hts := hC.2.2.2.2
  have hB : ∀ w ∈ W0, w ∈ W0 := fun _ h => h
  have hh := hI.1
  have hct := hI.2.2.2.1
  have hln := hI.2.2.2.2.1
  have hmf := hI.2.2.2.2.2.1
  have hov := hI.2.2.2.2.2.2
  have hcd : ∀ k, 0 ≤ k → k < ln9 → 0 ≤ cd k ∧ cd k ≤ 126 := fun k a b => by have z := hmf k a b; omega
  have hP : va_P D vwCl ((wM β (gM cI cB) h sv sl9 tk cd mn mi mc mq mr mw ct9 ln9 mt ma mx mh) ++ (oC cL o fo ++ (wH α (gH cI cB) (h, old, ch) (rg0, rg1) (ln_0, ln_1, ln_2, ln_3, ln_4, ln_5, ln_6, ln_7, ln_8, ln_9) (sl_0, sl_1, sl_2) (pd0, pd1) (ct_0, ct_1) sg (cd, ln9, pl, le, ro, co, nu) (sv, sl9, tk, ct9)))) H := hP
  have hD : va_D A ((wM β (gM cI cB) h sv sl9 tk cd mn mi mc mq mr mw ct9 ln9 mt ma mx mh) ++ (oC cL o fo ++ (wH α (gH cI cB) (h, old, ch) (rg0, rg1) (ln_0, ln_1, ln_2, ln_3, ln_4, ln_5, ln_6, ln_7, ln_8, ln_9) (sl_0, sl_1, sl_2) (pd0, pd1) (ct_0, ct_1) sg (cd, ln9, pl, le, ro, co, nu) (sv, sl9, tk, ct9)))) := hD
  refine lv_aload_n hx hb dL_law_943 rfl (lv_at hl 1 rfl) ?_
  refine lv_aload_n hx hb dL_law_944 rfl (lv_at hl 0 rfl) ?_
  refine lv_iload hx hb dL_law_945 (lv_at hl 4 rfl) ?_
  refine lv_iconst (v := zI 1) hx hb dL_law_947 rfl ?_
  refine z_iadd hx hb dL_law_948 ?_
  refine z_sld hx hb hXs hbl hbA hS ⟨⟨by omega, by omega⟩, hL⟩ dL_law_949 ?_
  refine lv_aload_n hx hb dL_law_950 rfl (lv_at hl 3 rfl) ?_
  refine zfw_calli (mc := 1) (ms := 6) (wr := (wM β (gM cI cB) h sv sl9 tk cd mn mi mc mq mr mw ct9 ln9 mt ma mx mh)) (wc := oC cL o fo ++ (wH α (gH cI cB) (h, old, ch) (rg0, rg1) (ln_0, ln_1, ln_2, ln_3, ln_4, ln_5, ln_6, ln_7, ln_8, ln_9) (sl_0, sl_1, sl_2) (pd0, pd1) (ct_0, ct_1) sg (cd, ln9, pl, le, ro, co, nu) (sv, sl9, tk, ct9))) hP hD hS hA (vx_runSW (As := [.ref (α 0), .int (zI (xI xs (i + 1))), .ref o]) (rest := []) hC (c_L_crossingsByEdges l D τ α (gH cI cB) h old ch (rg0, rg1) (ln_0, ln_1, ln_2, ln_3, ln_4, ln_5, ln_6, ln_7, ln_8, ln_9) (sl_0, sl_1, sl_2) (pd0, pd1) (ct_0, ct_1) sg (cd, ln9, pl, le, ro, co, nu) (sv, sl9, tk, ct9) (xI xs (i + 1)) (xI_b xs _) hh hst cL o fo _) (vx_cwSW 3 hts (gSW hB wl_L_211 wt_L_crossingsByEdges wi_L wc_L_crossingsByEdges) rfl rfl rfl hd_L_crossingsByEdges.2 ⟨Nat.le_of_ble_eq_true rfl, Nat.le_of_ble_eq_true rfl⟩) (zpX_S hKo (zPc hP) (zDc hD) hS hA hG hGX) rfl rfl hl.1 rfl (lv_room (Nat.le_of_ble_eq_true rfl)) dL_law_951 ⟨by show _ ≤ 1083; omega, by show _ ≤ 10672; omega⟩) (fun r w1 H locs hq9 hP hD hS => ?_)
  rcases hq9 with hq9 | hq9
  · skip
    obtain ⟨vc, go, hf0, hf1, hf2, hgo, rfl, rfl⟩ := hq9
    refine lv_istore (lv' := [(5, .int (zI 0)), (0, .ref b), (1, .ref (α 0)), (2, .ref (β 0)), (3, .ref o), (4, .int (zI i))]) hx hb dL_law_954 hl (by decide) rfl (fun ls hl => ?_)
    refine lv_aload_n hx hb dL_law_956 rfl (lv_at hl 3 rfl) ?_
    refine lv_aload_n hx hb dL_law_957 rfl (lv_at hl 1 rfl) ?_
    refine lv_iload hx hb dL_law_958 (lv_at hl 5 rfl) ?_
    refine lv_iconst (v := zI 1) hx hb dL_law_960 rfl ?_
    refine z_iadd hx hb dL_law_961 ?_
    refine z_sld hx hb hXs hbl hbA hS ⟨⟨by omega, by omega⟩, hL⟩ dL_law_962 ?_
    have hP := zPswap hP
    have hD := zDswap hD
    refine zfw_calli (mc := 0) (ms := 0)  hP hD hS hA (va_runV (As := [.int (zI (xI xs (i + 1)))]) (rest := []) hC (c_X10_crossingsByEdges l D τ β (gM cI cB) h sv sl9 tk cd mn mi mc mq mr mw ct9 ln9 mt ma mx mh (xI xs (i + 1)) (xI_b xs _) hh _) (cwV 1 hts (gV hB wl_L_213 wn_X10_crossingsByEdges ws_X10_crossingsByEdges wi_X10 wc_X10_crossingsByEdges) rfl rfl rfl hd_X10_crossingsByEdges ⟨Nat.le_of_ble_eq_true rfl, Nat.le_of_ble_eq_true rfl⟩) (zp_V hKm (zPc hP) (zDc hD) hS hA hG (ci := 10) (q0 := 0) rfl rfl rfl) rfl rfl hl.1 rfl (lv_room (Nat.le_of_ble_eq_true rfl)) dL_law_963 ⟨by show _ ≤ 1083; omega, by show _ ≤ 10672; omega⟩) (fun r w1 H locs hq9 hP hD hS => ?_)
    obtain ⟨m2m, c2m, q2m, t2m, vm, hm0, hm1, rfl, rfl⟩ := hq9
    have hP := zPswap hP
    have hD := zDswap hD
    refine lv_istore (lv' := [(6, .int (zI vm)), (5, .int (zI 0)), (0, .ref b), (1, .ref (α 0)), (2, .ref (β 0)), (3, .ref o), (4, .int (zI i))]) hx hb dL_law_966 hl (by decide) rfl (fun ls hl => ?_)
    refine lv_aload_n hx hb dL_law_968 rfl (lv_at hl 4 rfl) ?_
    have hP := zPswap hP
    have hD := zDswap hD
    refine zfw_calli (mc := 0) (ms := 0)  hP hD hS hA (va_runV (As := []) (rest := []) hC (c_X10_thrown l D τ β (gM cI cB) _ _ _ _ _ _ _ _ _ _ _ _ _ _ _ _ _ _) (cwV 0 hts (gV hB wl_L_145 wn_X10_thrown ws_X10_thrown wi_X10 wc_X10_thrown) rfl rfl rfl hd_X10_thrown ⟨Nat.le_of_ble_eq_true rfl, Nat.le_of_ble_eq_true rfl⟩) (zp_V hKm (zPc hP) (zDc hD) hS hA hG (ci := 10) (q0 := 0) rfl rfl rfl) rfl rfl hl.1 rfl (lv_room (Nat.le_of_ble_eq_true rfl)) dL_law_969 ⟨by show _ ≤ 1083; omega, by show _ ≤ 10672; omega⟩) (fun r w1 H locs hq9 hP hD hS => ?_)
    obtain ⟨vt, ht0, rfl, rfl⟩ := hq9
    have hP := zPswap hP
    have hD := zDswap hD
    refine lv_iload hx hb dL_law_972 (lv_at hl 1 rfl) ?_
    have heq_974 : vt = 0 := by rw [ht0, hm0, hf0]
    refine z_iceqE (tgt := 979) hx hb heq_974 dL_law_974 (by decide) ?_
    refine lv_iload hx hb dL_law_979 (lv_at hl 1 rfl) ?_
    refine z_ifne (tgt := 996) hx hb ⟨by omega, by omega⟩ dL_law_981 (by decide) (fun c_981 => absurd rfl c_981) (fun c_981 => ?_)
    refine lv_aload_n hx hb dL_law_984 rfl (lv_at hl 5 rfl) ?_
    refine lv_iconst (v := zI 0) hx hb dL_law_985 rfl ?_
    refine zo_lald hx hb hKo (zPc hP) dL_law_986 ?_
    refine lv_iload hx hb dL_law_987 (lv_at hl 0 rfl) ?_
    refine lv_i2l (v := (zI vm).toInt64) hx hb dL_law_989 rfl ?_
    refine z_lcmpE hx hb (by rw [hgo, hf1, (hm1 (hm0.trans hf0))]) dL_law_990 ?_
    refine z_ifeq (tgt := 996) hx hb ⟨by omega, by omega⟩ dL_law_991 (by decide) (fun c_991 => ?_) (fun c_991 => absurd rfl c_991)
    refine lv_goto (tgt := 2893) hx hb dL_law_996 (by decide) ?_
    refine W.widen (k := cells + 2) (n := slots + 12) (by omega) (by omega) ?_
    exact hk _ _ _ _ _ _ _ _ _ _ _ _ _ _ _ _ _ _ _ _ _ _ _ _ _ _ _ _ _ _ _ H locs ls (hI) hP hD hS (lv_sub hl [2, 3, 4, 5, 6] rfl)
  · skip
    obtain ⟨hx9, rfl, rfl⟩ := hq9
    refine lv_istore (lv' := [(5, .int (zI 1)), (0, .ref b), (1, .ref (α 0)), (2, .ref (β 0)), (3, .ref o), (4, .int (zI i))]) hx hb dL_law_954 hl (by decide) rfl (fun ls hl => ?_)
    refine lv_aload_n hx hb dL_law_956 rfl (lv_at hl 3 rfl) ?_
    refine lv_aload_n hx hb dL_law_957 rfl (lv_at hl 1 rfl) ?_
    refine lv_iload hx hb dL_law_958 (lv_at hl 5 rfl) ?_
    refine lv_iconst (v := zI 1) hx hb dL_law_960 rfl ?_
    refine z_iadd hx hb dL_law_961 ?_
    refine z_sld hx hb hXs hbl hbA hS ⟨⟨by omega, by omega⟩, hL⟩ dL_law_962 ?_
    have hP := zPswap hP
    have hD := zDswap hD
    refine zfw_calli (mc := 0) (ms := 0)  hP hD hS hA (va_runV (As := [.int (zI (xI xs (i + 1)))]) (rest := []) hC (c_X10_crossingsByEdges l D τ β (gM cI cB) h sv sl9 tk cd mn mi mc mq mr mw ct9 ln9 mt ma mx mh (xI xs (i + 1)) (xI_b xs _) hh _) (cwV 1 hts (gV hB wl_L_213 wn_X10_crossingsByEdges ws_X10_crossingsByEdges wi_X10 wc_X10_crossingsByEdges) rfl rfl rfl hd_X10_crossingsByEdges ⟨Nat.le_of_ble_eq_true rfl, Nat.le_of_ble_eq_true rfl⟩) (zp_V hKm (zPc hP) (zDc hD) hS hA hG (ci := 10) (q0 := 0) rfl rfl rfl) rfl rfl hl.1 rfl (lv_room (Nat.le_of_ble_eq_true rfl)) dL_law_963 ⟨by show _ ≤ 1083; omega, by show _ ≤ 10672; omega⟩) (fun r w1 H locs hq9 hP hD hS => ?_)
    obtain ⟨m2m, c2m, q2m, t2m, vm, hm0, hm1, rfl, rfl⟩ := hq9
    have hP := zPswap hP
    have hD := zDswap hD
    refine lv_istore (lv' := [(6, .int (zI vm)), (5, .int (zI 1)), (0, .ref b), (1, .ref (α 0)), (2, .ref (β 0)), (3, .ref o), (4, .int (zI i))]) hx hb dL_law_966 hl (by decide) rfl (fun ls hl => ?_)
    refine lv_aload_n hx hb dL_law_968 rfl (lv_at hl 4 rfl) ?_
    have hP := zPswap hP
    have hD := zDswap hD
    refine zfw_calli (mc := 0) (ms := 0)  hP hD hS hA (va_runV (As := []) (rest := []) hC (c_X10_thrown l D τ β (gM cI cB) _ _ _ _ _ _ _ _ _ _ _ _ _ _ _ _ _ _) (cwV 0 hts (gV hB wl_L_145 wn_X10_thrown ws_X10_thrown wi_X10 wc_X10_thrown) rfl rfl rfl hd_X10_thrown ⟨Nat.le_of_ble_eq_true rfl, Nat.le_of_ble_eq_true rfl⟩) (zp_V hKm (zPc hP) (zDc hD) hS hA hG (ci := 10) (q0 := 0) rfl rfl rfl) rfl rfl hl.1 rfl (lv_room (Nat.le_of_ble_eq_true rfl)) dL_law_969 ⟨by show _ ≤ 1083; omega, by show _ ≤ 10672; omega⟩) (fun r w1 H locs hq9 hP hD hS => ?_)
    obtain ⟨vt, ht0, rfl, rfl⟩ := hq9
    have hP := zPswap hP
    have hD := zDswap hD
    refine lv_iload hx hb dL_law_972 (lv_at hl 1 rfl) ?_
    have heq_974 : vt = 1 := by rw [ht0, hm0, hx9]
    refine z_iceqE (tgt := 979) hx hb heq_974 dL_law_974 (by decide) ?_
    refine lv_iload hx hb dL_law_979 (lv_at hl 1 rfl) ?_
    refine z_ifne (tgt := 996) hx hb ⟨by omega, by omega⟩ dL_law_981 (by decide) (fun c_981 => ?_) (fun c_981 => absurd c_981 (by decide))
    refine lv_goto (tgt := 2893) hx hb dL_law_996 (by decide) ?_
    refine W.widen (k := cells + 2) (n := slots + 12) (by omega) (by omega) ?_
    exact hk _ _ _ _ _ _ _ _ _ _ _ _ _ _ _ _ _ _ _ _ _ _ _ _ _ _ _ _ _ _ _ H locs ls (hI) hP hD hS (lv_sub hl [2, 3, 4, 5, 6] rfl)
set_option maxHeartbeats 4000000 in
set_option maxRecDepth 100000 in
theorem law_999 {p : Program} {l : Launch} {e : Env} {s : State} {m : MethodId} {below : List Frame} {meth : Method} {c : Code} {Q : State → Prop} {D : va_G} {τ : Nat → Nat} {A : Nat → Prop} {α β : Nat → Nat} {cI cB cL : ClassId} {o b L : Nat} {xs : Nat → Int32} {i : Int} {cells slots : Nat} (hX : LCx p l s m c D τ A cI cB cL b L xs) (hi : 0 ≤ i ∧ i + 6 ≤ L) (hc : cells + 2 ≤ 1083 ∧ slots + 12 ≤ 10672)
    (hk : LSt p l e s m below meth c Q D A α β cI cB cL o b i 2893 (cells + 2) (slots + 12)) : LSt p l e s m below meth c Q D A α β cI cB cL o b i 999 cells slots := by
  obtain ⟨hC, hKm, hKo, hKh, hG, hA, hGX, hst, hXs, hbl, hbA, hL⟩ := hX
  intro h old ch rg ln sl pd ct sg cd ln9 pl le ro co nu sv sl9 tk ct9 mn mi mc mq mr mw mt ma mx mh fo H locs ls hI hP hD hS hl
  obtain ⟨rg0, rg1⟩ := rg
  obtain ⟨ln_0, ln_1, ln_2, ln_3, ln_4, ln_5, ln_6, ln_7, ln_8, ln_9⟩ := ln
  obtain ⟨sl_0, sl_1, sl_2⟩ := sl
  obtain ⟨pd0, pd1⟩ := pd
  obtain ⟨ct_0, ct_1⟩ := ct
  have hx := hC.1
  have hb := hC.2.1
  have hml := hC.2.2.1
  have hts := hC.2.2.2.2
  have hB : ∀ w ∈ W0, w ∈ W0 := fun _ h => h
  have hh := hI.1
  have hct := hI.2.2.2.1
  have hln := hI.2.2.2.2.1
  have hmf := hI.2.2.2.2.2.1
  have hov := hI.2.2.2.2.2.2
  have hcd : ∀ k, 0 ≤ k → k < ln9 → 0 ≤ cd k ∧ cd k ≤ 126 := fun k a b => by have z := hmf k a b; omega
  have hP : va_P D vwCl ((wM β (gM cI cB) h sv sl9 tk cd mn mi mc mq mr mw ct9 ln9 mt ma mx mh) ++ (oC cL o fo ++ (wH α (gH cI cB) (h, old, ch) (rg0, rg1) (ln_0, ln_1, ln_2, ln_3, ln_4, ln_5, ln_6, ln_7, ln_8, ln_9) (sl_0, sl_1, sl_2) (pd0, pd1) (ct_0, ct_1) sg (cd, ln9, pl, le, ro, co, nu) (sv, sl9, tk, ct9)))) H := hP
  have hD : va_D A ((wM β (gM cI cB) h sv sl9 tk cd mn mi mc mq mr mw ct9 ln9 mt ma mx mh) ++ (oC cL o fo ++ (wH α (gH cI cB) (h, old, ch) (rg0, rg1) (ln_0, ln_1, ln_2, ln_3, ln_4, ln_5, ln_6, ln_7, ln_8, ln_9) (sl_0, sl_1, sl_2) (pd0, pd1) (ct_0, ct_1) sg (cd, ln9, pl, le, ro, co, nu) (sv, sl9, tk, ct9)))) := hD
  refine lv_aload_n hx hb dL_law_999 rfl (lv_at hl 1 rfl) ?_
  refine lv_aload_n hx hb dL_law_1000 rfl (lv_at hl 0 rfl) ?_
  refine lv_iload hx hb dL_law_1001 (lv_at hl 4 rfl) ?_
  refine lv_iconst (v := zI 1) hx hb dL_law_1003 rfl ?_
  refine z_iadd hx hb dL_law_1004 ?_
  refine z_sld hx hb hXs hbl hbA hS ⟨⟨by omega, by omega⟩, hL⟩ dL_law_1005 ?_
  refine lv_aload_n hx hb dL_law_1006 rfl (lv_at hl 3 rfl) ?_
  refine zfw_calli (mc := 1) (ms := 6) (wr := (wM β (gM cI cB) h sv sl9 tk cd mn mi mc mq mr mw ct9 ln9 mt ma mx mh)) (wc := oC cL o fo ++ (wH α (gH cI cB) (h, old, ch) (rg0, rg1) (ln_0, ln_1, ln_2, ln_3, ln_4, ln_5, ln_6, ln_7, ln_8, ln_9) (sl_0, sl_1, sl_2) (pd0, pd1) (ct_0, ct_1) sg (cd, ln9, pl, le, ro, co, nu) (sv, sl9, tk, ct9))) hP hD hS hA (vx_runSW (As := [.ref (α 0), .int (zI (xI xs (i + 1))), .ref o]) (rest := []) hC (c_L_crossingsByPieces l D τ α (gH cI cB) h old ch (rg0, rg1) ln_0 ln_1 ln_2 ln_3 ln_4 ln_5 ln_6 ln_7 ln_8 ln_9 (sl_0, sl_1, sl_2) (pd0, pd1) (ct_0, ct_1) sg (cd, ln9, pl, le, ro, co, nu) (sv, sl9, tk, ct9) (xI xs (i + 1)) (xI_b xs _) hh hst cL o fo _) (vx_cwSW 3 hts (gSW hB wl_L_214 wt_L_crossingsByPieces wi_L wc_L_crossingsByPieces) rfl rfl rfl hd_L_crossingsByPieces.2 ⟨Nat.le_of_ble_eq_true rfl, Nat.le_of_ble_eq_true rfl⟩) (zpX_S hKo (zPc hP) (zDc hD) hS hA hG hGX) rfl rfl hl.1 rfl (lv_room (Nat.le_of_ble_eq_true rfl)) dL_law_1007 ⟨by show _ ≤ 1083; omega, by show _ ≤ 10672; omega⟩) (fun r w1 H locs hq9 hP hD hS => ?_)
  rcases hq9 with hq9 | hq9
  · skip
    obtain ⟨m2c, f2c, s2c, p2c, q2c, n2c, vc, go, hf0, hf1, hgo, rfl, rfl⟩ := hq9
    refine lv_istore (lv' := [(5, .int (zI 0)), (0, .ref b), (1, .ref (α 0)), (2, .ref (β 0)), (3, .ref o), (4, .int (zI i))]) hx hb dL_law_1010 hl (by decide) rfl (fun ls hl => ?_)
    refine lv_aload_n hx hb dL_law_1012 rfl (lv_at hl 3 rfl) ?_
    refine lv_aload_n hx hb dL_law_1013 rfl (lv_at hl 1 rfl) ?_
    refine lv_iload hx hb dL_law_1014 (lv_at hl 5 rfl) ?_
    refine lv_iconst (v := zI 1) hx hb dL_law_1016 rfl ?_
    refine z_iadd hx hb dL_law_1017 ?_
    refine z_sld hx hb hXs hbl hbA hS ⟨⟨by omega, by omega⟩, hL⟩ dL_law_1018 ?_
    have hP := zPswap hP
    have hD := zDswap hD
    refine zfw_calli (mc := 0) (ms := 0)  hP hD hS hA (va_runV (As := [.int (zI (xI xs (i + 1)))]) (rest := []) hC (c_X10_crossingsByPieces l D τ β (gM cI cB) h sv sl9 tk cd mn mi mc mq mr mw ct9 ln9 mt ma mx mh (xI xs (i + 1)) (xI_b xs _) hh _) (cwV 1 hts (gV hB wl_L_216 wn_X10_crossingsByPieces ws_X10_crossingsByPieces wi_X10 wc_X10_crossingsByPieces) rfl rfl rfl hd_X10_crossingsByPieces ⟨Nat.le_of_ble_eq_true rfl, Nat.le_of_ble_eq_true rfl⟩) (zp_V hKm (zPc hP) (zDc hD) hS hA hG (ci := 10) (q0 := 0) rfl rfl rfl) rfl rfl hl.1 rfl (lv_room (Nat.le_of_ble_eq_true rfl)) dL_law_1019 ⟨by show _ ≤ 1083; omega, by show _ ≤ 10672; omega⟩) (fun r w1 H locs hq9 hP hD hS => ?_)
    obtain ⟨m2m, c2m, q2m, t2m, vm, hm0, hm1, rfl, rfl⟩ := hq9
    have hP := zPswap hP
    have hD := zDswap hD
    refine lv_istore (lv' := [(6, .int (zI vm)), (5, .int (zI 0)), (0, .ref b), (1, .ref (α 0)), (2, .ref (β 0)), (3, .ref o), (4, .int (zI i))]) hx hb dL_law_1022 hl (by decide) rfl (fun ls hl => ?_)
    refine lv_aload_n hx hb dL_law_1024 rfl (lv_at hl 4 rfl) ?_
    have hP := zPswap hP
    have hD := zDswap hD
    refine zfw_calli (mc := 0) (ms := 0)  hP hD hS hA (va_runV (As := []) (rest := []) hC (c_X10_thrown l D τ β (gM cI cB) _ _ _ _ _ _ _ _ _ _ _ _ _ _ _ _ _ _) (cwV 0 hts (gV hB wl_L_145 wn_X10_thrown ws_X10_thrown wi_X10 wc_X10_thrown) rfl rfl rfl hd_X10_thrown ⟨Nat.le_of_ble_eq_true rfl, Nat.le_of_ble_eq_true rfl⟩) (zp_V hKm (zPc hP) (zDc hD) hS hA hG (ci := 10) (q0 := 0) rfl rfl rfl) rfl rfl hl.1 rfl (lv_room (Nat.le_of_ble_eq_true rfl)) dL_law_1025 ⟨by show _ ≤ 1083; omega, by show _ ≤ 10672; omega⟩) (fun r w1 H locs hq9 hP hD hS => ?_)
    obtain ⟨vt, ht0, rfl, rfl⟩ := hq9
    have hP := zPswap hP
    have hD := zDswap hD
    refine lv_iload hx hb dL_law_1028 (lv_at hl 1 rfl) ?_
    have heq_1030 : vt = 0 := by rw [ht0, hm0, hf0]
    refine z_iceqE (tgt := 1035) hx hb heq_1030 dL_law_1030 (by decide) ?_
    refine lv_iload hx hb dL_law_1035 (lv_at hl 1 rfl) ?_
    refine z_ifne (tgt := 1052) hx hb ⟨by omega, by omega⟩ dL_law_1037 (by decide) (fun c_1037 => absurd rfl c_1037) (fun c_1037 => ?_)
    refine lv_aload_n hx hb dL_law_1040 rfl (lv_at hl 5 rfl) ?_
    refine lv_iconst (v := zI 0) hx hb dL_law_1041 rfl ?_
    refine zo_lald hx hb hKo (zPc hP) dL_law_1042 ?_
    refine lv_iload hx hb dL_law_1043 (lv_at hl 0 rfl) ?_
    refine lv_i2l (v := (zI vm).toInt64) hx hb dL_law_1045 rfl ?_
    refine z_lcmpE hx hb (by rw [hgo, hf1, (hm1 (hm0.trans hf0))]) dL_law_1046 ?_
    refine z_ifeq (tgt := 1052) hx hb ⟨by omega, by omega⟩ dL_law_1047 (by decide) (fun c_1047 => ?_) (fun c_1047 => absurd rfl c_1047)
    refine lv_goto (tgt := 2893) hx hb dL_law_1052 (by decide) ?_
    refine W.widen (k := cells + 2) (n := slots + 12) (by omega) (by omega) ?_
    exact hk _ _ _ _ _ _ _ _ _ _ _ _ _ _ _ _ _ _ _ _ _ _ _ _ _ _ _ _ _ _ _ H locs ls (hI) hP hD hS (lv_sub hl [2, 3, 4, 5, 6] rfl)
  · skip
    obtain ⟨hx9, rfl, rfl⟩ := hq9
    refine lv_istore (lv' := [(5, .int (zI 1)), (0, .ref b), (1, .ref (α 0)), (2, .ref (β 0)), (3, .ref o), (4, .int (zI i))]) hx hb dL_law_1010 hl (by decide) rfl (fun ls hl => ?_)
    refine lv_aload_n hx hb dL_law_1012 rfl (lv_at hl 3 rfl) ?_
    refine lv_aload_n hx hb dL_law_1013 rfl (lv_at hl 1 rfl) ?_
    refine lv_iload hx hb dL_law_1014 (lv_at hl 5 rfl) ?_
    refine lv_iconst (v := zI 1) hx hb dL_law_1016 rfl ?_
    refine z_iadd hx hb dL_law_1017 ?_
    refine z_sld hx hb hXs hbl hbA hS ⟨⟨by omega, by omega⟩, hL⟩ dL_law_1018 ?_
    have hP := zPswap hP
    have hD := zDswap hD
    refine zfw_calli (mc := 0) (ms := 0)  hP hD hS hA (va_runV (As := [.int (zI (xI xs (i + 1)))]) (rest := []) hC (c_X10_crossingsByPieces l D τ β (gM cI cB) h sv sl9 tk cd mn mi mc mq mr mw ct9 ln9 mt ma mx mh (xI xs (i + 1)) (xI_b xs _) hh _) (cwV 1 hts (gV hB wl_L_216 wn_X10_crossingsByPieces ws_X10_crossingsByPieces wi_X10 wc_X10_crossingsByPieces) rfl rfl rfl hd_X10_crossingsByPieces ⟨Nat.le_of_ble_eq_true rfl, Nat.le_of_ble_eq_true rfl⟩) (zp_V hKm (zPc hP) (zDc hD) hS hA hG (ci := 10) (q0 := 0) rfl rfl rfl) rfl rfl hl.1 rfl (lv_room (Nat.le_of_ble_eq_true rfl)) dL_law_1019 ⟨by show _ ≤ 1083; omega, by show _ ≤ 10672; omega⟩) (fun r w1 H locs hq9 hP hD hS => ?_)
    obtain ⟨m2m, c2m, q2m, t2m, vm, hm0, hm1, rfl, rfl⟩ := hq9
    have hP := zPswap hP
    have hD := zDswap hD
    refine lv_istore (lv' := [(6, .int (zI vm)), (5, .int (zI 1)), (0, .ref b), (1, .ref (α 0)), (2, .ref (β 0)), (3, .ref o), (4, .int (zI i))]) hx hb dL_law_1022 hl (by decide) rfl (fun ls hl => ?_)
    refine lv_aload_n hx hb dL_law_1024 rfl (lv_at hl 4 rfl) ?_
    have hP := zPswap hP
    have hD := zDswap hD
    refine zfw_calli (mc := 0) (ms := 0)  hP hD hS hA (va_runV (As := []) (rest := []) hC (c_X10_thrown l D τ β (gM cI cB) _ _ _ _ _ _ _ _ _ _ _ _ _ _ _ _ _ _) (cwV 0 hts (gV hB wl_L_145 wn_X10_thrown ws_X10_thrown wi_X10 wc_X10_thrown) rfl rfl rfl hd_X10_thrown ⟨Nat.le_of_ble_eq_true rfl, Nat.le_of_ble_eq_true rfl⟩) (zp_V hKm (zPc hP) (zDc hD) hS hA hG (ci := 10) (q0 := 0) rfl rfl rfl) rfl rfl hl.1 rfl (lv_room (Nat.le_of_ble_eq_true rfl)) dL_law_1025 ⟨by show _ ≤ 1083; omega, by show _ ≤ 10672; omega⟩) (fun r w1 H locs hq9 hP hD hS => ?_)
    obtain ⟨vt, ht0, rfl, rfl⟩ := hq9
    have hP := zPswap hP
    have hD := zDswap hD
    refine lv_iload hx hb dL_law_1028 (lv_at hl 1 rfl) ?_
    have heq_1030 : vt = 1 := by rw [ht0, hm0, hx9]
    refine z_iceqE (tgt := 1035) hx hb heq_1030 dL_law_1030 (by decide) ?_
    refine lv_iload hx hb dL_law_1035 (lv_at hl 1 rfl) ?_
    refine z_ifne (tgt := 1052) hx hb ⟨by omega, by omega⟩ dL_law_1037 (by decide) (fun c_1037 => ?_) (fun c_1037 => absurd c_1037 (by decide))
    refine lv_goto (tgt := 2893) hx hb dL_law_1052 (by decide) ?_
    refine W.widen (k := cells + 2) (n := slots + 12) (by omega) (by omega) ?_
    exact hk _ _ _ _ _ _ _ _ _ _ _ _ _ _ _ _ _ _ _ _ _ _ _ _ _ _ _ _ _ _ _ H locs ls (hI) hP hD hS (lv_sub hl [2, 3, 4, 5, 6] rfl)
set_option maxHeartbeats 4000000 in
set_option maxRecDepth 100000 in
theorem law_1055 {p : Program} {l : Launch} {e : Env} {s : State} {m : MethodId} {below : List Frame} {meth : Method} {c : Code} {Q : State → Prop} {D : va_G} {τ : Nat → Nat} {A : Nat → Prop} {α β : Nat → Nat} {cI cB cL : ClassId} {o b L : Nat} {xs : Nat → Int32} {i : Int} {cells slots : Nat} (hX : LCx p l s m c D τ A cI cB cL b L xs) (hi : 0 ≤ i ∧ i + 6 ≤ L) (hc : cells + 2 ≤ 1083 ∧ slots + 12 ≤ 10672)
    (hk : LSt p l e s m below meth c Q D A α β cI cB cL o b i 2893 (cells + 2) (slots + 12)) : LSt p l e s m below meth c Q D A α β cI cB cL o b i 1055 cells slots := by
  obtain ⟨hC, hKm, hKo, hKh, hG, hA, hGX, hst, hXs, hbl, hbA, hL⟩ := hX
  intro h old ch rg ln sl pd ct sg cd ln9 pl le ro co nu sv sl9 tk ct9 mn mi mc mq mr mw mt ma mx mh fo H locs ls hI hP hD hS hl
  obtain ⟨rg0, rg1⟩ := rg
  obtain ⟨ln_0, ln_1, ln_2, ln_3, ln_4, ln_5, ln_6, ln_7, ln_8, ln_9⟩ := ln
  obtain ⟨sl_0, sl_1, sl_2⟩ := sl
  obtain ⟨pd0, pd1⟩ := pd
  obtain ⟨ct_0, ct_1⟩ := ct
  have hx := hC.1
  have hb := hC.2.1
  have hml := hC.2.2.1
  have hts := hC.2.2.2.2
  have hB : ∀ w ∈ W0, w ∈ W0 := fun _ h => h
  have hh := hI.1
  have hct := hI.2.2.2.1
  have hln := hI.2.2.2.2.1
  have hmf := hI.2.2.2.2.2.1
  have hov := hI.2.2.2.2.2.2
  have hcd : ∀ k, 0 ≤ k → k < ln9 → 0 ≤ cd k ∧ cd k ≤ 126 := fun k a b => by have z := hmf k a b; omega
  have hP : va_P D vwCl ((wM β (gM cI cB) h sv sl9 tk cd mn mi mc mq mr mw ct9 ln9 mt ma mx mh) ++ (oC cL o fo ++ (wH α (gH cI cB) (h, old, ch) (rg0, rg1) (ln_0, ln_1, ln_2, ln_3, ln_4, ln_5, ln_6, ln_7, ln_8, ln_9) (sl_0, sl_1, sl_2) (pd0, pd1) (ct_0, ct_1) sg (cd, ln9, pl, le, ro, co, nu) (sv, sl9, tk, ct9)))) H := hP
  have hD : va_D A ((wM β (gM cI cB) h sv sl9 tk cd mn mi mc mq mr mw ct9 ln9 mt ma mx mh) ++ (oC cL o fo ++ (wH α (gH cI cB) (h, old, ch) (rg0, rg1) (ln_0, ln_1, ln_2, ln_3, ln_4, ln_5, ln_6, ln_7, ln_8, ln_9) (sl_0, sl_1, sl_2) (pd0, pd1) (ct_0, ct_1) sg (cd, ln9, pl, le, ro, co, nu) (sv, sl9, tk, ct9)))) := hD
  refine lv_aload_n hx hb dL_law_1055 rfl (lv_at hl 1 rfl) ?_
  refine lv_aload_n hx hb dL_law_1056 rfl (lv_at hl 0 rfl) ?_
  refine lv_iload hx hb dL_law_1057 (lv_at hl 4 rfl) ?_
  refine lv_iconst (v := zI 1) hx hb dL_law_1059 rfl ?_
  refine z_iadd hx hb dL_law_1060 ?_
  refine z_sld hx hb hXs hbl hbA hS ⟨⟨by omega, by omega⟩, hL⟩ dL_law_1061 ?_
  refine lv_aload_n hx hb dL_law_1062 rfl (lv_at hl 0 rfl) ?_
  refine lv_iload hx hb dL_law_1063 (lv_at hl 4 rfl) ?_
  refine lv_iconst (v := zI 2) hx hb dL_law_1065 rfl ?_
  refine z_iadd hx hb dL_law_1066 ?_
  refine z_sld hx hb hXs hbl hbA hS ⟨⟨by omega, by omega⟩, hL⟩ dL_law_1067 ?_
  refine lv_aload_n hx hb dL_law_1068 rfl (lv_at hl 0 rfl) ?_
  refine lv_iload hx hb dL_law_1069 (lv_at hl 4 rfl) ?_
  refine lv_iconst (v := zI 3) hx hb dL_law_1071 rfl ?_
  refine z_iadd hx hb dL_law_1072 ?_
  refine z_sld hx hb hXs hbl hbA hS ⟨⟨by omega, by omega⟩, hL⟩ dL_law_1073 ?_
  refine lv_aload_n hx hb dL_law_1074 rfl (lv_at hl 3 rfl) ?_
  refine zfw_calli (mc := 1) (ms := 6) (wr := (wM β (gM cI cB) h sv sl9 tk cd mn mi mc mq mr mw ct9 ln9 mt ma mx mh)) (wc := oC cL o fo ++ (wH α (gH cI cB) (h, old, ch) (rg0, rg1) (ln_0, ln_1, ln_2, ln_3, ln_4, ln_5, ln_6, ln_7, ln_8, ln_9) (sl_0, sl_1, sl_2) (pd0, pd1) (ct_0, ct_1) sg (cd, ln9, pl, le, ro, co, nu) (sv, sl9, tk, ct9))) hP hD hS hA (vx_runSW (As := [.ref (α 0), .int (zI (xI xs (i + 1))), .int (zI (xI xs (i + 2))), .int (zI (xI xs (i + 3))), .ref o]) (rest := []) hC (c_L_piecesIn l D τ α (gH cI cB) h old ch (rg0, rg1) ln_0 ln_1 ln_2 ln_3 ln_4 ln_5 ln_6 ln_7 ln_8 ln_9 (sl_0, sl_1, sl_2) (pd0, pd1) (ct_0, ct_1) sg (cd, ln9, pl, le, ro, co, nu) (sv, sl9, tk, ct9) (xI xs (i + 1)) (xI xs (i + 2)) (xI xs (i + 3)) (xI_b xs _) (xI_b xs _) (xI_b xs _) hh hst cL o fo _) (vx_cwSW 5 hts (gSW hB wl_L_217 wt_L_piecesIn wi_L wc_L_piecesIn) rfl rfl rfl hd_L_piecesIn.2 ⟨Nat.le_of_ble_eq_true rfl, Nat.le_of_ble_eq_true rfl⟩) (zpX_S hKo (zPc hP) (zDc hD) hS hA hG hGX) rfl rfl hl.1 rfl (lv_room (Nat.le_of_ble_eq_true rfl)) dL_law_1075 ⟨by show _ ≤ 1083; omega, by show _ ≤ 10672; omega⟩) (fun r w1 H locs hq9 hP hD hS => ?_)
  rcases hq9 with hq9 | hq9 | hq9
  · skip
    obtain ⟨m2c, f2c, s2c, p2c, q2c, n2c, vc, go, hf0, hf1, hgo, rfl, rfl⟩ := hq9
    refine lv_istore (lv' := [(5, .int (zI 0)), (0, .ref b), (1, .ref (α 0)), (2, .ref (β 0)), (3, .ref o), (4, .int (zI i))]) hx hb dL_law_1078 hl (by decide) rfl (fun ls hl => ?_)
    refine lv_aload_n hx hb dL_law_1080 rfl (lv_at hl 3 rfl) ?_
    refine lv_aload_n hx hb dL_law_1081 rfl (lv_at hl 1 rfl) ?_
    refine lv_iload hx hb dL_law_1082 (lv_at hl 5 rfl) ?_
    refine lv_iconst (v := zI 1) hx hb dL_law_1084 rfl ?_
    refine z_iadd hx hb dL_law_1085 ?_
    refine z_sld hx hb hXs hbl hbA hS ⟨⟨by omega, by omega⟩, hL⟩ dL_law_1086 ?_
    refine lv_aload_n hx hb dL_law_1087 rfl (lv_at hl 1 rfl) ?_
    refine lv_iload hx hb dL_law_1088 (lv_at hl 5 rfl) ?_
    refine lv_iconst (v := zI 2) hx hb dL_law_1090 rfl ?_
    refine z_iadd hx hb dL_law_1091 ?_
    refine z_sld hx hb hXs hbl hbA hS ⟨⟨by omega, by omega⟩, hL⟩ dL_law_1092 ?_
    refine lv_aload_n hx hb dL_law_1093 rfl (lv_at hl 1 rfl) ?_
    refine lv_iload hx hb dL_law_1094 (lv_at hl 5 rfl) ?_
    refine lv_iconst (v := zI 3) hx hb dL_law_1096 rfl ?_
    refine z_iadd hx hb dL_law_1097 ?_
    refine z_sld hx hb hXs hbl hbA hS ⟨⟨by omega, by omega⟩, hL⟩ dL_law_1098 ?_
    have hP := zPswap hP
    have hD := zDswap hD
    refine zfw_calli (mc := 0) (ms := 0)  hP hD hS hA (va_runV (As := [.int (zI (xI xs (i + 1))), .int (zI (xI xs (i + 2))), .int (zI (xI xs (i + 3)))]) (rest := []) hC (c_X10_piecesIn l D τ β (gM cI cB) h sv sl9 tk cd mn mi mc mq mr mw ct9 ln9 mt ma mx mh (xI xs (i + 1)) (xI xs (i + 2)) (xI xs (i + 3)) (xI_b xs _) (xI_b xs _) (xI_b xs _) hh _) (cwV 3 hts (gV hB wl_L_219 wn_X10_piecesIn ws_X10_piecesIn wi_X10 wc_X10_piecesIn) rfl rfl rfl hd_X10_piecesIn ⟨Nat.le_of_ble_eq_true rfl, Nat.le_of_ble_eq_true rfl⟩) (zp_V hKm (zPc hP) (zDc hD) hS hA hG (ci := 10) (q0 := 0) rfl rfl rfl) rfl rfl hl.1 rfl (lv_room (Nat.le_of_ble_eq_true rfl)) dL_law_1099 ⟨by show _ ≤ 1083; omega, by show _ ≤ 10672; omega⟩) (fun r w1 H locs hq9 hP hD hS => ?_)
    obtain ⟨t2m, vm, hm0, hm1, rfl, rfl⟩ := hq9
    have hP := zPswap hP
    have hD := zDswap hD
    refine lv_istore (lv' := [(6, .int (zI vm)), (5, .int (zI 0)), (0, .ref b), (1, .ref (α 0)), (2, .ref (β 0)), (3, .ref o), (4, .int (zI i))]) hx hb dL_law_1102 hl (by decide) rfl (fun ls hl => ?_)
    refine lv_aload_n hx hb dL_law_1104 rfl (lv_at hl 4 rfl) ?_
    have hP := zPswap hP
    have hD := zDswap hD
    refine zfw_calli (mc := 0) (ms := 0)  hP hD hS hA (va_runV (As := []) (rest := []) hC (c_X10_thrown l D τ β (gM cI cB) _ _ _ _ _ _ _ _ _ _ _ _ _ _ _ _ _ _) (cwV 0 hts (gV hB wl_L_145 wn_X10_thrown ws_X10_thrown wi_X10 wc_X10_thrown) rfl rfl rfl hd_X10_thrown ⟨Nat.le_of_ble_eq_true rfl, Nat.le_of_ble_eq_true rfl⟩) (zp_V hKm (zPc hP) (zDc hD) hS hA hG (ci := 10) (q0 := 0) rfl rfl rfl) rfl rfl hl.1 rfl (lv_room (Nat.le_of_ble_eq_true rfl)) dL_law_1105 ⟨by show _ ≤ 1083; omega, by show _ ≤ 10672; omega⟩) (fun r w1 H locs hq9 hP hD hS => ?_)
    obtain ⟨vt, ht0, rfl, rfl⟩ := hq9
    have hP := zPswap hP
    have hD := zDswap hD
    refine lv_iload hx hb dL_law_1108 (lv_at hl 1 rfl) ?_
    have heq_1110 : vt = 0 := by rw [ht0, hm0, hf0]
    refine z_iceqE (tgt := 1115) hx hb heq_1110 dL_law_1110 (by decide) ?_
    refine lv_iload hx hb dL_law_1115 (lv_at hl 1 rfl) ?_
    refine z_ifne (tgt := 1132) hx hb ⟨by omega, by omega⟩ dL_law_1117 (by decide) (fun c_1117 => absurd rfl c_1117) (fun c_1117 => ?_)
    refine lv_aload_n hx hb dL_law_1120 rfl (lv_at hl 5 rfl) ?_
    refine lv_iconst (v := zI 0) hx hb dL_law_1121 rfl ?_
    refine zo_lald hx hb hKo (zPc hP) dL_law_1122 ?_
    refine lv_iload hx hb dL_law_1123 (lv_at hl 0 rfl) ?_
    refine lv_i2l (v := (zI vm).toInt64) hx hb dL_law_1125 rfl ?_
    refine z_lcmpE hx hb (by rw [hgo, hf1, (hm1 (hm0.trans hf0))]) dL_law_1126 ?_
    refine z_ifeq (tgt := 1132) hx hb ⟨by omega, by omega⟩ dL_law_1127 (by decide) (fun c_1127 => ?_) (fun c_1127 => absurd rfl c_1127)
    refine lv_goto (tgt := 2893) hx hb dL_law_1132 (by decide) ?_
    refine W.widen (k := cells + 2) (n := slots + 12) (by omega) (by omega) ?_
    exact hk _ _ _ _ _ _ _ _ _ _ _ _ _ _ _ _ _ _ _ _ _ _ _ _ _ _ _ _ _ _ _ H locs ls (hI) hP hD hS (lv_sub hl [2, 3, 4, 5, 6] rfl)
  · skip
    obtain ⟨hx9, rfl, rfl⟩ := hq9
    refine lv_istore (lv' := [(5, .int (zI 1)), (0, .ref b), (1, .ref (α 0)), (2, .ref (β 0)), (3, .ref o), (4, .int (zI i))]) hx hb dL_law_1078 hl (by decide) rfl (fun ls hl => ?_)
    refine lv_aload_n hx hb dL_law_1080 rfl (lv_at hl 3 rfl) ?_
    refine lv_aload_n hx hb dL_law_1081 rfl (lv_at hl 1 rfl) ?_
    refine lv_iload hx hb dL_law_1082 (lv_at hl 5 rfl) ?_
    refine lv_iconst (v := zI 1) hx hb dL_law_1084 rfl ?_
    refine z_iadd hx hb dL_law_1085 ?_
    refine z_sld hx hb hXs hbl hbA hS ⟨⟨by omega, by omega⟩, hL⟩ dL_law_1086 ?_
    refine lv_aload_n hx hb dL_law_1087 rfl (lv_at hl 1 rfl) ?_
    refine lv_iload hx hb dL_law_1088 (lv_at hl 5 rfl) ?_
    refine lv_iconst (v := zI 2) hx hb dL_law_1090 rfl ?_
    refine z_iadd hx hb dL_law_1091 ?_
    refine z_sld hx hb hXs hbl hbA hS ⟨⟨by omega, by omega⟩, hL⟩ dL_law_1092 ?_
    refine lv_aload_n hx hb dL_law_1093 rfl (lv_at hl 1 rfl) ?_
    refine lv_iload hx hb dL_law_1094 (lv_at hl 5 rfl) ?_
    refine lv_iconst (v := zI 3) hx hb dL_law_1096 rfl ?_
    refine z_iadd hx hb dL_law_1097 ?_
    refine z_sld hx hb hXs hbl hbA hS ⟨⟨by omega, by omega⟩, hL⟩ dL_law_1098 ?_
    have hP := zPswap hP
    have hD := zDswap hD
    refine zfw_calli (mc := 0) (ms := 0)  hP hD hS hA (va_runV (As := [.int (zI (xI xs (i + 1))), .int (zI (xI xs (i + 2))), .int (zI (xI xs (i + 3)))]) (rest := []) hC (c_X10_piecesIn l D τ β (gM cI cB) h sv sl9 tk cd mn mi mc mq mr mw ct9 ln9 mt ma mx mh (xI xs (i + 1)) (xI xs (i + 2)) (xI xs (i + 3)) (xI_b xs _) (xI_b xs _) (xI_b xs _) hh _) (cwV 3 hts (gV hB wl_L_219 wn_X10_piecesIn ws_X10_piecesIn wi_X10 wc_X10_piecesIn) rfl rfl rfl hd_X10_piecesIn ⟨Nat.le_of_ble_eq_true rfl, Nat.le_of_ble_eq_true rfl⟩) (zp_V hKm (zPc hP) (zDc hD) hS hA hG (ci := 10) (q0 := 0) rfl rfl rfl) rfl rfl hl.1 rfl (lv_room (Nat.le_of_ble_eq_true rfl)) dL_law_1099 ⟨by show _ ≤ 1083; omega, by show _ ≤ 10672; omega⟩) (fun r w1 H locs hq9 hP hD hS => ?_)
    obtain ⟨t2m, vm, hm0, hm1, rfl, rfl⟩ := hq9
    have hP := zPswap hP
    have hD := zDswap hD
    refine lv_istore (lv' := [(6, .int (zI vm)), (5, .int (zI 1)), (0, .ref b), (1, .ref (α 0)), (2, .ref (β 0)), (3, .ref o), (4, .int (zI i))]) hx hb dL_law_1102 hl (by decide) rfl (fun ls hl => ?_)
    refine lv_aload_n hx hb dL_law_1104 rfl (lv_at hl 4 rfl) ?_
    have hP := zPswap hP
    have hD := zDswap hD
    refine zfw_calli (mc := 0) (ms := 0)  hP hD hS hA (va_runV (As := []) (rest := []) hC (c_X10_thrown l D τ β (gM cI cB) _ _ _ _ _ _ _ _ _ _ _ _ _ _ _ _ _ _) (cwV 0 hts (gV hB wl_L_145 wn_X10_thrown ws_X10_thrown wi_X10 wc_X10_thrown) rfl rfl rfl hd_X10_thrown ⟨Nat.le_of_ble_eq_true rfl, Nat.le_of_ble_eq_true rfl⟩) (zp_V hKm (zPc hP) (zDc hD) hS hA hG (ci := 10) (q0 := 0) rfl rfl rfl) rfl rfl hl.1 rfl (lv_room (Nat.le_of_ble_eq_true rfl)) dL_law_1105 ⟨by show _ ≤ 1083; omega, by show _ ≤ 10672; omega⟩) (fun r w1 H locs hq9 hP hD hS => ?_)
    obtain ⟨vt, ht0, rfl, rfl⟩ := hq9
    have hP := zPswap hP
    have hD := zDswap hD
    refine lv_iload hx hb dL_law_1108 (lv_at hl 1 rfl) ?_
    have heq_1110 : vt = 1 := by rw [ht0, hm0, hx9]
    refine z_iceqE (tgt := 1115) hx hb heq_1110 dL_law_1110 (by decide) ?_
    refine lv_iload hx hb dL_law_1115 (lv_at hl 1 rfl) ?_
    refine z_ifne (tgt := 1132) hx hb ⟨by omega, by omega⟩ dL_law_1117 (by decide) (fun c_1117 => ?_) (fun c_1117 => absurd c_1117 (by decide))
    refine lv_goto (tgt := 2893) hx hb dL_law_1132 (by decide) ?_
    refine W.widen (k := cells + 2) (n := slots + 12) (by omega) (by omega) ?_
    exact hk _ _ _ _ _ _ _ _ _ _ _ _ _ _ _ _ _ _ _ _ _ _ _ _ _ _ _ _ _ _ _ H locs ls (hI) hP hD hS (lv_sub hl [2, 3, 4, 5, 6] rfl)
  · skip
    obtain ⟨hx9, rfl, rfl⟩ := hq9
    refine lv_istore (lv' := [(5, .int (zI 2)), (0, .ref b), (1, .ref (α 0)), (2, .ref (β 0)), (3, .ref o), (4, .int (zI i))]) hx hb dL_law_1078 hl (by decide) rfl (fun ls hl => ?_)
    refine lv_aload_n hx hb dL_law_1080 rfl (lv_at hl 3 rfl) ?_
    refine lv_aload_n hx hb dL_law_1081 rfl (lv_at hl 1 rfl) ?_
    refine lv_iload hx hb dL_law_1082 (lv_at hl 5 rfl) ?_
    refine lv_iconst (v := zI 1) hx hb dL_law_1084 rfl ?_
    refine z_iadd hx hb dL_law_1085 ?_
    refine z_sld hx hb hXs hbl hbA hS ⟨⟨by omega, by omega⟩, hL⟩ dL_law_1086 ?_
    refine lv_aload_n hx hb dL_law_1087 rfl (lv_at hl 1 rfl) ?_
    refine lv_iload hx hb dL_law_1088 (lv_at hl 5 rfl) ?_
    refine lv_iconst (v := zI 2) hx hb dL_law_1090 rfl ?_
    refine z_iadd hx hb dL_law_1091 ?_
    refine z_sld hx hb hXs hbl hbA hS ⟨⟨by omega, by omega⟩, hL⟩ dL_law_1092 ?_
    refine lv_aload_n hx hb dL_law_1093 rfl (lv_at hl 1 rfl) ?_
    refine lv_iload hx hb dL_law_1094 (lv_at hl 5 rfl) ?_
    refine lv_iconst (v := zI 3) hx hb dL_law_1096 rfl ?_
    refine z_iadd hx hb dL_law_1097 ?_
    refine z_sld hx hb hXs hbl hbA hS ⟨⟨by omega, by omega⟩, hL⟩ dL_law_1098 ?_
    have hP := zPswap hP
    have hD := zDswap hD
    refine zfw_calli (mc := 0) (ms := 0)  hP hD hS hA (va_runV (As := [.int (zI (xI xs (i + 1))), .int (zI (xI xs (i + 2))), .int (zI (xI xs (i + 3)))]) (rest := []) hC (c_X10_piecesIn l D τ β (gM cI cB) h sv sl9 tk cd mn mi mc mq mr mw ct9 ln9 mt ma mx mh (xI xs (i + 1)) (xI xs (i + 2)) (xI xs (i + 3)) (xI_b xs _) (xI_b xs _) (xI_b xs _) hh _) (cwV 3 hts (gV hB wl_L_219 wn_X10_piecesIn ws_X10_piecesIn wi_X10 wc_X10_piecesIn) rfl rfl rfl hd_X10_piecesIn ⟨Nat.le_of_ble_eq_true rfl, Nat.le_of_ble_eq_true rfl⟩) (zp_V hKm (zPc hP) (zDc hD) hS hA hG (ci := 10) (q0 := 0) rfl rfl rfl) rfl rfl hl.1 rfl (lv_room (Nat.le_of_ble_eq_true rfl)) dL_law_1099 ⟨by show _ ≤ 1083; omega, by show _ ≤ 10672; omega⟩) (fun r w1 H locs hq9 hP hD hS => ?_)
    obtain ⟨t2m, vm, hm0, hm1, rfl, rfl⟩ := hq9
    have hP := zPswap hP
    have hD := zDswap hD
    refine lv_istore (lv' := [(6, .int (zI vm)), (5, .int (zI 2)), (0, .ref b), (1, .ref (α 0)), (2, .ref (β 0)), (3, .ref o), (4, .int (zI i))]) hx hb dL_law_1102 hl (by decide) rfl (fun ls hl => ?_)
    refine lv_aload_n hx hb dL_law_1104 rfl (lv_at hl 4 rfl) ?_
    have hP := zPswap hP
    have hD := zDswap hD
    refine zfw_calli (mc := 0) (ms := 0)  hP hD hS hA (va_runV (As := []) (rest := []) hC (c_X10_thrown l D τ β (gM cI cB) _ _ _ _ _ _ _ _ _ _ _ _ _ _ _ _ _ _) (cwV 0 hts (gV hB wl_L_145 wn_X10_thrown ws_X10_thrown wi_X10 wc_X10_thrown) rfl rfl rfl hd_X10_thrown ⟨Nat.le_of_ble_eq_true rfl, Nat.le_of_ble_eq_true rfl⟩) (zp_V hKm (zPc hP) (zDc hD) hS hA hG (ci := 10) (q0 := 0) rfl rfl rfl) rfl rfl hl.1 rfl (lv_room (Nat.le_of_ble_eq_true rfl)) dL_law_1105 ⟨by show _ ≤ 1083; omega, by show _ ≤ 10672; omega⟩) (fun r w1 H locs hq9 hP hD hS => ?_)
    obtain ⟨vt, ht0, rfl, rfl⟩ := hq9
    have hP := zPswap hP
    have hD := zDswap hD
    refine lv_iload hx hb dL_law_1108 (lv_at hl 1 rfl) ?_
    have heq_1110 : vt = 2 := by rw [ht0, hm0, hx9]
    refine z_iceqE (tgt := 1115) hx hb heq_1110 dL_law_1110 (by decide) ?_
    refine lv_iload hx hb dL_law_1115 (lv_at hl 1 rfl) ?_
    refine z_ifne (tgt := 1132) hx hb ⟨by omega, by omega⟩ dL_law_1117 (by decide) (fun c_1117 => ?_) (fun c_1117 => absurd c_1117 (by decide))
    refine lv_goto (tgt := 2893) hx hb dL_law_1132 (by decide) ?_
    refine W.widen (k := cells + 2) (n := slots + 12) (by omega) (by omega) ?_
    exact hk _ _ _ _ _ _ _ _ _ _ _ _ _ _ _ _ _ _ _ _ _ _ _ _ _ _ _ _ _ _ _ H locs ls (hI) hP hD hS (lv_sub hl [2, 3, 4, 5, 6] rfl)
set_option maxHeartbeats 4000000 in
set_option maxRecDepth 100000 in
theorem law_1135 {p : Program} {l : Launch} {e : Env} {s : State} {m : MethodId} {below : List Frame} {meth : Method} {c : Code} {Q : State → Prop} {D : va_G} {τ : Nat → Nat} {A : Nat → Prop} {α β : Nat → Nat} {cI cB cL : ClassId} {o b L : Nat} {xs : Nat → Int32} {i : Int} {cells slots : Nat} (hX : LCx p l s m c D τ A cI cB cL b L xs) (hi : 0 ≤ i ∧ i + 6 ≤ L) (hc : cells + 2 ≤ 1083 ∧ slots + 12 ≤ 10672)
    (hk : LSt p l e s m below meth c Q D A α β cI cB cL o b i 2893 (cells + 2) (slots + 12)) : LSt p l e s m below meth c Q D A α β cI cB cL o b i 1135 cells slots := by
  obtain ⟨hC, hKm, hKo, hKh, hG, hA, hGX, hst, hXs, hbl, hbA, hL⟩ := hX
  intro h old ch rg ln sl pd ct sg cd ln9 pl le ro co nu sv sl9 tk ct9 mn mi mc mq mr mw mt ma mx mh fo H locs ls hI hP hD hS hl
  obtain ⟨rg0, rg1⟩ := rg
  obtain ⟨ln_0, ln_1, ln_2, ln_3, ln_4, ln_5, ln_6, ln_7, ln_8, ln_9⟩ := ln
  obtain ⟨sl_0, sl_1, sl_2⟩ := sl
  obtain ⟨pd0, pd1⟩ := pd
  obtain ⟨ct_0, ct_1⟩ := ct
  have hx := hC.1
  have hb := hC.2.1
  have hml := hC.2.2.1
  have hts := hC.2.2.2.2
  have hB : ∀ w ∈ W0, w ∈ W0 := fun _ h => h
  have hh := hI.1
  have hct := hI.2.2.2.1
  have hln := hI.2.2.2.2.1
  have hmf := hI.2.2.2.2.2.1
  have hov := hI.2.2.2.2.2.2
  have hcd : ∀ k, 0 ≤ k → k < ln9 → 0 ≤ cd k ∧ cd k ≤ 126 := fun k a b => by have z := hmf k a b; omega
  have hP : va_P D vwCl ((wM β (gM cI cB) h sv sl9 tk cd mn mi mc mq mr mw ct9 ln9 mt ma mx mh) ++ (oC cL o fo ++ (wH α (gH cI cB) (h, old, ch) (rg0, rg1) (ln_0, ln_1, ln_2, ln_3, ln_4, ln_5, ln_6, ln_7, ln_8, ln_9) (sl_0, sl_1, sl_2) (pd0, pd1) (ct_0, ct_1) sg (cd, ln9, pl, le, ro, co, nu) (sv, sl9, tk, ct9)))) H := hP
  have hD : va_D A ((wM β (gM cI cB) h sv sl9 tk cd mn mi mc mq mr mw ct9 ln9 mt ma mx mh) ++ (oC cL o fo ++ (wH α (gH cI cB) (h, old, ch) (rg0, rg1) (ln_0, ln_1, ln_2, ln_3, ln_4, ln_5, ln_6, ln_7, ln_8, ln_9) (sl_0, sl_1, sl_2) (pd0, pd1) (ct_0, ct_1) sg (cd, ln9, pl, le, ro, co, nu) (sv, sl9, tk, ct9)))) := hD
  refine lv_aload_n hx hb dL_law_1135 rfl (lv_at hl 1 rfl) ?_
  refine lv_aload_n hx hb dL_law_1136 rfl (lv_at hl 0 rfl) ?_
  refine lv_iload hx hb dL_law_1137 (lv_at hl 4 rfl) ?_
  refine lv_iconst (v := zI 1) hx hb dL_law_1139 rfl ?_
  refine z_iadd hx hb dL_law_1140 ?_
  refine z_sld hx hb hXs hbl hbA hS ⟨⟨by omega, by omega⟩, hL⟩ dL_law_1141 ?_
  refine lv_aload_n hx hb dL_law_1142 rfl (lv_at hl 3 rfl) ?_
  refine zfw_calli (mc := 1) (ms := 6) (wr := (wM β (gM cI cB) h sv sl9 tk cd mn mi mc mq mr mw ct9 ln9 mt ma mx mh)) (wc := oC cL o fo ++ (wH α (gH cI cB) (h, old, ch) (rg0, rg1) (ln_0, ln_1, ln_2, ln_3, ln_4, ln_5, ln_6, ln_7, ln_8, ln_9) (sl_0, sl_1, sl_2) (pd0, pd1) (ct_0, ct_1) sg (cd, ln9, pl, le, ro, co, nu) (sv, sl9, tk, ct9))) hP hD hS hA (vx_runSW (As := [.ref (α 0), .int (zI (xI xs (i + 1))), .ref o]) (rest := []) hC (c_L_linesByTracing l D τ α (gH cI cB) h old ch (rg0, rg1) ln_0 ln_1 ln_2 ln_3 ln_4 ln_5 ln_6 ln_7 ln_8 ln_9 (sl_0, sl_1, sl_2) (pd0, pd1) (ct_0, ct_1) sg (cd, ln9, pl, le, ro, co, nu) (sv, sl9, tk, ct9) (xI xs (i + 1)) (xI_b xs _) hh hst cL o fo _) (vx_cwSW 3 hts (gSW hB wl_L_220 wt_L_linesByTracing wi_L wc_L_linesByTracing) rfl rfl rfl hd_L_linesByTracing.2 ⟨Nat.le_of_ble_eq_true rfl, Nat.le_of_ble_eq_true rfl⟩) (zpX_S hKo (zPc hP) (zDc hD) hS hA hG hGX) rfl rfl hl.1 rfl (lv_room (Nat.le_of_ble_eq_true rfl)) dL_law_1143 ⟨by show _ ≤ 1083; omega, by show _ ≤ 10672; omega⟩) (fun r w1 H locs hq9 hP hD hS => ?_)
  rcases hq9 with hq9 | hq9
  · skip
    obtain ⟨m2c, f2c, s2c, p2c, q2c, n2c, gn2c, t2c, c2c, l2c, vc, go, hf0, hf1, hgo, rfl, rfl⟩ := hq9
    refine lv_istore (lv' := [(5, .int (zI 0)), (0, .ref b), (1, .ref (α 0)), (2, .ref (β 0)), (3, .ref o), (4, .int (zI i))]) hx hb dL_law_1146 hl (by decide) rfl (fun ls hl => ?_)
    refine lv_aload_n hx hb dL_law_1148 rfl (lv_at hl 3 rfl) ?_
    refine lv_aload_n hx hb dL_law_1149 rfl (lv_at hl 1 rfl) ?_
    refine lv_iload hx hb dL_law_1150 (lv_at hl 5 rfl) ?_
    refine lv_iconst (v := zI 1) hx hb dL_law_1152 rfl ?_
    refine z_iadd hx hb dL_law_1153 ?_
    refine z_sld hx hb hXs hbl hbA hS ⟨⟨by omega, by omega⟩, hL⟩ dL_law_1154 ?_
    have hP := zPswap hP
    have hD := zDswap hD
    refine zfw_calli (mc := 0) (ms := 0)  hP hD hS hA (va_runV (As := [.int (zI (xI xs (i + 1)))]) (rest := []) hC (c_X10_linesByTracing l D τ β (gM cI cB) h sv sl9 tk cd mn mi mc mq mr mw ct9 ln9 mt ma mx mh (xI xs (i + 1)) (xI_b xs _) hh _) (cwV 1 hts (gV hB wl_L_222 wn_X10_linesByTracing ws_X10_linesByTracing wi_X10 wc_X10_linesByTracing) rfl rfl rfl hd_X10_linesByTracing ⟨Nat.le_of_ble_eq_true rfl, Nat.le_of_ble_eq_true rfl⟩) (zp_V hKm (zPc hP) (zDc hD) hS hA hG (ci := 10) (q0 := 0) rfl rfl rfl) rfl rfl hl.1 rfl (lv_room (Nat.le_of_ble_eq_true rfl)) dL_law_1155 ⟨by show _ ≤ 1083; omega, by show _ ≤ 10672; omega⟩) (fun r w1 H locs hq9 hP hD hS => ?_)
    obtain ⟨m2m, c2m, q2m, t2m, vm, hm0, hm1, rfl, rfl⟩ := hq9
    have hP := zPswap hP
    have hD := zDswap hD
    refine lv_istore (lv' := [(6, .int (zI vm)), (5, .int (zI 0)), (0, .ref b), (1, .ref (α 0)), (2, .ref (β 0)), (3, .ref o), (4, .int (zI i))]) hx hb dL_law_1158 hl (by decide) rfl (fun ls hl => ?_)
    refine lv_aload_n hx hb dL_law_1160 rfl (lv_at hl 4 rfl) ?_
    have hP := zPswap hP
    have hD := zDswap hD
    refine zfw_calli (mc := 0) (ms := 0)  hP hD hS hA (va_runV (As := []) (rest := []) hC (c_X10_thrown l D τ β (gM cI cB) _ _ _ _ _ _ _ _ _ _ _ _ _ _ _ _ _ _) (cwV 0 hts (gV hB wl_L_145 wn_X10_thrown ws_X10_thrown wi_X10 wc_X10_thrown) rfl rfl rfl hd_X10_thrown ⟨Nat.le_of_ble_eq_true rfl, Nat.le_of_ble_eq_true rfl⟩) (zp_V hKm (zPc hP) (zDc hD) hS hA hG (ci := 10) (q0 := 0) rfl rfl rfl) rfl rfl hl.1 rfl (lv_room (Nat.le_of_ble_eq_true rfl)) dL_law_1161 ⟨by show _ ≤ 1083; omega, by show _ ≤ 10672; omega⟩) (fun r w1 H locs hq9 hP hD hS => ?_)
    obtain ⟨vt, ht0, rfl, rfl⟩ := hq9
    have hP := zPswap hP
    have hD := zDswap hD
    refine lv_iload hx hb dL_law_1164 (lv_at hl 1 rfl) ?_
    have heq_1166 : vt = 0 := by rw [ht0, hm0, hf0]
    refine z_iceqE (tgt := 1171) hx hb heq_1166 dL_law_1166 (by decide) ?_
    refine lv_iload hx hb dL_law_1171 (lv_at hl 1 rfl) ?_
    refine z_ifne (tgt := 1188) hx hb ⟨by omega, by omega⟩ dL_law_1173 (by decide) (fun c_1173 => absurd rfl c_1173) (fun c_1173 => ?_)
    refine lv_aload_n hx hb dL_law_1176 rfl (lv_at hl 5 rfl) ?_
    refine lv_iconst (v := zI 0) hx hb dL_law_1177 rfl ?_
    refine zo_lald hx hb hKo (zPc hP) dL_law_1178 ?_
    refine lv_iload hx hb dL_law_1179 (lv_at hl 0 rfl) ?_
    refine lv_i2l (v := (zI vm).toInt64) hx hb dL_law_1181 rfl ?_
    refine z_lcmpE hx hb (by rw [hgo, hf1, (hm1 (hm0.trans hf0))]) dL_law_1182 ?_
    refine z_ifeq (tgt := 1188) hx hb ⟨by omega, by omega⟩ dL_law_1183 (by decide) (fun c_1183 => ?_) (fun c_1183 => absurd rfl c_1183)
    refine lv_goto (tgt := 2893) hx hb dL_law_1188 (by decide) ?_
    refine W.widen (k := cells + 2) (n := slots + 12) (by omega) (by omega) ?_
    exact hk _ _ _ _ _ _ _ _ _ _ _ _ _ _ _ _ _ _ _ _ _ _ _ _ _ _ _ _ _ _ _ H locs ls (hI) hP hD hS (lv_sub hl [2, 3, 4, 5, 6] rfl)
  · skip
    obtain ⟨hx9, rfl, rfl⟩ := hq9
    refine lv_istore (lv' := [(5, .int (zI 1)), (0, .ref b), (1, .ref (α 0)), (2, .ref (β 0)), (3, .ref o), (4, .int (zI i))]) hx hb dL_law_1146 hl (by decide) rfl (fun ls hl => ?_)
    refine lv_aload_n hx hb dL_law_1148 rfl (lv_at hl 3 rfl) ?_
    refine lv_aload_n hx hb dL_law_1149 rfl (lv_at hl 1 rfl) ?_
    refine lv_iload hx hb dL_law_1150 (lv_at hl 5 rfl) ?_
    refine lv_iconst (v := zI 1) hx hb dL_law_1152 rfl ?_
    refine z_iadd hx hb dL_law_1153 ?_
    refine z_sld hx hb hXs hbl hbA hS ⟨⟨by omega, by omega⟩, hL⟩ dL_law_1154 ?_
    have hP := zPswap hP
    have hD := zDswap hD
    refine zfw_calli (mc := 0) (ms := 0)  hP hD hS hA (va_runV (As := [.int (zI (xI xs (i + 1)))]) (rest := []) hC (c_X10_linesByTracing l D τ β (gM cI cB) h sv sl9 tk cd mn mi mc mq mr mw ct9 ln9 mt ma mx mh (xI xs (i + 1)) (xI_b xs _) hh _) (cwV 1 hts (gV hB wl_L_222 wn_X10_linesByTracing ws_X10_linesByTracing wi_X10 wc_X10_linesByTracing) rfl rfl rfl hd_X10_linesByTracing ⟨Nat.le_of_ble_eq_true rfl, Nat.le_of_ble_eq_true rfl⟩) (zp_V hKm (zPc hP) (zDc hD) hS hA hG (ci := 10) (q0 := 0) rfl rfl rfl) rfl rfl hl.1 rfl (lv_room (Nat.le_of_ble_eq_true rfl)) dL_law_1155 ⟨by show _ ≤ 1083; omega, by show _ ≤ 10672; omega⟩) (fun r w1 H locs hq9 hP hD hS => ?_)
    obtain ⟨m2m, c2m, q2m, t2m, vm, hm0, hm1, rfl, rfl⟩ := hq9
    have hP := zPswap hP
    have hD := zDswap hD
    refine lv_istore (lv' := [(6, .int (zI vm)), (5, .int (zI 1)), (0, .ref b), (1, .ref (α 0)), (2, .ref (β 0)), (3, .ref o), (4, .int (zI i))]) hx hb dL_law_1158 hl (by decide) rfl (fun ls hl => ?_)
    refine lv_aload_n hx hb dL_law_1160 rfl (lv_at hl 4 rfl) ?_
    have hP := zPswap hP
    have hD := zDswap hD
    refine zfw_calli (mc := 0) (ms := 0)  hP hD hS hA (va_runV (As := []) (rest := []) hC (c_X10_thrown l D τ β (gM cI cB) _ _ _ _ _ _ _ _ _ _ _ _ _ _ _ _ _ _) (cwV 0 hts (gV hB wl_L_145 wn_X10_thrown ws_X10_thrown wi_X10 wc_X10_thrown) rfl rfl rfl hd_X10_thrown ⟨Nat.le_of_ble_eq_true rfl, Nat.le_of_ble_eq_true rfl⟩) (zp_V hKm (zPc hP) (zDc hD) hS hA hG (ci := 10) (q0 := 0) rfl rfl rfl) rfl rfl hl.1 rfl (lv_room (Nat.le_of_ble_eq_true rfl)) dL_law_1161 ⟨by show _ ≤ 1083; omega, by show _ ≤ 10672; omega⟩) (fun r w1 H locs hq9 hP hD hS => ?_)
    obtain ⟨vt, ht0, rfl, rfl⟩ := hq9
    have hP := zPswap hP
    have hD := zDswap hD
    refine lv_iload hx hb dL_law_1164 (lv_at hl 1 rfl) ?_
    have heq_1166 : vt = 1 := by rw [ht0, hm0, hx9]
    refine z_iceqE (tgt := 1171) hx hb heq_1166 dL_law_1166 (by decide) ?_
    refine lv_iload hx hb dL_law_1171 (lv_at hl 1 rfl) ?_
    refine z_ifne (tgt := 1188) hx hb ⟨by omega, by omega⟩ dL_law_1173 (by decide) (fun c_1173 => ?_) (fun c_1173 => absurd c_1173 (by decide))
    refine lv_goto (tgt := 2893) hx hb dL_law_1188 (by decide) ?_
    refine W.widen (k := cells + 2) (n := slots + 12) (by omega) (by omega) ?_
    exact hk _ _ _ _ _ _ _ _ _ _ _ _ _ _ _ _ _ _ _ _ _ _ _ _ _ _ _ _ _ _ _ H locs ls (hI) hP hD hS (lv_sub hl [2, 3, 4, 5, 6] rfl)
set_option maxHeartbeats 4000000 in
set_option maxRecDepth 100000 in
theorem law_1191 {p : Program} {l : Launch} {e : Env} {s : State} {m : MethodId} {below : List Frame} {meth : Method} {c : Code} {Q : State → Prop} {D : va_G} {τ : Nat → Nat} {A : Nat → Prop} {α β : Nat → Nat} {cI cB cL : ClassId} {o b L : Nat} {xs : Nat → Int32} {i : Int} {cells slots : Nat} (hX : LCx p l s m c D τ A cI cB cL b L xs) (hi : 0 ≤ i ∧ i + 6 ≤ L) (hc : cells + 2 ≤ 1083 ∧ slots + 12 ≤ 10672)
    (hk : LSt p l e s m below meth c Q D A α β cI cB cL o b i 2893 (cells + 2) (slots + 12)) : LSt p l e s m below meth c Q D A α β cI cB cL o b i 1191 cells slots := by
  obtain ⟨hC, hKm, hKo, hKh, hG, hA, hGX, hst, hXs, hbl, hbA, hL⟩ := hX
  intro h old ch rg ln sl pd ct sg cd ln9 pl le ro co nu sv sl9 tk ct9 mn mi mc mq mr mw mt ma mx mh fo H locs ls hI hP hD hS hl
  obtain ⟨rg0, rg1⟩ := rg
  obtain ⟨ln_0, ln_1, ln_2, ln_3, ln_4, ln_5, ln_6, ln_7, ln_8, ln_9⟩ := ln
  obtain ⟨sl_0, sl_1, sl_2⟩ := sl
  obtain ⟨pd0, pd1⟩ := pd
  obtain ⟨ct_0, ct_1⟩ := ct
  have hx := hC.1
  have hb := hC.2.1
  have hml := hC.2.2.1
  have hts := hC.2.2.2.2
  have hB : ∀ w ∈ W0, w ∈ W0 := fun _ h => h
  have hh := hI.1
  have hct := hI.2.2.2.1
  have hln := hI.2.2.2.2.1
  have hmf := hI.2.2.2.2.2.1
  have hov := hI.2.2.2.2.2.2
  have hcd : ∀ k, 0 ≤ k → k < ln9 → 0 ≤ cd k ∧ cd k ≤ 126 := fun k a b => by have z := hmf k a b; omega
  have hP : va_P D vwCl ((wM β (gM cI cB) h sv sl9 tk cd mn mi mc mq mr mw ct9 ln9 mt ma mx mh) ++ (oC cL o fo ++ (wH α (gH cI cB) (h, old, ch) (rg0, rg1) (ln_0, ln_1, ln_2, ln_3, ln_4, ln_5, ln_6, ln_7, ln_8, ln_9) (sl_0, sl_1, sl_2) (pd0, pd1) (ct_0, ct_1) sg (cd, ln9, pl, le, ro, co, nu) (sv, sl9, tk, ct9)))) H := hP
  have hD : va_D A ((wM β (gM cI cB) h sv sl9 tk cd mn mi mc mq mr mw ct9 ln9 mt ma mx mh) ++ (oC cL o fo ++ (wH α (gH cI cB) (h, old, ch) (rg0, rg1) (ln_0, ln_1, ln_2, ln_3, ln_4, ln_5, ln_6, ln_7, ln_8, ln_9) (sl_0, sl_1, sl_2) (pd0, pd1) (ct_0, ct_1) sg (cd, ln9, pl, le, ro, co, nu) (sv, sl9, tk, ct9)))) := hD
  refine lv_aload_n hx hb dL_law_1191 rfl (lv_at hl 1 rfl) ?_
  refine lv_aload_n hx hb dL_law_1192 rfl (lv_at hl 0 rfl) ?_
  refine lv_iload hx hb dL_law_1193 (lv_at hl 4 rfl) ?_
  refine lv_iconst (v := zI 1) hx hb dL_law_1195 rfl ?_
  refine z_iadd hx hb dL_law_1196 ?_
  refine z_sld hx hb hXs hbl hbA hS ⟨⟨by omega, by omega⟩, hL⟩ dL_law_1197 ?_
  refine lv_aload_n hx hb dL_law_1198 rfl (lv_at hl 3 rfl) ?_
  refine zfw_calli (mc := 1) (ms := 6) (wr := (wM β (gM cI cB) h sv sl9 tk cd mn mi mc mq mr mw ct9 ln9 mt ma mx mh)) (wc := oC cL o fo ++ (wH α (gH cI cB) (h, old, ch) (rg0, rg1) (ln_0, ln_1, ln_2, ln_3, ln_4, ln_5, ln_6, ln_7, ln_8, ln_9) (sl_0, sl_1, sl_2) (pd0, pd1) (ct_0, ct_1) sg (cd, ln9, pl, le, ro, co, nu) (sv, sl9, tk, ct9))) hP hD hS hA (vx_runSW (As := [.ref (α 0), .int (zI (xI xs (i + 1))), .ref o]) (rest := []) hC (c_L_linesByRegions l D τ α (gH cI cB) h old ch rg0 rg1 (ln_0, ln_1, ln_2, ln_3, ln_4, ln_5, ln_6, ln_7, ln_8, ln_9) (sl_0, sl_1, sl_2) (pd0, pd1) (ct_0, ct_1) sg (cd, ln9, pl, le, ro, co, nu) (sv, sl9, tk, ct9) (xI xs (i + 1)) (xI_b xs _) hh hst cL o fo _) (vx_cwSW 3 hts (gSW hB wl_L_223 wt_L_linesByRegions wi_L wc_L_linesByRegions) rfl rfl rfl hd_L_linesByRegions.2 ⟨Nat.le_of_ble_eq_true rfl, Nat.le_of_ble_eq_true rfl⟩) (zpX_S hKo (zPc hP) (zDc hD) hS hA hG hGX) rfl rfl hl.1 rfl (lv_room (Nat.le_of_ble_eq_true rfl)) dL_law_1199 ⟨by show _ ≤ 1083; omega, by show _ ≤ 10672; omega⟩) (fun r w1 H locs hq9 hP hD hS => ?_)
  rcases hq9 with hq9 | hq9
  · skip
    obtain ⟨w2c, q2c, vc, go, hf0, hf1, hgo, rfl, rfl⟩ := hq9
    refine lv_istore (lv' := [(5, .int (zI 0)), (0, .ref b), (1, .ref (α 0)), (2, .ref (β 0)), (3, .ref o), (4, .int (zI i))]) hx hb dL_law_1202 hl (by decide) rfl (fun ls hl => ?_)
    refine lv_aload_n hx hb dL_law_1204 rfl (lv_at hl 3 rfl) ?_
    refine lv_aload_n hx hb dL_law_1205 rfl (lv_at hl 1 rfl) ?_
    refine lv_iload hx hb dL_law_1206 (lv_at hl 5 rfl) ?_
    refine lv_iconst (v := zI 1) hx hb dL_law_1208 rfl ?_
    refine z_iadd hx hb dL_law_1209 ?_
    refine z_sld hx hb hXs hbl hbA hS ⟨⟨by omega, by omega⟩, hL⟩ dL_law_1210 ?_
    have hP := zPswap hP
    have hD := zDswap hD
    refine zfw_calli (mc := 0) (ms := 0)  hP hD hS hA (va_runV (As := [.int (zI (xI xs (i + 1)))]) (rest := []) hC (c_X10_linesByRegions l D τ β (gM cI cB) h sv sl9 tk cd mn mi mc mq mr mw ct9 ln9 mt ma mx mh (xI xs (i + 1)) (xI_b xs _) hh _) (cwV 1 hts (gV hB wl_L_225 wn_X10_linesByRegions ws_X10_linesByRegions wi_X10 wc_X10_linesByRegions) rfl rfl rfl hd_X10_linesByRegions ⟨Nat.le_of_ble_eq_true rfl, Nat.le_of_ble_eq_true rfl⟩) (zp_V hKm (zPc hP) (zDc hD) hS hA hG (ci := 10) (q0 := 0) rfl rfl rfl) rfl rfl hl.1 rfl (lv_room (Nat.le_of_ble_eq_true rfl)) dL_law_1211 ⟨by show _ ≤ 1083; omega, by show _ ≤ 10672; omega⟩) (fun r w1 H locs hq9 hP hD hS => ?_)
    obtain ⟨m2m, c2m, q2m, t2m, vm, hm0, hm1, rfl, rfl⟩ := hq9
    have hP := zPswap hP
    have hD := zDswap hD
    refine lv_istore (lv' := [(6, .int (zI vm)), (5, .int (zI 0)), (0, .ref b), (1, .ref (α 0)), (2, .ref (β 0)), (3, .ref o), (4, .int (zI i))]) hx hb dL_law_1214 hl (by decide) rfl (fun ls hl => ?_)
    refine lv_aload_n hx hb dL_law_1216 rfl (lv_at hl 4 rfl) ?_
    have hP := zPswap hP
    have hD := zDswap hD
    refine zfw_calli (mc := 0) (ms := 0)  hP hD hS hA (va_runV (As := []) (rest := []) hC (c_X10_thrown l D τ β (gM cI cB) _ _ _ _ _ _ _ _ _ _ _ _ _ _ _ _ _ _) (cwV 0 hts (gV hB wl_L_145 wn_X10_thrown ws_X10_thrown wi_X10 wc_X10_thrown) rfl rfl rfl hd_X10_thrown ⟨Nat.le_of_ble_eq_true rfl, Nat.le_of_ble_eq_true rfl⟩) (zp_V hKm (zPc hP) (zDc hD) hS hA hG (ci := 10) (q0 := 0) rfl rfl rfl) rfl rfl hl.1 rfl (lv_room (Nat.le_of_ble_eq_true rfl)) dL_law_1217 ⟨by show _ ≤ 1083; omega, by show _ ≤ 10672; omega⟩) (fun r w1 H locs hq9 hP hD hS => ?_)
    obtain ⟨vt, ht0, rfl, rfl⟩ := hq9
    have hP := zPswap hP
    have hD := zDswap hD
    refine lv_iload hx hb dL_law_1220 (lv_at hl 1 rfl) ?_
    have heq_1222 : vt = 0 := by rw [ht0, hm0, hf0]
    refine z_iceqE (tgt := 1227) hx hb heq_1222 dL_law_1222 (by decide) ?_
    refine lv_iload hx hb dL_law_1227 (lv_at hl 1 rfl) ?_
    refine z_ifne (tgt := 1244) hx hb ⟨by omega, by omega⟩ dL_law_1229 (by decide) (fun c_1229 => absurd rfl c_1229) (fun c_1229 => ?_)
    refine lv_aload_n hx hb dL_law_1232 rfl (lv_at hl 5 rfl) ?_
    refine lv_iconst (v := zI 0) hx hb dL_law_1233 rfl ?_
    refine zo_lald hx hb hKo (zPc hP) dL_law_1234 ?_
    refine lv_iload hx hb dL_law_1235 (lv_at hl 0 rfl) ?_
    refine lv_i2l (v := (zI vm).toInt64) hx hb dL_law_1237 rfl ?_
    refine z_lcmpE hx hb (by rw [hgo, hf1, (hm1 (hm0.trans hf0))]) dL_law_1238 ?_
    refine z_ifeq (tgt := 1244) hx hb ⟨by omega, by omega⟩ dL_law_1239 (by decide) (fun c_1239 => ?_) (fun c_1239 => absurd rfl c_1239)
    refine lv_goto (tgt := 2893) hx hb dL_law_1244 (by decide) ?_
    refine W.widen (k := cells + 2) (n := slots + 12) (by omega) (by omega) ?_
    exact hk _ _ _ _ _ _ _ _ _ _ _ _ _ _ _ _ _ _ _ _ _ _ _ _ _ _ _ _ _ _ _ H locs ls (hI) hP hD hS (lv_sub hl [2, 3, 4, 5, 6] rfl)
  · skip
    obtain ⟨hx9, rfl, rfl⟩ := hq9
    refine lv_istore (lv' := [(5, .int (zI 1)), (0, .ref b), (1, .ref (α 0)), (2, .ref (β 0)), (3, .ref o), (4, .int (zI i))]) hx hb dL_law_1202 hl (by decide) rfl (fun ls hl => ?_)
    refine lv_aload_n hx hb dL_law_1204 rfl (lv_at hl 3 rfl) ?_
    refine lv_aload_n hx hb dL_law_1205 rfl (lv_at hl 1 rfl) ?_
    refine lv_iload hx hb dL_law_1206 (lv_at hl 5 rfl) ?_
    refine lv_iconst (v := zI 1) hx hb dL_law_1208 rfl ?_
    refine z_iadd hx hb dL_law_1209 ?_
    refine z_sld hx hb hXs hbl hbA hS ⟨⟨by omega, by omega⟩, hL⟩ dL_law_1210 ?_
    have hP := zPswap hP
    have hD := zDswap hD
    refine zfw_calli (mc := 0) (ms := 0)  hP hD hS hA (va_runV (As := [.int (zI (xI xs (i + 1)))]) (rest := []) hC (c_X10_linesByRegions l D τ β (gM cI cB) h sv sl9 tk cd mn mi mc mq mr mw ct9 ln9 mt ma mx mh (xI xs (i + 1)) (xI_b xs _) hh _) (cwV 1 hts (gV hB wl_L_225 wn_X10_linesByRegions ws_X10_linesByRegions wi_X10 wc_X10_linesByRegions) rfl rfl rfl hd_X10_linesByRegions ⟨Nat.le_of_ble_eq_true rfl, Nat.le_of_ble_eq_true rfl⟩) (zp_V hKm (zPc hP) (zDc hD) hS hA hG (ci := 10) (q0 := 0) rfl rfl rfl) rfl rfl hl.1 rfl (lv_room (Nat.le_of_ble_eq_true rfl)) dL_law_1211 ⟨by show _ ≤ 1083; omega, by show _ ≤ 10672; omega⟩) (fun r w1 H locs hq9 hP hD hS => ?_)
    obtain ⟨m2m, c2m, q2m, t2m, vm, hm0, hm1, rfl, rfl⟩ := hq9
    have hP := zPswap hP
    have hD := zDswap hD
    refine lv_istore (lv' := [(6, .int (zI vm)), (5, .int (zI 1)), (0, .ref b), (1, .ref (α 0)), (2, .ref (β 0)), (3, .ref o), (4, .int (zI i))]) hx hb dL_law_1214 hl (by decide) rfl (fun ls hl => ?_)
    refine lv_aload_n hx hb dL_law_1216 rfl (lv_at hl 4 rfl) ?_
    have hP := zPswap hP
    have hD := zDswap hD
    refine zfw_calli (mc := 0) (ms := 0)  hP hD hS hA (va_runV (As := []) (rest := []) hC (c_X10_thrown l D τ β (gM cI cB) _ _ _ _ _ _ _ _ _ _ _ _ _ _ _ _ _ _) (cwV 0 hts (gV hB wl_L_145 wn_X10_thrown ws_X10_thrown wi_X10 wc_X10_thrown) rfl rfl rfl hd_X10_thrown ⟨Nat.le_of_ble_eq_true rfl, Nat.le_of_ble_eq_true rfl⟩) (zp_V hKm (zPc hP) (zDc hD) hS hA hG (ci := 10) (q0 := 0) rfl rfl rfl) rfl rfl hl.1 rfl (lv_room (Nat.le_of_ble_eq_true rfl)) dL_law_1217 ⟨by show _ ≤ 1083; omega, by show _ ≤ 10672; omega⟩) (fun r w1 H locs hq9 hP hD hS => ?_)
    obtain ⟨vt, ht0, rfl, rfl⟩ := hq9
    have hP := zPswap hP
    have hD := zDswap hD
    refine lv_iload hx hb dL_law_1220 (lv_at hl 1 rfl) ?_
    have heq_1222 : vt = 1 := by rw [ht0, hm0, hx9]
    refine z_iceqE (tgt := 1227) hx hb heq_1222 dL_law_1222 (by decide) ?_
    refine lv_iload hx hb dL_law_1227 (lv_at hl 1 rfl) ?_
    refine z_ifne (tgt := 1244) hx hb ⟨by omega, by omega⟩ dL_law_1229 (by decide) (fun c_1229 => ?_) (fun c_1229 => absurd c_1229 (by decide))
    refine lv_goto (tgt := 2893) hx hb dL_law_1244 (by decide) ?_
    refine W.widen (k := cells + 2) (n := slots + 12) (by omega) (by omega) ?_
    exact hk _ _ _ _ _ _ _ _ _ _ _ _ _ _ _ _ _ _ _ _ _ _ _ _ _ _ _ _ _ _ _ H locs ls (hI) hP hD hS (lv_sub hl [2, 3, 4, 5, 6] rfl)
set_option maxHeartbeats 4000000 in
set_option maxRecDepth 100000 in
theorem law_1247 {p : Program} {l : Launch} {e : Env} {s : State} {m : MethodId} {below : List Frame} {meth : Method} {c : Code} {Q : State → Prop} {D : va_G} {τ : Nat → Nat} {A : Nat → Prop} {α β : Nat → Nat} {cI cB cL : ClassId} {o b L : Nat} {xs : Nat → Int32} {i : Int} {cells slots : Nat} (hX : LCx p l s m c D τ A cI cB cL b L xs) (hi : 0 ≤ i ∧ i + 6 ≤ L) (hc : cells + 2 ≤ 1083 ∧ slots + 12 ≤ 10672)
    (hk : LSt p l e s m below meth c Q D A α β cI cB cL o b i 2893 (cells + 2) (slots + 12)) : LSt p l e s m below meth c Q D A α β cI cB cL o b i 1247 cells slots := by
  obtain ⟨hC, hKm, hKo, hKh, hG, hA, hGX, hst, hXs, hbl, hbA, hL⟩ := hX
  intro h old ch rg ln sl pd ct sg cd ln9 pl le ro co nu sv sl9 tk ct9 mn mi mc mq mr mw mt ma mx mh fo H locs ls hI hP hD hS hl
  obtain ⟨rg0, rg1⟩ := rg
  obtain ⟨ln_0, ln_1, ln_2, ln_3, ln_4, ln_5, ln_6, ln_7, ln_8, ln_9⟩ := ln
  obtain ⟨sl_0, sl_1, sl_2⟩ := sl
  obtain ⟨pd0, pd1⟩ := pd
  obtain ⟨ct_0, ct_1⟩ := ct
  have hx := hC.1
  have hb := hC.2.1
  have hml := hC.2.2.1
  have hts := hC.2.2.2.2
  have hB : ∀ w ∈ W0, w ∈ W0 := fun _ h => h
  have hh := hI.1
  have hct := hI.2.2.2.1
  have hln := hI.2.2.2.2.1
  have hmf := hI.2.2.2.2.2.1
  have hov := hI.2.2.2.2.2.2
  have hcd : ∀ k, 0 ≤ k → k < ln9 → 0 ≤ cd k ∧ cd k ≤ 126 := fun k a b => by have z := hmf k a b; omega
  have hP : va_P D vwCl ((wM β (gM cI cB) h sv sl9 tk cd mn mi mc mq mr mw ct9 ln9 mt ma mx mh) ++ (oC cL o fo ++ (wH α (gH cI cB) (h, old, ch) (rg0, rg1) (ln_0, ln_1, ln_2, ln_3, ln_4, ln_5, ln_6, ln_7, ln_8, ln_9) (sl_0, sl_1, sl_2) (pd0, pd1) (ct_0, ct_1) sg (cd, ln9, pl, le, ro, co, nu) (sv, sl9, tk, ct9)))) H := hP
  have hD : va_D A ((wM β (gM cI cB) h sv sl9 tk cd mn mi mc mq mr mw ct9 ln9 mt ma mx mh) ++ (oC cL o fo ++ (wH α (gH cI cB) (h, old, ch) (rg0, rg1) (ln_0, ln_1, ln_2, ln_3, ln_4, ln_5, ln_6, ln_7, ln_8, ln_9) (sl_0, sl_1, sl_2) (pd0, pd1) (ct_0, ct_1) sg (cd, ln9, pl, le, ro, co, nu) (sv, sl9, tk, ct9)))) := hD
  refine lv_aload_n hx hb dL_law_1247 rfl (lv_at hl 1 rfl) ?_
  refine lv_aload_n hx hb dL_law_1248 rfl (lv_at hl 0 rfl) ?_
  refine lv_iload hx hb dL_law_1249 (lv_at hl 4 rfl) ?_
  refine lv_iconst (v := zI 1) hx hb dL_law_1251 rfl ?_
  refine z_iadd hx hb dL_law_1252 ?_
  refine z_sld hx hb hXs hbl hbA hS ⟨⟨by omega, by omega⟩, hL⟩ dL_law_1253 ?_
  refine lv_aload_n hx hb dL_law_1254 rfl (lv_at hl 3 rfl) ?_
  refine zfw_calli (mc := 1) (ms := 6) (wr := (wM β (gM cI cB) h sv sl9 tk cd mn mi mc mq mr mw ct9 ln9 mt ma mx mh)) (wc := oC cL o fo ++ (wH α (gH cI cB) (h, old, ch) (rg0, rg1) (ln_0, ln_1, ln_2, ln_3, ln_4, ln_5, ln_6, ln_7, ln_8, ln_9) (sl_0, sl_1, sl_2) (pd0, pd1) (ct_0, ct_1) sg (cd, ln9, pl, le, ro, co, nu) (sv, sl9, tk, ct9))) hP hD hS hA (vx_runSW (As := [.ref (α 0), .int (zI (xI xs (i + 1))), .ref o]) (rest := []) hC (c_L_closedLines l D τ α (gH cI cB) h old ch (rg0, rg1) ln_0 ln_1 ln_2 ln_3 ln_4 ln_5 ln_6 ln_7 ln_8 ln_9 (sl_0, sl_1, sl_2) (pd0, pd1) (ct_0, ct_1) sg (cd, ln9, pl, le, ro, co, nu) (sv, sl9, tk, ct9) (xI xs (i + 1)) (xI_b xs _) hh hst cL o fo _) (vx_cwSW 3 hts (gSW hB wl_L_226 wt_L_closedLines wi_L wc_L_closedLines) rfl rfl rfl hd_L_closedLines.2 ⟨Nat.le_of_ble_eq_true rfl, Nat.le_of_ble_eq_true rfl⟩) (zpX_S hKo (zPc hP) (zDc hD) hS hA hG hGX) rfl rfl hl.1 rfl (lv_room (Nat.le_of_ble_eq_true rfl)) dL_law_1255 ⟨by show _ ≤ 1083; omega, by show _ ≤ 10672; omega⟩) (fun r w1 H locs hq9 hP hD hS => ?_)
  rcases hq9 with hq9 | hq9
  · skip
    obtain ⟨m2c, f2c, s2c, p2c, q2c, n2c, gn2c, t2c, c2c, l2c, vc, go, hf0, hf1, hgo, rfl, rfl⟩ := hq9
    refine lv_istore (lv' := [(5, .int (zI 0)), (0, .ref b), (1, .ref (α 0)), (2, .ref (β 0)), (3, .ref o), (4, .int (zI i))]) hx hb dL_law_1258 hl (by decide) rfl (fun ls hl => ?_)
    refine lv_aload_n hx hb dL_law_1260 rfl (lv_at hl 3 rfl) ?_
    refine lv_aload_n hx hb dL_law_1261 rfl (lv_at hl 1 rfl) ?_
    refine lv_iload hx hb dL_law_1262 (lv_at hl 5 rfl) ?_
    refine lv_iconst (v := zI 1) hx hb dL_law_1264 rfl ?_
    refine z_iadd hx hb dL_law_1265 ?_
    refine z_sld hx hb hXs hbl hbA hS ⟨⟨by omega, by omega⟩, hL⟩ dL_law_1266 ?_
    have hP := zPswap hP
    have hD := zDswap hD
    refine zfw_calli (mc := 0) (ms := 0)  hP hD hS hA (va_runV (As := [.int (zI (xI xs (i + 1)))]) (rest := []) hC (c_X10_closedLines l D τ β (gM cI cB) h sv sl9 tk cd mn mi mc mq mr mw ct9 ln9 mt ma mx mh (xI xs (i + 1)) (xI_b xs _) hh _) (cwV 1 hts (gV hB wl_L_228 wn_X10_closedLines ws_X10_closedLines wi_X10 wc_X10_closedLines) rfl rfl rfl hd_X10_closedLines ⟨Nat.le_of_ble_eq_true rfl, Nat.le_of_ble_eq_true rfl⟩) (zp_V hKm (zPc hP) (zDc hD) hS hA hG (ci := 10) (q0 := 0) rfl rfl rfl) rfl rfl hl.1 rfl (lv_room (Nat.le_of_ble_eq_true rfl)) dL_law_1267 ⟨by show _ ≤ 1083; omega, by show _ ≤ 10672; omega⟩) (fun r w1 H locs hq9 hP hD hS => ?_)
    obtain ⟨m2m, c2m, q2m, t2m, vm, hm0, hm1, rfl, rfl⟩ := hq9
    have hP := zPswap hP
    have hD := zDswap hD
    refine lv_istore (lv' := [(6, .int (zI vm)), (5, .int (zI 0)), (0, .ref b), (1, .ref (α 0)), (2, .ref (β 0)), (3, .ref o), (4, .int (zI i))]) hx hb dL_law_1270 hl (by decide) rfl (fun ls hl => ?_)
    refine lv_aload_n hx hb dL_law_1272 rfl (lv_at hl 4 rfl) ?_
    have hP := zPswap hP
    have hD := zDswap hD
    refine zfw_calli (mc := 0) (ms := 0)  hP hD hS hA (va_runV (As := []) (rest := []) hC (c_X10_thrown l D τ β (gM cI cB) _ _ _ _ _ _ _ _ _ _ _ _ _ _ _ _ _ _) (cwV 0 hts (gV hB wl_L_145 wn_X10_thrown ws_X10_thrown wi_X10 wc_X10_thrown) rfl rfl rfl hd_X10_thrown ⟨Nat.le_of_ble_eq_true rfl, Nat.le_of_ble_eq_true rfl⟩) (zp_V hKm (zPc hP) (zDc hD) hS hA hG (ci := 10) (q0 := 0) rfl rfl rfl) rfl rfl hl.1 rfl (lv_room (Nat.le_of_ble_eq_true rfl)) dL_law_1273 ⟨by show _ ≤ 1083; omega, by show _ ≤ 10672; omega⟩) (fun r w1 H locs hq9 hP hD hS => ?_)
    obtain ⟨vt, ht0, rfl, rfl⟩ := hq9
    have hP := zPswap hP
    have hD := zDswap hD
    refine lv_iload hx hb dL_law_1276 (lv_at hl 1 rfl) ?_
    have heq_1278 : vt = 0 := by rw [ht0, hm0, hf0]
    refine z_iceqE (tgt := 1283) hx hb heq_1278 dL_law_1278 (by decide) ?_
    refine lv_iload hx hb dL_law_1283 (lv_at hl 1 rfl) ?_
    refine z_ifne (tgt := 1300) hx hb ⟨by omega, by omega⟩ dL_law_1285 (by decide) (fun c_1285 => absurd rfl c_1285) (fun c_1285 => ?_)
    refine lv_aload_n hx hb dL_law_1288 rfl (lv_at hl 5 rfl) ?_
    refine lv_iconst (v := zI 0) hx hb dL_law_1289 rfl ?_
    refine zo_lald hx hb hKo (zPc hP) dL_law_1290 ?_
    refine lv_iload hx hb dL_law_1291 (lv_at hl 0 rfl) ?_
    refine lv_i2l (v := (zI vm).toInt64) hx hb dL_law_1293 rfl ?_
    refine z_lcmpE hx hb (by rw [hgo, hf1, (hm1 (hm0.trans hf0))]) dL_law_1294 ?_
    refine z_ifeq (tgt := 1300) hx hb ⟨by omega, by omega⟩ dL_law_1295 (by decide) (fun c_1295 => ?_) (fun c_1295 => absurd rfl c_1295)
    refine lv_goto (tgt := 2893) hx hb dL_law_1300 (by decide) ?_
    refine W.widen (k := cells + 2) (n := slots + 12) (by omega) (by omega) ?_
    exact hk _ _ _ _ _ _ _ _ _ _ _ _ _ _ _ _ _ _ _ _ _ _ _ _ _ _ _ _ _ _ _ H locs ls (hI) hP hD hS (lv_sub hl [2, 3, 4, 5, 6] rfl)
  · skip
    obtain ⟨hx9, rfl, rfl⟩ := hq9
    refine lv_istore (lv' := [(5, .int (zI 1)), (0, .ref b), (1, .ref (α 0)), (2, .ref (β 0)), (3, .ref o), (4, .int (zI i))]) hx hb dL_law_1258 hl (by decide) rfl (fun ls hl => ?_)
    refine lv_aload_n hx hb dL_law_1260 rfl (lv_at hl 3 rfl) ?_
    refine lv_aload_n hx hb dL_law_1261 rfl (lv_at hl 1 rfl) ?_
    refine lv_iload hx hb dL_law_1262 (lv_at hl 5 rfl) ?_
    refine lv_iconst (v := zI 1) hx hb dL_law_1264 rfl ?_
    refine z_iadd hx hb dL_law_1265 ?_
    refine z_sld hx hb hXs hbl hbA hS ⟨⟨by omega, by omega⟩, hL⟩ dL_law_1266 ?_
    have hP := zPswap hP
    have hD := zDswap hD
    refine zfw_calli (mc := 0) (ms := 0)  hP hD hS hA (va_runV (As := [.int (zI (xI xs (i + 1)))]) (rest := []) hC (c_X10_closedLines l D τ β (gM cI cB) h sv sl9 tk cd mn mi mc mq mr mw ct9 ln9 mt ma mx mh (xI xs (i + 1)) (xI_b xs _) hh _) (cwV 1 hts (gV hB wl_L_228 wn_X10_closedLines ws_X10_closedLines wi_X10 wc_X10_closedLines) rfl rfl rfl hd_X10_closedLines ⟨Nat.le_of_ble_eq_true rfl, Nat.le_of_ble_eq_true rfl⟩) (zp_V hKm (zPc hP) (zDc hD) hS hA hG (ci := 10) (q0 := 0) rfl rfl rfl) rfl rfl hl.1 rfl (lv_room (Nat.le_of_ble_eq_true rfl)) dL_law_1267 ⟨by show _ ≤ 1083; omega, by show _ ≤ 10672; omega⟩) (fun r w1 H locs hq9 hP hD hS => ?_)
    obtain ⟨m2m, c2m, q2m, t2m, vm, hm0, hm1, rfl, rfl⟩ := hq9
    have hP := zPswap hP
    have hD := zDswap hD
    refine lv_istore (lv' := [(6, .int (zI vm)), (5, .int (zI 1)), (0, .ref b), (1, .ref (α 0)), (2, .ref (β 0)), (3, .ref o), (4, .int (zI i))]) hx hb dL_law_1270 hl (by decide) rfl (fun ls hl => ?_)
    refine lv_aload_n hx hb dL_law_1272 rfl (lv_at hl 4 rfl) ?_
    have hP := zPswap hP
    have hD := zDswap hD
    refine zfw_calli (mc := 0) (ms := 0)  hP hD hS hA (va_runV (As := []) (rest := []) hC (c_X10_thrown l D τ β (gM cI cB) _ _ _ _ _ _ _ _ _ _ _ _ _ _ _ _ _ _) (cwV 0 hts (gV hB wl_L_145 wn_X10_thrown ws_X10_thrown wi_X10 wc_X10_thrown) rfl rfl rfl hd_X10_thrown ⟨Nat.le_of_ble_eq_true rfl, Nat.le_of_ble_eq_true rfl⟩) (zp_V hKm (zPc hP) (zDc hD) hS hA hG (ci := 10) (q0 := 0) rfl rfl rfl) rfl rfl hl.1 rfl (lv_room (Nat.le_of_ble_eq_true rfl)) dL_law_1273 ⟨by show _ ≤ 1083; omega, by show _ ≤ 10672; omega⟩) (fun r w1 H locs hq9 hP hD hS => ?_)
    obtain ⟨vt, ht0, rfl, rfl⟩ := hq9
    have hP := zPswap hP
    have hD := zDswap hD
    refine lv_iload hx hb dL_law_1276 (lv_at hl 1 rfl) ?_
    have heq_1278 : vt = 1 := by rw [ht0, hm0, hx9]
    refine z_iceqE (tgt := 1283) hx hb heq_1278 dL_law_1278 (by decide) ?_
    refine lv_iload hx hb dL_law_1283 (lv_at hl 1 rfl) ?_
    refine z_ifne (tgt := 1300) hx hb ⟨by omega, by omega⟩ dL_law_1285 (by decide) (fun c_1285 => ?_) (fun c_1285 => absurd c_1285 (by decide))
    refine lv_goto (tgt := 2893) hx hb dL_law_1300 (by decide) ?_
    refine W.widen (k := cells + 2) (n := slots + 12) (by omega) (by omega) ?_
    exact hk _ _ _ _ _ _ _ _ _ _ _ _ _ _ _ _ _ _ _ _ _ _ _ _ _ _ _ _ _ _ _ H locs ls (hI) hP hD hS (lv_sub hl [2, 3, 4, 5, 6] rfl)
set_option maxHeartbeats 4000000 in
set_option maxRecDepth 100000 in
theorem law_1303 {p : Program} {l : Launch} {e : Env} {s : State} {m : MethodId} {below : List Frame} {meth : Method} {c : Code} {Q : State → Prop} {D : va_G} {τ : Nat → Nat} {A : Nat → Prop} {α β : Nat → Nat} {cI cB cL : ClassId} {o b L : Nat} {xs : Nat → Int32} {i : Int} {cells slots : Nat} (hX : LCx p l s m c D τ A cI cB cL b L xs) (hi : 0 ≤ i ∧ i + 6 ≤ L) (hc : cells + 2 ≤ 1083 ∧ slots + 12 ≤ 10672)
    (hk : LSt p l e s m below meth c Q D A α β cI cB cL o b i 2893 (cells + 2) (slots + 12)) : LSt p l e s m below meth c Q D A α β cI cB cL o b i 1303 cells slots := by
  obtain ⟨hC, hKm, hKo, hKh, hG, hA, hGX, hst, hXs, hbl, hbA, hL⟩ := hX
  intro h old ch rg ln sl pd ct sg cd ln9 pl le ro co nu sv sl9 tk ct9 mn mi mc mq mr mw mt ma mx mh fo H locs ls hI hP hD hS hl
  obtain ⟨rg0, rg1⟩ := rg
  obtain ⟨ln_0, ln_1, ln_2, ln_3, ln_4, ln_5, ln_6, ln_7, ln_8, ln_9⟩ := ln
  obtain ⟨sl_0, sl_1, sl_2⟩ := sl
  obtain ⟨pd0, pd1⟩ := pd
  obtain ⟨ct_0, ct_1⟩ := ct
  have hx := hC.1
  have hb := hC.2.1
  have hml := hC.2.2.1
  have hts := hC.2.2.2.2
  have hB : ∀ w ∈ W0, w ∈ W0 := fun _ h => h
  have hh := hI.1
  have hct := hI.2.2.2.1
  have hln := hI.2.2.2.2.1
  have hmf := hI.2.2.2.2.2.1
  have hov := hI.2.2.2.2.2.2
  have hcd : ∀ k, 0 ≤ k → k < ln9 → 0 ≤ cd k ∧ cd k ≤ 126 := fun k a b => by have z := hmf k a b; omega
  have hP : va_P D vwCl ((wM β (gM cI cB) h sv sl9 tk cd mn mi mc mq mr mw ct9 ln9 mt ma mx mh) ++ (oC cL o fo ++ (wH α (gH cI cB) (h, old, ch) (rg0, rg1) (ln_0, ln_1, ln_2, ln_3, ln_4, ln_5, ln_6, ln_7, ln_8, ln_9) (sl_0, sl_1, sl_2) (pd0, pd1) (ct_0, ct_1) sg (cd, ln9, pl, le, ro, co, nu) (sv, sl9, tk, ct9)))) H := hP
  have hD : va_D A ((wM β (gM cI cB) h sv sl9 tk cd mn mi mc mq mr mw ct9 ln9 mt ma mx mh) ++ (oC cL o fo ++ (wH α (gH cI cB) (h, old, ch) (rg0, rg1) (ln_0, ln_1, ln_2, ln_3, ln_4, ln_5, ln_6, ln_7, ln_8, ln_9) (sl_0, sl_1, sl_2) (pd0, pd1) (ct_0, ct_1) sg (cd, ln9, pl, le, ro, co, nu) (sv, sl9, tk, ct9)))) := hD
  refine lv_aload_n hx hb dL_law_1303 rfl (lv_at hl 1 rfl) ?_
  refine lv_aload_n hx hb dL_law_1304 rfl (lv_at hl 0 rfl) ?_
  refine lv_iload hx hb dL_law_1305 (lv_at hl 4 rfl) ?_
  refine lv_iconst (v := zI 1) hx hb dL_law_1307 rfl ?_
  refine z_iadd hx hb dL_law_1308 ?_
  refine z_sld hx hb hXs hbl hbA hS ⟨⟨by omega, by omega⟩, hL⟩ dL_law_1309 ?_
  refine lv_aload_n hx hb dL_law_1310 rfl (lv_at hl 3 rfl) ?_
  refine zfw_calli (mc := 1) (ms := 6) (wr := (wM β (gM cI cB) h sv sl9 tk cd mn mi mc mq mr mw ct9 ln9 mt ma mx mh)) (wc := oC cL o fo ++ (wH α (gH cI cB) (h, old, ch) (rg0, rg1) (ln_0, ln_1, ln_2, ln_3, ln_4, ln_5, ln_6, ln_7, ln_8, ln_9) (sl_0, sl_1, sl_2) (pd0, pd1) (ct_0, ct_1) sg (cd, ln9, pl, le, ro, co, nu) (sv, sl9, tk, ct9))) hP hD hS hA (vx_runSW (As := [.ref (α 0), .int (zI (xI xs (i + 1))), .ref o]) (rest := []) hC (c_L_longestLine l D τ α (gH cI cB) h old ch (rg0, rg1) ln_0 ln_1 ln_2 ln_3 ln_4 ln_5 ln_6 ln_7 ln_8 ln_9 (sl_0, sl_1, sl_2) (pd0, pd1) (ct_0, ct_1) sg (cd, ln9, pl, le, ro, co, nu) (sv, sl9, tk, ct9) (xI xs (i + 1)) (xI_b xs _) hh hst cL o fo _) (vx_cwSW 3 hts (gSW hB wl_L_229 wt_L_longestLine wi_L wc_L_longestLine) rfl rfl rfl hd_L_longestLine.2 ⟨Nat.le_of_ble_eq_true rfl, Nat.le_of_ble_eq_true rfl⟩) (zpX_S hKo (zPc hP) (zDc hD) hS hA hG hGX) rfl rfl hl.1 rfl (lv_room (Nat.le_of_ble_eq_true rfl)) dL_law_1311 ⟨by show _ ≤ 1083; omega, by show _ ≤ 10672; omega⟩) (fun r w1 H locs hq9 hP hD hS => ?_)
  rcases hq9 with hq9 | hq9
  · skip
    obtain ⟨m2c, f2c, s2c, p2c, q2c, n2c, gn2c, t2c, c2c, l2c, vc, go, hf0, hf1, hgo, rfl, rfl⟩ := hq9
    refine lv_istore (lv' := [(5, .int (zI 0)), (0, .ref b), (1, .ref (α 0)), (2, .ref (β 0)), (3, .ref o), (4, .int (zI i))]) hx hb dL_law_1314 hl (by decide) rfl (fun ls hl => ?_)
    refine lv_aload_n hx hb dL_law_1316 rfl (lv_at hl 3 rfl) ?_
    refine lv_aload_n hx hb dL_law_1317 rfl (lv_at hl 1 rfl) ?_
    refine lv_iload hx hb dL_law_1318 (lv_at hl 5 rfl) ?_
    refine lv_iconst (v := zI 1) hx hb dL_law_1320 rfl ?_
    refine z_iadd hx hb dL_law_1321 ?_
    refine z_sld hx hb hXs hbl hbA hS ⟨⟨by omega, by omega⟩, hL⟩ dL_law_1322 ?_
    have hP := zPswap hP
    have hD := zDswap hD
    refine zfw_calli (mc := 0) (ms := 0)  hP hD hS hA (va_runV (As := [.int (zI (xI xs (i + 1)))]) (rest := []) hC (c_X10_longestLine l D τ β (gM cI cB) h sv sl9 tk cd mn mi mc mq mr mw ct9 ln9 mt ma mx mh (xI xs (i + 1)) (xI_b xs _) hh _) (cwV 1 hts (gV hB wl_L_231 wn_X10_longestLine ws_X10_longestLine wi_X10 wc_X10_longestLine) rfl rfl rfl hd_X10_longestLine ⟨Nat.le_of_ble_eq_true rfl, Nat.le_of_ble_eq_true rfl⟩) (zp_V hKm (zPc hP) (zDc hD) hS hA hG (ci := 10) (q0 := 0) rfl rfl rfl) rfl rfl hl.1 rfl (lv_room (Nat.le_of_ble_eq_true rfl)) dL_law_1323 ⟨by show _ ≤ 1083; omega, by show _ ≤ 10672; omega⟩) (fun r w1 H locs hq9 hP hD hS => ?_)
    obtain ⟨m2m, c2m, q2m, t2m, vm, hm0, hm1, rfl, rfl⟩ := hq9
    have hP := zPswap hP
    have hD := zDswap hD
    refine lv_istore (lv' := [(6, .int (zI vm)), (5, .int (zI 0)), (0, .ref b), (1, .ref (α 0)), (2, .ref (β 0)), (3, .ref o), (4, .int (zI i))]) hx hb dL_law_1326 hl (by decide) rfl (fun ls hl => ?_)
    refine lv_aload_n hx hb dL_law_1328 rfl (lv_at hl 4 rfl) ?_
    have hP := zPswap hP
    have hD := zDswap hD
    refine zfw_calli (mc := 0) (ms := 0)  hP hD hS hA (va_runV (As := []) (rest := []) hC (c_X10_thrown l D τ β (gM cI cB) _ _ _ _ _ _ _ _ _ _ _ _ _ _ _ _ _ _) (cwV 0 hts (gV hB wl_L_145 wn_X10_thrown ws_X10_thrown wi_X10 wc_X10_thrown) rfl rfl rfl hd_X10_thrown ⟨Nat.le_of_ble_eq_true rfl, Nat.le_of_ble_eq_true rfl⟩) (zp_V hKm (zPc hP) (zDc hD) hS hA hG (ci := 10) (q0 := 0) rfl rfl rfl) rfl rfl hl.1 rfl (lv_room (Nat.le_of_ble_eq_true rfl)) dL_law_1329 ⟨by show _ ≤ 1083; omega, by show _ ≤ 10672; omega⟩) (fun r w1 H locs hq9 hP hD hS => ?_)
    obtain ⟨vt, ht0, rfl, rfl⟩ := hq9
    have hP := zPswap hP
    have hD := zDswap hD
    refine lv_iload hx hb dL_law_1332 (lv_at hl 1 rfl) ?_
    have heq_1334 : vt = 0 := by rw [ht0, hm0, hf0]
    refine z_iceqE (tgt := 1339) hx hb heq_1334 dL_law_1334 (by decide) ?_
    refine lv_iload hx hb dL_law_1339 (lv_at hl 1 rfl) ?_
    refine z_ifne (tgt := 1356) hx hb ⟨by omega, by omega⟩ dL_law_1341 (by decide) (fun c_1341 => absurd rfl c_1341) (fun c_1341 => ?_)
    refine lv_aload_n hx hb dL_law_1344 rfl (lv_at hl 5 rfl) ?_
    refine lv_iconst (v := zI 0) hx hb dL_law_1345 rfl ?_
    refine zo_lald hx hb hKo (zPc hP) dL_law_1346 ?_
    refine lv_iload hx hb dL_law_1347 (lv_at hl 0 rfl) ?_
    refine lv_i2l (v := (zI vm).toInt64) hx hb dL_law_1349 rfl ?_
    refine z_lcmpE hx hb (by rw [hgo, hf1, (hm1 (hm0.trans hf0))]) dL_law_1350 ?_
    refine z_ifeq (tgt := 1356) hx hb ⟨by omega, by omega⟩ dL_law_1351 (by decide) (fun c_1351 => ?_) (fun c_1351 => absurd rfl c_1351)
    refine lv_goto (tgt := 2893) hx hb dL_law_1356 (by decide) ?_
    refine W.widen (k := cells + 2) (n := slots + 12) (by omega) (by omega) ?_
    exact hk _ _ _ _ _ _ _ _ _ _ _ _ _ _ _ _ _ _ _ _ _ _ _ _ _ _ _ _ _ _ _ H locs ls (hI) hP hD hS (lv_sub hl [2, 3, 4, 5, 6] rfl)
  · skip
    obtain ⟨hx9, rfl, rfl⟩ := hq9
    refine lv_istore (lv' := [(5, .int (zI 1)), (0, .ref b), (1, .ref (α 0)), (2, .ref (β 0)), (3, .ref o), (4, .int (zI i))]) hx hb dL_law_1314 hl (by decide) rfl (fun ls hl => ?_)
    refine lv_aload_n hx hb dL_law_1316 rfl (lv_at hl 3 rfl) ?_
    refine lv_aload_n hx hb dL_law_1317 rfl (lv_at hl 1 rfl) ?_
    refine lv_iload hx hb dL_law_1318 (lv_at hl 5 rfl) ?_
    refine lv_iconst (v := zI 1) hx hb dL_law_1320 rfl ?_
    refine z_iadd hx hb dL_law_1321 ?_
    refine z_sld hx hb hXs hbl hbA hS ⟨⟨by omega, by omega⟩, hL⟩ dL_law_1322 ?_
    have hP := zPswap hP
    have hD := zDswap hD
    refine zfw_calli (mc := 0) (ms := 0)  hP hD hS hA (va_runV (As := [.int (zI (xI xs (i + 1)))]) (rest := []) hC (c_X10_longestLine l D τ β (gM cI cB) h sv sl9 tk cd mn mi mc mq mr mw ct9 ln9 mt ma mx mh (xI xs (i + 1)) (xI_b xs _) hh _) (cwV 1 hts (gV hB wl_L_231 wn_X10_longestLine ws_X10_longestLine wi_X10 wc_X10_longestLine) rfl rfl rfl hd_X10_longestLine ⟨Nat.le_of_ble_eq_true rfl, Nat.le_of_ble_eq_true rfl⟩) (zp_V hKm (zPc hP) (zDc hD) hS hA hG (ci := 10) (q0 := 0) rfl rfl rfl) rfl rfl hl.1 rfl (lv_room (Nat.le_of_ble_eq_true rfl)) dL_law_1323 ⟨by show _ ≤ 1083; omega, by show _ ≤ 10672; omega⟩) (fun r w1 H locs hq9 hP hD hS => ?_)
    obtain ⟨m2m, c2m, q2m, t2m, vm, hm0, hm1, rfl, rfl⟩ := hq9
    have hP := zPswap hP
    have hD := zDswap hD
    refine lv_istore (lv' := [(6, .int (zI vm)), (5, .int (zI 1)), (0, .ref b), (1, .ref (α 0)), (2, .ref (β 0)), (3, .ref o), (4, .int (zI i))]) hx hb dL_law_1326 hl (by decide) rfl (fun ls hl => ?_)
    refine lv_aload_n hx hb dL_law_1328 rfl (lv_at hl 4 rfl) ?_
    have hP := zPswap hP
    have hD := zDswap hD
    refine zfw_calli (mc := 0) (ms := 0)  hP hD hS hA (va_runV (As := []) (rest := []) hC (c_X10_thrown l D τ β (gM cI cB) _ _ _ _ _ _ _ _ _ _ _ _ _ _ _ _ _ _) (cwV 0 hts (gV hB wl_L_145 wn_X10_thrown ws_X10_thrown wi_X10 wc_X10_thrown) rfl rfl rfl hd_X10_thrown ⟨Nat.le_of_ble_eq_true rfl, Nat.le_of_ble_eq_true rfl⟩) (zp_V hKm (zPc hP) (zDc hD) hS hA hG (ci := 10) (q0 := 0) rfl rfl rfl) rfl rfl hl.1 rfl (lv_room (Nat.le_of_ble_eq_true rfl)) dL_law_1329 ⟨by show _ ≤ 1083; omega, by show _ ≤ 10672; omega⟩) (fun r w1 H locs hq9 hP hD hS => ?_)
    obtain ⟨vt, ht0, rfl, rfl⟩ := hq9
    have hP := zPswap hP
    have hD := zDswap hD
    refine lv_iload hx hb dL_law_1332 (lv_at hl 1 rfl) ?_
    have heq_1334 : vt = 1 := by rw [ht0, hm0, hx9]
    refine z_iceqE (tgt := 1339) hx hb heq_1334 dL_law_1334 (by decide) ?_
    refine lv_iload hx hb dL_law_1339 (lv_at hl 1 rfl) ?_
    refine z_ifne (tgt := 1356) hx hb ⟨by omega, by omega⟩ dL_law_1341 (by decide) (fun c_1341 => ?_) (fun c_1341 => absurd c_1341 (by decide))
    refine lv_goto (tgt := 2893) hx hb dL_law_1356 (by decide) ?_
    refine W.widen (k := cells + 2) (n := slots + 12) (by omega) (by omega) ?_
    exact hk _ _ _ _ _ _ _ _ _ _ _ _ _ _ _ _ _ _ _ _ _ _ _ _ _ _ _ _ _ _ _ H locs ls (hI) hP hD hS (lv_sub hl [2, 3, 4, 5, 6] rfl)
set_option maxHeartbeats 4000000 in
set_option maxRecDepth 100000 in
theorem law_1359 {p : Program} {l : Launch} {e : Env} {s : State} {m : MethodId} {below : List Frame} {meth : Method} {c : Code} {Q : State → Prop} {D : va_G} {τ : Nat → Nat} {A : Nat → Prop} {α β : Nat → Nat} {cI cB cL : ClassId} {o b L : Nat} {xs : Nat → Int32} {i : Int} {cells slots : Nat} (hX : LCx p l s m c D τ A cI cB cL b L xs) (hi : 0 ≤ i ∧ i + 6 ≤ L) (hc : cells + 2 ≤ 1083 ∧ slots + 12 ≤ 10672)
    (hk : LSt p l e s m below meth c Q D A α β cI cB cL o b i 2893 (cells + 2) (slots + 12)) : LSt p l e s m below meth c Q D A α β cI cB cL o b i 1359 cells slots := by
  obtain ⟨hC, hKm, hKo, hKh, hG, hA, hGX, hst, hXs, hbl, hbA, hL⟩ := hX
  intro h old ch rg ln sl pd ct sg cd ln9 pl le ro co nu sv sl9 tk ct9 mn mi mc mq mr mw mt ma mx mh fo H locs ls hI hP hD hS hl
  obtain ⟨rg0, rg1⟩ := rg
  obtain ⟨ln_0, ln_1, ln_2, ln_3, ln_4, ln_5, ln_6, ln_7, ln_8, ln_9⟩ := ln
  obtain ⟨sl_0, sl_1, sl_2⟩ := sl
  obtain ⟨pd0, pd1⟩ := pd
  obtain ⟨ct_0, ct_1⟩ := ct
  have hx := hC.1
  have hb := hC.2.1
  have hml := hC.2.2.1
  have hts := hC.2.2.2.2
  have hB : ∀ w ∈ W0, w ∈ W0 := fun _ h => h
  have hh := hI.1
  have hct := hI.2.2.2.1
  have hln := hI.2.2.2.2.1
  have hmf := hI.2.2.2.2.2.1
  have hov := hI.2.2.2.2.2.2
  have hcd : ∀ k, 0 ≤ k → k < ln9 → 0 ≤ cd k ∧ cd k ≤ 126 := fun k a b => by have z := hmf k a b; omega
  have hP : va_P D vwCl ((wM β (gM cI cB) h sv sl9 tk cd mn mi mc mq mr mw ct9 ln9 mt ma mx mh) ++ (oC cL o fo ++ (wH α (gH cI cB) (h, old, ch) (rg0, rg1) (ln_0, ln_1, ln_2, ln_3, ln_4, ln_5, ln_6, ln_7, ln_8, ln_9) (sl_0, sl_1, sl_2) (pd0, pd1) (ct_0, ct_1) sg (cd, ln9, pl, le, ro, co, nu) (sv, sl9, tk, ct9)))) H := hP
  have hD : va_D A ((wM β (gM cI cB) h sv sl9 tk cd mn mi mc mq mr mw ct9 ln9 mt ma mx mh) ++ (oC cL o fo ++ (wH α (gH cI cB) (h, old, ch) (rg0, rg1) (ln_0, ln_1, ln_2, ln_3, ln_4, ln_5, ln_6, ln_7, ln_8, ln_9) (sl_0, sl_1, sl_2) (pd0, pd1) (ct_0, ct_1) sg (cd, ln9, pl, le, ro, co, nu) (sv, sl9, tk, ct9)))) := hD
  refine lv_aload_n hx hb dL_law_1359 rfl (lv_at hl 1 rfl) ?_
  refine lv_aload_n hx hb dL_law_1360 rfl (lv_at hl 0 rfl) ?_
  refine lv_iload hx hb dL_law_1361 (lv_at hl 4 rfl) ?_
  refine lv_iconst (v := zI 1) hx hb dL_law_1363 rfl ?_
  refine z_iadd hx hb dL_law_1364 ?_
  refine z_sld hx hb hXs hbl hbA hS ⟨⟨by omega, by omega⟩, hL⟩ dL_law_1365 ?_
  refine lv_aload_n hx hb dL_law_1366 rfl (lv_at hl 3 rfl) ?_
  refine zfw_calli (mc := 1) (ms := 6) (wr := (wM β (gM cI cB) h sv sl9 tk cd mn mi mc mq mr mw ct9 ln9 mt ma mx mh)) (wc := oC cL o fo ++ (wH α (gH cI cB) (h, old, ch) (rg0, rg1) (ln_0, ln_1, ln_2, ln_3, ln_4, ln_5, ln_6, ln_7, ln_8, ln_9) (sl_0, sl_1, sl_2) (pd0, pd1) (ct_0, ct_1) sg (cd, ln9, pl, le, ro, co, nu) (sv, sl9, tk, ct9))) hP hD hS hA (vx_runSW (As := [.ref (α 0), .int (zI (xI xs (i + 1))), .ref o]) (rest := []) hC (c_L_hills l D τ α (gH cI cB) h old ch rg0 rg1 (ln_0, ln_1, ln_2, ln_3, ln_4, ln_5, ln_6, ln_7, ln_8, ln_9) (sl_0, sl_1, sl_2) (pd0, pd1) (ct_0, ct_1) sg (cd, ln9, pl, le, ro, co, nu) (sv, sl9, tk, ct9) (xI xs (i + 1)) (xI_b xs _) hh hst cL o fo _) (vx_cwSW 3 hts (gSW hB wl_L_232 wt_L_hills wi_L wc_L_hills) rfl rfl rfl hd_L_hills.2 ⟨Nat.le_of_ble_eq_true rfl, Nat.le_of_ble_eq_true rfl⟩) (zpX_S hKo (zPc hP) (zDc hD) hS hA hG hGX) rfl rfl hl.1 rfl (lv_room (Nat.le_of_ble_eq_true rfl)) dL_law_1367 ⟨by show _ ≤ 1083; omega, by show _ ≤ 10672; omega⟩) (fun r w1 H locs hq9 hP hD hS => ?_)
  rcases hq9 with hq9 | hq9
  · skip
    obtain ⟨w2c, q2c, vc, go, hf0, hf1, hgo, rfl, rfl⟩ := hq9
    refine lv_istore (lv' := [(5, .int (zI 0)), (0, .ref b), (1, .ref (α 0)), (2, .ref (β 0)), (3, .ref o), (4, .int (zI i))]) hx hb dL_law_1370 hl (by decide) rfl (fun ls hl => ?_)
    refine lv_aload_n hx hb dL_law_1372 rfl (lv_at hl 3 rfl) ?_
    refine lv_aload_n hx hb dL_law_1373 rfl (lv_at hl 1 rfl) ?_
    refine lv_iload hx hb dL_law_1374 (lv_at hl 5 rfl) ?_
    refine lv_iconst (v := zI 1) hx hb dL_law_1376 rfl ?_
    refine z_iadd hx hb dL_law_1377 ?_
    refine z_sld hx hb hXs hbl hbA hS ⟨⟨by omega, by omega⟩, hL⟩ dL_law_1378 ?_
    have hP := zPswap hP
    have hD := zDswap hD
    refine zfw_calli (mc := 0) (ms := 0)  hP hD hS hA (va_runV (As := [.int (zI (xI xs (i + 1)))]) (rest := []) hC (c_X10_hills l D τ β (gM cI cB) h sv sl9 tk cd mn mi mc mq mr mw ct9 ln9 mt ma mx mh (xI xs (i + 1)) (xI_b xs _) hh _) (cwV 1 hts (gV hB wl_L_234 wn_X10_hills ws_X10_hills wi_X10 wc_X10_hills) rfl rfl rfl hd_X10_hills ⟨Nat.le_of_ble_eq_true rfl, Nat.le_of_ble_eq_true rfl⟩) (zp_V hKm (zPc hP) (zDc hD) hS hA hG (ci := 10) (q0 := 0) rfl rfl rfl) rfl rfl hl.1 rfl (lv_room (Nat.le_of_ble_eq_true rfl)) dL_law_1379 ⟨by show _ ≤ 1083; omega, by show _ ≤ 10672; omega⟩) (fun r w1 H locs hq9 hP hD hS => ?_)
    obtain ⟨r2m, t2m, vm, hm0, hm1, rfl, rfl⟩ := hq9
    have hP := zPswap hP
    have hD := zDswap hD
    refine lv_istore (lv' := [(6, .int (zI vm)), (5, .int (zI 0)), (0, .ref b), (1, .ref (α 0)), (2, .ref (β 0)), (3, .ref o), (4, .int (zI i))]) hx hb dL_law_1382 hl (by decide) rfl (fun ls hl => ?_)
    refine lv_aload_n hx hb dL_law_1384 rfl (lv_at hl 4 rfl) ?_
    have hP := zPswap hP
    have hD := zDswap hD
    refine zfw_calli (mc := 0) (ms := 0)  hP hD hS hA (va_runV (As := []) (rest := []) hC (c_X10_thrown l D τ β (gM cI cB) _ _ _ _ _ _ _ _ _ _ _ _ _ _ _ _ _ _) (cwV 0 hts (gV hB wl_L_145 wn_X10_thrown ws_X10_thrown wi_X10 wc_X10_thrown) rfl rfl rfl hd_X10_thrown ⟨Nat.le_of_ble_eq_true rfl, Nat.le_of_ble_eq_true rfl⟩) (zp_V hKm (zPc hP) (zDc hD) hS hA hG (ci := 10) (q0 := 0) rfl rfl rfl) rfl rfl hl.1 rfl (lv_room (Nat.le_of_ble_eq_true rfl)) dL_law_1385 ⟨by show _ ≤ 1083; omega, by show _ ≤ 10672; omega⟩) (fun r w1 H locs hq9 hP hD hS => ?_)
    obtain ⟨vt, ht0, rfl, rfl⟩ := hq9
    have hP := zPswap hP
    have hD := zDswap hD
    refine lv_iload hx hb dL_law_1388 (lv_at hl 1 rfl) ?_
    have heq_1390 : vt = 0 := by rw [ht0, hm0, hf0]
    refine z_iceqE (tgt := 1395) hx hb heq_1390 dL_law_1390 (by decide) ?_
    refine lv_iload hx hb dL_law_1395 (lv_at hl 1 rfl) ?_
    refine z_ifne (tgt := 1412) hx hb ⟨by omega, by omega⟩ dL_law_1397 (by decide) (fun c_1397 => absurd rfl c_1397) (fun c_1397 => ?_)
    refine lv_aload_n hx hb dL_law_1400 rfl (lv_at hl 5 rfl) ?_
    refine lv_iconst (v := zI 0) hx hb dL_law_1401 rfl ?_
    refine zo_lald hx hb hKo (zPc hP) dL_law_1402 ?_
    refine lv_iload hx hb dL_law_1403 (lv_at hl 0 rfl) ?_
    refine lv_i2l (v := (zI vm).toInt64) hx hb dL_law_1405 rfl ?_
    refine z_lcmpE hx hb (by rw [hgo, hf1, (hm1 (hm0.trans hf0)), regs_t]) dL_law_1406 ?_
    refine z_ifeq (tgt := 1412) hx hb ⟨by omega, by omega⟩ dL_law_1407 (by decide) (fun c_1407 => ?_) (fun c_1407 => absurd rfl c_1407)
    refine lv_goto (tgt := 2893) hx hb dL_law_1412 (by decide) ?_
    refine W.widen (k := cells + 2) (n := slots + 12) (by omega) (by omega) ?_
    exact hk _ _ _ _ _ _ _ _ _ _ _ _ _ _ _ _ _ _ _ _ _ _ _ _ _ _ _ _ _ _ _ H locs ls (hI) hP hD hS (lv_sub hl [2, 3, 4, 5, 6] rfl)
  · skip
    obtain ⟨hx9, rfl, rfl⟩ := hq9
    refine lv_istore (lv' := [(5, .int (zI 1)), (0, .ref b), (1, .ref (α 0)), (2, .ref (β 0)), (3, .ref o), (4, .int (zI i))]) hx hb dL_law_1370 hl (by decide) rfl (fun ls hl => ?_)
    refine lv_aload_n hx hb dL_law_1372 rfl (lv_at hl 3 rfl) ?_
    refine lv_aload_n hx hb dL_law_1373 rfl (lv_at hl 1 rfl) ?_
    refine lv_iload hx hb dL_law_1374 (lv_at hl 5 rfl) ?_
    refine lv_iconst (v := zI 1) hx hb dL_law_1376 rfl ?_
    refine z_iadd hx hb dL_law_1377 ?_
    refine z_sld hx hb hXs hbl hbA hS ⟨⟨by omega, by omega⟩, hL⟩ dL_law_1378 ?_
    have hP := zPswap hP
    have hD := zDswap hD
    refine zfw_calli (mc := 0) (ms := 0)  hP hD hS hA (va_runV (As := [.int (zI (xI xs (i + 1)))]) (rest := []) hC (c_X10_hills l D τ β (gM cI cB) h sv sl9 tk cd mn mi mc mq mr mw ct9 ln9 mt ma mx mh (xI xs (i + 1)) (xI_b xs _) hh _) (cwV 1 hts (gV hB wl_L_234 wn_X10_hills ws_X10_hills wi_X10 wc_X10_hills) rfl rfl rfl hd_X10_hills ⟨Nat.le_of_ble_eq_true rfl, Nat.le_of_ble_eq_true rfl⟩) (zp_V hKm (zPc hP) (zDc hD) hS hA hG (ci := 10) (q0 := 0) rfl rfl rfl) rfl rfl hl.1 rfl (lv_room (Nat.le_of_ble_eq_true rfl)) dL_law_1379 ⟨by show _ ≤ 1083; omega, by show _ ≤ 10672; omega⟩) (fun r w1 H locs hq9 hP hD hS => ?_)
    obtain ⟨r2m, t2m, vm, hm0, hm1, rfl, rfl⟩ := hq9
    have hP := zPswap hP
    have hD := zDswap hD
    refine lv_istore (lv' := [(6, .int (zI vm)), (5, .int (zI 1)), (0, .ref b), (1, .ref (α 0)), (2, .ref (β 0)), (3, .ref o), (4, .int (zI i))]) hx hb dL_law_1382 hl (by decide) rfl (fun ls hl => ?_)
    refine lv_aload_n hx hb dL_law_1384 rfl (lv_at hl 4 rfl) ?_
    have hP := zPswap hP
    have hD := zDswap hD
    refine zfw_calli (mc := 0) (ms := 0)  hP hD hS hA (va_runV (As := []) (rest := []) hC (c_X10_thrown l D τ β (gM cI cB) _ _ _ _ _ _ _ _ _ _ _ _ _ _ _ _ _ _) (cwV 0 hts (gV hB wl_L_145 wn_X10_thrown ws_X10_thrown wi_X10 wc_X10_thrown) rfl rfl rfl hd_X10_thrown ⟨Nat.le_of_ble_eq_true rfl, Nat.le_of_ble_eq_true rfl⟩) (zp_V hKm (zPc hP) (zDc hD) hS hA hG (ci := 10) (q0 := 0) rfl rfl rfl) rfl rfl hl.1 rfl (lv_room (Nat.le_of_ble_eq_true rfl)) dL_law_1385 ⟨by show _ ≤ 1083; omega, by show _ ≤ 10672; omega⟩) (fun r w1 H locs hq9 hP hD hS => ?_)
    obtain ⟨vt, ht0, rfl, rfl⟩ := hq9
    have hP := zPswap hP
    have hD := zDswap hD
    refine lv_iload hx hb dL_law_1388 (lv_at hl 1 rfl) ?_
    have heq_1390 : vt = 1 := by rw [ht0, hm0, hx9]
    refine z_iceqE (tgt := 1395) hx hb heq_1390 dL_law_1390 (by decide) ?_
    refine lv_iload hx hb dL_law_1395 (lv_at hl 1 rfl) ?_
    refine z_ifne (tgt := 1412) hx hb ⟨by omega, by omega⟩ dL_law_1397 (by decide) (fun c_1397 => ?_) (fun c_1397 => absurd c_1397 (by decide))
    refine lv_goto (tgt := 2893) hx hb dL_law_1412 (by decide) ?_
    refine W.widen (k := cells + 2) (n := slots + 12) (by omega) (by omega) ?_
    exact hk _ _ _ _ _ _ _ _ _ _ _ _ _ _ _ _ _ _ _ _ _ _ _ _ _ _ _ _ _ _ _ H locs ls (hI) hP hD hS (lv_sub hl [2, 3, 4, 5, 6] rfl)
set_option maxHeartbeats 4000000 in
set_option maxRecDepth 100000 in
theorem law_1415 {p : Program} {l : Launch} {e : Env} {s : State} {m : MethodId} {below : List Frame} {meth : Method} {c : Code} {Q : State → Prop} {D : va_G} {τ : Nat → Nat} {A : Nat → Prop} {α β : Nat → Nat} {cI cB cL : ClassId} {o b L : Nat} {xs : Nat → Int32} {i : Int} {cells slots : Nat} (hX : LCx p l s m c D τ A cI cB cL b L xs) (hi : 0 ≤ i ∧ i + 6 ≤ L) (hc : cells + 2 ≤ 1083 ∧ slots + 12 ≤ 10672)
    (hk : LSt p l e s m below meth c Q D A α β cI cB cL o b i 2893 (cells + 2) (slots + 12)) : LSt p l e s m below meth c Q D A α β cI cB cL o b i 1415 cells slots := by
  obtain ⟨hC, hKm, hKo, hKh, hG, hA, hGX, hst, hXs, hbl, hbA, hL⟩ := hX
  intro h old ch rg ln sl pd ct sg cd ln9 pl le ro co nu sv sl9 tk ct9 mn mi mc mq mr mw mt ma mx mh fo H locs ls hI hP hD hS hl
  obtain ⟨rg0, rg1⟩ := rg
  obtain ⟨ln_0, ln_1, ln_2, ln_3, ln_4, ln_5, ln_6, ln_7, ln_8, ln_9⟩ := ln
  obtain ⟨sl_0, sl_1, sl_2⟩ := sl
  obtain ⟨pd0, pd1⟩ := pd
  obtain ⟨ct_0, ct_1⟩ := ct
  have hx := hC.1
  have hb := hC.2.1
  have hml := hC.2.2.1
  have hts := hC.2.2.2.2
  have hB : ∀ w ∈ W0, w ∈ W0 := fun _ h => h
  have hh := hI.1
  have hct := hI.2.2.2.1
  have hln := hI.2.2.2.2.1
  have hmf := hI.2.2.2.2.2.1
  have hov := hI.2.2.2.2.2.2
  have hcd : ∀ k, 0 ≤ k → k < ln9 → 0 ≤ cd k ∧ cd k ≤ 126 := fun k a b => by have z := hmf k a b; omega
  have hP : va_P D vwCl ((wM β (gM cI cB) h sv sl9 tk cd mn mi mc mq mr mw ct9 ln9 mt ma mx mh) ++ (oC cL o fo ++ (wH α (gH cI cB) (h, old, ch) (rg0, rg1) (ln_0, ln_1, ln_2, ln_3, ln_4, ln_5, ln_6, ln_7, ln_8, ln_9) (sl_0, sl_1, sl_2) (pd0, pd1) (ct_0, ct_1) sg (cd, ln9, pl, le, ro, co, nu) (sv, sl9, tk, ct9)))) H := hP
  have hD : va_D A ((wM β (gM cI cB) h sv sl9 tk cd mn mi mc mq mr mw ct9 ln9 mt ma mx mh) ++ (oC cL o fo ++ (wH α (gH cI cB) (h, old, ch) (rg0, rg1) (ln_0, ln_1, ln_2, ln_3, ln_4, ln_5, ln_6, ln_7, ln_8, ln_9) (sl_0, sl_1, sl_2) (pd0, pd1) (ct_0, ct_1) sg (cd, ln9, pl, le, ro, co, nu) (sv, sl9, tk, ct9)))) := hD
  refine lv_aload_n hx hb dL_law_1415 rfl (lv_at hl 1 rfl) ?_
  refine lv_aload_n hx hb dL_law_1416 rfl (lv_at hl 0 rfl) ?_
  refine lv_iload hx hb dL_law_1417 (lv_at hl 4 rfl) ?_
  refine lv_iconst (v := zI 1) hx hb dL_law_1419 rfl ?_
  refine z_iadd hx hb dL_law_1420 ?_
  refine z_sld hx hb hXs hbl hbA hS ⟨⟨by omega, by omega⟩, hL⟩ dL_law_1421 ?_
  refine lv_aload_n hx hb dL_law_1422 rfl (lv_at hl 3 rfl) ?_
  refine zfw_calli (mc := 1) (ms := 6) (wr := (wM β (gM cI cB) h sv sl9 tk cd mn mi mc mq mr mw ct9 ln9 mt ma mx mh)) (wc := oC cL o fo ++ (wH α (gH cI cB) (h, old, ch) (rg0, rg1) (ln_0, ln_1, ln_2, ln_3, ln_4, ln_5, ln_6, ln_7, ln_8, ln_9) (sl_0, sl_1, sl_2) (pd0, pd1) (ct_0, ct_1) sg (cd, ln9, pl, le, ro, co, nu) (sv, sl9, tk, ct9))) hP hD hS hA (vx_runSW (As := [.ref (α 0), .int (zI (xI xs (i + 1))), .ref o]) (rest := []) hC (c_L_hollows l D τ α (gH cI cB) h old ch rg0 rg1 (ln_0, ln_1, ln_2, ln_3, ln_4, ln_5, ln_6, ln_7, ln_8, ln_9) (sl_0, sl_1, sl_2) (pd0, pd1) (ct_0, ct_1) sg (cd, ln9, pl, le, ro, co, nu) (sv, sl9, tk, ct9) (xI xs (i + 1)) (xI_b xs _) hh hst cL o fo _) (vx_cwSW 3 hts (gSW hB wl_L_235 wt_L_hollows wi_L wc_L_hollows) rfl rfl rfl hd_L_hollows.2 ⟨Nat.le_of_ble_eq_true rfl, Nat.le_of_ble_eq_true rfl⟩) (zpX_S hKo (zPc hP) (zDc hD) hS hA hG hGX) rfl rfl hl.1 rfl (lv_room (Nat.le_of_ble_eq_true rfl)) dL_law_1423 ⟨by show _ ≤ 1083; omega, by show _ ≤ 10672; omega⟩) (fun r w1 H locs hq9 hP hD hS => ?_)
  rcases hq9 with hq9 | hq9
  · skip
    obtain ⟨w2c, q2c, vc, go, hf0, hf1, hgo, rfl, rfl⟩ := hq9
    refine lv_istore (lv' := [(5, .int (zI 0)), (0, .ref b), (1, .ref (α 0)), (2, .ref (β 0)), (3, .ref o), (4, .int (zI i))]) hx hb dL_law_1426 hl (by decide) rfl (fun ls hl => ?_)
    refine lv_aload_n hx hb dL_law_1428 rfl (lv_at hl 3 rfl) ?_
    refine lv_aload_n hx hb dL_law_1429 rfl (lv_at hl 1 rfl) ?_
    refine lv_iload hx hb dL_law_1430 (lv_at hl 5 rfl) ?_
    refine lv_iconst (v := zI 1) hx hb dL_law_1432 rfl ?_
    refine z_iadd hx hb dL_law_1433 ?_
    refine z_sld hx hb hXs hbl hbA hS ⟨⟨by omega, by omega⟩, hL⟩ dL_law_1434 ?_
    have hP := zPswap hP
    have hD := zDswap hD
    refine zfw_calli (mc := 0) (ms := 0)  hP hD hS hA (va_runV (As := [.int (zI (xI xs (i + 1)))]) (rest := []) hC (c_X10_hollows l D τ β (gM cI cB) h sv sl9 tk cd mn mi mc mq mr mw ct9 ln9 mt ma mx mh (xI xs (i + 1)) (xI_b xs _) hh _) (cwV 1 hts (gV hB wl_L_237 wn_X10_hollows ws_X10_hollows wi_X10 wc_X10_hollows) rfl rfl rfl hd_X10_hollows ⟨Nat.le_of_ble_eq_true rfl, Nat.le_of_ble_eq_true rfl⟩) (zp_V hKm (zPc hP) (zDc hD) hS hA hG (ci := 10) (q0 := 0) rfl rfl rfl) rfl rfl hl.1 rfl (lv_room (Nat.le_of_ble_eq_true rfl)) dL_law_1435 ⟨by show _ ≤ 1083; omega, by show _ ≤ 10672; omega⟩) (fun r w1 H locs hq9 hP hD hS => ?_)
    obtain ⟨r2m, t2m, vm, hm0, hm1, rfl, rfl⟩ := hq9
    have hP := zPswap hP
    have hD := zDswap hD
    refine lv_istore (lv' := [(6, .int (zI vm)), (5, .int (zI 0)), (0, .ref b), (1, .ref (α 0)), (2, .ref (β 0)), (3, .ref o), (4, .int (zI i))]) hx hb dL_law_1438 hl (by decide) rfl (fun ls hl => ?_)
    refine lv_aload_n hx hb dL_law_1440 rfl (lv_at hl 4 rfl) ?_
    have hP := zPswap hP
    have hD := zDswap hD
    refine zfw_calli (mc := 0) (ms := 0)  hP hD hS hA (va_runV (As := []) (rest := []) hC (c_X10_thrown l D τ β (gM cI cB) _ _ _ _ _ _ _ _ _ _ _ _ _ _ _ _ _ _) (cwV 0 hts (gV hB wl_L_145 wn_X10_thrown ws_X10_thrown wi_X10 wc_X10_thrown) rfl rfl rfl hd_X10_thrown ⟨Nat.le_of_ble_eq_true rfl, Nat.le_of_ble_eq_true rfl⟩) (zp_V hKm (zPc hP) (zDc hD) hS hA hG (ci := 10) (q0 := 0) rfl rfl rfl) rfl rfl hl.1 rfl (lv_room (Nat.le_of_ble_eq_true rfl)) dL_law_1441 ⟨by show _ ≤ 1083; omega, by show _ ≤ 10672; omega⟩) (fun r w1 H locs hq9 hP hD hS => ?_)
    obtain ⟨vt, ht0, rfl, rfl⟩ := hq9
    have hP := zPswap hP
    have hD := zDswap hD
    refine lv_iload hx hb dL_law_1444 (lv_at hl 1 rfl) ?_
    have heq_1446 : vt = 0 := by rw [ht0, hm0, hf0]
    refine z_iceqE (tgt := 1451) hx hb heq_1446 dL_law_1446 (by decide) ?_
    refine lv_iload hx hb dL_law_1451 (lv_at hl 1 rfl) ?_
    refine z_ifne (tgt := 1468) hx hb ⟨by omega, by omega⟩ dL_law_1453 (by decide) (fun c_1453 => absurd rfl c_1453) (fun c_1453 => ?_)
    refine lv_aload_n hx hb dL_law_1456 rfl (lv_at hl 5 rfl) ?_
    refine lv_iconst (v := zI 0) hx hb dL_law_1457 rfl ?_
    refine zo_lald hx hb hKo (zPc hP) dL_law_1458 ?_
    refine lv_iload hx hb dL_law_1459 (lv_at hl 0 rfl) ?_
    refine lv_i2l (v := (zI vm).toInt64) hx hb dL_law_1461 rfl ?_
    refine z_lcmpE hx hb (by rw [hgo, hf1, (hm1 (hm0.trans hf0)), regs_f]) dL_law_1462 ?_
    refine z_ifeq (tgt := 1468) hx hb ⟨by omega, by omega⟩ dL_law_1463 (by decide) (fun c_1463 => ?_) (fun c_1463 => absurd rfl c_1463)
    refine lv_goto (tgt := 2893) hx hb dL_law_1468 (by decide) ?_
    refine W.widen (k := cells + 2) (n := slots + 12) (by omega) (by omega) ?_
    exact hk _ _ _ _ _ _ _ _ _ _ _ _ _ _ _ _ _ _ _ _ _ _ _ _ _ _ _ _ _ _ _ H locs ls (hI) hP hD hS (lv_sub hl [2, 3, 4, 5, 6] rfl)
  · skip
    obtain ⟨hx9, rfl, rfl⟩ := hq9
    refine lv_istore (lv' := [(5, .int (zI 1)), (0, .ref b), (1, .ref (α 0)), (2, .ref (β 0)), (3, .ref o), (4, .int (zI i))]) hx hb dL_law_1426 hl (by decide) rfl (fun ls hl => ?_)
    refine lv_aload_n hx hb dL_law_1428 rfl (lv_at hl 3 rfl) ?_
    refine lv_aload_n hx hb dL_law_1429 rfl (lv_at hl 1 rfl) ?_
    refine lv_iload hx hb dL_law_1430 (lv_at hl 5 rfl) ?_
    refine lv_iconst (v := zI 1) hx hb dL_law_1432 rfl ?_
    refine z_iadd hx hb dL_law_1433 ?_
    refine z_sld hx hb hXs hbl hbA hS ⟨⟨by omega, by omega⟩, hL⟩ dL_law_1434 ?_
    have hP := zPswap hP
    have hD := zDswap hD
    refine zfw_calli (mc := 0) (ms := 0)  hP hD hS hA (va_runV (As := [.int (zI (xI xs (i + 1)))]) (rest := []) hC (c_X10_hollows l D τ β (gM cI cB) h sv sl9 tk cd mn mi mc mq mr mw ct9 ln9 mt ma mx mh (xI xs (i + 1)) (xI_b xs _) hh _) (cwV 1 hts (gV hB wl_L_237 wn_X10_hollows ws_X10_hollows wi_X10 wc_X10_hollows) rfl rfl rfl hd_X10_hollows ⟨Nat.le_of_ble_eq_true rfl, Nat.le_of_ble_eq_true rfl⟩) (zp_V hKm (zPc hP) (zDc hD) hS hA hG (ci := 10) (q0 := 0) rfl rfl rfl) rfl rfl hl.1 rfl (lv_room (Nat.le_of_ble_eq_true rfl)) dL_law_1435 ⟨by show _ ≤ 1083; omega, by show _ ≤ 10672; omega⟩) (fun r w1 H locs hq9 hP hD hS => ?_)
    obtain ⟨r2m, t2m, vm, hm0, hm1, rfl, rfl⟩ := hq9
    have hP := zPswap hP
    have hD := zDswap hD
    refine lv_istore (lv' := [(6, .int (zI vm)), (5, .int (zI 1)), (0, .ref b), (1, .ref (α 0)), (2, .ref (β 0)), (3, .ref o), (4, .int (zI i))]) hx hb dL_law_1438 hl (by decide) rfl (fun ls hl => ?_)
    refine lv_aload_n hx hb dL_law_1440 rfl (lv_at hl 4 rfl) ?_
    have hP := zPswap hP
    have hD := zDswap hD
    refine zfw_calli (mc := 0) (ms := 0)  hP hD hS hA (va_runV (As := []) (rest := []) hC (c_X10_thrown l D τ β (gM cI cB) _ _ _ _ _ _ _ _ _ _ _ _ _ _ _ _ _ _) (cwV 0 hts (gV hB wl_L_145 wn_X10_thrown ws_X10_thrown wi_X10 wc_X10_thrown) rfl rfl rfl hd_X10_thrown ⟨Nat.le_of_ble_eq_true rfl, Nat.le_of_ble_eq_true rfl⟩) (zp_V hKm (zPc hP) (zDc hD) hS hA hG (ci := 10) (q0 := 0) rfl rfl rfl) rfl rfl hl.1 rfl (lv_room (Nat.le_of_ble_eq_true rfl)) dL_law_1441 ⟨by show _ ≤ 1083; omega, by show _ ≤ 10672; omega⟩) (fun r w1 H locs hq9 hP hD hS => ?_)
    obtain ⟨vt, ht0, rfl, rfl⟩ := hq9
    have hP := zPswap hP
    have hD := zDswap hD
    refine lv_iload hx hb dL_law_1444 (lv_at hl 1 rfl) ?_
    have heq_1446 : vt = 1 := by rw [ht0, hm0, hx9]
    refine z_iceqE (tgt := 1451) hx hb heq_1446 dL_law_1446 (by decide) ?_
    refine lv_iload hx hb dL_law_1451 (lv_at hl 1 rfl) ?_
    refine z_ifne (tgt := 1468) hx hb ⟨by omega, by omega⟩ dL_law_1453 (by decide) (fun c_1453 => ?_) (fun c_1453 => absurd c_1453 (by decide))
    refine lv_goto (tgt := 2893) hx hb dL_law_1468 (by decide) ?_
    refine W.widen (k := cells + 2) (n := slots + 12) (by omega) (by omega) ?_
    exact hk _ _ _ _ _ _ _ _ _ _ _ _ _ _ _ _ _ _ _ _ _ _ _ _ _ _ _ _ _ _ _ H locs ls (hI) hP hD hS (lv_sub hl [2, 3, 4, 5, 6] rfl)
set_option maxHeartbeats 4000000 in
set_option maxRecDepth 100000 in
theorem law_1471 {p : Program} {l : Launch} {e : Env} {s : State} {m : MethodId} {below : List Frame} {meth : Method} {c : Code} {Q : State → Prop} {D : va_G} {τ : Nat → Nat} {A : Nat → Prop} {α β : Nat → Nat} {cI cB cL : ClassId} {o b L : Nat} {xs : Nat → Int32} {i : Int} {cells slots : Nat} (hX : LCx p l s m c D τ A cI cB cL b L xs) (hi : 0 ≤ i ∧ i + 6 ≤ L) (hc : cells + 2 ≤ 1083 ∧ slots + 12 ≤ 10672)
    (hk : LSt p l e s m below meth c Q D A α β cI cB cL o b i 2893 (cells + 2) (slots + 12)) : LSt p l e s m below meth c Q D A α β cI cB cL o b i 1471 cells slots := by
  obtain ⟨hC, hKm, hKo, hKh, hG, hA, hGX, hst, hXs, hbl, hbA, hL⟩ := hX
  intro h old ch rg ln sl pd ct sg cd ln9 pl le ro co nu sv sl9 tk ct9 mn mi mc mq mr mw mt ma mx mh fo H locs ls hI hP hD hS hl
  obtain ⟨rg0, rg1⟩ := rg
  obtain ⟨ln_0, ln_1, ln_2, ln_3, ln_4, ln_5, ln_6, ln_7, ln_8, ln_9⟩ := ln
  obtain ⟨sl_0, sl_1, sl_2⟩ := sl
  obtain ⟨pd0, pd1⟩ := pd
  obtain ⟨ct_0, ct_1⟩ := ct
  have hx := hC.1
  have hb := hC.2.1
  have hml := hC.2.2.1
  have hts := hC.2.2.2.2
  have hB : ∀ w ∈ W0, w ∈ W0 := fun _ h => h
  have hh := hI.1
  have hct := hI.2.2.2.1
  have hln := hI.2.2.2.2.1
  have hmf := hI.2.2.2.2.2.1
  have hov := hI.2.2.2.2.2.2
  have hcd : ∀ k, 0 ≤ k → k < ln9 → 0 ≤ cd k ∧ cd k ≤ 126 := fun k a b => by have z := hmf k a b; omega
  have hP : va_P D vwCl ((wM β (gM cI cB) h sv sl9 tk cd mn mi mc mq mr mw ct9 ln9 mt ma mx mh) ++ (oC cL o fo ++ (wH α (gH cI cB) (h, old, ch) (rg0, rg1) (ln_0, ln_1, ln_2, ln_3, ln_4, ln_5, ln_6, ln_7, ln_8, ln_9) (sl_0, sl_1, sl_2) (pd0, pd1) (ct_0, ct_1) sg (cd, ln9, pl, le, ro, co, nu) (sv, sl9, tk, ct9)))) H := hP
  have hD : va_D A ((wM β (gM cI cB) h sv sl9 tk cd mn mi mc mq mr mw ct9 ln9 mt ma mx mh) ++ (oC cL o fo ++ (wH α (gH cI cB) (h, old, ch) (rg0, rg1) (ln_0, ln_1, ln_2, ln_3, ln_4, ln_5, ln_6, ln_7, ln_8, ln_9) (sl_0, sl_1, sl_2) (pd0, pd1) (ct_0, ct_1) sg (cd, ln9, pl, le, ro, co, nu) (sv, sl9, tk, ct9)))) := hD
  refine lv_aload_n hx hb dL_law_1471 rfl (lv_at hl 1 rfl) ?_
  refine lv_aload_n hx hb dL_law_1472 rfl (lv_at hl 0 rfl) ?_
  refine lv_iload hx hb dL_law_1473 (lv_at hl 4 rfl) ?_
  refine lv_iconst (v := zI 1) hx hb dL_law_1475 rfl ?_
  refine z_iadd hx hb dL_law_1476 ?_
  refine z_sld hx hb hXs hbl hbA hS ⟨⟨by omega, by omega⟩, hL⟩ dL_law_1477 ?_
  refine lv_aload_n hx hb dL_law_1478 rfl (lv_at hl 0 rfl) ?_
  refine lv_iload hx hb dL_law_1479 (lv_at hl 4 rfl) ?_
  refine lv_iconst (v := zI 2) hx hb dL_law_1481 rfl ?_
  refine z_iadd hx hb dL_law_1482 ?_
  refine z_sld hx hb hXs hbl hbA hS ⟨⟨by omega, by omega⟩, hL⟩ dL_law_1483 ?_
  refine lv_aload_n hx hb dL_law_1484 rfl (lv_at hl 3 rfl) ?_
  refine zfw_calli (mc := 2) (ms := 12) (wr := (wM β (gM cI cB) h sv sl9 tk cd mn mi mc mq mr mw ct9 ln9 mt ma mx mh)) (wc := oC cL o fo ++ (wH α (gH cI cB) (h, old, ch) (rg0, rg1) (ln_0, ln_1, ln_2, ln_3, ln_4, ln_5, ln_6, ln_7, ln_8, ln_9) (sl_0, sl_1, sl_2) (pd0, pd1) (ct_0, ct_1) sg (cd, ln9, pl, le, ro, co, nu) (sv, sl9, tk, ct9))) hP hD hS hA (vx_runSW (As := [.ref (α 0), .int (zI (xI xs (i + 1))), .int (zI (xI xs (i + 2))), .ref o]) (rest := []) hC (c_L_drainOf l D τ α (gH cI cB) h old ch (rg0, rg1) (ln_0, ln_1, ln_2, ln_3, ln_4, ln_5, ln_6, ln_7, ln_8, ln_9) sl_0 sl_1 sl_2 (pd0, pd1) (ct_0, ct_1) sg (cd, ln9, pl, le, ro, co, nu) (sv, sl9, tk, ct9) (xI xs (i + 1)) (xI xs (i + 2)) (xI_b xs _) (xI_b xs _) hh hst cL o fo _) (vx_cwSW 4 hts (gSW hB wl_L_238 wt_L_drainOf wi_L wc_L_drainOf) rfl rfl rfl hd_L_drainOf.2 ⟨Nat.le_of_ble_eq_true rfl, Nat.le_of_ble_eq_true rfl⟩) (zpX_S hKo (zPc hP) (zDc hD) hS hA hG hGX) rfl rfl hl.1 rfl (lv_room (Nat.le_of_ble_eq_true rfl)) dL_law_1485 ⟨by show _ ≤ 1083; omega, by show _ ≤ 10672; omega⟩) (fun r w1 H locs hq9 hP hD hS => ?_)
  rcases hq9 with hq9 | hq9 | hq9
  · skip
    obtain ⟨n2c, d2c, vc, go, hf0, hf1, hgo, rfl, rfl⟩ := hq9
    refine lv_istore (lv' := [(5, .int (zI 0)), (0, .ref b), (1, .ref (α 0)), (2, .ref (β 0)), (3, .ref o), (4, .int (zI i))]) hx hb dL_law_1488 hl (by decide) rfl (fun ls hl => ?_)
    refine lv_aload_n hx hb dL_law_1490 rfl (lv_at hl 3 rfl) ?_
    refine lv_aload_n hx hb dL_law_1491 rfl (lv_at hl 1 rfl) ?_
    refine lv_iload hx hb dL_law_1492 (lv_at hl 5 rfl) ?_
    refine lv_iconst (v := zI 1) hx hb dL_law_1494 rfl ?_
    refine z_iadd hx hb dL_law_1495 ?_
    refine z_sld hx hb hXs hbl hbA hS ⟨⟨by omega, by omega⟩, hL⟩ dL_law_1496 ?_
    refine lv_aload_n hx hb dL_law_1497 rfl (lv_at hl 1 rfl) ?_
    refine lv_iload hx hb dL_law_1498 (lv_at hl 5 rfl) ?_
    refine lv_iconst (v := zI 2) hx hb dL_law_1500 rfl ?_
    refine z_iadd hx hb dL_law_1501 ?_
    refine z_sld hx hb hXs hbl hbA hS ⟨⟨by omega, by omega⟩, hL⟩ dL_law_1502 ?_
    have hP := zPswap hP
    have hD := zDswap hD
    refine zfw_calli (mc := 0) (ms := 0)  hP hD hS hA (va_runV (As := [.int (zI (xI xs (i + 1))), .int (zI (xI xs (i + 2)))]) (rest := []) hC (c_X10_drainOf l D τ β (gM cI cB) h sv sl9 tk cd mn mi mc mq mr mw ct9 ln9 mt ma mx mh (xI xs (i + 1)) (xI xs (i + 2)) (xI_b xs _) (xI_b xs _) hh _) (cwV 2 hts (gV hB wl_L_240 wn_X10_drainOf ws_X10_drainOf wi_X10 wc_X10_drainOf) rfl rfl rfl hd_X10_drainOf ⟨Nat.le_of_ble_eq_true rfl, Nat.le_of_ble_eq_true rfl⟩) (zp_V hKm (zPc hP) (zDc hD) hS hA hG (ci := 10) (q0 := 0) rfl rfl rfl) rfl rfl hl.1 rfl (lv_room (Nat.le_of_ble_eq_true rfl)) dL_law_1503 ⟨by show _ ≤ 1083; omega, by show _ ≤ 10672; omega⟩) (fun r w1 H locs hq9 hP hD hS => ?_)
    obtain ⟨t2m, vm, hm0, hm1, rfl, rfl⟩ := hq9
    have hP := zPswap hP
    have hD := zDswap hD
    refine lv_istore (lv' := [(6, .int (zI vm)), (5, .int (zI 0)), (0, .ref b), (1, .ref (α 0)), (2, .ref (β 0)), (3, .ref o), (4, .int (zI i))]) hx hb dL_law_1506 hl (by decide) rfl (fun ls hl => ?_)
    refine lv_aload_n hx hb dL_law_1508 rfl (lv_at hl 4 rfl) ?_
    have hP := zPswap hP
    have hD := zDswap hD
    refine zfw_calli (mc := 0) (ms := 0)  hP hD hS hA (va_runV (As := []) (rest := []) hC (c_X10_thrown l D τ β (gM cI cB) _ _ _ _ _ _ _ _ _ _ _ _ _ _ _ _ _ _) (cwV 0 hts (gV hB wl_L_145 wn_X10_thrown ws_X10_thrown wi_X10 wc_X10_thrown) rfl rfl rfl hd_X10_thrown ⟨Nat.le_of_ble_eq_true rfl, Nat.le_of_ble_eq_true rfl⟩) (zp_V hKm (zPc hP) (zDc hD) hS hA hG (ci := 10) (q0 := 0) rfl rfl rfl) rfl rfl hl.1 rfl (lv_room (Nat.le_of_ble_eq_true rfl)) dL_law_1509 ⟨by show _ ≤ 1083; omega, by show _ ≤ 10672; omega⟩) (fun r w1 H locs hq9 hP hD hS => ?_)
    obtain ⟨vt, ht0, rfl, rfl⟩ := hq9
    have hP := zPswap hP
    have hD := zDswap hD
    refine lv_iload hx hb dL_law_1512 (lv_at hl 1 rfl) ?_
    have heq_1514 : vt = 0 := by rw [ht0, hm0, hf0]
    refine z_iceqE (tgt := 1519) hx hb heq_1514 dL_law_1514 (by decide) ?_
    refine lv_iload hx hb dL_law_1519 (lv_at hl 1 rfl) ?_
    refine z_ifne (tgt := 1536) hx hb ⟨by omega, by omega⟩ dL_law_1521 (by decide) (fun c_1521 => absurd rfl c_1521) (fun c_1521 => ?_)
    refine lv_aload_n hx hb dL_law_1524 rfl (lv_at hl 5 rfl) ?_
    refine lv_iconst (v := zI 0) hx hb dL_law_1525 rfl ?_
    refine zo_lald hx hb hKo (zPc hP) dL_law_1526 ?_
    refine lv_iload hx hb dL_law_1527 (lv_at hl 0 rfl) ?_
    refine lv_i2l (v := (zI vm).toInt64) hx hb dL_law_1529 rfl ?_
    refine z_lcmpE hx hb (by rw [hgo, hf1, (hm1 (hm0.trans hf0))]) dL_law_1530 ?_
    refine z_ifeq (tgt := 1536) hx hb ⟨by omega, by omega⟩ dL_law_1531 (by decide) (fun c_1531 => ?_) (fun c_1531 => absurd rfl c_1531)
    refine lv_goto (tgt := 2893) hx hb dL_law_1536 (by decide) ?_
    refine W.widen (k := cells + 2) (n := slots + 12) (by omega) (by omega) ?_
    exact hk _ _ _ _ _ _ _ _ _ _ _ _ _ _ _ _ _ _ _ _ _ _ _ _ _ _ _ _ _ _ _ H locs ls (hI) hP hD hS (lv_sub hl [2, 3, 4, 5, 6] rfl)
  · skip
    obtain ⟨hx9, rfl, rfl⟩ := hq9
    refine lv_istore (lv' := [(5, .int (zI 1)), (0, .ref b), (1, .ref (α 0)), (2, .ref (β 0)), (3, .ref o), (4, .int (zI i))]) hx hb dL_law_1488 hl (by decide) rfl (fun ls hl => ?_)
    refine lv_aload_n hx hb dL_law_1490 rfl (lv_at hl 3 rfl) ?_
    refine lv_aload_n hx hb dL_law_1491 rfl (lv_at hl 1 rfl) ?_
    refine lv_iload hx hb dL_law_1492 (lv_at hl 5 rfl) ?_
    refine lv_iconst (v := zI 1) hx hb dL_law_1494 rfl ?_
    refine z_iadd hx hb dL_law_1495 ?_
    refine z_sld hx hb hXs hbl hbA hS ⟨⟨by omega, by omega⟩, hL⟩ dL_law_1496 ?_
    refine lv_aload_n hx hb dL_law_1497 rfl (lv_at hl 1 rfl) ?_
    refine lv_iload hx hb dL_law_1498 (lv_at hl 5 rfl) ?_
    refine lv_iconst (v := zI 2) hx hb dL_law_1500 rfl ?_
    refine z_iadd hx hb dL_law_1501 ?_
    refine z_sld hx hb hXs hbl hbA hS ⟨⟨by omega, by omega⟩, hL⟩ dL_law_1502 ?_
    have hP := zPswap hP
    have hD := zDswap hD
    refine zfw_calli (mc := 0) (ms := 0)  hP hD hS hA (va_runV (As := [.int (zI (xI xs (i + 1))), .int (zI (xI xs (i + 2)))]) (rest := []) hC (c_X10_drainOf l D τ β (gM cI cB) h sv sl9 tk cd mn mi mc mq mr mw ct9 ln9 mt ma mx mh (xI xs (i + 1)) (xI xs (i + 2)) (xI_b xs _) (xI_b xs _) hh _) (cwV 2 hts (gV hB wl_L_240 wn_X10_drainOf ws_X10_drainOf wi_X10 wc_X10_drainOf) rfl rfl rfl hd_X10_drainOf ⟨Nat.le_of_ble_eq_true rfl, Nat.le_of_ble_eq_true rfl⟩) (zp_V hKm (zPc hP) (zDc hD) hS hA hG (ci := 10) (q0 := 0) rfl rfl rfl) rfl rfl hl.1 rfl (lv_room (Nat.le_of_ble_eq_true rfl)) dL_law_1503 ⟨by show _ ≤ 1083; omega, by show _ ≤ 10672; omega⟩) (fun r w1 H locs hq9 hP hD hS => ?_)
    obtain ⟨t2m, vm, hm0, hm1, rfl, rfl⟩ := hq9
    have hP := zPswap hP
    have hD := zDswap hD
    refine lv_istore (lv' := [(6, .int (zI vm)), (5, .int (zI 1)), (0, .ref b), (1, .ref (α 0)), (2, .ref (β 0)), (3, .ref o), (4, .int (zI i))]) hx hb dL_law_1506 hl (by decide) rfl (fun ls hl => ?_)
    refine lv_aload_n hx hb dL_law_1508 rfl (lv_at hl 4 rfl) ?_
    have hP := zPswap hP
    have hD := zDswap hD
    refine zfw_calli (mc := 0) (ms := 0)  hP hD hS hA (va_runV (As := []) (rest := []) hC (c_X10_thrown l D τ β (gM cI cB) _ _ _ _ _ _ _ _ _ _ _ _ _ _ _ _ _ _) (cwV 0 hts (gV hB wl_L_145 wn_X10_thrown ws_X10_thrown wi_X10 wc_X10_thrown) rfl rfl rfl hd_X10_thrown ⟨Nat.le_of_ble_eq_true rfl, Nat.le_of_ble_eq_true rfl⟩) (zp_V hKm (zPc hP) (zDc hD) hS hA hG (ci := 10) (q0 := 0) rfl rfl rfl) rfl rfl hl.1 rfl (lv_room (Nat.le_of_ble_eq_true rfl)) dL_law_1509 ⟨by show _ ≤ 1083; omega, by show _ ≤ 10672; omega⟩) (fun r w1 H locs hq9 hP hD hS => ?_)
    obtain ⟨vt, ht0, rfl, rfl⟩ := hq9
    have hP := zPswap hP
    have hD := zDswap hD
    refine lv_iload hx hb dL_law_1512 (lv_at hl 1 rfl) ?_
    have heq_1514 : vt = 1 := by rw [ht0, hm0, hx9]
    refine z_iceqE (tgt := 1519) hx hb heq_1514 dL_law_1514 (by decide) ?_
    refine lv_iload hx hb dL_law_1519 (lv_at hl 1 rfl) ?_
    refine z_ifne (tgt := 1536) hx hb ⟨by omega, by omega⟩ dL_law_1521 (by decide) (fun c_1521 => ?_) (fun c_1521 => absurd c_1521 (by decide))
    refine lv_goto (tgt := 2893) hx hb dL_law_1536 (by decide) ?_
    refine W.widen (k := cells + 2) (n := slots + 12) (by omega) (by omega) ?_
    exact hk _ _ _ _ _ _ _ _ _ _ _ _ _ _ _ _ _ _ _ _ _ _ _ _ _ _ _ _ _ _ _ H locs ls (hI) hP hD hS (lv_sub hl [2, 3, 4, 5, 6] rfl)
  · skip
    obtain ⟨n2c, d2c, hx9, rfl, rfl⟩ := hq9
    refine lv_istore (lv' := [(5, .int (zI 2)), (0, .ref b), (1, .ref (α 0)), (2, .ref (β 0)), (3, .ref o), (4, .int (zI i))]) hx hb dL_law_1488 hl (by decide) rfl (fun ls hl => ?_)
    refine lv_aload_n hx hb dL_law_1490 rfl (lv_at hl 3 rfl) ?_
    refine lv_aload_n hx hb dL_law_1491 rfl (lv_at hl 1 rfl) ?_
    refine lv_iload hx hb dL_law_1492 (lv_at hl 5 rfl) ?_
    refine lv_iconst (v := zI 1) hx hb dL_law_1494 rfl ?_
    refine z_iadd hx hb dL_law_1495 ?_
    refine z_sld hx hb hXs hbl hbA hS ⟨⟨by omega, by omega⟩, hL⟩ dL_law_1496 ?_
    refine lv_aload_n hx hb dL_law_1497 rfl (lv_at hl 1 rfl) ?_
    refine lv_iload hx hb dL_law_1498 (lv_at hl 5 rfl) ?_
    refine lv_iconst (v := zI 2) hx hb dL_law_1500 rfl ?_
    refine z_iadd hx hb dL_law_1501 ?_
    refine z_sld hx hb hXs hbl hbA hS ⟨⟨by omega, by omega⟩, hL⟩ dL_law_1502 ?_
    have hP := zPswap hP
    have hD := zDswap hD
    refine zfw_calli (mc := 0) (ms := 0)  hP hD hS hA (va_runV (As := [.int (zI (xI xs (i + 1))), .int (zI (xI xs (i + 2)))]) (rest := []) hC (c_X10_drainOf l D τ β (gM cI cB) h sv sl9 tk cd mn mi mc mq mr mw ct9 ln9 mt ma mx mh (xI xs (i + 1)) (xI xs (i + 2)) (xI_b xs _) (xI_b xs _) hh _) (cwV 2 hts (gV hB wl_L_240 wn_X10_drainOf ws_X10_drainOf wi_X10 wc_X10_drainOf) rfl rfl rfl hd_X10_drainOf ⟨Nat.le_of_ble_eq_true rfl, Nat.le_of_ble_eq_true rfl⟩) (zp_V hKm (zPc hP) (zDc hD) hS hA hG (ci := 10) (q0 := 0) rfl rfl rfl) rfl rfl hl.1 rfl (lv_room (Nat.le_of_ble_eq_true rfl)) dL_law_1503 ⟨by show _ ≤ 1083; omega, by show _ ≤ 10672; omega⟩) (fun r w1 H locs hq9 hP hD hS => ?_)
    obtain ⟨t2m, vm, hm0, hm1, rfl, rfl⟩ := hq9
    have hP := zPswap hP
    have hD := zDswap hD
    refine lv_istore (lv' := [(6, .int (zI vm)), (5, .int (zI 2)), (0, .ref b), (1, .ref (α 0)), (2, .ref (β 0)), (3, .ref o), (4, .int (zI i))]) hx hb dL_law_1506 hl (by decide) rfl (fun ls hl => ?_)
    refine lv_aload_n hx hb dL_law_1508 rfl (lv_at hl 4 rfl) ?_
    have hP := zPswap hP
    have hD := zDswap hD
    refine zfw_calli (mc := 0) (ms := 0)  hP hD hS hA (va_runV (As := []) (rest := []) hC (c_X10_thrown l D τ β (gM cI cB) _ _ _ _ _ _ _ _ _ _ _ _ _ _ _ _ _ _) (cwV 0 hts (gV hB wl_L_145 wn_X10_thrown ws_X10_thrown wi_X10 wc_X10_thrown) rfl rfl rfl hd_X10_thrown ⟨Nat.le_of_ble_eq_true rfl, Nat.le_of_ble_eq_true rfl⟩) (zp_V hKm (zPc hP) (zDc hD) hS hA hG (ci := 10) (q0 := 0) rfl rfl rfl) rfl rfl hl.1 rfl (lv_room (Nat.le_of_ble_eq_true rfl)) dL_law_1509 ⟨by show _ ≤ 1083; omega, by show _ ≤ 10672; omega⟩) (fun r w1 H locs hq9 hP hD hS => ?_)
    obtain ⟨vt, ht0, rfl, rfl⟩ := hq9
    have hP := zPswap hP
    have hD := zDswap hD
    refine lv_iload hx hb dL_law_1512 (lv_at hl 1 rfl) ?_
    have heq_1514 : vt = 2 := by rw [ht0, hm0, hx9]
    refine z_iceqE (tgt := 1519) hx hb heq_1514 dL_law_1514 (by decide) ?_
    refine lv_iload hx hb dL_law_1519 (lv_at hl 1 rfl) ?_
    refine z_ifne (tgt := 1536) hx hb ⟨by omega, by omega⟩ dL_law_1521 (by decide) (fun c_1521 => ?_) (fun c_1521 => absurd c_1521 (by decide))
    refine lv_goto (tgt := 2893) hx hb dL_law_1536 (by decide) ?_
    refine W.widen (k := cells + 2) (n := slots + 12) (by omega) (by omega) ?_
    exact hk _ _ _ _ _ _ _ _ _ _ _ _ _ _ _ _ _ _ _ _ _ _ _ _ _ _ _ _ _ _ _ H locs ls (hI) hP hD hS (lv_sub hl [2, 3, 4, 5, 6] rfl)
set_option maxHeartbeats 4000000 in
set_option maxRecDepth 100000 in
theorem law_1539 {p : Program} {l : Launch} {e : Env} {s : State} {m : MethodId} {below : List Frame} {meth : Method} {c : Code} {Q : State → Prop} {D : va_G} {τ : Nat → Nat} {A : Nat → Prop} {α β : Nat → Nat} {cI cB cL : ClassId} {o b L : Nat} {xs : Nat → Int32} {i : Int} {cells slots : Nat} (hX : LCx p l s m c D τ A cI cB cL b L xs) (hi : 0 ≤ i ∧ i + 6 ≤ L) (hc : cells + 2 ≤ 1083 ∧ slots + 12 ≤ 10672)
    (hk : LSt p l e s m below meth c Q D A α β cI cB cL o b i 2893 (cells + 2) (slots + 12)) : LSt p l e s m below meth c Q D A α β cI cB cL o b i 1539 cells slots := by
  obtain ⟨hC, hKm, hKo, hKh, hG, hA, hGX, hst, hXs, hbl, hbA, hL⟩ := hX
  intro h old ch rg ln sl pd ct sg cd ln9 pl le ro co nu sv sl9 tk ct9 mn mi mc mq mr mw mt ma mx mh fo H locs ls hI hP hD hS hl
  obtain ⟨rg0, rg1⟩ := rg
  obtain ⟨ln_0, ln_1, ln_2, ln_3, ln_4, ln_5, ln_6, ln_7, ln_8, ln_9⟩ := ln
  obtain ⟨sl_0, sl_1, sl_2⟩ := sl
  obtain ⟨pd0, pd1⟩ := pd
  obtain ⟨ct_0, ct_1⟩ := ct
  have hx := hC.1
  have hb := hC.2.1
  have hml := hC.2.2.1
  have hts := hC.2.2.2.2
  have hB : ∀ w ∈ W0, w ∈ W0 := fun _ h => h
  have hh := hI.1
  have hct := hI.2.2.2.1
  have hln := hI.2.2.2.2.1
  have hmf := hI.2.2.2.2.2.1
  have hov := hI.2.2.2.2.2.2
  have hcd : ∀ k, 0 ≤ k → k < ln9 → 0 ≤ cd k ∧ cd k ≤ 126 := fun k a b => by have z := hmf k a b; omega
  have hP : va_P D vwCl ((wM β (gM cI cB) h sv sl9 tk cd mn mi mc mq mr mw ct9 ln9 mt ma mx mh) ++ (oC cL o fo ++ (wH α (gH cI cB) (h, old, ch) (rg0, rg1) (ln_0, ln_1, ln_2, ln_3, ln_4, ln_5, ln_6, ln_7, ln_8, ln_9) (sl_0, sl_1, sl_2) (pd0, pd1) (ct_0, ct_1) sg (cd, ln9, pl, le, ro, co, nu) (sv, sl9, tk, ct9)))) H := hP
  have hD : va_D A ((wM β (gM cI cB) h sv sl9 tk cd mn mi mc mq mr mw ct9 ln9 mt ma mx mh) ++ (oC cL o fo ++ (wH α (gH cI cB) (h, old, ch) (rg0, rg1) (ln_0, ln_1, ln_2, ln_3, ln_4, ln_5, ln_6, ln_7, ln_8, ln_9) (sl_0, sl_1, sl_2) (pd0, pd1) (ct_0, ct_1) sg (cd, ln9, pl, le, ro, co, nu) (sv, sl9, tk, ct9)))) := hD
  refine lv_aload_n hx hb dL_law_1539 rfl (lv_at hl 1 rfl) ?_
  refine lv_aload_n hx hb dL_law_1540 rfl (lv_at hl 0 rfl) ?_
  refine lv_iload hx hb dL_law_1541 (lv_at hl 4 rfl) ?_
  refine lv_iconst (v := zI 1) hx hb dL_law_1543 rfl ?_
  refine z_iadd hx hb dL_law_1544 ?_
  refine z_sld hx hb hXs hbl hbA hS ⟨⟨by omega, by omega⟩, hL⟩ dL_law_1545 ?_
  refine lv_aload_n hx hb dL_law_1546 rfl (lv_at hl 0 rfl) ?_
  refine lv_iload hx hb dL_law_1547 (lv_at hl 4 rfl) ?_
  refine lv_iconst (v := zI 2) hx hb dL_law_1549 rfl ?_
  refine z_iadd hx hb dL_law_1550 ?_
  refine z_sld hx hb hXs hbl hbA hS ⟨⟨by omega, by omega⟩, hL⟩ dL_law_1551 ?_
  refine lv_aload_n hx hb dL_law_1552 rfl (lv_at hl 3 rfl) ?_
  refine zfw_calli (mc := 1) (ms := 6) (wr := (wM β (gM cI cB) h sv sl9 tk cd mn mi mc mq mr mw ct9 ln9 mt ma mx mh)) (wc := oC cL o fo ++ (wH α (gH cI cB) (h, old, ch) (rg0, rg1) (ln_0, ln_1, ln_2, ln_3, ln_4, ln_5, ln_6, ln_7, ln_8, ln_9) (sl_0, sl_1, sl_2) (pd0, pd1) (ct_0, ct_1) sg (cd, ln9, pl, le, ro, co, nu) (sv, sl9, tk, ct9))) hP hD hS hA (vx_runSW (As := [.ref (α 0), .int (zI (xI xs (i + 1))), .int (zI (xI xs (i + 2))), .ref o]) (rest := []) hC (c_L_isSink l D τ α (gH cI cB) h old ch (rg0, rg1) (ln_0, ln_1, ln_2, ln_3, ln_4, ln_5, ln_6, ln_7, ln_8, ln_9) sl_0 sl_1 sl_2 (pd0, pd1) (ct_0, ct_1) sg (cd, ln9, pl, le, ro, co, nu) (sv, sl9, tk, ct9) (xI xs (i + 1)) (xI xs (i + 2)) (xI_b xs _) (xI_b xs _) hh hst cL o fo _) (vx_cwSW 4 hts (gSW hB wl_L_241 wt_L_isSink wi_L wc_L_isSink) rfl rfl rfl hd_L_isSink.2 ⟨Nat.le_of_ble_eq_true rfl, Nat.le_of_ble_eq_true rfl⟩) (zpX_S hKo (zPc hP) (zDc hD) hS hA hG hGX) rfl rfl hl.1 rfl (lv_room (Nat.le_of_ble_eq_true rfl)) dL_law_1553 ⟨by show _ ≤ 1083; omega, by show _ ≤ 10672; omega⟩) (fun r w1 H locs hq9 hP hD hS => ?_)
  rcases hq9 with hq9 | hq9
  · skip
    obtain ⟨n2c, d2c, vc, go, hf0, hf1, hgo, rfl, rfl⟩ := hq9
    refine lv_istore (lv' := [(5, .int (zI 0)), (0, .ref b), (1, .ref (α 0)), (2, .ref (β 0)), (3, .ref o), (4, .int (zI i))]) hx hb dL_law_1556 hl (by decide) rfl (fun ls hl => ?_)
    refine lv_aload_n hx hb dL_law_1558 rfl (lv_at hl 3 rfl) ?_
    refine lv_aload_n hx hb dL_law_1559 rfl (lv_at hl 1 rfl) ?_
    refine lv_iload hx hb dL_law_1560 (lv_at hl 5 rfl) ?_
    refine lv_iconst (v := zI 1) hx hb dL_law_1562 rfl ?_
    refine z_iadd hx hb dL_law_1563 ?_
    refine z_sld hx hb hXs hbl hbA hS ⟨⟨by omega, by omega⟩, hL⟩ dL_law_1564 ?_
    refine lv_aload_n hx hb dL_law_1565 rfl (lv_at hl 1 rfl) ?_
    refine lv_iload hx hb dL_law_1566 (lv_at hl 5 rfl) ?_
    refine lv_iconst (v := zI 2) hx hb dL_law_1568 rfl ?_
    refine z_iadd hx hb dL_law_1569 ?_
    refine z_sld hx hb hXs hbl hbA hS ⟨⟨by omega, by omega⟩, hL⟩ dL_law_1570 ?_
    have hP := zPswap hP
    have hD := zDswap hD
    refine zfw_calli (mc := 0) (ms := 0)  hP hD hS hA (va_runV (As := [.int (zI (xI xs (i + 1))), .int (zI (xI xs (i + 2)))]) (rest := []) hC (c_X10_isSink l D τ β (gM cI cB) h sv sl9 tk cd mn mi mc mq mr mw ct9 ln9 mt ma mx mh (xI xs (i + 1)) (xI xs (i + 2)) (xI_b xs _) (xI_b xs _) hh _) (cwV 2 hts (gV hB wl_L_243 wn_X10_isSink ws_X10_isSink wi_X10 wc_X10_isSink) rfl rfl rfl hd_X10_isSink ⟨Nat.le_of_ble_eq_true rfl, Nat.le_of_ble_eq_true rfl⟩) (zp_V hKm (zPc hP) (zDc hD) hS hA hG (ci := 10) (q0 := 0) rfl rfl rfl) rfl rfl hl.1 rfl (lv_room (Nat.le_of_ble_eq_true rfl)) dL_law_1571 ⟨by show _ ≤ 1083; omega, by show _ ≤ 10672; omega⟩) (fun r w1 H locs hq9 hP hD hS => ?_)
    obtain ⟨t2m, vm, hm0, hm1, rfl, rfl⟩ := hq9
    have hP := zPswap hP
    have hD := zDswap hD
    refine lv_istore (lv' := [(6, .int (bI vm)), (5, .int (zI 0)), (0, .ref b), (1, .ref (α 0)), (2, .ref (β 0)), (3, .ref o), (4, .int (zI i))]) hx hb dL_law_1574 hl (by decide) rfl (fun ls hl => ?_)
    refine lv_aload_n hx hb dL_law_1576 rfl (lv_at hl 4 rfl) ?_
    have hP := zPswap hP
    have hD := zDswap hD
    refine zfw_calli (mc := 0) (ms := 0)  hP hD hS hA (va_runV (As := []) (rest := []) hC (c_X10_thrown l D τ β (gM cI cB) _ _ _ _ _ _ _ _ _ _ _ _ _ _ _ _ _ _) (cwV 0 hts (gV hB wl_L_145 wn_X10_thrown ws_X10_thrown wi_X10 wc_X10_thrown) rfl rfl rfl hd_X10_thrown ⟨Nat.le_of_ble_eq_true rfl, Nat.le_of_ble_eq_true rfl⟩) (zp_V hKm (zPc hP) (zDc hD) hS hA hG (ci := 10) (q0 := 0) rfl rfl rfl) rfl rfl hl.1 rfl (lv_room (Nat.le_of_ble_eq_true rfl)) dL_law_1577 ⟨by show _ ≤ 1083; omega, by show _ ≤ 10672; omega⟩) (fun r w1 H locs hq9 hP hD hS => ?_)
    obtain ⟨vt, ht0, rfl, rfl⟩ := hq9
    have hP := zPswap hP
    have hD := zDswap hD
    refine lv_iload hx hb dL_law_1580 (lv_at hl 1 rfl) ?_
    have heq_1582 : vt = 0 := by rw [ht0, hm0, hf0]
    refine z_iceqE (tgt := 1587) hx hb heq_1582 dL_law_1582 (by decide) ?_
    refine lv_iload hx hb dL_law_1587 (lv_at hl 1 rfl) ?_
    refine z_ifne (tgt := 1611) hx hb ⟨by omega, by omega⟩ dL_law_1589 (by decide) (fun c_1589 => absurd rfl c_1589) (fun c_1589 => ?_)
    refine lv_aload_n hx hb dL_law_1592 rfl (lv_at hl 5 rfl) ?_
    refine lv_iconst (v := zI 0) hx hb dL_law_1593 rfl ?_
    refine zo_lald hx hb hKo (zPc hP) dL_law_1594 ?_
    refine lv_iload hx hb dL_law_1595 (lv_at hl 0 rfl) ?_
    refine z_ifeqB (tgt := 1604) hx hb dL_law_1597 (by decide) (fun c_1597 => ?_) (fun c_1597 => ?_)
    · skip
      refine lv_lconst (v := zL 0) hx hb dL_law_1604 rfl ?_
      refine z_lcmpE hx hb (by rw [hgo, show vc = false from (bool_iff2 hf1 (hm1 (hm0.trans hf0))).trans c_1597]; rfl) dL_law_1605 ?_
      refine z_ifeq (tgt := 1611) hx hb ⟨by omega, by omega⟩ dL_law_1606 (by decide) (fun c_1606 => ?_) (fun c_1606 => absurd rfl c_1606)
      refine lv_goto (tgt := 2893) hx hb dL_law_1611 (by decide) ?_
      refine W.widen (k := cells + 2) (n := slots + 12) (by omega) (by omega) ?_
      exact hk _ _ _ _ _ _ _ _ _ _ _ _ _ _ _ _ _ _ _ _ _ _ _ _ _ _ _ _ _ _ _ H locs ls (hI) hP hD hS (lv_sub hl [2, 3, 4, 5, 6] rfl)
    · skip
      refine lv_lconst (v := zL 1) hx hb dL_law_1600 rfl ?_
      refine lv_goto (tgt := 1605) hx hb dL_law_1601 (by decide) ?_
      refine z_lcmpE hx hb (by rw [hgo, show vc = true from (bool_iff2 hf1 (hm1 (hm0.trans hf0))).trans c_1597]; rfl) dL_law_1605 ?_
      refine z_ifeq (tgt := 1611) hx hb ⟨by omega, by omega⟩ dL_law_1606 (by decide) (fun c_1606 => ?_) (fun c_1606 => absurd rfl c_1606)
      refine lv_goto (tgt := 2893) hx hb dL_law_1611 (by decide) ?_
      refine W.widen (k := cells + 2) (n := slots + 12) (by omega) (by omega) ?_
      exact hk _ _ _ _ _ _ _ _ _ _ _ _ _ _ _ _ _ _ _ _ _ _ _ _ _ _ _ _ _ _ _ H locs ls (hI) hP hD hS (lv_sub hl [2, 3, 4, 5, 6] rfl)
  · skip
    obtain ⟨hx9, rfl, rfl⟩ := hq9
    refine lv_istore (lv' := [(5, .int (zI 1)), (0, .ref b), (1, .ref (α 0)), (2, .ref (β 0)), (3, .ref o), (4, .int (zI i))]) hx hb dL_law_1556 hl (by decide) rfl (fun ls hl => ?_)
    refine lv_aload_n hx hb dL_law_1558 rfl (lv_at hl 3 rfl) ?_
    refine lv_aload_n hx hb dL_law_1559 rfl (lv_at hl 1 rfl) ?_
    refine lv_iload hx hb dL_law_1560 (lv_at hl 5 rfl) ?_
    refine lv_iconst (v := zI 1) hx hb dL_law_1562 rfl ?_
    refine z_iadd hx hb dL_law_1563 ?_
    refine z_sld hx hb hXs hbl hbA hS ⟨⟨by omega, by omega⟩, hL⟩ dL_law_1564 ?_
    refine lv_aload_n hx hb dL_law_1565 rfl (lv_at hl 1 rfl) ?_
    refine lv_iload hx hb dL_law_1566 (lv_at hl 5 rfl) ?_
    refine lv_iconst (v := zI 2) hx hb dL_law_1568 rfl ?_
    refine z_iadd hx hb dL_law_1569 ?_
    refine z_sld hx hb hXs hbl hbA hS ⟨⟨by omega, by omega⟩, hL⟩ dL_law_1570 ?_
    have hP := zPswap hP
    have hD := zDswap hD
    refine zfw_calli (mc := 0) (ms := 0)  hP hD hS hA (va_runV (As := [.int (zI (xI xs (i + 1))), .int (zI (xI xs (i + 2)))]) (rest := []) hC (c_X10_isSink l D τ β (gM cI cB) h sv sl9 tk cd mn mi mc mq mr mw ct9 ln9 mt ma mx mh (xI xs (i + 1)) (xI xs (i + 2)) (xI_b xs _) (xI_b xs _) hh _) (cwV 2 hts (gV hB wl_L_243 wn_X10_isSink ws_X10_isSink wi_X10 wc_X10_isSink) rfl rfl rfl hd_X10_isSink ⟨Nat.le_of_ble_eq_true rfl, Nat.le_of_ble_eq_true rfl⟩) (zp_V hKm (zPc hP) (zDc hD) hS hA hG (ci := 10) (q0 := 0) rfl rfl rfl) rfl rfl hl.1 rfl (lv_room (Nat.le_of_ble_eq_true rfl)) dL_law_1571 ⟨by show _ ≤ 1083; omega, by show _ ≤ 10672; omega⟩) (fun r w1 H locs hq9 hP hD hS => ?_)
    obtain ⟨t2m, vm, hm0, hm1, rfl, rfl⟩ := hq9
    have hP := zPswap hP
    have hD := zDswap hD
    refine lv_istore (lv' := [(6, .int (bI vm)), (5, .int (zI 1)), (0, .ref b), (1, .ref (α 0)), (2, .ref (β 0)), (3, .ref o), (4, .int (zI i))]) hx hb dL_law_1574 hl (by decide) rfl (fun ls hl => ?_)
    refine lv_aload_n hx hb dL_law_1576 rfl (lv_at hl 4 rfl) ?_
    have hP := zPswap hP
    have hD := zDswap hD
    refine zfw_calli (mc := 0) (ms := 0)  hP hD hS hA (va_runV (As := []) (rest := []) hC (c_X10_thrown l D τ β (gM cI cB) _ _ _ _ _ _ _ _ _ _ _ _ _ _ _ _ _ _) (cwV 0 hts (gV hB wl_L_145 wn_X10_thrown ws_X10_thrown wi_X10 wc_X10_thrown) rfl rfl rfl hd_X10_thrown ⟨Nat.le_of_ble_eq_true rfl, Nat.le_of_ble_eq_true rfl⟩) (zp_V hKm (zPc hP) (zDc hD) hS hA hG (ci := 10) (q0 := 0) rfl rfl rfl) rfl rfl hl.1 rfl (lv_room (Nat.le_of_ble_eq_true rfl)) dL_law_1577 ⟨by show _ ≤ 1083; omega, by show _ ≤ 10672; omega⟩) (fun r w1 H locs hq9 hP hD hS => ?_)
    obtain ⟨vt, ht0, rfl, rfl⟩ := hq9
    have hP := zPswap hP
    have hD := zDswap hD
    refine lv_iload hx hb dL_law_1580 (lv_at hl 1 rfl) ?_
    have heq_1582 : vt = 1 := by rw [ht0, hm0, hx9]
    refine z_iceqE (tgt := 1587) hx hb heq_1582 dL_law_1582 (by decide) ?_
    refine lv_iload hx hb dL_law_1587 (lv_at hl 1 rfl) ?_
    refine z_ifne (tgt := 1611) hx hb ⟨by omega, by omega⟩ dL_law_1589 (by decide) (fun c_1589 => ?_) (fun c_1589 => absurd c_1589 (by decide))
    refine lv_goto (tgt := 2893) hx hb dL_law_1611 (by decide) ?_
    refine W.widen (k := cells + 2) (n := slots + 12) (by omega) (by omega) ?_
    exact hk _ _ _ _ _ _ _ _ _ _ _ _ _ _ _ _ _ _ _ _ _ _ _ _ _ _ _ _ _ _ _ H locs ls (hI) hP hD hS (lv_sub hl [2, 3, 4, 5, 6] rfl)
set_option maxHeartbeats 4000000 in
set_option maxRecDepth 100000 in
theorem law_1614 {p : Program} {l : Launch} {e : Env} {s : State} {m : MethodId} {below : List Frame} {meth : Method} {c : Code} {Q : State → Prop} {D : va_G} {τ : Nat → Nat} {A : Nat → Prop} {α β : Nat → Nat} {cI cB cL : ClassId} {o b L : Nat} {xs : Nat → Int32} {i : Int} {cells slots : Nat} (hX : LCx p l s m c D τ A cI cB cL b L xs) (hi : 0 ≤ i ∧ i + 6 ≤ L) (hc : cells + 2 ≤ 1083 ∧ slots + 12 ≤ 10672)
    (hk : LSt p l e s m below meth c Q D A α β cI cB cL o b i 2893 (cells + 2) (slots + 12)) : LSt p l e s m below meth c Q D A α β cI cB cL o b i 1614 cells slots := by
  obtain ⟨hC, hKm, hKo, hKh, hG, hA, hGX, hst, hXs, hbl, hbA, hL⟩ := hX
  intro h old ch rg ln sl pd ct sg cd ln9 pl le ro co nu sv sl9 tk ct9 mn mi mc mq mr mw mt ma mx mh fo H locs ls hI hP hD hS hl
  obtain ⟨rg0, rg1⟩ := rg
  obtain ⟨ln_0, ln_1, ln_2, ln_3, ln_4, ln_5, ln_6, ln_7, ln_8, ln_9⟩ := ln
  obtain ⟨sl_0, sl_1, sl_2⟩ := sl
  obtain ⟨pd0, pd1⟩ := pd
  obtain ⟨ct_0, ct_1⟩ := ct
  have hx := hC.1
  have hb := hC.2.1
  have hml := hC.2.2.1
  have hts := hC.2.2.2.2
  have hB : ∀ w ∈ W0, w ∈ W0 := fun _ h => h
  have hh := hI.1
  have hct := hI.2.2.2.1
  have hln := hI.2.2.2.2.1
  have hmf := hI.2.2.2.2.2.1
  have hov := hI.2.2.2.2.2.2
  have hcd : ∀ k, 0 ≤ k → k < ln9 → 0 ≤ cd k ∧ cd k ≤ 126 := fun k a b => by have z := hmf k a b; omega
  have hP : va_P D vwCl ((wM β (gM cI cB) h sv sl9 tk cd mn mi mc mq mr mw ct9 ln9 mt ma mx mh) ++ (oC cL o fo ++ (wH α (gH cI cB) (h, old, ch) (rg0, rg1) (ln_0, ln_1, ln_2, ln_3, ln_4, ln_5, ln_6, ln_7, ln_8, ln_9) (sl_0, sl_1, sl_2) (pd0, pd1) (ct_0, ct_1) sg (cd, ln9, pl, le, ro, co, nu) (sv, sl9, tk, ct9)))) H := hP
  have hD : va_D A ((wM β (gM cI cB) h sv sl9 tk cd mn mi mc mq mr mw ct9 ln9 mt ma mx mh) ++ (oC cL o fo ++ (wH α (gH cI cB) (h, old, ch) (rg0, rg1) (ln_0, ln_1, ln_2, ln_3, ln_4, ln_5, ln_6, ln_7, ln_8, ln_9) (sl_0, sl_1, sl_2) (pd0, pd1) (ct_0, ct_1) sg (cd, ln9, pl, le, ro, co, nu) (sv, sl9, tk, ct9)))) := hD
  refine lv_aload_n hx hb dL_law_1614 rfl (lv_at hl 1 rfl) ?_
  refine lv_aload_n hx hb dL_law_1615 rfl (lv_at hl 0 rfl) ?_
  refine lv_iload hx hb dL_law_1616 (lv_at hl 4 rfl) ?_
  refine lv_iconst (v := zI 1) hx hb dL_law_1618 rfl ?_
  refine z_iadd hx hb dL_law_1619 ?_
  refine z_sld hx hb hXs hbl hbA hS ⟨⟨by omega, by omega⟩, hL⟩ dL_law_1620 ?_
  refine lv_aload_n hx hb dL_law_1621 rfl (lv_at hl 0 rfl) ?_
  refine lv_iload hx hb dL_law_1622 (lv_at hl 4 rfl) ?_
  refine lv_iconst (v := zI 2) hx hb dL_law_1624 rfl ?_
  refine z_iadd hx hb dL_law_1625 ?_
  refine z_sld hx hb hXs hbl hbA hS ⟨⟨by omega, by omega⟩, hL⟩ dL_law_1626 ?_
  refine lv_aload_n hx hb dL_law_1627 rfl (lv_at hl 3 rfl) ?_
  refine zfw_calli (mc := 1) (ms := 6) (wr := (wM β (gM cI cB) h sv sl9 tk cd mn mi mc mq mr mw ct9 ln9 mt ma mx mh)) (wc := oC cL o fo ++ (wH α (gH cI cB) (h, old, ch) (rg0, rg1) (ln_0, ln_1, ln_2, ln_3, ln_4, ln_5, ln_6, ln_7, ln_8, ln_9) (sl_0, sl_1, sl_2) (pd0, pd1) (ct_0, ct_1) sg (cd, ln9, pl, le, ro, co, nu) (sv, sl9, tk, ct9))) hP hD hS hA (vx_runSW (As := [.ref (α 0), .int (zI (xI xs (i + 1))), .int (zI (xI xs (i + 2))), .ref o]) (rest := []) hC (c_L_dropOf l D τ α (gH cI cB) h old ch (rg0, rg1) (ln_0, ln_1, ln_2, ln_3, ln_4, ln_5, ln_6, ln_7, ln_8, ln_9) sl_0 sl_1 sl_2 (pd0, pd1) (ct_0, ct_1) sg (cd, ln9, pl, le, ro, co, nu) (sv, sl9, tk, ct9) (xI xs (i + 1)) (xI xs (i + 2)) (xI_b xs _) (xI_b xs _) hh hst cL o fo _) (vx_cwSW 4 hts (gSW hB wl_L_244 wt_L_dropOf wi_L wc_L_dropOf) rfl rfl rfl hd_L_dropOf.2 ⟨Nat.le_of_ble_eq_true rfl, Nat.le_of_ble_eq_true rfl⟩) (zpX_S hKo (zPc hP) (zDc hD) hS hA hG hGX) rfl rfl hl.1 rfl (lv_room (Nat.le_of_ble_eq_true rfl)) dL_law_1628 ⟨by show _ ≤ 1083; omega, by show _ ≤ 10672; omega⟩) (fun r w1 H locs hq9 hP hD hS => ?_)
  rcases hq9 with hq9 | hq9
  · skip
    obtain ⟨n2c, d2c, vc, go, hf0, hf1, hgo, rfl, rfl⟩ := hq9
    refine lv_istore (lv' := [(5, .int (zI 0)), (0, .ref b), (1, .ref (α 0)), (2, .ref (β 0)), (3, .ref o), (4, .int (zI i))]) hx hb dL_law_1631 hl (by decide) rfl (fun ls hl => ?_)
    refine lv_aload_n hx hb dL_law_1633 rfl (lv_at hl 3 rfl) ?_
    refine lv_aload_n hx hb dL_law_1634 rfl (lv_at hl 1 rfl) ?_
    refine lv_iload hx hb dL_law_1635 (lv_at hl 5 rfl) ?_
    refine lv_iconst (v := zI 1) hx hb dL_law_1637 rfl ?_
    refine z_iadd hx hb dL_law_1638 ?_
    refine z_sld hx hb hXs hbl hbA hS ⟨⟨by omega, by omega⟩, hL⟩ dL_law_1639 ?_
    refine lv_aload_n hx hb dL_law_1640 rfl (lv_at hl 1 rfl) ?_
    refine lv_iload hx hb dL_law_1641 (lv_at hl 5 rfl) ?_
    refine lv_iconst (v := zI 2) hx hb dL_law_1643 rfl ?_
    refine z_iadd hx hb dL_law_1644 ?_
    refine z_sld hx hb hXs hbl hbA hS ⟨⟨by omega, by omega⟩, hL⟩ dL_law_1645 ?_
    have hP := zPswap hP
    have hD := zDswap hD
    refine zfw_calli (mc := 0) (ms := 0)  hP hD hS hA (va_runV (As := [.int (zI (xI xs (i + 1))), .int (zI (xI xs (i + 2)))]) (rest := []) hC (c_X10_dropOf l D τ β (gM cI cB) h sv sl9 tk cd mn mi mc mq mr mw ct9 ln9 mt ma mx mh (xI xs (i + 1)) (xI xs (i + 2)) (xI_b xs _) (xI_b xs _) hh _) (cwV 2 hts (gV hB wl_L_246 wn_X10_dropOf ws_X10_dropOf wi_X10 wc_X10_dropOf) rfl rfl rfl hd_X10_dropOf ⟨Nat.le_of_ble_eq_true rfl, Nat.le_of_ble_eq_true rfl⟩) (zp_V hKm (zPc hP) (zDc hD) hS hA hG (ci := 10) (q0 := 0) rfl rfl rfl) rfl rfl hl.1 rfl (lv_room (Nat.le_of_ble_eq_true rfl)) dL_law_1646 ⟨by show _ ≤ 1083; omega, by show _ ≤ 10672; omega⟩) (fun r w1 H locs hq9 hP hD hS => ?_)
    obtain ⟨t2m, vm, hm0, hm1, rfl, rfl⟩ := hq9
    have hP := zPswap hP
    have hD := zDswap hD
    refine lv_istore (lv' := [(6, .int (zI vm)), (5, .int (zI 0)), (0, .ref b), (1, .ref (α 0)), (2, .ref (β 0)), (3, .ref o), (4, .int (zI i))]) hx hb dL_law_1649 hl (by decide) rfl (fun ls hl => ?_)
    refine lv_aload_n hx hb dL_law_1651 rfl (lv_at hl 4 rfl) ?_
    have hP := zPswap hP
    have hD := zDswap hD
    refine zfw_calli (mc := 0) (ms := 0)  hP hD hS hA (va_runV (As := []) (rest := []) hC (c_X10_thrown l D τ β (gM cI cB) _ _ _ _ _ _ _ _ _ _ _ _ _ _ _ _ _ _) (cwV 0 hts (gV hB wl_L_145 wn_X10_thrown ws_X10_thrown wi_X10 wc_X10_thrown) rfl rfl rfl hd_X10_thrown ⟨Nat.le_of_ble_eq_true rfl, Nat.le_of_ble_eq_true rfl⟩) (zp_V hKm (zPc hP) (zDc hD) hS hA hG (ci := 10) (q0 := 0) rfl rfl rfl) rfl rfl hl.1 rfl (lv_room (Nat.le_of_ble_eq_true rfl)) dL_law_1652 ⟨by show _ ≤ 1083; omega, by show _ ≤ 10672; omega⟩) (fun r w1 H locs hq9 hP hD hS => ?_)
    obtain ⟨vt, ht0, rfl, rfl⟩ := hq9
    have hP := zPswap hP
    have hD := zDswap hD
    refine lv_iload hx hb dL_law_1655 (lv_at hl 1 rfl) ?_
    have heq_1657 : vt = 0 := by rw [ht0, hm0, hf0]
    refine z_iceqE (tgt := 1662) hx hb heq_1657 dL_law_1657 (by decide) ?_
    refine lv_iload hx hb dL_law_1662 (lv_at hl 1 rfl) ?_
    refine z_ifne (tgt := 1679) hx hb ⟨by omega, by omega⟩ dL_law_1664 (by decide) (fun c_1664 => absurd rfl c_1664) (fun c_1664 => ?_)
    refine lv_aload_n hx hb dL_law_1667 rfl (lv_at hl 5 rfl) ?_
    refine lv_iconst (v := zI 0) hx hb dL_law_1668 rfl ?_
    refine zo_lald hx hb hKo (zPc hP) dL_law_1669 ?_
    refine lv_iload hx hb dL_law_1670 (lv_at hl 0 rfl) ?_
    refine lv_i2l (v := (zI vm).toInt64) hx hb dL_law_1672 rfl ?_
    refine z_lcmpE hx hb (by rw [hgo, hf1, (hm1 (hm0.trans hf0))]) dL_law_1673 ?_
    refine z_ifeq (tgt := 1679) hx hb ⟨by omega, by omega⟩ dL_law_1674 (by decide) (fun c_1674 => ?_) (fun c_1674 => absurd rfl c_1674)
    refine lv_goto (tgt := 2893) hx hb dL_law_1679 (by decide) ?_
    refine W.widen (k := cells + 2) (n := slots + 12) (by omega) (by omega) ?_
    exact hk _ _ _ _ _ _ _ _ _ _ _ _ _ _ _ _ _ _ _ _ _ _ _ _ _ _ _ _ _ _ _ H locs ls (hI) hP hD hS (lv_sub hl [2, 3, 4, 5, 6] rfl)
  · skip
    obtain ⟨hx9, rfl, rfl⟩ := hq9
    refine lv_istore (lv' := [(5, .int (zI 1)), (0, .ref b), (1, .ref (α 0)), (2, .ref (β 0)), (3, .ref o), (4, .int (zI i))]) hx hb dL_law_1631 hl (by decide) rfl (fun ls hl => ?_)
    refine lv_aload_n hx hb dL_law_1633 rfl (lv_at hl 3 rfl) ?_
    refine lv_aload_n hx hb dL_law_1634 rfl (lv_at hl 1 rfl) ?_
    refine lv_iload hx hb dL_law_1635 (lv_at hl 5 rfl) ?_
    refine lv_iconst (v := zI 1) hx hb dL_law_1637 rfl ?_
    refine z_iadd hx hb dL_law_1638 ?_
    refine z_sld hx hb hXs hbl hbA hS ⟨⟨by omega, by omega⟩, hL⟩ dL_law_1639 ?_
    refine lv_aload_n hx hb dL_law_1640 rfl (lv_at hl 1 rfl) ?_
    refine lv_iload hx hb dL_law_1641 (lv_at hl 5 rfl) ?_
    refine lv_iconst (v := zI 2) hx hb dL_law_1643 rfl ?_
    refine z_iadd hx hb dL_law_1644 ?_
    refine z_sld hx hb hXs hbl hbA hS ⟨⟨by omega, by omega⟩, hL⟩ dL_law_1645 ?_
    have hP := zPswap hP
    have hD := zDswap hD
    refine zfw_calli (mc := 0) (ms := 0)  hP hD hS hA (va_runV (As := [.int (zI (xI xs (i + 1))), .int (zI (xI xs (i + 2)))]) (rest := []) hC (c_X10_dropOf l D τ β (gM cI cB) h sv sl9 tk cd mn mi mc mq mr mw ct9 ln9 mt ma mx mh (xI xs (i + 1)) (xI xs (i + 2)) (xI_b xs _) (xI_b xs _) hh _) (cwV 2 hts (gV hB wl_L_246 wn_X10_dropOf ws_X10_dropOf wi_X10 wc_X10_dropOf) rfl rfl rfl hd_X10_dropOf ⟨Nat.le_of_ble_eq_true rfl, Nat.le_of_ble_eq_true rfl⟩) (zp_V hKm (zPc hP) (zDc hD) hS hA hG (ci := 10) (q0 := 0) rfl rfl rfl) rfl rfl hl.1 rfl (lv_room (Nat.le_of_ble_eq_true rfl)) dL_law_1646 ⟨by show _ ≤ 1083; omega, by show _ ≤ 10672; omega⟩) (fun r w1 H locs hq9 hP hD hS => ?_)
    obtain ⟨t2m, vm, hm0, hm1, rfl, rfl⟩ := hq9
    have hP := zPswap hP
    have hD := zDswap hD
    refine lv_istore (lv' := [(6, .int (zI vm)), (5, .int (zI 1)), (0, .ref b), (1, .ref (α 0)), (2, .ref (β 0)), (3, .ref o), (4, .int (zI i))]) hx hb dL_law_1649 hl (by decide) rfl (fun ls hl => ?_)
    refine lv_aload_n hx hb dL_law_1651 rfl (lv_at hl 4 rfl) ?_
    have hP := zPswap hP
    have hD := zDswap hD
    refine zfw_calli (mc := 0) (ms := 0)  hP hD hS hA (va_runV (As := []) (rest := []) hC (c_X10_thrown l D τ β (gM cI cB) _ _ _ _ _ _ _ _ _ _ _ _ _ _ _ _ _ _) (cwV 0 hts (gV hB wl_L_145 wn_X10_thrown ws_X10_thrown wi_X10 wc_X10_thrown) rfl rfl rfl hd_X10_thrown ⟨Nat.le_of_ble_eq_true rfl, Nat.le_of_ble_eq_true rfl⟩) (zp_V hKm (zPc hP) (zDc hD) hS hA hG (ci := 10) (q0 := 0) rfl rfl rfl) rfl rfl hl.1 rfl (lv_room (Nat.le_of_ble_eq_true rfl)) dL_law_1652 ⟨by show _ ≤ 1083; omega, by show _ ≤ 10672; omega⟩) (fun r w1 H locs hq9 hP hD hS => ?_)
    obtain ⟨vt, ht0, rfl, rfl⟩ := hq9
    have hP := zPswap hP
    have hD := zDswap hD
    refine lv_iload hx hb dL_law_1655 (lv_at hl 1 rfl) ?_
    have heq_1657 : vt = 1 := by rw [ht0, hm0, hx9]
    refine z_iceqE (tgt := 1662) hx hb heq_1657 dL_law_1657 (by decide) ?_
    refine lv_iload hx hb dL_law_1662 (lv_at hl 1 rfl) ?_
    refine z_ifne (tgt := 1679) hx hb ⟨by omega, by omega⟩ dL_law_1664 (by decide) (fun c_1664 => ?_) (fun c_1664 => absurd c_1664 (by decide))
    refine lv_goto (tgt := 2893) hx hb dL_law_1679 (by decide) ?_
    refine W.widen (k := cells + 2) (n := slots + 12) (by omega) (by omega) ?_
    exact hk _ _ _ _ _ _ _ _ _ _ _ _ _ _ _ _ _ _ _ _ _ _ _ _ _ _ _ _ _ _ _ H locs ls (hI) hP hD hS (lv_sub hl [2, 3, 4, 5, 6] rfl)
set_option maxHeartbeats 4000000 in
set_option maxRecDepth 100000 in
theorem law_1682 {p : Program} {l : Launch} {e : Env} {s : State} {m : MethodId} {below : List Frame} {meth : Method} {c : Code} {Q : State → Prop} {D : va_G} {τ : Nat → Nat} {A : Nat → Prop} {α β : Nat → Nat} {cI cB cL : ClassId} {o b L : Nat} {xs : Nat → Int32} {i : Int} {cells slots : Nat} (hX : LCx p l s m c D τ A cI cB cL b L xs) (hi : 0 ≤ i ∧ i + 6 ≤ L) (hc : cells + 2 ≤ 1083 ∧ slots + 12 ≤ 10672)
    (hk : LSt p l e s m below meth c Q D A α β cI cB cL o b i 2893 (cells + 2) (slots + 12)) : LSt p l e s m below meth c Q D A α β cI cB cL o b i 1682 cells slots := by
  obtain ⟨hC, hKm, hKo, hKh, hG, hA, hGX, hst, hXs, hbl, hbA, hL⟩ := hX
  intro h old ch rg ln sl pd ct sg cd ln9 pl le ro co nu sv sl9 tk ct9 mn mi mc mq mr mw mt ma mx mh fo H locs ls hI hP hD hS hl
  obtain ⟨rg0, rg1⟩ := rg
  obtain ⟨ln_0, ln_1, ln_2, ln_3, ln_4, ln_5, ln_6, ln_7, ln_8, ln_9⟩ := ln
  obtain ⟨sl_0, sl_1, sl_2⟩ := sl
  obtain ⟨pd0, pd1⟩ := pd
  obtain ⟨ct_0, ct_1⟩ := ct
  have hx := hC.1
  have hb := hC.2.1
  have hml := hC.2.2.1
  have hts := hC.2.2.2.2
  have hB : ∀ w ∈ W0, w ∈ W0 := fun _ h => h
  have hh := hI.1
  have hct := hI.2.2.2.1
  have hln := hI.2.2.2.2.1
  have hmf := hI.2.2.2.2.2.1
  have hov := hI.2.2.2.2.2.2
  have hcd : ∀ k, 0 ≤ k → k < ln9 → 0 ≤ cd k ∧ cd k ≤ 126 := fun k a b => by have z := hmf k a b; omega
  have hP : va_P D vwCl ((wM β (gM cI cB) h sv sl9 tk cd mn mi mc mq mr mw ct9 ln9 mt ma mx mh) ++ (oC cL o fo ++ (wH α (gH cI cB) (h, old, ch) (rg0, rg1) (ln_0, ln_1, ln_2, ln_3, ln_4, ln_5, ln_6, ln_7, ln_8, ln_9) (sl_0, sl_1, sl_2) (pd0, pd1) (ct_0, ct_1) sg (cd, ln9, pl, le, ro, co, nu) (sv, sl9, tk, ct9)))) H := hP
  have hD : va_D A ((wM β (gM cI cB) h sv sl9 tk cd mn mi mc mq mr mw ct9 ln9 mt ma mx mh) ++ (oC cL o fo ++ (wH α (gH cI cB) (h, old, ch) (rg0, rg1) (ln_0, ln_1, ln_2, ln_3, ln_4, ln_5, ln_6, ln_7, ln_8, ln_9) (sl_0, sl_1, sl_2) (pd0, pd1) (ct_0, ct_1) sg (cd, ln9, pl, le, ro, co, nu) (sv, sl9, tk, ct9)))) := hD
  refine lv_aload_n hx hb dL_law_1682 rfl (lv_at hl 1 rfl) ?_
  refine lv_aload_n hx hb dL_law_1683 rfl (lv_at hl 0 rfl) ?_
  refine lv_iload hx hb dL_law_1684 (lv_at hl 4 rfl) ?_
  refine lv_iconst (v := zI 1) hx hb dL_law_1686 rfl ?_
  refine z_iadd hx hb dL_law_1687 ?_
  refine z_sld hx hb hXs hbl hbA hS ⟨⟨by omega, by omega⟩, hL⟩ dL_law_1688 ?_
  refine lv_aload_n hx hb dL_law_1689 rfl (lv_at hl 0 rfl) ?_
  refine lv_iload hx hb dL_law_1690 (lv_at hl 4 rfl) ?_
  refine lv_iconst (v := zI 2) hx hb dL_law_1692 rfl ?_
  refine z_iadd hx hb dL_law_1693 ?_
  refine z_sld hx hb hXs hbl hbA hS ⟨⟨by omega, by omega⟩, hL⟩ dL_law_1694 ?_
  refine lv_aload_n hx hb dL_law_1695 rfl (lv_at hl 3 rfl) ?_
  refine zfw_calli (mc := 1) (ms := 6) (wr := (wM β (gM cI cB) h sv sl9 tk cd mn mi mc mq mr mw ct9 ln9 mt ma mx mh)) (wc := oC cL o fo ++ (wH α (gH cI cB) (h, old, ch) (rg0, rg1) (ln_0, ln_1, ln_2, ln_3, ln_4, ln_5, ln_6, ln_7, ln_8, ln_9) (sl_0, sl_1, sl_2) (pd0, pd1) (ct_0, ct_1) sg (cd, ln9, pl, le, ro, co, nu) (sv, sl9, tk, ct9))) hP hD hS hA (vx_runSW (As := [.ref (α 0), .int (zI (xI xs (i + 1))), .int (zI (xI xs (i + 2))), .ref o]) (rest := []) hC (c_L_sinkOf l D τ α (gH cI cB) h old ch (rg0, rg1) (ln_0, ln_1, ln_2, ln_3, ln_4, ln_5, ln_6, ln_7, ln_8, ln_9) sl_0 sl_1 sl_2 (pd0, pd1) (ct_0, ct_1) sg (cd, ln9, pl, le, ro, co, nu) (sv, sl9, tk, ct9) (xI xs (i + 1)) (xI xs (i + 2)) (xI_b xs _) (xI_b xs _) hh hst cL o fo _) (vx_cwSW 4 hts (gSW hB wl_L_247 wt_L_sinkOf wi_L wc_L_sinkOf) rfl rfl rfl hd_L_sinkOf.2 ⟨Nat.le_of_ble_eq_true rfl, Nat.le_of_ble_eq_true rfl⟩) (zpX_S hKo (zPc hP) (zDc hD) hS hA hG hGX) rfl rfl hl.1 rfl (lv_room (Nat.le_of_ble_eq_true rfl)) dL_law_1696 ⟨by show _ ≤ 1083; omega, by show _ ≤ 10672; omega⟩) (fun r w1 H locs hq9 hP hD hS => ?_)
  rcases hq9 with hq9 | hq9
  · skip
    obtain ⟨n2c, d2c, vc, go, hf0, hf1, hgo, rfl, rfl⟩ := hq9
    refine lv_istore (lv' := [(5, .int (zI 0)), (0, .ref b), (1, .ref (α 0)), (2, .ref (β 0)), (3, .ref o), (4, .int (zI i))]) hx hb dL_law_1699 hl (by decide) rfl (fun ls hl => ?_)
    refine lv_aload_n hx hb dL_law_1701 rfl (lv_at hl 3 rfl) ?_
    refine lv_aload_n hx hb dL_law_1702 rfl (lv_at hl 1 rfl) ?_
    refine lv_iload hx hb dL_law_1703 (lv_at hl 5 rfl) ?_
    refine lv_iconst (v := zI 1) hx hb dL_law_1705 rfl ?_
    refine z_iadd hx hb dL_law_1706 ?_
    refine z_sld hx hb hXs hbl hbA hS ⟨⟨by omega, by omega⟩, hL⟩ dL_law_1707 ?_
    refine lv_aload_n hx hb dL_law_1708 rfl (lv_at hl 1 rfl) ?_
    refine lv_iload hx hb dL_law_1709 (lv_at hl 5 rfl) ?_
    refine lv_iconst (v := zI 2) hx hb dL_law_1711 rfl ?_
    refine z_iadd hx hb dL_law_1712 ?_
    refine z_sld hx hb hXs hbl hbA hS ⟨⟨by omega, by omega⟩, hL⟩ dL_law_1713 ?_
    have hP := zPswap hP
    have hD := zDswap hD
    refine zfw_calli (mc := 0) (ms := 0)  hP hD hS hA (va_runV (As := [.int (zI (xI xs (i + 1))), .int (zI (xI xs (i + 2)))]) (rest := []) hC (c_X10_sinkOf l D τ β (gM cI cB) h sv sl9 tk cd mn mi mc mq mr mw ct9 ln9 mt ma mx mh (xI xs (i + 1)) (xI xs (i + 2)) (xI_b xs _) (xI_b xs _) hh _) (cwV 2 hts (gV hB wl_L_249 wn_X10_sinkOf ws_X10_sinkOf wi_X10 wc_X10_sinkOf) rfl rfl rfl hd_X10_sinkOf ⟨Nat.le_of_ble_eq_true rfl, Nat.le_of_ble_eq_true rfl⟩) (zp_V hKm (zPc hP) (zDc hD) hS hA hG (ci := 10) (q0 := 0) rfl rfl rfl) rfl rfl hl.1 rfl (lv_room (Nat.le_of_ble_eq_true rfl)) dL_law_1714 ⟨by show _ ≤ 1083; omega, by show _ ≤ 10672; omega⟩) (fun r w1 H locs hq9 hP hD hS => ?_)
    obtain ⟨t2m, vm, hm0, hm1, rfl, rfl⟩ := hq9
    have hP := zPswap hP
    have hD := zDswap hD
    refine lv_istore (lv' := [(6, .int (zI vm)), (5, .int (zI 0)), (0, .ref b), (1, .ref (α 0)), (2, .ref (β 0)), (3, .ref o), (4, .int (zI i))]) hx hb dL_law_1717 hl (by decide) rfl (fun ls hl => ?_)
    refine lv_aload_n hx hb dL_law_1719 rfl (lv_at hl 4 rfl) ?_
    have hP := zPswap hP
    have hD := zDswap hD
    refine zfw_calli (mc := 0) (ms := 0)  hP hD hS hA (va_runV (As := []) (rest := []) hC (c_X10_thrown l D τ β (gM cI cB) _ _ _ _ _ _ _ _ _ _ _ _ _ _ _ _ _ _) (cwV 0 hts (gV hB wl_L_145 wn_X10_thrown ws_X10_thrown wi_X10 wc_X10_thrown) rfl rfl rfl hd_X10_thrown ⟨Nat.le_of_ble_eq_true rfl, Nat.le_of_ble_eq_true rfl⟩) (zp_V hKm (zPc hP) (zDc hD) hS hA hG (ci := 10) (q0 := 0) rfl rfl rfl) rfl rfl hl.1 rfl (lv_room (Nat.le_of_ble_eq_true rfl)) dL_law_1720 ⟨by show _ ≤ 1083; omega, by show _ ≤ 10672; omega⟩) (fun r w1 H locs hq9 hP hD hS => ?_)
    obtain ⟨vt, ht0, rfl, rfl⟩ := hq9
    have hP := zPswap hP
    have hD := zDswap hD
    refine lv_iload hx hb dL_law_1723 (lv_at hl 1 rfl) ?_
    have heq_1725 : vt = 0 := by rw [ht0, hm0, hf0]
    refine z_iceqE (tgt := 1730) hx hb heq_1725 dL_law_1725 (by decide) ?_
    refine lv_iload hx hb dL_law_1730 (lv_at hl 1 rfl) ?_
    refine z_ifne (tgt := 1747) hx hb ⟨by omega, by omega⟩ dL_law_1732 (by decide) (fun c_1732 => absurd rfl c_1732) (fun c_1732 => ?_)
    refine lv_aload_n hx hb dL_law_1735 rfl (lv_at hl 5 rfl) ?_
    refine lv_iconst (v := zI 0) hx hb dL_law_1736 rfl ?_
    refine zo_lald hx hb hKo (zPc hP) dL_law_1737 ?_
    refine lv_iload hx hb dL_law_1738 (lv_at hl 0 rfl) ?_
    refine lv_i2l (v := (zI vm).toInt64) hx hb dL_law_1740 rfl ?_
    refine z_lcmpE hx hb (by rw [hgo, hf1, (hm1 (hm0.trans hf0))]) dL_law_1741 ?_
    refine z_ifeq (tgt := 1747) hx hb ⟨by omega, by omega⟩ dL_law_1742 (by decide) (fun c_1742 => ?_) (fun c_1742 => absurd rfl c_1742)
    refine lv_goto (tgt := 2893) hx hb dL_law_1747 (by decide) ?_
    refine W.widen (k := cells + 2) (n := slots + 12) (by omega) (by omega) ?_
    exact hk _ _ _ _ _ _ _ _ _ _ _ _ _ _ _ _ _ _ _ _ _ _ _ _ _ _ _ _ _ _ _ H locs ls (hI) hP hD hS (lv_sub hl [2, 3, 4, 5, 6] rfl)
  · skip
    obtain ⟨hx9, rfl, rfl⟩ := hq9
    refine lv_istore (lv' := [(5, .int (zI 1)), (0, .ref b), (1, .ref (α 0)), (2, .ref (β 0)), (3, .ref o), (4, .int (zI i))]) hx hb dL_law_1699 hl (by decide) rfl (fun ls hl => ?_)
    refine lv_aload_n hx hb dL_law_1701 rfl (lv_at hl 3 rfl) ?_
    refine lv_aload_n hx hb dL_law_1702 rfl (lv_at hl 1 rfl) ?_
    refine lv_iload hx hb dL_law_1703 (lv_at hl 5 rfl) ?_
    refine lv_iconst (v := zI 1) hx hb dL_law_1705 rfl ?_
    refine z_iadd hx hb dL_law_1706 ?_
    refine z_sld hx hb hXs hbl hbA hS ⟨⟨by omega, by omega⟩, hL⟩ dL_law_1707 ?_
    refine lv_aload_n hx hb dL_law_1708 rfl (lv_at hl 1 rfl) ?_
    refine lv_iload hx hb dL_law_1709 (lv_at hl 5 rfl) ?_
    refine lv_iconst (v := zI 2) hx hb dL_law_1711 rfl ?_
    refine z_iadd hx hb dL_law_1712 ?_
    refine z_sld hx hb hXs hbl hbA hS ⟨⟨by omega, by omega⟩, hL⟩ dL_law_1713 ?_
    have hP := zPswap hP
    have hD := zDswap hD
    refine zfw_calli (mc := 0) (ms := 0)  hP hD hS hA (va_runV (As := [.int (zI (xI xs (i + 1))), .int (zI (xI xs (i + 2)))]) (rest := []) hC (c_X10_sinkOf l D τ β (gM cI cB) h sv sl9 tk cd mn mi mc mq mr mw ct9 ln9 mt ma mx mh (xI xs (i + 1)) (xI xs (i + 2)) (xI_b xs _) (xI_b xs _) hh _) (cwV 2 hts (gV hB wl_L_249 wn_X10_sinkOf ws_X10_sinkOf wi_X10 wc_X10_sinkOf) rfl rfl rfl hd_X10_sinkOf ⟨Nat.le_of_ble_eq_true rfl, Nat.le_of_ble_eq_true rfl⟩) (zp_V hKm (zPc hP) (zDc hD) hS hA hG (ci := 10) (q0 := 0) rfl rfl rfl) rfl rfl hl.1 rfl (lv_room (Nat.le_of_ble_eq_true rfl)) dL_law_1714 ⟨by show _ ≤ 1083; omega, by show _ ≤ 10672; omega⟩) (fun r w1 H locs hq9 hP hD hS => ?_)
    obtain ⟨t2m, vm, hm0, hm1, rfl, rfl⟩ := hq9
    have hP := zPswap hP
    have hD := zDswap hD
    refine lv_istore (lv' := [(6, .int (zI vm)), (5, .int (zI 1)), (0, .ref b), (1, .ref (α 0)), (2, .ref (β 0)), (3, .ref o), (4, .int (zI i))]) hx hb dL_law_1717 hl (by decide) rfl (fun ls hl => ?_)
    refine lv_aload_n hx hb dL_law_1719 rfl (lv_at hl 4 rfl) ?_
    have hP := zPswap hP
    have hD := zDswap hD
    refine zfw_calli (mc := 0) (ms := 0)  hP hD hS hA (va_runV (As := []) (rest := []) hC (c_X10_thrown l D τ β (gM cI cB) _ _ _ _ _ _ _ _ _ _ _ _ _ _ _ _ _ _) (cwV 0 hts (gV hB wl_L_145 wn_X10_thrown ws_X10_thrown wi_X10 wc_X10_thrown) rfl rfl rfl hd_X10_thrown ⟨Nat.le_of_ble_eq_true rfl, Nat.le_of_ble_eq_true rfl⟩) (zp_V hKm (zPc hP) (zDc hD) hS hA hG (ci := 10) (q0 := 0) rfl rfl rfl) rfl rfl hl.1 rfl (lv_room (Nat.le_of_ble_eq_true rfl)) dL_law_1720 ⟨by show _ ≤ 1083; omega, by show _ ≤ 10672; omega⟩) (fun r w1 H locs hq9 hP hD hS => ?_)
    obtain ⟨vt, ht0, rfl, rfl⟩ := hq9
    have hP := zPswap hP
    have hD := zDswap hD
    refine lv_iload hx hb dL_law_1723 (lv_at hl 1 rfl) ?_
    have heq_1725 : vt = 1 := by rw [ht0, hm0, hx9]
    refine z_iceqE (tgt := 1730) hx hb heq_1725 dL_law_1725 (by decide) ?_
    refine lv_iload hx hb dL_law_1730 (lv_at hl 1 rfl) ?_
    refine z_ifne (tgt := 1747) hx hb ⟨by omega, by omega⟩ dL_law_1732 (by decide) (fun c_1732 => ?_) (fun c_1732 => absurd c_1732 (by decide))
    refine lv_goto (tgt := 2893) hx hb dL_law_1747 (by decide) ?_
    refine W.widen (k := cells + 2) (n := slots + 12) (by omega) (by omega) ?_
    exact hk _ _ _ _ _ _ _ _ _ _ _ _ _ _ _ _ _ _ _ _ _ _ _ _ _ _ _ _ _ _ _ H locs ls (hI) hP hD hS (lv_sub hl [2, 3, 4, 5, 6] rfl)
set_option maxHeartbeats 4000000 in
set_option maxRecDepth 100000 in
theorem law_1750 {p : Program} {l : Launch} {e : Env} {s : State} {m : MethodId} {below : List Frame} {meth : Method} {c : Code} {Q : State → Prop} {D : va_G} {τ : Nat → Nat} {A : Nat → Prop} {α β : Nat → Nat} {cI cB cL : ClassId} {o b L : Nat} {xs : Nat → Int32} {i : Int} {cells slots : Nat} (hX : LCx p l s m c D τ A cI cB cL b L xs) (hi : 0 ≤ i ∧ i + 6 ≤ L) (hc : cells + 2 ≤ 1083 ∧ slots + 12 ≤ 10672)
    (hk : LSt p l e s m below meth c Q D A α β cI cB cL o b i 2893 (cells + 2) (slots + 12)) : LSt p l e s m below meth c Q D A α β cI cB cL o b i 1750 cells slots := by
  obtain ⟨hC, hKm, hKo, hKh, hG, hA, hGX, hst, hXs, hbl, hbA, hL⟩ := hX
  intro h old ch rg ln sl pd ct sg cd ln9 pl le ro co nu sv sl9 tk ct9 mn mi mc mq mr mw mt ma mx mh fo H locs ls hI hP hD hS hl
  obtain ⟨rg0, rg1⟩ := rg
  obtain ⟨ln_0, ln_1, ln_2, ln_3, ln_4, ln_5, ln_6, ln_7, ln_8, ln_9⟩ := ln
  obtain ⟨sl_0, sl_1, sl_2⟩ := sl
  obtain ⟨pd0, pd1⟩ := pd
  obtain ⟨ct_0, ct_1⟩ := ct
  have hx := hC.1
  have hb := hC.2.1
  have hml := hC.2.2.1
  have hts := hC.2.2.2.2
  have hB : ∀ w ∈ W0, w ∈ W0 := fun _ h => h
  have hh := hI.1
  have hct := hI.2.2.2.1
  have hln := hI.2.2.2.2.1
  have hmf := hI.2.2.2.2.2.1
  have hov := hI.2.2.2.2.2.2
  have hcd : ∀ k, 0 ≤ k → k < ln9 → 0 ≤ cd k ∧ cd k ≤ 126 := fun k a b => by have z := hmf k a b; omega
  have hP : va_P D vwCl ((wM β (gM cI cB) h sv sl9 tk cd mn mi mc mq mr mw ct9 ln9 mt ma mx mh) ++ (oC cL o fo ++ (wH α (gH cI cB) (h, old, ch) (rg0, rg1) (ln_0, ln_1, ln_2, ln_3, ln_4, ln_5, ln_6, ln_7, ln_8, ln_9) (sl_0, sl_1, sl_2) (pd0, pd1) (ct_0, ct_1) sg (cd, ln9, pl, le, ro, co, nu) (sv, sl9, tk, ct9)))) H := hP
  have hD : va_D A ((wM β (gM cI cB) h sv sl9 tk cd mn mi mc mq mr mw ct9 ln9 mt ma mx mh) ++ (oC cL o fo ++ (wH α (gH cI cB) (h, old, ch) (rg0, rg1) (ln_0, ln_1, ln_2, ln_3, ln_4, ln_5, ln_6, ln_7, ln_8, ln_9) (sl_0, sl_1, sl_2) (pd0, pd1) (ct_0, ct_1) sg (cd, ln9, pl, le, ro, co, nu) (sv, sl9, tk, ct9)))) := hD
  refine lv_aload_n hx hb dL_law_1750 rfl (lv_at hl 1 rfl) ?_
  refine lv_aload_n hx hb dL_law_1751 rfl (lv_at hl 0 rfl) ?_
  refine lv_iload hx hb dL_law_1752 (lv_at hl 4 rfl) ?_
  refine lv_iconst (v := zI 1) hx hb dL_law_1754 rfl ?_
  refine z_iadd hx hb dL_law_1755 ?_
  refine z_sld hx hb hXs hbl hbA hS ⟨⟨by omega, by omega⟩, hL⟩ dL_law_1756 ?_
  refine lv_aload_n hx hb dL_law_1757 rfl (lv_at hl 0 rfl) ?_
  refine lv_iload hx hb dL_law_1758 (lv_at hl 4 rfl) ?_
  refine lv_iconst (v := zI 2) hx hb dL_law_1760 rfl ?_
  refine z_iadd hx hb dL_law_1761 ?_
  refine z_sld hx hb hXs hbl hbA hS ⟨⟨by omega, by omega⟩, hL⟩ dL_law_1762 ?_
  refine lv_aload_n hx hb dL_law_1763 rfl (lv_at hl 3 rfl) ?_
  refine zfw_calli (mc := 1) (ms := 6) (wr := (wM β (gM cI cB) h sv sl9 tk cd mn mi mc mq mr mw ct9 ln9 mt ma mx mh)) (wc := oC cL o fo ++ (wH α (gH cI cB) (h, old, ch) (rg0, rg1) (ln_0, ln_1, ln_2, ln_3, ln_4, ln_5, ln_6, ln_7, ln_8, ln_9) (sl_0, sl_1, sl_2) (pd0, pd1) (ct_0, ct_1) sg (cd, ln9, pl, le, ro, co, nu) (sv, sl9, tk, ct9))) hP hD hS hA (vx_runSW (As := [.ref (α 0), .int (zI (xI xs (i + 1))), .int (zI (xI xs (i + 2))), .ref o]) (rest := []) hC (c_L_basinByFollowing l D τ α (gH cI cB) h old ch (rg0, rg1) (ln_0, ln_1, ln_2, ln_3, ln_4, ln_5, ln_6, ln_7, ln_8, ln_9) sl_0 sl_1 sl_2 (pd0, pd1) (ct_0, ct_1) sg (cd, ln9, pl, le, ro, co, nu) (sv, sl9, tk, ct9) (xI xs (i + 1)) (xI xs (i + 2)) (xI_b xs _) (xI_b xs _) hh hst cL o fo _) (vx_cwSW 4 hts (gSW hB wl_L_250 wt_L_basinByFollowing wi_L wc_L_basinByFollowing) rfl rfl rfl hd_L_basinByFollowing.2 ⟨Nat.le_of_ble_eq_true rfl, Nat.le_of_ble_eq_true rfl⟩) (zpX_S hKo (zPc hP) (zDc hD) hS hA hG hGX) rfl rfl hl.1 rfl (lv_room (Nat.le_of_ble_eq_true rfl)) dL_law_1764 ⟨by show _ ≤ 1083; omega, by show _ ≤ 10672; omega⟩) (fun r w1 H locs hq9 hP hD hS => ?_)
  rcases hq9 with hq9 | hq9
  · skip
    obtain ⟨n2c, d2c, vc, go, hf0, hf1, hgo, rfl, rfl⟩ := hq9
    refine lv_istore (lv' := [(5, .int (zI 0)), (0, .ref b), (1, .ref (α 0)), (2, .ref (β 0)), (3, .ref o), (4, .int (zI i))]) hx hb dL_law_1767 hl (by decide) rfl (fun ls hl => ?_)
    refine lv_aload_n hx hb dL_law_1769 rfl (lv_at hl 3 rfl) ?_
    refine lv_aload_n hx hb dL_law_1770 rfl (lv_at hl 1 rfl) ?_
    refine lv_iload hx hb dL_law_1771 (lv_at hl 5 rfl) ?_
    refine lv_iconst (v := zI 1) hx hb dL_law_1773 rfl ?_
    refine z_iadd hx hb dL_law_1774 ?_
    refine z_sld hx hb hXs hbl hbA hS ⟨⟨by omega, by omega⟩, hL⟩ dL_law_1775 ?_
    refine lv_aload_n hx hb dL_law_1776 rfl (lv_at hl 1 rfl) ?_
    refine lv_iload hx hb dL_law_1777 (lv_at hl 5 rfl) ?_
    refine lv_iconst (v := zI 2) hx hb dL_law_1779 rfl ?_
    refine z_iadd hx hb dL_law_1780 ?_
    refine z_sld hx hb hXs hbl hbA hS ⟨⟨by omega, by omega⟩, hL⟩ dL_law_1781 ?_
    have hP := zPswap hP
    have hD := zDswap hD
    refine zfw_calli (mc := 0) (ms := 0)  hP hD hS hA (va_runV (As := [.int (zI (xI xs (i + 1))), .int (zI (xI xs (i + 2)))]) (rest := []) hC (c_X10_basinByFollowing l D τ β (gM cI cB) h sv sl9 tk cd mn mi mc mq mr mw ct9 ln9 mt ma mx mh (xI xs (i + 1)) (xI xs (i + 2)) (xI_b xs _) (xI_b xs _) hh _) (cwV 2 hts (gV hB wl_L_252 wn_X10_basinByFollowing ws_X10_basinByFollowing wi_X10 wc_X10_basinByFollowing) rfl rfl rfl hd_X10_basinByFollowing ⟨Nat.le_of_ble_eq_true rfl, Nat.le_of_ble_eq_true rfl⟩) (zp_V hKm (zPc hP) (zDc hD) hS hA hG (ci := 10) (q0 := 0) rfl rfl rfl) rfl rfl hl.1 rfl (lv_room (Nat.le_of_ble_eq_true rfl)) dL_law_1782 ⟨by show _ ≤ 1083; omega, by show _ ≤ 10672; omega⟩) (fun r w1 H locs hq9 hP hD hS => ?_)
    obtain ⟨t2m, vm, hm0, hm1, rfl, rfl⟩ := hq9
    have hP := zPswap hP
    have hD := zDswap hD
    refine lv_istore (lv' := [(6, .int (zI vm)), (5, .int (zI 0)), (0, .ref b), (1, .ref (α 0)), (2, .ref (β 0)), (3, .ref o), (4, .int (zI i))]) hx hb dL_law_1785 hl (by decide) rfl (fun ls hl => ?_)
    refine lv_aload_n hx hb dL_law_1787 rfl (lv_at hl 4 rfl) ?_
    have hP := zPswap hP
    have hD := zDswap hD
    refine zfw_calli (mc := 0) (ms := 0)  hP hD hS hA (va_runV (As := []) (rest := []) hC (c_X10_thrown l D τ β (gM cI cB) _ _ _ _ _ _ _ _ _ _ _ _ _ _ _ _ _ _) (cwV 0 hts (gV hB wl_L_145 wn_X10_thrown ws_X10_thrown wi_X10 wc_X10_thrown) rfl rfl rfl hd_X10_thrown ⟨Nat.le_of_ble_eq_true rfl, Nat.le_of_ble_eq_true rfl⟩) (zp_V hKm (zPc hP) (zDc hD) hS hA hG (ci := 10) (q0 := 0) rfl rfl rfl) rfl rfl hl.1 rfl (lv_room (Nat.le_of_ble_eq_true rfl)) dL_law_1788 ⟨by show _ ≤ 1083; omega, by show _ ≤ 10672; omega⟩) (fun r w1 H locs hq9 hP hD hS => ?_)
    obtain ⟨vt, ht0, rfl, rfl⟩ := hq9
    have hP := zPswap hP
    have hD := zDswap hD
    refine lv_iload hx hb dL_law_1791 (lv_at hl 1 rfl) ?_
    have heq_1793 : vt = 0 := by rw [ht0, hm0, hf0]
    refine z_iceqE (tgt := 1798) hx hb heq_1793 dL_law_1793 (by decide) ?_
    refine lv_iload hx hb dL_law_1798 (lv_at hl 1 rfl) ?_
    refine z_ifne (tgt := 1815) hx hb ⟨by omega, by omega⟩ dL_law_1800 (by decide) (fun c_1800 => absurd rfl c_1800) (fun c_1800 => ?_)
    refine lv_aload_n hx hb dL_law_1803 rfl (lv_at hl 5 rfl) ?_
    refine lv_iconst (v := zI 0) hx hb dL_law_1804 rfl ?_
    refine zo_lald hx hb hKo (zPc hP) dL_law_1805 ?_
    refine lv_iload hx hb dL_law_1806 (lv_at hl 0 rfl) ?_
    refine lv_i2l (v := (zI vm).toInt64) hx hb dL_law_1808 rfl ?_
    refine z_lcmpE hx hb (by rw [hgo, hf1, (hm1 (hm0.trans hf0))]) dL_law_1809 ?_
    refine z_ifeq (tgt := 1815) hx hb ⟨by omega, by omega⟩ dL_law_1810 (by decide) (fun c_1810 => ?_) (fun c_1810 => absurd rfl c_1810)
    refine lv_goto (tgt := 2893) hx hb dL_law_1815 (by decide) ?_
    refine W.widen (k := cells + 2) (n := slots + 12) (by omega) (by omega) ?_
    exact hk _ _ _ _ _ _ _ _ _ _ _ _ _ _ _ _ _ _ _ _ _ _ _ _ _ _ _ _ _ _ _ H locs ls (hI) hP hD hS (lv_sub hl [2, 3, 4, 5, 6] rfl)
  · skip
    obtain ⟨hx9, rfl, rfl⟩ := hq9
    refine lv_istore (lv' := [(5, .int (zI 1)), (0, .ref b), (1, .ref (α 0)), (2, .ref (β 0)), (3, .ref o), (4, .int (zI i))]) hx hb dL_law_1767 hl (by decide) rfl (fun ls hl => ?_)
    refine lv_aload_n hx hb dL_law_1769 rfl (lv_at hl 3 rfl) ?_
    refine lv_aload_n hx hb dL_law_1770 rfl (lv_at hl 1 rfl) ?_
    refine lv_iload hx hb dL_law_1771 (lv_at hl 5 rfl) ?_
    refine lv_iconst (v := zI 1) hx hb dL_law_1773 rfl ?_
    refine z_iadd hx hb dL_law_1774 ?_
    refine z_sld hx hb hXs hbl hbA hS ⟨⟨by omega, by omega⟩, hL⟩ dL_law_1775 ?_
    refine lv_aload_n hx hb dL_law_1776 rfl (lv_at hl 1 rfl) ?_
    refine lv_iload hx hb dL_law_1777 (lv_at hl 5 rfl) ?_
    refine lv_iconst (v := zI 2) hx hb dL_law_1779 rfl ?_
    refine z_iadd hx hb dL_law_1780 ?_
    refine z_sld hx hb hXs hbl hbA hS ⟨⟨by omega, by omega⟩, hL⟩ dL_law_1781 ?_
    have hP := zPswap hP
    have hD := zDswap hD
    refine zfw_calli (mc := 0) (ms := 0)  hP hD hS hA (va_runV (As := [.int (zI (xI xs (i + 1))), .int (zI (xI xs (i + 2)))]) (rest := []) hC (c_X10_basinByFollowing l D τ β (gM cI cB) h sv sl9 tk cd mn mi mc mq mr mw ct9 ln9 mt ma mx mh (xI xs (i + 1)) (xI xs (i + 2)) (xI_b xs _) (xI_b xs _) hh _) (cwV 2 hts (gV hB wl_L_252 wn_X10_basinByFollowing ws_X10_basinByFollowing wi_X10 wc_X10_basinByFollowing) rfl rfl rfl hd_X10_basinByFollowing ⟨Nat.le_of_ble_eq_true rfl, Nat.le_of_ble_eq_true rfl⟩) (zp_V hKm (zPc hP) (zDc hD) hS hA hG (ci := 10) (q0 := 0) rfl rfl rfl) rfl rfl hl.1 rfl (lv_room (Nat.le_of_ble_eq_true rfl)) dL_law_1782 ⟨by show _ ≤ 1083; omega, by show _ ≤ 10672; omega⟩) (fun r w1 H locs hq9 hP hD hS => ?_)
    obtain ⟨t2m, vm, hm0, hm1, rfl, rfl⟩ := hq9
    have hP := zPswap hP
    have hD := zDswap hD
    refine lv_istore (lv' := [(6, .int (zI vm)), (5, .int (zI 1)), (0, .ref b), (1, .ref (α 0)), (2, .ref (β 0)), (3, .ref o), (4, .int (zI i))]) hx hb dL_law_1785 hl (by decide) rfl (fun ls hl => ?_)
    refine lv_aload_n hx hb dL_law_1787 rfl (lv_at hl 4 rfl) ?_
    have hP := zPswap hP
    have hD := zDswap hD
    refine zfw_calli (mc := 0) (ms := 0)  hP hD hS hA (va_runV (As := []) (rest := []) hC (c_X10_thrown l D τ β (gM cI cB) _ _ _ _ _ _ _ _ _ _ _ _ _ _ _ _ _ _) (cwV 0 hts (gV hB wl_L_145 wn_X10_thrown ws_X10_thrown wi_X10 wc_X10_thrown) rfl rfl rfl hd_X10_thrown ⟨Nat.le_of_ble_eq_true rfl, Nat.le_of_ble_eq_true rfl⟩) (zp_V hKm (zPc hP) (zDc hD) hS hA hG (ci := 10) (q0 := 0) rfl rfl rfl) rfl rfl hl.1 rfl (lv_room (Nat.le_of_ble_eq_true rfl)) dL_law_1788 ⟨by show _ ≤ 1083; omega, by show _ ≤ 10672; omega⟩) (fun r w1 H locs hq9 hP hD hS => ?_)
    obtain ⟨vt, ht0, rfl, rfl⟩ := hq9
    have hP := zPswap hP
    have hD := zDswap hD
    refine lv_iload hx hb dL_law_1791 (lv_at hl 1 rfl) ?_
    have heq_1793 : vt = 1 := by rw [ht0, hm0, hx9]
    refine z_iceqE (tgt := 1798) hx hb heq_1793 dL_law_1793 (by decide) ?_
    refine lv_iload hx hb dL_law_1798 (lv_at hl 1 rfl) ?_
    refine z_ifne (tgt := 1815) hx hb ⟨by omega, by omega⟩ dL_law_1800 (by decide) (fun c_1800 => ?_) (fun c_1800 => absurd c_1800 (by decide))
    refine lv_goto (tgt := 2893) hx hb dL_law_1815 (by decide) ?_
    refine W.widen (k := cells + 2) (n := slots + 12) (by omega) (by omega) ?_
    exact hk _ _ _ _ _ _ _ _ _ _ _ _ _ _ _ _ _ _ _ _ _ _ _ _ _ _ _ _ _ _ _ H locs ls (hI) hP hD hS (lv_sub hl [2, 3, 4, 5, 6] rfl)
set_option maxHeartbeats 4000000 in
set_option maxRecDepth 100000 in
theorem law_1818 {p : Program} {l : Launch} {e : Env} {s : State} {m : MethodId} {below : List Frame} {meth : Method} {c : Code} {Q : State → Prop} {D : va_G} {τ : Nat → Nat} {A : Nat → Prop} {α β : Nat → Nat} {cI cB cL : ClassId} {o b L : Nat} {xs : Nat → Int32} {i : Int} {cells slots : Nat} (hX : LCx p l s m c D τ A cI cB cL b L xs) (hi : 0 ≤ i ∧ i + 6 ≤ L) (hc : cells + 2 ≤ 1083 ∧ slots + 12 ≤ 10672)
    (hk : LSt p l e s m below meth c Q D A α β cI cB cL o b i 2893 (cells + 2) (slots + 12)) : LSt p l e s m below meth c Q D A α β cI cB cL o b i 1818 cells slots := by
  obtain ⟨hC, hKm, hKo, hKh, hG, hA, hGX, hst, hXs, hbl, hbA, hL⟩ := hX
  intro h old ch rg ln sl pd ct sg cd ln9 pl le ro co nu sv sl9 tk ct9 mn mi mc mq mr mw mt ma mx mh fo H locs ls hI hP hD hS hl
  obtain ⟨rg0, rg1⟩ := rg
  obtain ⟨ln_0, ln_1, ln_2, ln_3, ln_4, ln_5, ln_6, ln_7, ln_8, ln_9⟩ := ln
  obtain ⟨sl_0, sl_1, sl_2⟩ := sl
  obtain ⟨pd0, pd1⟩ := pd
  obtain ⟨ct_0, ct_1⟩ := ct
  have hx := hC.1
  have hb := hC.2.1
  have hml := hC.2.2.1
  have hts := hC.2.2.2.2
  have hB : ∀ w ∈ W0, w ∈ W0 := fun _ h => h
  have hh := hI.1
  have hct := hI.2.2.2.1
  have hln := hI.2.2.2.2.1
  have hmf := hI.2.2.2.2.2.1
  have hov := hI.2.2.2.2.2.2
  have hcd : ∀ k, 0 ≤ k → k < ln9 → 0 ≤ cd k ∧ cd k ≤ 126 := fun k a b => by have z := hmf k a b; omega
  have hP : va_P D vwCl ((wM β (gM cI cB) h sv sl9 tk cd mn mi mc mq mr mw ct9 ln9 mt ma mx mh) ++ (oC cL o fo ++ (wH α (gH cI cB) (h, old, ch) (rg0, rg1) (ln_0, ln_1, ln_2, ln_3, ln_4, ln_5, ln_6, ln_7, ln_8, ln_9) (sl_0, sl_1, sl_2) (pd0, pd1) (ct_0, ct_1) sg (cd, ln9, pl, le, ro, co, nu) (sv, sl9, tk, ct9)))) H := hP
  have hD : va_D A ((wM β (gM cI cB) h sv sl9 tk cd mn mi mc mq mr mw ct9 ln9 mt ma mx mh) ++ (oC cL o fo ++ (wH α (gH cI cB) (h, old, ch) (rg0, rg1) (ln_0, ln_1, ln_2, ln_3, ln_4, ln_5, ln_6, ln_7, ln_8, ln_9) (sl_0, sl_1, sl_2) (pd0, pd1) (ct_0, ct_1) sg (cd, ln9, pl, le, ro, co, nu) (sv, sl9, tk, ct9)))) := hD
  refine lv_aload_n hx hb dL_law_1818 rfl (lv_at hl 1 rfl) ?_
  refine lv_aload_n hx hb dL_law_1819 rfl (lv_at hl 0 rfl) ?_
  refine lv_iload hx hb dL_law_1820 (lv_at hl 4 rfl) ?_
  refine lv_iconst (v := zI 1) hx hb dL_law_1822 rfl ?_
  refine z_iadd hx hb dL_law_1823 ?_
  refine z_sld hx hb hXs hbl hbA hS ⟨⟨by omega, by omega⟩, hL⟩ dL_law_1824 ?_
  refine lv_aload_n hx hb dL_law_1825 rfl (lv_at hl 0 rfl) ?_
  refine lv_iload hx hb dL_law_1826 (lv_at hl 4 rfl) ?_
  refine lv_iconst (v := zI 2) hx hb dL_law_1828 rfl ?_
  refine z_iadd hx hb dL_law_1829 ?_
  refine z_sld hx hb hXs hbl hbA hS ⟨⟨by omega, by omega⟩, hL⟩ dL_law_1830 ?_
  refine lv_aload_n hx hb dL_law_1831 rfl (lv_at hl 3 rfl) ?_
  refine zfw_calli (mc := 1) (ms := 6) (wr := (wM β (gM cI cB) h sv sl9 tk cd mn mi mc mq mr mw ct9 ln9 mt ma mx mh)) (wc := oC cL o fo ++ (wH α (gH cI cB) (h, old, ch) (rg0, rg1) (ln_0, ln_1, ln_2, ln_3, ln_4, ln_5, ln_6, ln_7, ln_8, ln_9) (sl_0, sl_1, sl_2) (pd0, pd1) (ct_0, ct_1) sg (cd, ln9, pl, le, ro, co, nu) (sv, sl9, tk, ct9))) hP hD hS hA (vx_runSW (As := [.ref (α 0), .int (zI (xI xs (i + 1))), .int (zI (xI xs (i + 2))), .ref o]) (rest := []) hC (c_L_basinByGoingUp l D τ α (gH cI cB) h old ch (rg0, rg1) (ln_0, ln_1, ln_2, ln_3, ln_4, ln_5, ln_6, ln_7, ln_8, ln_9) sl_0 sl_1 sl_2 (pd0, pd1) (ct_0, ct_1) sg (cd, ln9, pl, le, ro, co, nu) (sv, sl9, tk, ct9) (xI xs (i + 1)) (xI xs (i + 2)) (xI_b xs _) (xI_b xs _) hh hst cL o fo _) (vx_cwSW 4 hts (gSW hB wl_L_253 wt_L_basinByGoingUp wi_L wc_L_basinByGoingUp) rfl rfl rfl hd_L_basinByGoingUp.2 ⟨Nat.le_of_ble_eq_true rfl, Nat.le_of_ble_eq_true rfl⟩) (zpX_S hKo (zPc hP) (zDc hD) hS hA hG hGX) rfl rfl hl.1 rfl (lv_room (Nat.le_of_ble_eq_true rfl)) dL_law_1832 ⟨by show _ ≤ 1083; omega, by show _ ≤ 10672; omega⟩) (fun r w1 H locs hq9 hP hD hS => ?_)
  rcases hq9 with hq9 | hq9
  · skip
    obtain ⟨n2c, d2c, q2c, vc, go, hf0, hf1, hgo, rfl, rfl⟩ := hq9
    refine lv_istore (lv' := [(5, .int (zI 0)), (0, .ref b), (1, .ref (α 0)), (2, .ref (β 0)), (3, .ref o), (4, .int (zI i))]) hx hb dL_law_1835 hl (by decide) rfl (fun ls hl => ?_)
    refine lv_aload_n hx hb dL_law_1837 rfl (lv_at hl 3 rfl) ?_
    refine lv_aload_n hx hb dL_law_1838 rfl (lv_at hl 1 rfl) ?_
    refine lv_iload hx hb dL_law_1839 (lv_at hl 5 rfl) ?_
    refine lv_iconst (v := zI 1) hx hb dL_law_1841 rfl ?_
    refine z_iadd hx hb dL_law_1842 ?_
    refine z_sld hx hb hXs hbl hbA hS ⟨⟨by omega, by omega⟩, hL⟩ dL_law_1843 ?_
    refine lv_aload_n hx hb dL_law_1844 rfl (lv_at hl 1 rfl) ?_
    refine lv_iload hx hb dL_law_1845 (lv_at hl 5 rfl) ?_
    refine lv_iconst (v := zI 2) hx hb dL_law_1847 rfl ?_
    refine z_iadd hx hb dL_law_1848 ?_
    refine z_sld hx hb hXs hbl hbA hS ⟨⟨by omega, by omega⟩, hL⟩ dL_law_1849 ?_
    have hP := zPswap hP
    have hD := zDswap hD
    refine zfw_calli (mc := 0) (ms := 0)  hP hD hS hA (va_runV (As := [.int (zI (xI xs (i + 1))), .int (zI (xI xs (i + 2)))]) (rest := []) hC (c_X10_basinByGoingUp l D τ β (gM cI cB) h sv sl9 tk cd mn mi mc mq mr mw ct9 ln9 mt ma mx mh (xI xs (i + 1)) (xI xs (i + 2)) (xI_b xs _) (xI_b xs _) hh _) (cwV 2 hts (gV hB wl_L_255 wn_X10_basinByGoingUp ws_X10_basinByGoingUp wi_X10 wc_X10_basinByGoingUp) rfl rfl rfl hd_X10_basinByGoingUp ⟨Nat.le_of_ble_eq_true rfl, Nat.le_of_ble_eq_true rfl⟩) (zp_V hKm (zPc hP) (zDc hD) hS hA hG (ci := 10) (q0 := 0) rfl rfl rfl) rfl rfl hl.1 rfl (lv_room (Nat.le_of_ble_eq_true rfl)) dL_law_1850 ⟨by show _ ≤ 1083; omega, by show _ ≤ 10672; omega⟩) (fun r w1 H locs hq9 hP hD hS => ?_)
    obtain ⟨t2m, vm, hm0, hm1, rfl, rfl⟩ := hq9
    have hP := zPswap hP
    have hD := zDswap hD
    refine lv_istore (lv' := [(6, .int (zI vm)), (5, .int (zI 0)), (0, .ref b), (1, .ref (α 0)), (2, .ref (β 0)), (3, .ref o), (4, .int (zI i))]) hx hb dL_law_1853 hl (by decide) rfl (fun ls hl => ?_)
    refine lv_aload_n hx hb dL_law_1855 rfl (lv_at hl 4 rfl) ?_
    have hP := zPswap hP
    have hD := zDswap hD
    refine zfw_calli (mc := 0) (ms := 0)  hP hD hS hA (va_runV (As := []) (rest := []) hC (c_X10_thrown l D τ β (gM cI cB) _ _ _ _ _ _ _ _ _ _ _ _ _ _ _ _ _ _) (cwV 0 hts (gV hB wl_L_145 wn_X10_thrown ws_X10_thrown wi_X10 wc_X10_thrown) rfl rfl rfl hd_X10_thrown ⟨Nat.le_of_ble_eq_true rfl, Nat.le_of_ble_eq_true rfl⟩) (zp_V hKm (zPc hP) (zDc hD) hS hA hG (ci := 10) (q0 := 0) rfl rfl rfl) rfl rfl hl.1 rfl (lv_room (Nat.le_of_ble_eq_true rfl)) dL_law_1856 ⟨by show _ ≤ 1083; omega, by show _ ≤ 10672; omega⟩) (fun r w1 H locs hq9 hP hD hS => ?_)
    obtain ⟨vt, ht0, rfl, rfl⟩ := hq9
    have hP := zPswap hP
    have hD := zDswap hD
    refine lv_iload hx hb dL_law_1859 (lv_at hl 1 rfl) ?_
    have heq_1861 : vt = 0 := by rw [ht0, hm0, hf0]
    refine z_iceqE (tgt := 1866) hx hb heq_1861 dL_law_1861 (by decide) ?_
    refine lv_iload hx hb dL_law_1866 (lv_at hl 1 rfl) ?_
    refine z_ifne (tgt := 1883) hx hb ⟨by omega, by omega⟩ dL_law_1868 (by decide) (fun c_1868 => absurd rfl c_1868) (fun c_1868 => ?_)
    refine lv_aload_n hx hb dL_law_1871 rfl (lv_at hl 5 rfl) ?_
    refine lv_iconst (v := zI 0) hx hb dL_law_1872 rfl ?_
    refine zo_lald hx hb hKo (zPc hP) dL_law_1873 ?_
    refine lv_iload hx hb dL_law_1874 (lv_at hl 0 rfl) ?_
    refine lv_i2l (v := (zI vm).toInt64) hx hb dL_law_1876 rfl ?_
    refine z_lcmpE hx hb (by rw [hgo, hf1, (hm1 (hm0.trans hf0))]) dL_law_1877 ?_
    refine z_ifeq (tgt := 1883) hx hb ⟨by omega, by omega⟩ dL_law_1878 (by decide) (fun c_1878 => ?_) (fun c_1878 => absurd rfl c_1878)
    refine lv_goto (tgt := 2893) hx hb dL_law_1883 (by decide) ?_
    refine W.widen (k := cells + 2) (n := slots + 12) (by omega) (by omega) ?_
    exact hk _ _ _ _ _ _ _ _ _ _ _ _ _ _ _ _ _ _ _ _ _ _ _ _ _ _ _ _ _ _ _ H locs ls (hI) hP hD hS (lv_sub hl [2, 3, 4, 5, 6] rfl)
  · skip
    obtain ⟨hx9, rfl, rfl⟩ := hq9
    refine lv_istore (lv' := [(5, .int (zI 1)), (0, .ref b), (1, .ref (α 0)), (2, .ref (β 0)), (3, .ref o), (4, .int (zI i))]) hx hb dL_law_1835 hl (by decide) rfl (fun ls hl => ?_)
    refine lv_aload_n hx hb dL_law_1837 rfl (lv_at hl 3 rfl) ?_
    refine lv_aload_n hx hb dL_law_1838 rfl (lv_at hl 1 rfl) ?_
    refine lv_iload hx hb dL_law_1839 (lv_at hl 5 rfl) ?_
    refine lv_iconst (v := zI 1) hx hb dL_law_1841 rfl ?_
    refine z_iadd hx hb dL_law_1842 ?_
    refine z_sld hx hb hXs hbl hbA hS ⟨⟨by omega, by omega⟩, hL⟩ dL_law_1843 ?_
    refine lv_aload_n hx hb dL_law_1844 rfl (lv_at hl 1 rfl) ?_
    refine lv_iload hx hb dL_law_1845 (lv_at hl 5 rfl) ?_
    refine lv_iconst (v := zI 2) hx hb dL_law_1847 rfl ?_
    refine z_iadd hx hb dL_law_1848 ?_
    refine z_sld hx hb hXs hbl hbA hS ⟨⟨by omega, by omega⟩, hL⟩ dL_law_1849 ?_
    have hP := zPswap hP
    have hD := zDswap hD
    refine zfw_calli (mc := 0) (ms := 0)  hP hD hS hA (va_runV (As := [.int (zI (xI xs (i + 1))), .int (zI (xI xs (i + 2)))]) (rest := []) hC (c_X10_basinByGoingUp l D τ β (gM cI cB) h sv sl9 tk cd mn mi mc mq mr mw ct9 ln9 mt ma mx mh (xI xs (i + 1)) (xI xs (i + 2)) (xI_b xs _) (xI_b xs _) hh _) (cwV 2 hts (gV hB wl_L_255 wn_X10_basinByGoingUp ws_X10_basinByGoingUp wi_X10 wc_X10_basinByGoingUp) rfl rfl rfl hd_X10_basinByGoingUp ⟨Nat.le_of_ble_eq_true rfl, Nat.le_of_ble_eq_true rfl⟩) (zp_V hKm (zPc hP) (zDc hD) hS hA hG (ci := 10) (q0 := 0) rfl rfl rfl) rfl rfl hl.1 rfl (lv_room (Nat.le_of_ble_eq_true rfl)) dL_law_1850 ⟨by show _ ≤ 1083; omega, by show _ ≤ 10672; omega⟩) (fun r w1 H locs hq9 hP hD hS => ?_)
    obtain ⟨t2m, vm, hm0, hm1, rfl, rfl⟩ := hq9
    have hP := zPswap hP
    have hD := zDswap hD
    refine lv_istore (lv' := [(6, .int (zI vm)), (5, .int (zI 1)), (0, .ref b), (1, .ref (α 0)), (2, .ref (β 0)), (3, .ref o), (4, .int (zI i))]) hx hb dL_law_1853 hl (by decide) rfl (fun ls hl => ?_)
    refine lv_aload_n hx hb dL_law_1855 rfl (lv_at hl 4 rfl) ?_
    have hP := zPswap hP
    have hD := zDswap hD
    refine zfw_calli (mc := 0) (ms := 0)  hP hD hS hA (va_runV (As := []) (rest := []) hC (c_X10_thrown l D τ β (gM cI cB) _ _ _ _ _ _ _ _ _ _ _ _ _ _ _ _ _ _) (cwV 0 hts (gV hB wl_L_145 wn_X10_thrown ws_X10_thrown wi_X10 wc_X10_thrown) rfl rfl rfl hd_X10_thrown ⟨Nat.le_of_ble_eq_true rfl, Nat.le_of_ble_eq_true rfl⟩) (zp_V hKm (zPc hP) (zDc hD) hS hA hG (ci := 10) (q0 := 0) rfl rfl rfl) rfl rfl hl.1 rfl (lv_room (Nat.le_of_ble_eq_true rfl)) dL_law_1856 ⟨by show _ ≤ 1083; omega, by show _ ≤ 10672; omega⟩) (fun r w1 H locs hq9 hP hD hS => ?_)
    obtain ⟨vt, ht0, rfl, rfl⟩ := hq9
    have hP := zPswap hP
    have hD := zDswap hD
    refine lv_iload hx hb dL_law_1859 (lv_at hl 1 rfl) ?_
    have heq_1861 : vt = 1 := by rw [ht0, hm0, hx9]
    refine z_iceqE (tgt := 1866) hx hb heq_1861 dL_law_1861 (by decide) ?_
    refine lv_iload hx hb dL_law_1866 (lv_at hl 1 rfl) ?_
    refine z_ifne (tgt := 1883) hx hb ⟨by omega, by omega⟩ dL_law_1868 (by decide) (fun c_1868 => ?_) (fun c_1868 => absurd c_1868 (by decide))
    refine lv_goto (tgt := 2893) hx hb dL_law_1883 (by decide) ?_
    refine W.widen (k := cells + 2) (n := slots + 12) (by omega) (by omega) ?_
    exact hk _ _ _ _ _ _ _ _ _ _ _ _ _ _ _ _ _ _ _ _ _ _ _ _ _ _ _ _ _ _ _ H locs ls (hI) hP hD hS (lv_sub hl [2, 3, 4, 5, 6] rfl)
set_option maxHeartbeats 4000000 in
set_option maxRecDepth 100000 in
theorem law_1886 {p : Program} {l : Launch} {e : Env} {s : State} {m : MethodId} {below : List Frame} {meth : Method} {c : Code} {Q : State → Prop} {D : va_G} {τ : Nat → Nat} {A : Nat → Prop} {α β : Nat → Nat} {cI cB cL : ClassId} {o b L : Nat} {xs : Nat → Int32} {i : Int} {cells slots : Nat} (hX : LCx p l s m c D τ A cI cB cL b L xs) (hi : 0 ≤ i ∧ i + 6 ≤ L) (hc : cells + 2 ≤ 1083 ∧ slots + 12 ≤ 10672)
    (hk : LSt p l e s m below meth c Q D A α β cI cB cL o b i 2893 (cells + 2) (slots + 12)) : LSt p l e s m below meth c Q D A α β cI cB cL o b i 1886 cells slots := by
  obtain ⟨hC, hKm, hKo, hKh, hG, hA, hGX, hst, hXs, hbl, hbA, hL⟩ := hX
  intro h old ch rg ln sl pd ct sg cd ln9 pl le ro co nu sv sl9 tk ct9 mn mi mc mq mr mw mt ma mx mh fo H locs ls hI hP hD hS hl
  obtain ⟨rg0, rg1⟩ := rg
  obtain ⟨ln_0, ln_1, ln_2, ln_3, ln_4, ln_5, ln_6, ln_7, ln_8, ln_9⟩ := ln
  obtain ⟨sl_0, sl_1, sl_2⟩ := sl
  obtain ⟨pd0, pd1⟩ := pd
  obtain ⟨ct_0, ct_1⟩ := ct
  have hx := hC.1
  have hb := hC.2.1
  have hml := hC.2.2.1
  have hts := hC.2.2.2.2
  have hB : ∀ w ∈ W0, w ∈ W0 := fun _ h => h
  have hh := hI.1
  have hct := hI.2.2.2.1
  have hln := hI.2.2.2.2.1
  have hmf := hI.2.2.2.2.2.1
  have hov := hI.2.2.2.2.2.2
  have hcd : ∀ k, 0 ≤ k → k < ln9 → 0 ≤ cd k ∧ cd k ≤ 126 := fun k a b => by have z := hmf k a b; omega
  have hP : va_P D vwCl ((wM β (gM cI cB) h sv sl9 tk cd mn mi mc mq mr mw ct9 ln9 mt ma mx mh) ++ (oC cL o fo ++ (wH α (gH cI cB) (h, old, ch) (rg0, rg1) (ln_0, ln_1, ln_2, ln_3, ln_4, ln_5, ln_6, ln_7, ln_8, ln_9) (sl_0, sl_1, sl_2) (pd0, pd1) (ct_0, ct_1) sg (cd, ln9, pl, le, ro, co, nu) (sv, sl9, tk, ct9)))) H := hP
  have hD : va_D A ((wM β (gM cI cB) h sv sl9 tk cd mn mi mc mq mr mw ct9 ln9 mt ma mx mh) ++ (oC cL o fo ++ (wH α (gH cI cB) (h, old, ch) (rg0, rg1) (ln_0, ln_1, ln_2, ln_3, ln_4, ln_5, ln_6, ln_7, ln_8, ln_9) (sl_0, sl_1, sl_2) (pd0, pd1) (ct_0, ct_1) sg (cd, ln9, pl, le, ro, co, nu) (sv, sl9, tk, ct9)))) := hD
  refine lv_aload_n hx hb dL_law_1886 rfl (lv_at hl 1 rfl) ?_
  refine lv_aload_n hx hb dL_law_1887 rfl (lv_at hl 0 rfl) ?_
  refine lv_iload hx hb dL_law_1888 (lv_at hl 4 rfl) ?_
  refine lv_iconst (v := zI 1) hx hb dL_law_1890 rfl ?_
  refine z_iadd hx hb dL_law_1891 ?_
  refine z_sld hx hb hXs hbl hbA hS ⟨⟨by omega, by omega⟩, hL⟩ dL_law_1892 ?_
  refine lv_aload_n hx hb dL_law_1893 rfl (lv_at hl 0 rfl) ?_
  refine lv_iload hx hb dL_law_1894 (lv_at hl 4 rfl) ?_
  refine lv_iconst (v := zI 2) hx hb dL_law_1896 rfl ?_
  refine z_iadd hx hb dL_law_1897 ?_
  refine z_sld hx hb hXs hbl hbA hS ⟨⟨by omega, by omega⟩, hL⟩ dL_law_1898 ?_
  refine lv_aload_n hx hb dL_law_1899 rfl (lv_at hl 3 rfl) ?_
  refine zfw_calli (mc := 1) (ms := 6) (wr := (wM β (gM cI cB) h sv sl9 tk cd mn mi mc mq mr mw ct9 ln9 mt ma mx mh)) (wc := oC cL o fo ++ (wH α (gH cI cB) (h, old, ch) (rg0, rg1) (ln_0, ln_1, ln_2, ln_3, ln_4, ln_5, ln_6, ln_7, ln_8, ln_9) (sl_0, sl_1, sl_2) (pd0, pd1) (ct_0, ct_1) sg (cd, ln9, pl, le, ro, co, nu) (sv, sl9, tk, ct9))) hP hD hS hA (vx_runSW (As := [.ref (α 0), .int (zI (xI xs (i + 1))), .int (zI (xI xs (i + 2))), .ref o]) (rest := []) hC (c_L_flowAt l D τ α (gH cI cB) h old ch (rg0, rg1) (ln_0, ln_1, ln_2, ln_3, ln_4, ln_5, ln_6, ln_7, ln_8, ln_9) sl_0 sl_1 sl_2 (pd0, pd1) (ct_0, ct_1) sg (cd, ln9, pl, le, ro, co, nu) (sv, sl9, tk, ct9) (xI xs (i + 1)) (xI xs (i + 2)) (xI_b xs _) (xI_b xs _) hh hst cL o fo _) (vx_cwSW 4 hts (gSW hB wl_L_256 wt_L_flowAt wi_L wc_L_flowAt) rfl rfl rfl hd_L_flowAt.2 ⟨Nat.le_of_ble_eq_true rfl, Nat.le_of_ble_eq_true rfl⟩) (zpX_S hKo (zPc hP) (zDc hD) hS hA hG hGX) rfl rfl hl.1 rfl (lv_room (Nat.le_of_ble_eq_true rfl)) dL_law_1900 ⟨by show _ ≤ 1083; omega, by show _ ≤ 10672; omega⟩) (fun r w1 H locs hq9 hP hD hS => ?_)
  rcases hq9 with hq9 | hq9
  · skip
    obtain ⟨n2c, d2c, q2c, vc, go, hf0, hf1, hgo, rfl, rfl⟩ := hq9
    refine lv_istore (lv' := [(5, .int (zI 0)), (0, .ref b), (1, .ref (α 0)), (2, .ref (β 0)), (3, .ref o), (4, .int (zI i))]) hx hb dL_law_1903 hl (by decide) rfl (fun ls hl => ?_)
    refine lv_aload_n hx hb dL_law_1905 rfl (lv_at hl 3 rfl) ?_
    refine lv_aload_n hx hb dL_law_1906 rfl (lv_at hl 1 rfl) ?_
    refine lv_iload hx hb dL_law_1907 (lv_at hl 5 rfl) ?_
    refine lv_iconst (v := zI 1) hx hb dL_law_1909 rfl ?_
    refine z_iadd hx hb dL_law_1910 ?_
    refine z_sld hx hb hXs hbl hbA hS ⟨⟨by omega, by omega⟩, hL⟩ dL_law_1911 ?_
    refine lv_aload_n hx hb dL_law_1912 rfl (lv_at hl 1 rfl) ?_
    refine lv_iload hx hb dL_law_1913 (lv_at hl 5 rfl) ?_
    refine lv_iconst (v := zI 2) hx hb dL_law_1915 rfl ?_
    refine z_iadd hx hb dL_law_1916 ?_
    refine z_sld hx hb hXs hbl hbA hS ⟨⟨by omega, by omega⟩, hL⟩ dL_law_1917 ?_
    have hP := zPswap hP
    have hD := zDswap hD
    refine zfw_calli (mc := 0) (ms := 0)  hP hD hS hA (va_runV (As := [.int (zI (xI xs (i + 1))), .int (zI (xI xs (i + 2)))]) (rest := []) hC (c_X10_flowAt l D τ β (gM cI cB) h sv sl9 tk cd mn mi mc mq mr mw ct9 ln9 mt ma mx mh (xI xs (i + 1)) (xI xs (i + 2)) (xI_b xs _) (xI_b xs _) hh _) (cwV 2 hts (gV hB wl_L_258 wn_X10_flowAt ws_X10_flowAt wi_X10 wc_X10_flowAt) rfl rfl rfl hd_X10_flowAt ⟨Nat.le_of_ble_eq_true rfl, Nat.le_of_ble_eq_true rfl⟩) (zp_V hKm (zPc hP) (zDc hD) hS hA hG (ci := 10) (q0 := 0) rfl rfl rfl) rfl rfl hl.1 rfl (lv_room (Nat.le_of_ble_eq_true rfl)) dL_law_1918 ⟨by show _ ≤ 1083; omega, by show _ ≤ 10672; omega⟩) (fun r w1 H locs hq9 hP hD hS => ?_)
    obtain ⟨t2m, vm, hm0, hm1, rfl, rfl⟩ := hq9
    have hP := zPswap hP
    have hD := zDswap hD
    refine lv_istore (lv' := [(6, .int (zI vm)), (5, .int (zI 0)), (0, .ref b), (1, .ref (α 0)), (2, .ref (β 0)), (3, .ref o), (4, .int (zI i))]) hx hb dL_law_1921 hl (by decide) rfl (fun ls hl => ?_)
    refine lv_aload_n hx hb dL_law_1923 rfl (lv_at hl 4 rfl) ?_
    have hP := zPswap hP
    have hD := zDswap hD
    refine zfw_calli (mc := 0) (ms := 0)  hP hD hS hA (va_runV (As := []) (rest := []) hC (c_X10_thrown l D τ β (gM cI cB) _ _ _ _ _ _ _ _ _ _ _ _ _ _ _ _ _ _) (cwV 0 hts (gV hB wl_L_145 wn_X10_thrown ws_X10_thrown wi_X10 wc_X10_thrown) rfl rfl rfl hd_X10_thrown ⟨Nat.le_of_ble_eq_true rfl, Nat.le_of_ble_eq_true rfl⟩) (zp_V hKm (zPc hP) (zDc hD) hS hA hG (ci := 10) (q0 := 0) rfl rfl rfl) rfl rfl hl.1 rfl (lv_room (Nat.le_of_ble_eq_true rfl)) dL_law_1924 ⟨by show _ ≤ 1083; omega, by show _ ≤ 10672; omega⟩) (fun r w1 H locs hq9 hP hD hS => ?_)
    obtain ⟨vt, ht0, rfl, rfl⟩ := hq9
    have hP := zPswap hP
    have hD := zDswap hD
    refine lv_iload hx hb dL_law_1927 (lv_at hl 1 rfl) ?_
    have heq_1929 : vt = 0 := by rw [ht0, hm0, hf0]
    refine z_iceqE (tgt := 1934) hx hb heq_1929 dL_law_1929 (by decide) ?_
    refine lv_iload hx hb dL_law_1934 (lv_at hl 1 rfl) ?_
    refine z_ifne (tgt := 1951) hx hb ⟨by omega, by omega⟩ dL_law_1936 (by decide) (fun c_1936 => absurd rfl c_1936) (fun c_1936 => ?_)
    refine lv_aload_n hx hb dL_law_1939 rfl (lv_at hl 5 rfl) ?_
    refine lv_iconst (v := zI 0) hx hb dL_law_1940 rfl ?_
    refine zo_lald hx hb hKo (zPc hP) dL_law_1941 ?_
    refine lv_iload hx hb dL_law_1942 (lv_at hl 0 rfl) ?_
    refine lv_i2l (v := (zI vm).toInt64) hx hb dL_law_1944 rfl ?_
    refine z_lcmpE hx hb (by rw [hgo, hf1, (hm1 (hm0.trans hf0))]) dL_law_1945 ?_
    refine z_ifeq (tgt := 1951) hx hb ⟨by omega, by omega⟩ dL_law_1946 (by decide) (fun c_1946 => ?_) (fun c_1946 => absurd rfl c_1946)
    refine lv_goto (tgt := 2893) hx hb dL_law_1951 (by decide) ?_
    refine W.widen (k := cells + 2) (n := slots + 12) (by omega) (by omega) ?_
    exact hk _ _ _ _ _ _ _ _ _ _ _ _ _ _ _ _ _ _ _ _ _ _ _ _ _ _ _ _ _ _ _ H locs ls (hI) hP hD hS (lv_sub hl [2, 3, 4, 5, 6] rfl)
  · skip
    obtain ⟨hx9, rfl, rfl⟩ := hq9
    refine lv_istore (lv' := [(5, .int (zI 1)), (0, .ref b), (1, .ref (α 0)), (2, .ref (β 0)), (3, .ref o), (4, .int (zI i))]) hx hb dL_law_1903 hl (by decide) rfl (fun ls hl => ?_)
    refine lv_aload_n hx hb dL_law_1905 rfl (lv_at hl 3 rfl) ?_
    refine lv_aload_n hx hb dL_law_1906 rfl (lv_at hl 1 rfl) ?_
    refine lv_iload hx hb dL_law_1907 (lv_at hl 5 rfl) ?_
    refine lv_iconst (v := zI 1) hx hb dL_law_1909 rfl ?_
    refine z_iadd hx hb dL_law_1910 ?_
    refine z_sld hx hb hXs hbl hbA hS ⟨⟨by omega, by omega⟩, hL⟩ dL_law_1911 ?_
    refine lv_aload_n hx hb dL_law_1912 rfl (lv_at hl 1 rfl) ?_
    refine lv_iload hx hb dL_law_1913 (lv_at hl 5 rfl) ?_
    refine lv_iconst (v := zI 2) hx hb dL_law_1915 rfl ?_
    refine z_iadd hx hb dL_law_1916 ?_
    refine z_sld hx hb hXs hbl hbA hS ⟨⟨by omega, by omega⟩, hL⟩ dL_law_1917 ?_
    have hP := zPswap hP
    have hD := zDswap hD
    refine zfw_calli (mc := 0) (ms := 0)  hP hD hS hA (va_runV (As := [.int (zI (xI xs (i + 1))), .int (zI (xI xs (i + 2)))]) (rest := []) hC (c_X10_flowAt l D τ β (gM cI cB) h sv sl9 tk cd mn mi mc mq mr mw ct9 ln9 mt ma mx mh (xI xs (i + 1)) (xI xs (i + 2)) (xI_b xs _) (xI_b xs _) hh _) (cwV 2 hts (gV hB wl_L_258 wn_X10_flowAt ws_X10_flowAt wi_X10 wc_X10_flowAt) rfl rfl rfl hd_X10_flowAt ⟨Nat.le_of_ble_eq_true rfl, Nat.le_of_ble_eq_true rfl⟩) (zp_V hKm (zPc hP) (zDc hD) hS hA hG (ci := 10) (q0 := 0) rfl rfl rfl) rfl rfl hl.1 rfl (lv_room (Nat.le_of_ble_eq_true rfl)) dL_law_1918 ⟨by show _ ≤ 1083; omega, by show _ ≤ 10672; omega⟩) (fun r w1 H locs hq9 hP hD hS => ?_)
    obtain ⟨t2m, vm, hm0, hm1, rfl, rfl⟩ := hq9
    have hP := zPswap hP
    have hD := zDswap hD
    refine lv_istore (lv' := [(6, .int (zI vm)), (5, .int (zI 1)), (0, .ref b), (1, .ref (α 0)), (2, .ref (β 0)), (3, .ref o), (4, .int (zI i))]) hx hb dL_law_1921 hl (by decide) rfl (fun ls hl => ?_)
    refine lv_aload_n hx hb dL_law_1923 rfl (lv_at hl 4 rfl) ?_
    have hP := zPswap hP
    have hD := zDswap hD
    refine zfw_calli (mc := 0) (ms := 0)  hP hD hS hA (va_runV (As := []) (rest := []) hC (c_X10_thrown l D τ β (gM cI cB) _ _ _ _ _ _ _ _ _ _ _ _ _ _ _ _ _ _) (cwV 0 hts (gV hB wl_L_145 wn_X10_thrown ws_X10_thrown wi_X10 wc_X10_thrown) rfl rfl rfl hd_X10_thrown ⟨Nat.le_of_ble_eq_true rfl, Nat.le_of_ble_eq_true rfl⟩) (zp_V hKm (zPc hP) (zDc hD) hS hA hG (ci := 10) (q0 := 0) rfl rfl rfl) rfl rfl hl.1 rfl (lv_room (Nat.le_of_ble_eq_true rfl)) dL_law_1924 ⟨by show _ ≤ 1083; omega, by show _ ≤ 10672; omega⟩) (fun r w1 H locs hq9 hP hD hS => ?_)
    obtain ⟨vt, ht0, rfl, rfl⟩ := hq9
    have hP := zPswap hP
    have hD := zDswap hD
    refine lv_iload hx hb dL_law_1927 (lv_at hl 1 rfl) ?_
    have heq_1929 : vt = 1 := by rw [ht0, hm0, hx9]
    refine z_iceqE (tgt := 1934) hx hb heq_1929 dL_law_1929 (by decide) ?_
    refine lv_iload hx hb dL_law_1934 (lv_at hl 1 rfl) ?_
    refine z_ifne (tgt := 1951) hx hb ⟨by omega, by omega⟩ dL_law_1936 (by decide) (fun c_1936 => ?_) (fun c_1936 => absurd c_1936 (by decide))
    refine lv_goto (tgt := 2893) hx hb dL_law_1951 (by decide) ?_
    refine W.widen (k := cells + 2) (n := slots + 12) (by omega) (by omega) ?_
    exact hk _ _ _ _ _ _ _ _ _ _ _ _ _ _ _ _ _ _ _ _ _ _ _ _ _ _ _ _ _ _ _ H locs ls (hI) hP hD hS (lv_sub hl [2, 3, 4, 5, 6] rfl)
set_option maxHeartbeats 4000000 in
set_option maxRecDepth 100000 in
theorem law_1954 {p : Program} {l : Launch} {e : Env} {s : State} {m : MethodId} {below : List Frame} {meth : Method} {c : Code} {Q : State → Prop} {D : va_G} {τ : Nat → Nat} {A : Nat → Prop} {α β : Nat → Nat} {cI cB cL : ClassId} {o b L : Nat} {xs : Nat → Int32} {i : Int} {cells slots : Nat} (hX : LCx p l s m c D τ A cI cB cL b L xs) (hi : 0 ≤ i ∧ i + 6 ≤ L) (hc : cells + 2 ≤ 1083 ∧ slots + 12 ≤ 10672)
    (hk : LSt p l e s m below meth c Q D A α β cI cB cL o b i 2893 (cells + 2) (slots + 12)) : LSt p l e s m below meth c Q D A α β cI cB cL o b i 1954 cells slots := by
  obtain ⟨hC, hKm, hKo, hKh, hG, hA, hGX, hst, hXs, hbl, hbA, hL⟩ := hX
  intro h old ch rg ln sl pd ct sg cd ln9 pl le ro co nu sv sl9 tk ct9 mn mi mc mq mr mw mt ma mx mh fo H locs ls hI hP hD hS hl
  obtain ⟨rg0, rg1⟩ := rg
  obtain ⟨ln_0, ln_1, ln_2, ln_3, ln_4, ln_5, ln_6, ln_7, ln_8, ln_9⟩ := ln
  obtain ⟨sl_0, sl_1, sl_2⟩ := sl
  obtain ⟨pd0, pd1⟩ := pd
  obtain ⟨ct_0, ct_1⟩ := ct
  have hx := hC.1
  have hb := hC.2.1
  have hml := hC.2.2.1
  have hts := hC.2.2.2.2
  have hB : ∀ w ∈ W0, w ∈ W0 := fun _ h => h
  have hh := hI.1
  have hct := hI.2.2.2.1
  have hln := hI.2.2.2.2.1
  have hmf := hI.2.2.2.2.2.1
  have hov := hI.2.2.2.2.2.2
  have hcd : ∀ k, 0 ≤ k → k < ln9 → 0 ≤ cd k ∧ cd k ≤ 126 := fun k a b => by have z := hmf k a b; omega
  have hP : va_P D vwCl ((wM β (gM cI cB) h sv sl9 tk cd mn mi mc mq mr mw ct9 ln9 mt ma mx mh) ++ (oC cL o fo ++ (wH α (gH cI cB) (h, old, ch) (rg0, rg1) (ln_0, ln_1, ln_2, ln_3, ln_4, ln_5, ln_6, ln_7, ln_8, ln_9) (sl_0, sl_1, sl_2) (pd0, pd1) (ct_0, ct_1) sg (cd, ln9, pl, le, ro, co, nu) (sv, sl9, tk, ct9)))) H := hP
  have hD : va_D A ((wM β (gM cI cB) h sv sl9 tk cd mn mi mc mq mr mw ct9 ln9 mt ma mx mh) ++ (oC cL o fo ++ (wH α (gH cI cB) (h, old, ch) (rg0, rg1) (ln_0, ln_1, ln_2, ln_3, ln_4, ln_5, ln_6, ln_7, ln_8, ln_9) (sl_0, sl_1, sl_2) (pd0, pd1) (ct_0, ct_1) sg (cd, ln9, pl, le, ro, co, nu) (sv, sl9, tk, ct9)))) := hD
  refine lv_aload_n hx hb dL_law_1954 rfl (lv_at hl 1 rfl) ?_
  refine lv_aload_n hx hb dL_law_1955 rfl (lv_at hl 0 rfl) ?_
  refine lv_iload hx hb dL_law_1956 (lv_at hl 4 rfl) ?_
  refine lv_iconst (v := zI 1) hx hb dL_law_1958 rfl ?_
  refine z_iadd hx hb dL_law_1959 ?_
  refine z_sld hx hb hXs hbl hbA hS ⟨⟨by omega, by omega⟩, hL⟩ dL_law_1960 ?_
  refine lv_aload_n hx hb dL_law_1961 rfl (lv_at hl 0 rfl) ?_
  refine lv_iload hx hb dL_law_1962 (lv_at hl 4 rfl) ?_
  refine lv_iconst (v := zI 2) hx hb dL_law_1964 rfl ?_
  refine z_iadd hx hb dL_law_1965 ?_
  refine z_sld hx hb hXs hbl hbA hS ⟨⟨by omega, by omega⟩, hL⟩ dL_law_1966 ?_
  refine lv_aload_n hx hb dL_law_1967 rfl (lv_at hl 3 rfl) ?_
  refine zfw_calli (mc := 1) (ms := 6) (wr := (wM β (gM cI cB) h sv sl9 tk cd mn mi mc mq mr mw ct9 ln9 mt ma mx mh)) (wc := oC cL o fo ++ (wH α (gH cI cB) (h, old, ch) (rg0, rg1) (ln_0, ln_1, ln_2, ln_3, ln_4, ln_5, ln_6, ln_7, ln_8, ln_9) (sl_0, sl_1, sl_2) (pd0, pd1) (ct_0, ct_1) sg (cd, ln9, pl, le, ro, co, nu) (sv, sl9, tk, ct9))) hP hD hS hA (vx_runSW (As := [.ref (α 0), .int (zI (xI xs (i + 1))), .int (zI (xI xs (i + 2))), .ref o]) (rest := []) hC (c_L_stepsToSink l D τ α (gH cI cB) h old ch (rg0, rg1) (ln_0, ln_1, ln_2, ln_3, ln_4, ln_5, ln_6, ln_7, ln_8, ln_9) sl_0 sl_1 sl_2 (pd0, pd1) (ct_0, ct_1) sg (cd, ln9, pl, le, ro, co, nu) (sv, sl9, tk, ct9) (xI xs (i + 1)) (xI xs (i + 2)) (xI_b xs _) (xI_b xs _) hh hst cL o fo _) (vx_cwSW 4 hts (gSW hB wl_L_259 wt_L_stepsToSink wi_L wc_L_stepsToSink) rfl rfl rfl hd_L_stepsToSink.2 ⟨Nat.le_of_ble_eq_true rfl, Nat.le_of_ble_eq_true rfl⟩) (zpX_S hKo (zPc hP) (zDc hD) hS hA hG hGX) rfl rfl hl.1 rfl (lv_room (Nat.le_of_ble_eq_true rfl)) dL_law_1968 ⟨by show _ ≤ 1083; omega, by show _ ≤ 10672; omega⟩) (fun r w1 H locs hq9 hP hD hS => ?_)
  rcases hq9 with hq9 | hq9
  · skip
    obtain ⟨n2c, d2c, vc, go, hf0, hf1, hgo, rfl, rfl⟩ := hq9
    refine lv_istore (lv' := [(5, .int (zI 0)), (0, .ref b), (1, .ref (α 0)), (2, .ref (β 0)), (3, .ref o), (4, .int (zI i))]) hx hb dL_law_1971 hl (by decide) rfl (fun ls hl => ?_)
    refine lv_aload_n hx hb dL_law_1973 rfl (lv_at hl 3 rfl) ?_
    refine lv_aload_n hx hb dL_law_1974 rfl (lv_at hl 1 rfl) ?_
    refine lv_iload hx hb dL_law_1975 (lv_at hl 5 rfl) ?_
    refine lv_iconst (v := zI 1) hx hb dL_law_1977 rfl ?_
    refine z_iadd hx hb dL_law_1978 ?_
    refine z_sld hx hb hXs hbl hbA hS ⟨⟨by omega, by omega⟩, hL⟩ dL_law_1979 ?_
    refine lv_aload_n hx hb dL_law_1980 rfl (lv_at hl 1 rfl) ?_
    refine lv_iload hx hb dL_law_1981 (lv_at hl 5 rfl) ?_
    refine lv_iconst (v := zI 2) hx hb dL_law_1983 rfl ?_
    refine z_iadd hx hb dL_law_1984 ?_
    refine z_sld hx hb hXs hbl hbA hS ⟨⟨by omega, by omega⟩, hL⟩ dL_law_1985 ?_
    have hP := zPswap hP
    have hD := zDswap hD
    refine zfw_calli (mc := 0) (ms := 0)  hP hD hS hA (va_runV (As := [.int (zI (xI xs (i + 1))), .int (zI (xI xs (i + 2)))]) (rest := []) hC (c_X10_stepsToSink l D τ β (gM cI cB) h sv sl9 tk cd mn mi mc mq mr mw ct9 ln9 mt ma mx mh (xI xs (i + 1)) (xI xs (i + 2)) (xI_b xs _) (xI_b xs _) hh _) (cwV 2 hts (gV hB wl_L_261 wn_X10_stepsToSink ws_X10_stepsToSink wi_X10 wc_X10_stepsToSink) rfl rfl rfl hd_X10_stepsToSink ⟨Nat.le_of_ble_eq_true rfl, Nat.le_of_ble_eq_true rfl⟩) (zp_V hKm (zPc hP) (zDc hD) hS hA hG (ci := 10) (q0 := 0) rfl rfl rfl) rfl rfl hl.1 rfl (lv_room (Nat.le_of_ble_eq_true rfl)) dL_law_1986 ⟨by show _ ≤ 1083; omega, by show _ ≤ 10672; omega⟩) (fun r w1 H locs hq9 hP hD hS => ?_)
    obtain ⟨t2m, vm, hm0, hm1, rfl, rfl⟩ := hq9
    have hP := zPswap hP
    have hD := zDswap hD
    refine lv_istore (lv' := [(6, .int (zI vm)), (5, .int (zI 0)), (0, .ref b), (1, .ref (α 0)), (2, .ref (β 0)), (3, .ref o), (4, .int (zI i))]) hx hb dL_law_1989 hl (by decide) rfl (fun ls hl => ?_)
    refine lv_aload_n hx hb dL_law_1991 rfl (lv_at hl 4 rfl) ?_
    have hP := zPswap hP
    have hD := zDswap hD
    refine zfw_calli (mc := 0) (ms := 0)  hP hD hS hA (va_runV (As := []) (rest := []) hC (c_X10_thrown l D τ β (gM cI cB) _ _ _ _ _ _ _ _ _ _ _ _ _ _ _ _ _ _) (cwV 0 hts (gV hB wl_L_145 wn_X10_thrown ws_X10_thrown wi_X10 wc_X10_thrown) rfl rfl rfl hd_X10_thrown ⟨Nat.le_of_ble_eq_true rfl, Nat.le_of_ble_eq_true rfl⟩) (zp_V hKm (zPc hP) (zDc hD) hS hA hG (ci := 10) (q0 := 0) rfl rfl rfl) rfl rfl hl.1 rfl (lv_room (Nat.le_of_ble_eq_true rfl)) dL_law_1992 ⟨by show _ ≤ 1083; omega, by show _ ≤ 10672; omega⟩) (fun r w1 H locs hq9 hP hD hS => ?_)
    obtain ⟨vt, ht0, rfl, rfl⟩ := hq9
    have hP := zPswap hP
    have hD := zDswap hD
    refine lv_iload hx hb dL_law_1995 (lv_at hl 1 rfl) ?_
    have heq_1997 : vt = 0 := by rw [ht0, hm0, hf0]
    refine z_iceqE (tgt := 2002) hx hb heq_1997 dL_law_1997 (by decide) ?_
    refine lv_iload hx hb dL_law_2002 (lv_at hl 1 rfl) ?_
    refine z_ifne (tgt := 2019) hx hb ⟨by omega, by omega⟩ dL_law_2004 (by decide) (fun c_2004 => absurd rfl c_2004) (fun c_2004 => ?_)
    refine lv_aload_n hx hb dL_law_2007 rfl (lv_at hl 5 rfl) ?_
    refine lv_iconst (v := zI 0) hx hb dL_law_2008 rfl ?_
    refine zo_lald hx hb hKo (zPc hP) dL_law_2009 ?_
    refine lv_iload hx hb dL_law_2010 (lv_at hl 0 rfl) ?_
    refine lv_i2l (v := (zI vm).toInt64) hx hb dL_law_2012 rfl ?_
    refine z_lcmpE hx hb (by rw [hgo, hf1, (hm1 (hm0.trans hf0))]) dL_law_2013 ?_
    refine z_ifeq (tgt := 2019) hx hb ⟨by omega, by omega⟩ dL_law_2014 (by decide) (fun c_2014 => ?_) (fun c_2014 => absurd rfl c_2014)
    refine lv_goto (tgt := 2893) hx hb dL_law_2019 (by decide) ?_
    refine W.widen (k := cells + 2) (n := slots + 12) (by omega) (by omega) ?_
    exact hk _ _ _ _ _ _ _ _ _ _ _ _ _ _ _ _ _ _ _ _ _ _ _ _ _ _ _ _ _ _ _ H locs ls (hI) hP hD hS (lv_sub hl [2, 3, 4, 5, 6] rfl)
  · skip
    obtain ⟨hx9, rfl, rfl⟩ := hq9
    refine lv_istore (lv' := [(5, .int (zI 1)), (0, .ref b), (1, .ref (α 0)), (2, .ref (β 0)), (3, .ref o), (4, .int (zI i))]) hx hb dL_law_1971 hl (by decide) rfl (fun ls hl => ?_)
    refine lv_aload_n hx hb dL_law_1973 rfl (lv_at hl 3 rfl) ?_
    refine lv_aload_n hx hb dL_law_1974 rfl (lv_at hl 1 rfl) ?_
    refine lv_iload hx hb dL_law_1975 (lv_at hl 5 rfl) ?_
    refine lv_iconst (v := zI 1) hx hb dL_law_1977 rfl ?_
    refine z_iadd hx hb dL_law_1978 ?_
    refine z_sld hx hb hXs hbl hbA hS ⟨⟨by omega, by omega⟩, hL⟩ dL_law_1979 ?_
    refine lv_aload_n hx hb dL_law_1980 rfl (lv_at hl 1 rfl) ?_
    refine lv_iload hx hb dL_law_1981 (lv_at hl 5 rfl) ?_
    refine lv_iconst (v := zI 2) hx hb dL_law_1983 rfl ?_
    refine z_iadd hx hb dL_law_1984 ?_
    refine z_sld hx hb hXs hbl hbA hS ⟨⟨by omega, by omega⟩, hL⟩ dL_law_1985 ?_
    have hP := zPswap hP
    have hD := zDswap hD
    refine zfw_calli (mc := 0) (ms := 0)  hP hD hS hA (va_runV (As := [.int (zI (xI xs (i + 1))), .int (zI (xI xs (i + 2)))]) (rest := []) hC (c_X10_stepsToSink l D τ β (gM cI cB) h sv sl9 tk cd mn mi mc mq mr mw ct9 ln9 mt ma mx mh (xI xs (i + 1)) (xI xs (i + 2)) (xI_b xs _) (xI_b xs _) hh _) (cwV 2 hts (gV hB wl_L_261 wn_X10_stepsToSink ws_X10_stepsToSink wi_X10 wc_X10_stepsToSink) rfl rfl rfl hd_X10_stepsToSink ⟨Nat.le_of_ble_eq_true rfl, Nat.le_of_ble_eq_true rfl⟩) (zp_V hKm (zPc hP) (zDc hD) hS hA hG (ci := 10) (q0 := 0) rfl rfl rfl) rfl rfl hl.1 rfl (lv_room (Nat.le_of_ble_eq_true rfl)) dL_law_1986 ⟨by show _ ≤ 1083; omega, by show _ ≤ 10672; omega⟩) (fun r w1 H locs hq9 hP hD hS => ?_)
    obtain ⟨t2m, vm, hm0, hm1, rfl, rfl⟩ := hq9
    have hP := zPswap hP
    have hD := zDswap hD
    refine lv_istore (lv' := [(6, .int (zI vm)), (5, .int (zI 1)), (0, .ref b), (1, .ref (α 0)), (2, .ref (β 0)), (3, .ref o), (4, .int (zI i))]) hx hb dL_law_1989 hl (by decide) rfl (fun ls hl => ?_)
    refine lv_aload_n hx hb dL_law_1991 rfl (lv_at hl 4 rfl) ?_
    have hP := zPswap hP
    have hD := zDswap hD
    refine zfw_calli (mc := 0) (ms := 0)  hP hD hS hA (va_runV (As := []) (rest := []) hC (c_X10_thrown l D τ β (gM cI cB) _ _ _ _ _ _ _ _ _ _ _ _ _ _ _ _ _ _) (cwV 0 hts (gV hB wl_L_145 wn_X10_thrown ws_X10_thrown wi_X10 wc_X10_thrown) rfl rfl rfl hd_X10_thrown ⟨Nat.le_of_ble_eq_true rfl, Nat.le_of_ble_eq_true rfl⟩) (zp_V hKm (zPc hP) (zDc hD) hS hA hG (ci := 10) (q0 := 0) rfl rfl rfl) rfl rfl hl.1 rfl (lv_room (Nat.le_of_ble_eq_true rfl)) dL_law_1992 ⟨by show _ ≤ 1083; omega, by show _ ≤ 10672; omega⟩) (fun r w1 H locs hq9 hP hD hS => ?_)
    obtain ⟨vt, ht0, rfl, rfl⟩ := hq9
    have hP := zPswap hP
    have hD := zDswap hD
    refine lv_iload hx hb dL_law_1995 (lv_at hl 1 rfl) ?_
    have heq_1997 : vt = 1 := by rw [ht0, hm0, hx9]
    refine z_iceqE (tgt := 2002) hx hb heq_1997 dL_law_1997 (by decide) ?_
    refine lv_iload hx hb dL_law_2002 (lv_at hl 1 rfl) ?_
    refine z_ifne (tgt := 2019) hx hb ⟨by omega, by omega⟩ dL_law_2004 (by decide) (fun c_2004 => ?_) (fun c_2004 => absurd c_2004 (by decide))
    refine lv_goto (tgt := 2893) hx hb dL_law_2019 (by decide) ?_
    refine W.widen (k := cells + 2) (n := slots + 12) (by omega) (by omega) ?_
    exact hk _ _ _ _ _ _ _ _ _ _ _ _ _ _ _ _ _ _ _ _ _ _ _ _ _ _ _ _ _ _ _ H locs ls (hI) hP hD hS (lv_sub hl [2, 3, 4, 5, 6] rfl)
set_option maxHeartbeats 4000000 in
set_option maxRecDepth 100000 in
theorem law_2022 {p : Program} {l : Launch} {e : Env} {s : State} {m : MethodId} {below : List Frame} {meth : Method} {c : Code} {Q : State → Prop} {D : va_G} {τ : Nat → Nat} {A : Nat → Prop} {α β : Nat → Nat} {cI cB cL : ClassId} {o b L : Nat} {xs : Nat → Int32} {i : Int} {cells slots : Nat} (hX : LCx p l s m c D τ A cI cB cL b L xs) (hi : 0 ≤ i ∧ i + 6 ≤ L) (hc : cells + 2 ≤ 1083 ∧ slots + 12 ≤ 10672)
    (hk : LSt p l e s m below meth c Q D A α β cI cB cL o b i 2893 (cells + 2) (slots + 12)) : LSt p l e s m below meth c Q D A α β cI cB cL o b i 2022 cells slots := by
  obtain ⟨hC, hKm, hKo, hKh, hG, hA, hGX, hst, hXs, hbl, hbA, hL⟩ := hX
  intro h old ch rg ln sl pd ct sg cd ln9 pl le ro co nu sv sl9 tk ct9 mn mi mc mq mr mw mt ma mx mh fo H locs ls hI hP hD hS hl
  obtain ⟨rg0, rg1⟩ := rg
  obtain ⟨ln_0, ln_1, ln_2, ln_3, ln_4, ln_5, ln_6, ln_7, ln_8, ln_9⟩ := ln
  obtain ⟨sl_0, sl_1, sl_2⟩ := sl
  obtain ⟨pd0, pd1⟩ := pd
  obtain ⟨ct_0, ct_1⟩ := ct
  have hx := hC.1
  have hb := hC.2.1
  have hml := hC.2.2.1
  have hts := hC.2.2.2.2
  have hB : ∀ w ∈ W0, w ∈ W0 := fun _ h => h
  have hh := hI.1
  have hct := hI.2.2.2.1
  have hln := hI.2.2.2.2.1
  have hmf := hI.2.2.2.2.2.1
  have hov := hI.2.2.2.2.2.2
  have hcd : ∀ k, 0 ≤ k → k < ln9 → 0 ≤ cd k ∧ cd k ≤ 126 := fun k a b => by have z := hmf k a b; omega
  have hP : va_P D vwCl ((wM β (gM cI cB) h sv sl9 tk cd mn mi mc mq mr mw ct9 ln9 mt ma mx mh) ++ (oC cL o fo ++ (wH α (gH cI cB) (h, old, ch) (rg0, rg1) (ln_0, ln_1, ln_2, ln_3, ln_4, ln_5, ln_6, ln_7, ln_8, ln_9) (sl_0, sl_1, sl_2) (pd0, pd1) (ct_0, ct_1) sg (cd, ln9, pl, le, ro, co, nu) (sv, sl9, tk, ct9)))) H := hP
  have hD : va_D A ((wM β (gM cI cB) h sv sl9 tk cd mn mi mc mq mr mw ct9 ln9 mt ma mx mh) ++ (oC cL o fo ++ (wH α (gH cI cB) (h, old, ch) (rg0, rg1) (ln_0, ln_1, ln_2, ln_3, ln_4, ln_5, ln_6, ln_7, ln_8, ln_9) (sl_0, sl_1, sl_2) (pd0, pd1) (ct_0, ct_1) sg (cd, ln9, pl, le, ro, co, nu) (sv, sl9, tk, ct9)))) := hD
  refine lv_aload_n hx hb dL_law_2022 rfl (lv_at hl 1 rfl) ?_
  have hP : va_P D vwCl (((wM β (gM cI cB) h sv sl9 tk cd mn mi mc mq mr mw ct9 ln9 mt ma mx mh) ++ oC cL o fo) ++ (wH α (gH cI cB) (h, old, ch) (rg0, rg1) (ln_0, ln_1, ln_2, ln_3, ln_4, ln_5, ln_6, ln_7, ln_8, ln_9) (sl_0, sl_1, sl_2) (pd0, pd1) (ct_0, ct_1) sg (cd, ln9, pl, le, ro, co, nu) (sv, sl9, tk, ct9))) H := by rw [List.append_assoc]; exact hP
  have hD : va_D A (((wM β (gM cI cB) h sv sl9 tk cd mn mi mc mq mr mw ct9 ln9 mt ma mx mh) ++ oC cL o fo) ++ (wH α (gH cI cB) (h, old, ch) (rg0, rg1) (ln_0, ln_1, ln_2, ln_3, ln_4, ln_5, ln_6, ln_7, ln_8, ln_9) (sl_0, sl_1, sl_2) (pd0, pd1) (ct_0, ct_1) sg (cd, ln9, pl, le, ro, co, nu) (sv, sl9, tk, ct9))) := by rw [List.append_assoc]; exact hD
  refine zfw_calli (mc := 0) (ms := 0) (wr := (wM β (gM cI cB) h sv sl9 tk cd mn mi mc mq mr mw ct9 ln9 mt ma mx mh) ++ oC cL o fo) (wc := (wH α (gH cI cB) (h, old, ch) (rg0, rg1) (ln_0, ln_1, ln_2, ln_3, ln_4, ln_5, ln_6, ln_7, ln_8, ln_9) (sl_0, sl_1, sl_2) (pd0, pd1) (ct_0, ct_1) sg (cd, ln9, pl, le, ro, co, nu) (sv, sl9, tk, ct9))) hP hD hS hA (va_runV (As := []) (rest := []) hC (c_X9_sinks l D τ α (gH cI cB) h old ch (rg0, rg1) (ln_0, ln_1, ln_2, ln_3, ln_4, ln_5, ln_6, ln_7, ln_8, ln_9) sl_0 sl_1 sl_2 (pd0, pd1) (ct_0, ct_1) sg (cd, ln9, pl, le, ro, co, nu) (sv, sl9, tk, ct9) hh _) (cwV 0 hts (gV hB wl_L_262 wn_X9_sinks ws_X9_sinks wi_X9 wc_X9_sinks) rfl rfl rfl hd_X9_sinks ⟨Nat.le_of_ble_eq_true rfl, Nat.le_of_ble_eq_true rfl⟩) (zp_V hKh (zPc hP) (zDc hD) hS hA hG (ci := 9) (q0 := 0) rfl rfl rfl) rfl rfl hl.1 rfl (lv_room (Nat.le_of_ble_eq_true rfl)) dL_law_2023 ⟨by show _ ≤ 1083; omega, by show _ ≤ 10672; omega⟩) (fun r w1 H locs hq9 hP hD hS => ?_)
  obtain ⟨n2c, d2c, vc, hf0, hf1, rfl, rfl⟩ := hq9
  rw [List.append_assoc] at hP hD
  refine lv_aload_n hx hb dL_law_2026 rfl (lv_at hl 2 rfl) ?_
  have hP := zPswap hP
  have hD := zDswap hD
  refine zfw_calli (mc := 0) (ms := 0)  hP hD hS hA (va_runV (As := []) (rest := [.int (zI vc)]) hC (c_X10_sinks l D τ β (gM cI cB) h sv sl9 tk cd mn mi mc mq mr mw ct9 ln9 mt ma mx mh hh _) (cwV 0 hts (gV hB wl_L_265 wn_X10_sinks ws_X10_sinks wi_X10 wc_X10_sinks) rfl rfl rfl hd_X10_sinks ⟨Nat.le_of_ble_eq_true rfl, Nat.le_of_ble_eq_true rfl⟩) (zp_V hKm (zPc hP) (zDc hD) hS hA hG (ci := 10) (q0 := 0) rfl rfl rfl) rfl rfl hl.1 rfl (lv_room (Nat.le_of_ble_eq_true rfl)) dL_law_2027 ⟨by show _ ≤ 1083; omega, by show _ ≤ 10672; omega⟩) (fun r w1 H locs hq9 hP hD hS => ?_)
  obtain ⟨vm, hm0, hm1, rfl, rfl⟩ := hq9
  have hP := zPswap hP
  have hD := zDswap hD
  have heq_2030 : vc = vm := by rw [hf0, hm0]
  refine z_iceqE (tgt := 2893) hx hb heq_2030 dL_law_2030 (by decide) ?_
  refine W.widen (k := cells + 2) (n := slots + 12) (by omega) (by omega) ?_
  exact hk _ _ _ _ _ _ _ _ _ _ _ _ _ _ _ _ _ _ _ _ _ _ _ _ _ _ _ _ _ _ _ H locs ls (hI) hP hD hS (lv_sub hl [0, 1, 2, 3, 4] rfl)
set_option maxHeartbeats 4000000 in
set_option maxRecDepth 100000 in
theorem law_2035 {p : Program} {l : Launch} {e : Env} {s : State} {m : MethodId} {below : List Frame} {meth : Method} {c : Code} {Q : State → Prop} {D : va_G} {τ : Nat → Nat} {A : Nat → Prop} {α β : Nat → Nat} {cI cB cL : ClassId} {o b L : Nat} {xs : Nat → Int32} {i : Int} {cells slots : Nat} (hX : LCx p l s m c D τ A cI cB cL b L xs) (hi : 0 ≤ i ∧ i + 6 ≤ L) (hc : cells + 2 ≤ 1083 ∧ slots + 12 ≤ 10672)
    (hk : LSt p l e s m below meth c Q D A α β cI cB cL o b i 2893 (cells + 2) (slots + 12)) : LSt p l e s m below meth c Q D A α β cI cB cL o b i 2035 cells slots := by
  obtain ⟨hC, hKm, hKo, hKh, hG, hA, hGX, hst, hXs, hbl, hbA, hL⟩ := hX
  intro h old ch rg ln sl pd ct sg cd ln9 pl le ro co nu sv sl9 tk ct9 mn mi mc mq mr mw mt ma mx mh fo H locs ls hI hP hD hS hl
  obtain ⟨rg0, rg1⟩ := rg
  obtain ⟨ln_0, ln_1, ln_2, ln_3, ln_4, ln_5, ln_6, ln_7, ln_8, ln_9⟩ := ln
  obtain ⟨sl_0, sl_1, sl_2⟩ := sl
  obtain ⟨pd0, pd1⟩ := pd
  obtain ⟨ct_0, ct_1⟩ := ct
  have hx := hC.1
  have hb := hC.2.1
  have hml := hC.2.2.1
  have hts := hC.2.2.2.2
  have hB : ∀ w ∈ W0, w ∈ W0 := fun _ h => h
  have hh := hI.1
  have hct := hI.2.2.2.1
  have hln := hI.2.2.2.2.1
  have hmf := hI.2.2.2.2.2.1
  have hov := hI.2.2.2.2.2.2
  have hcd : ∀ k, 0 ≤ k → k < ln9 → 0 ≤ cd k ∧ cd k ≤ 126 := fun k a b => by have z := hmf k a b; omega
  have hP : va_P D vwCl ((wM β (gM cI cB) h sv sl9 tk cd mn mi mc mq mr mw ct9 ln9 mt ma mx mh) ++ (oC cL o fo ++ (wH α (gH cI cB) (h, old, ch) (rg0, rg1) (ln_0, ln_1, ln_2, ln_3, ln_4, ln_5, ln_6, ln_7, ln_8, ln_9) (sl_0, sl_1, sl_2) (pd0, pd1) (ct_0, ct_1) sg (cd, ln9, pl, le, ro, co, nu) (sv, sl9, tk, ct9)))) H := hP
  have hD : va_D A ((wM β (gM cI cB) h sv sl9 tk cd mn mi mc mq mr mw ct9 ln9 mt ma mx mh) ++ (oC cL o fo ++ (wH α (gH cI cB) (h, old, ch) (rg0, rg1) (ln_0, ln_1, ln_2, ln_3, ln_4, ln_5, ln_6, ln_7, ln_8, ln_9) (sl_0, sl_1, sl_2) (pd0, pd1) (ct_0, ct_1) sg (cd, ln9, pl, le, ro, co, nu) (sv, sl9, tk, ct9)))) := hD
  refine lv_aload_n hx hb dL_law_2035 rfl (lv_at hl 1 rfl) ?_
  have hP : va_P D vwCl (((wM β (gM cI cB) h sv sl9 tk cd mn mi mc mq mr mw ct9 ln9 mt ma mx mh) ++ oC cL o fo) ++ (wH α (gH cI cB) (h, old, ch) (rg0, rg1) (ln_0, ln_1, ln_2, ln_3, ln_4, ln_5, ln_6, ln_7, ln_8, ln_9) (sl_0, sl_1, sl_2) (pd0, pd1) (ct_0, ct_1) sg (cd, ln9, pl, le, ro, co, nu) (sv, sl9, tk, ct9))) H := by rw [List.append_assoc]; exact hP
  have hD : va_D A (((wM β (gM cI cB) h sv sl9 tk cd mn mi mc mq mr mw ct9 ln9 mt ma mx mh) ++ oC cL o fo) ++ (wH α (gH cI cB) (h, old, ch) (rg0, rg1) (ln_0, ln_1, ln_2, ln_3, ln_4, ln_5, ln_6, ln_7, ln_8, ln_9) (sl_0, sl_1, sl_2) (pd0, pd1) (ct_0, ct_1) sg (cd, ln9, pl, le, ro, co, nu) (sv, sl9, tk, ct9))) := by rw [List.append_assoc]; exact hD
  refine zfw_calli (mc := 0) (ms := 0) (wr := (wM β (gM cI cB) h sv sl9 tk cd mn mi mc mq mr mw ct9 ln9 mt ma mx mh) ++ oC cL o fo) (wc := (wH α (gH cI cB) (h, old, ch) (rg0, rg1) (ln_0, ln_1, ln_2, ln_3, ln_4, ln_5, ln_6, ln_7, ln_8, ln_9) (sl_0, sl_1, sl_2) (pd0, pd1) (ct_0, ct_1) sg (cd, ln9, pl, le, ro, co, nu) (sv, sl9, tk, ct9))) hP hD hS hA (va_runV (As := []) (rest := []) hC (c_X9_greatestBasin l D τ α (gH cI cB) h old ch (rg0, rg1) (ln_0, ln_1, ln_2, ln_3, ln_4, ln_5, ln_6, ln_7, ln_8, ln_9) sl_0 sl_1 sl_2 (pd0, pd1) (ct_0, ct_1) sg (cd, ln9, pl, le, ro, co, nu) (sv, sl9, tk, ct9) hh _) (cwV 0 hts (gV hB wl_L_266 wn_X9_greatestBasin ws_X9_greatestBasin wi_X9 wc_X9_greatestBasin) rfl rfl rfl hd_X9_greatestBasin ⟨Nat.le_of_ble_eq_true rfl, Nat.le_of_ble_eq_true rfl⟩) (zp_V hKh (zPc hP) (zDc hD) hS hA hG (ci := 9) (q0 := 0) rfl rfl rfl) rfl rfl hl.1 rfl (lv_room (Nat.le_of_ble_eq_true rfl)) dL_law_2036 ⟨by show _ ≤ 1083; omega, by show _ ≤ 10672; omega⟩) (fun r w1 H locs hq9 hP hD hS => ?_)
  obtain ⟨n2c, d2c, q2c, vc, hf0, hf1, rfl, rfl⟩ := hq9
  rw [List.append_assoc] at hP hD
  refine lv_aload_n hx hb dL_law_2039 rfl (lv_at hl 2 rfl) ?_
  have hP := zPswap hP
  have hD := zDswap hD
  refine zfw_calli (mc := 0) (ms := 0)  hP hD hS hA (va_runV (As := []) (rest := [.int (zI vc)]) hC (c_X10_greatestBasin l D τ β (gM cI cB) h sv sl9 tk cd mn mi mc mq mr mw ct9 ln9 mt ma mx mh hh _) (cwV 0 hts (gV hB wl_L_269 wn_X10_greatestBasin ws_X10_greatestBasin wi_X10 wc_X10_greatestBasin) rfl rfl rfl hd_X10_greatestBasin ⟨Nat.le_of_ble_eq_true rfl, Nat.le_of_ble_eq_true rfl⟩) (zp_V hKm (zPc hP) (zDc hD) hS hA hG (ci := 10) (q0 := 0) rfl rfl rfl) rfl rfl hl.1 rfl (lv_room (Nat.le_of_ble_eq_true rfl)) dL_law_2040 ⟨by show _ ≤ 1083; omega, by show _ ≤ 10672; omega⟩) (fun r w1 H locs hq9 hP hD hS => ?_)
  obtain ⟨vm, hm0, hm1, rfl, rfl⟩ := hq9
  have hP := zPswap hP
  have hD := zDswap hD
  have heq_2043 : vc = vm := by rw [hf0, hm0]
  refine z_iceqE (tgt := 2893) hx hb heq_2043 dL_law_2043 (by decide) ?_
  refine W.widen (k := cells + 2) (n := slots + 12) (by omega) (by omega) ?_
  exact hk _ _ _ _ _ _ _ _ _ _ _ _ _ _ _ _ _ _ _ _ _ _ _ _ _ _ _ _ _ _ _ H locs ls (hI) hP hD hS (lv_sub hl [0, 1, 2, 3, 4] rfl)
set_option maxHeartbeats 4000000 in
set_option maxRecDepth 100000 in
theorem law_2048 {p : Program} {l : Launch} {e : Env} {s : State} {m : MethodId} {below : List Frame} {meth : Method} {c : Code} {Q : State → Prop} {D : va_G} {τ : Nat → Nat} {A : Nat → Prop} {α β : Nat → Nat} {cI cB cL : ClassId} {o b L : Nat} {xs : Nat → Int32} {i : Int} {cells slots : Nat} (hX : LCx p l s m c D τ A cI cB cL b L xs) (hi : 0 ≤ i ∧ i + 6 ≤ L) (hc : cells + 2 ≤ 1083 ∧ slots + 12 ≤ 10672)
    (hk : LSt p l e s m below meth c Q D A α β cI cB cL o b i 2893 (cells + 2) (slots + 12)) : LSt p l e s m below meth c Q D A α β cI cB cL o b i 2048 cells slots := by
  obtain ⟨hC, hKm, hKo, hKh, hG, hA, hGX, hst, hXs, hbl, hbA, hL⟩ := hX
  intro h old ch rg ln sl pd ct sg cd ln9 pl le ro co nu sv sl9 tk ct9 mn mi mc mq mr mw mt ma mx mh fo H locs ls hI hP hD hS hl
  obtain ⟨rg0, rg1⟩ := rg
  obtain ⟨ln_0, ln_1, ln_2, ln_3, ln_4, ln_5, ln_6, ln_7, ln_8, ln_9⟩ := ln
  obtain ⟨sl_0, sl_1, sl_2⟩ := sl
  obtain ⟨pd0, pd1⟩ := pd
  obtain ⟨ct_0, ct_1⟩ := ct
  have hx := hC.1
  have hb := hC.2.1
  have hml := hC.2.2.1
  have hts := hC.2.2.2.2
  have hB : ∀ w ∈ W0, w ∈ W0 := fun _ h => h
  have hh := hI.1
  have hct := hI.2.2.2.1
  have hln := hI.2.2.2.2.1
  have hmf := hI.2.2.2.2.2.1
  have hov := hI.2.2.2.2.2.2
  have hcd : ∀ k, 0 ≤ k → k < ln9 → 0 ≤ cd k ∧ cd k ≤ 126 := fun k a b => by have z := hmf k a b; omega
  have hP : va_P D vwCl ((wM β (gM cI cB) h sv sl9 tk cd mn mi mc mq mr mw ct9 ln9 mt ma mx mh) ++ (oC cL o fo ++ (wH α (gH cI cB) (h, old, ch) (rg0, rg1) (ln_0, ln_1, ln_2, ln_3, ln_4, ln_5, ln_6, ln_7, ln_8, ln_9) (sl_0, sl_1, sl_2) (pd0, pd1) (ct_0, ct_1) sg (cd, ln9, pl, le, ro, co, nu) (sv, sl9, tk, ct9)))) H := hP
  have hD : va_D A ((wM β (gM cI cB) h sv sl9 tk cd mn mi mc mq mr mw ct9 ln9 mt ma mx mh) ++ (oC cL o fo ++ (wH α (gH cI cB) (h, old, ch) (rg0, rg1) (ln_0, ln_1, ln_2, ln_3, ln_4, ln_5, ln_6, ln_7, ln_8, ln_9) (sl_0, sl_1, sl_2) (pd0, pd1) (ct_0, ct_1) sg (cd, ln9, pl, le, ro, co, nu) (sv, sl9, tk, ct9)))) := hD
  refine lv_aload_n hx hb dL_law_2048 rfl (lv_at hl 1 rfl) ?_
  refine lv_aload_n hx hb dL_law_2049 rfl (lv_at hl 0 rfl) ?_
  refine lv_iload hx hb dL_law_2050 (lv_at hl 4 rfl) ?_
  refine lv_iconst (v := zI 1) hx hb dL_law_2052 rfl ?_
  refine z_iadd hx hb dL_law_2053 ?_
  refine z_sld hx hb hXs hbl hbA hS ⟨⟨by omega, by omega⟩, hL⟩ dL_law_2054 ?_
  refine lv_aload_n hx hb dL_law_2055 rfl (lv_at hl 0 rfl) ?_
  refine lv_iload hx hb dL_law_2056 (lv_at hl 4 rfl) ?_
  refine lv_iconst (v := zI 2) hx hb dL_law_2058 rfl ?_
  refine z_iadd hx hb dL_law_2059 ?_
  refine z_sld hx hb hXs hbl hbA hS ⟨⟨by omega, by omega⟩, hL⟩ dL_law_2060 ?_
  refine lv_aload_n hx hb dL_law_2061 rfl (lv_at hl 3 rfl) ?_
  refine zfw_calli (mc := 1) (ms := 6) (wr := (wM β (gM cI cB) h sv sl9 tk cd mn mi mc mq mr mw ct9 ln9 mt ma mx mh)) (wc := oC cL o fo ++ (wH α (gH cI cB) (h, old, ch) (rg0, rg1) (ln_0, ln_1, ln_2, ln_3, ln_4, ln_5, ln_6, ln_7, ln_8, ln_9) (sl_0, sl_1, sl_2) (pd0, pd1) (ct_0, ct_1) sg (cd, ln9, pl, le, ro, co, nu) (sv, sl9, tk, ct9))) hP hD hS hA (vx_runSW (As := [.ref (α 0), .int (zI (xI xs (i + 1))), .int (zI (xI xs (i + 2))), .ref o]) (rest := []) hC (c_L_spillByWays l D τ α (gH cI cB) h old ch (rg0, rg1) (ln_0, ln_1, ln_2, ln_3, ln_4, ln_5, ln_6, ln_7, ln_8, ln_9) (sl_0, sl_1, sl_2) pd0 pd1 (ct_0, ct_1) sg (cd, ln9, pl, le, ro, co, nu) (sv, sl9, tk, ct9) (xI xs (i + 1)) (xI xs (i + 2)) (xI_b xs _) (xI_b xs _) hh hst cL o fo _) (vx_cwSW 4 hts (gSW hB wl_L_270 wt_L_spillByWays wi_L wc_L_spillByWays) rfl rfl rfl hd_L_spillByWays.2 ⟨Nat.le_of_ble_eq_true rfl, Nat.le_of_ble_eq_true rfl⟩) (zpX_S hKo (zPc hP) (zDc hD) hS hA hG hGX) rfl rfl hl.1 rfl (lv_room (Nat.le_of_ble_eq_true rfl)) dL_law_2062 ⟨by show _ ≤ 1083; omega, by show _ ≤ 10672; omega⟩) (fun r w1 H locs hq9 hP hD hS => ?_)
  rcases hq9 with hq9 | hq9
  · skip
    obtain ⟨w2c, vc, go, hf0, hf1, hgo, rfl, rfl⟩ := hq9
    refine lv_istore (lv' := [(5, .int (zI 0)), (0, .ref b), (1, .ref (α 0)), (2, .ref (β 0)), (3, .ref o), (4, .int (zI i))]) hx hb dL_law_2065 hl (by decide) rfl (fun ls hl => ?_)
    refine lv_aload_n hx hb dL_law_2067 rfl (lv_at hl 3 rfl) ?_
    refine lv_aload_n hx hb dL_law_2068 rfl (lv_at hl 1 rfl) ?_
    refine lv_iload hx hb dL_law_2069 (lv_at hl 5 rfl) ?_
    refine lv_iconst (v := zI 1) hx hb dL_law_2071 rfl ?_
    refine z_iadd hx hb dL_law_2072 ?_
    refine z_sld hx hb hXs hbl hbA hS ⟨⟨by omega, by omega⟩, hL⟩ dL_law_2073 ?_
    refine lv_aload_n hx hb dL_law_2074 rfl (lv_at hl 1 rfl) ?_
    refine lv_iload hx hb dL_law_2075 (lv_at hl 5 rfl) ?_
    refine lv_iconst (v := zI 2) hx hb dL_law_2077 rfl ?_
    refine z_iadd hx hb dL_law_2078 ?_
    refine z_sld hx hb hXs hbl hbA hS ⟨⟨by omega, by omega⟩, hL⟩ dL_law_2079 ?_
    have hP := zPswap hP
    have hD := zDswap hD
    refine zfw_calli (mc := 0) (ms := 0)  hP hD hS hA (va_runV (As := [.int (zI (xI xs (i + 1))), .int (zI (xI xs (i + 2)))]) (rest := []) hC (c_X10_spillByWays l D τ β (gM cI cB) h sv sl9 tk cd mn mi mc mq mr mw ct9 ln9 mt ma mx mh (xI xs (i + 1)) (xI xs (i + 2)) (xI_b xs _) (xI_b xs _) hh _) (cwV 2 hts (gV hB wl_L_272 wn_X10_spillByWays ws_X10_spillByWays wi_X10 wc_X10_spillByWays) rfl rfl rfl hd_X10_spillByWays ⟨Nat.le_of_ble_eq_true rfl, Nat.le_of_ble_eq_true rfl⟩) (zp_V hKm (zPc hP) (zDc hD) hS hA hG (ci := 10) (q0 := 0) rfl rfl rfl) rfl rfl hl.1 rfl (lv_room (Nat.le_of_ble_eq_true rfl)) dL_law_2080 ⟨by show _ ≤ 1083; omega, by show _ ≤ 10672; omega⟩) (fun r w1 H locs hq9 hP hD hS => ?_)
    obtain ⟨w2m, t2m, vm, hm0, hm1, rfl, rfl⟩ := hq9
    have hP := zPswap hP
    have hD := zDswap hD
    refine lv_istore (lv' := [(6, .int (zI vm)), (5, .int (zI 0)), (0, .ref b), (1, .ref (α 0)), (2, .ref (β 0)), (3, .ref o), (4, .int (zI i))]) hx hb dL_law_2083 hl (by decide) rfl (fun ls hl => ?_)
    refine lv_aload_n hx hb dL_law_2085 rfl (lv_at hl 4 rfl) ?_
    have hP := zPswap hP
    have hD := zDswap hD
    refine zfw_calli (mc := 0) (ms := 0)  hP hD hS hA (va_runV (As := []) (rest := []) hC (c_X10_thrown l D τ β (gM cI cB) _ _ _ _ _ _ _ _ _ _ _ _ _ _ _ _ _ _) (cwV 0 hts (gV hB wl_L_145 wn_X10_thrown ws_X10_thrown wi_X10 wc_X10_thrown) rfl rfl rfl hd_X10_thrown ⟨Nat.le_of_ble_eq_true rfl, Nat.le_of_ble_eq_true rfl⟩) (zp_V hKm (zPc hP) (zDc hD) hS hA hG (ci := 10) (q0 := 0) rfl rfl rfl) rfl rfl hl.1 rfl (lv_room (Nat.le_of_ble_eq_true rfl)) dL_law_2086 ⟨by show _ ≤ 1083; omega, by show _ ≤ 10672; omega⟩) (fun r w1 H locs hq9 hP hD hS => ?_)
    obtain ⟨vt, ht0, rfl, rfl⟩ := hq9
    have hP := zPswap hP
    have hD := zDswap hD
    refine lv_iload hx hb dL_law_2089 (lv_at hl 1 rfl) ?_
    have heq_2091 : vt = 0 := by rw [ht0, hm0, hf0]
    refine z_iceqE (tgt := 2096) hx hb heq_2091 dL_law_2091 (by decide) ?_
    refine lv_iload hx hb dL_law_2096 (lv_at hl 1 rfl) ?_
    refine z_ifne (tgt := 2113) hx hb ⟨by omega, by omega⟩ dL_law_2098 (by decide) (fun c_2098 => absurd rfl c_2098) (fun c_2098 => ?_)
    refine lv_aload_n hx hb dL_law_2101 rfl (lv_at hl 5 rfl) ?_
    refine lv_iconst (v := zI 0) hx hb dL_law_2102 rfl ?_
    refine zo_lald hx hb hKo (zPc hP) dL_law_2103 ?_
    refine lv_iload hx hb dL_law_2104 (lv_at hl 0 rfl) ?_
    refine lv_i2l (v := (zI vm).toInt64) hx hb dL_law_2106 rfl ?_
    refine z_lcmpE hx hb (by rw [hgo, hf1, (hm1 (hm0.trans hf0))]) dL_law_2107 ?_
    refine z_ifeq (tgt := 2113) hx hb ⟨by omega, by omega⟩ dL_law_2108 (by decide) (fun c_2108 => ?_) (fun c_2108 => absurd rfl c_2108)
    refine lv_goto (tgt := 2893) hx hb dL_law_2113 (by decide) ?_
    refine W.widen (k := cells + 2) (n := slots + 12) (by omega) (by omega) ?_
    exact hk _ _ _ _ _ _ _ _ _ _ _ _ _ _ _ _ _ _ _ _ _ _ _ _ _ _ _ _ _ _ _ H locs ls (hI) hP hD hS (lv_sub hl [2, 3, 4, 5, 6] rfl)
  · skip
    obtain ⟨hx9, rfl, rfl⟩ := hq9
    refine lv_istore (lv' := [(5, .int (zI 1)), (0, .ref b), (1, .ref (α 0)), (2, .ref (β 0)), (3, .ref o), (4, .int (zI i))]) hx hb dL_law_2065 hl (by decide) rfl (fun ls hl => ?_)
    refine lv_aload_n hx hb dL_law_2067 rfl (lv_at hl 3 rfl) ?_
    refine lv_aload_n hx hb dL_law_2068 rfl (lv_at hl 1 rfl) ?_
    refine lv_iload hx hb dL_law_2069 (lv_at hl 5 rfl) ?_
    refine lv_iconst (v := zI 1) hx hb dL_law_2071 rfl ?_
    refine z_iadd hx hb dL_law_2072 ?_
    refine z_sld hx hb hXs hbl hbA hS ⟨⟨by omega, by omega⟩, hL⟩ dL_law_2073 ?_
    refine lv_aload_n hx hb dL_law_2074 rfl (lv_at hl 1 rfl) ?_
    refine lv_iload hx hb dL_law_2075 (lv_at hl 5 rfl) ?_
    refine lv_iconst (v := zI 2) hx hb dL_law_2077 rfl ?_
    refine z_iadd hx hb dL_law_2078 ?_
    refine z_sld hx hb hXs hbl hbA hS ⟨⟨by omega, by omega⟩, hL⟩ dL_law_2079 ?_
    have hP := zPswap hP
    have hD := zDswap hD
    refine zfw_calli (mc := 0) (ms := 0)  hP hD hS hA (va_runV (As := [.int (zI (xI xs (i + 1))), .int (zI (xI xs (i + 2)))]) (rest := []) hC (c_X10_spillByWays l D τ β (gM cI cB) h sv sl9 tk cd mn mi mc mq mr mw ct9 ln9 mt ma mx mh (xI xs (i + 1)) (xI xs (i + 2)) (xI_b xs _) (xI_b xs _) hh _) (cwV 2 hts (gV hB wl_L_272 wn_X10_spillByWays ws_X10_spillByWays wi_X10 wc_X10_spillByWays) rfl rfl rfl hd_X10_spillByWays ⟨Nat.le_of_ble_eq_true rfl, Nat.le_of_ble_eq_true rfl⟩) (zp_V hKm (zPc hP) (zDc hD) hS hA hG (ci := 10) (q0 := 0) rfl rfl rfl) rfl rfl hl.1 rfl (lv_room (Nat.le_of_ble_eq_true rfl)) dL_law_2080 ⟨by show _ ≤ 1083; omega, by show _ ≤ 10672; omega⟩) (fun r w1 H locs hq9 hP hD hS => ?_)
    obtain ⟨w2m, t2m, vm, hm0, hm1, rfl, rfl⟩ := hq9
    have hP := zPswap hP
    have hD := zDswap hD
    refine lv_istore (lv' := [(6, .int (zI vm)), (5, .int (zI 1)), (0, .ref b), (1, .ref (α 0)), (2, .ref (β 0)), (3, .ref o), (4, .int (zI i))]) hx hb dL_law_2083 hl (by decide) rfl (fun ls hl => ?_)
    refine lv_aload_n hx hb dL_law_2085 rfl (lv_at hl 4 rfl) ?_
    have hP := zPswap hP
    have hD := zDswap hD
    refine zfw_calli (mc := 0) (ms := 0)  hP hD hS hA (va_runV (As := []) (rest := []) hC (c_X10_thrown l D τ β (gM cI cB) _ _ _ _ _ _ _ _ _ _ _ _ _ _ _ _ _ _) (cwV 0 hts (gV hB wl_L_145 wn_X10_thrown ws_X10_thrown wi_X10 wc_X10_thrown) rfl rfl rfl hd_X10_thrown ⟨Nat.le_of_ble_eq_true rfl, Nat.le_of_ble_eq_true rfl⟩) (zp_V hKm (zPc hP) (zDc hD) hS hA hG (ci := 10) (q0 := 0) rfl rfl rfl) rfl rfl hl.1 rfl (lv_room (Nat.le_of_ble_eq_true rfl)) dL_law_2086 ⟨by show _ ≤ 1083; omega, by show _ ≤ 10672; omega⟩) (fun r w1 H locs hq9 hP hD hS => ?_)
    obtain ⟨vt, ht0, rfl, rfl⟩ := hq9
    have hP := zPswap hP
    have hD := zDswap hD
    refine lv_iload hx hb dL_law_2089 (lv_at hl 1 rfl) ?_
    have heq_2091 : vt = 1 := by rw [ht0, hm0, hx9]
    refine z_iceqE (tgt := 2096) hx hb heq_2091 dL_law_2091 (by decide) ?_
    refine lv_iload hx hb dL_law_2096 (lv_at hl 1 rfl) ?_
    refine z_ifne (tgt := 2113) hx hb ⟨by omega, by omega⟩ dL_law_2098 (by decide) (fun c_2098 => ?_) (fun c_2098 => absurd c_2098 (by decide))
    refine lv_goto (tgt := 2893) hx hb dL_law_2113 (by decide) ?_
    refine W.widen (k := cells + 2) (n := slots + 12) (by omega) (by omega) ?_
    exact hk _ _ _ _ _ _ _ _ _ _ _ _ _ _ _ _ _ _ _ _ _ _ _ _ _ _ _ _ _ _ _ H locs ls (hI) hP hD hS (lv_sub hl [2, 3, 4, 5, 6] rfl)
set_option maxHeartbeats 4000000 in
set_option maxRecDepth 100000 in
theorem law_2116 {p : Program} {l : Launch} {e : Env} {s : State} {m : MethodId} {below : List Frame} {meth : Method} {c : Code} {Q : State → Prop} {D : va_G} {τ : Nat → Nat} {A : Nat → Prop} {α β : Nat → Nat} {cI cB cL : ClassId} {o b L : Nat} {xs : Nat → Int32} {i : Int} {cells slots : Nat} (hX : LCx p l s m c D τ A cI cB cL b L xs) (hi : 0 ≤ i ∧ i + 6 ≤ L) (hc : cells + 2 ≤ 1083 ∧ slots + 12 ≤ 10672)
    (hk : LSt p l e s m below meth c Q D A α β cI cB cL o b i 2893 (cells + 2) (slots + 12)) : LSt p l e s m below meth c Q D A α β cI cB cL o b i 2116 cells slots := by
  obtain ⟨hC, hKm, hKo, hKh, hG, hA, hGX, hst, hXs, hbl, hbA, hL⟩ := hX
  intro h old ch rg ln sl pd ct sg cd ln9 pl le ro co nu sv sl9 tk ct9 mn mi mc mq mr mw mt ma mx mh fo H locs ls hI hP hD hS hl
  obtain ⟨rg0, rg1⟩ := rg
  obtain ⟨ln_0, ln_1, ln_2, ln_3, ln_4, ln_5, ln_6, ln_7, ln_8, ln_9⟩ := ln
  obtain ⟨sl_0, sl_1, sl_2⟩ := sl
  obtain ⟨pd0, pd1⟩ := pd
  obtain ⟨ct_0, ct_1⟩ := ct
  have hx := hC.1
  have hb := hC.2.1
  have hml := hC.2.2.1
  have hts := hC.2.2.2.2
  have hB : ∀ w ∈ W0, w ∈ W0 := fun _ h => h
  have hh := hI.1
  have hct := hI.2.2.2.1
  have hln := hI.2.2.2.2.1
  have hmf := hI.2.2.2.2.2.1
  have hov := hI.2.2.2.2.2.2
  have hcd : ∀ k, 0 ≤ k → k < ln9 → 0 ≤ cd k ∧ cd k ≤ 126 := fun k a b => by have z := hmf k a b; omega
  have hP : va_P D vwCl ((wM β (gM cI cB) h sv sl9 tk cd mn mi mc mq mr mw ct9 ln9 mt ma mx mh) ++ (oC cL o fo ++ (wH α (gH cI cB) (h, old, ch) (rg0, rg1) (ln_0, ln_1, ln_2, ln_3, ln_4, ln_5, ln_6, ln_7, ln_8, ln_9) (sl_0, sl_1, sl_2) (pd0, pd1) (ct_0, ct_1) sg (cd, ln9, pl, le, ro, co, nu) (sv, sl9, tk, ct9)))) H := hP
  have hD : va_D A ((wM β (gM cI cB) h sv sl9 tk cd mn mi mc mq mr mw ct9 ln9 mt ma mx mh) ++ (oC cL o fo ++ (wH α (gH cI cB) (h, old, ch) (rg0, rg1) (ln_0, ln_1, ln_2, ln_3, ln_4, ln_5, ln_6, ln_7, ln_8, ln_9) (sl_0, sl_1, sl_2) (pd0, pd1) (ct_0, ct_1) sg (cd, ln9, pl, le, ro, co, nu) (sv, sl9, tk, ct9)))) := hD
  refine lv_aload_n hx hb dL_law_2116 rfl (lv_at hl 1 rfl) ?_
  refine lv_aload_n hx hb dL_law_2117 rfl (lv_at hl 0 rfl) ?_
  refine lv_iload hx hb dL_law_2118 (lv_at hl 4 rfl) ?_
  refine lv_iconst (v := zI 1) hx hb dL_law_2120 rfl ?_
  refine z_iadd hx hb dL_law_2121 ?_
  refine z_sld hx hb hXs hbl hbA hS ⟨⟨by omega, by omega⟩, hL⟩ dL_law_2122 ?_
  refine lv_aload_n hx hb dL_law_2123 rfl (lv_at hl 0 rfl) ?_
  refine lv_iload hx hb dL_law_2124 (lv_at hl 4 rfl) ?_
  refine lv_iconst (v := zI 2) hx hb dL_law_2126 rfl ?_
  refine z_iadd hx hb dL_law_2127 ?_
  refine z_sld hx hb hXs hbl hbA hS ⟨⟨by omega, by omega⟩, hL⟩ dL_law_2128 ?_
  refine lv_aload_n hx hb dL_law_2129 rfl (lv_at hl 3 rfl) ?_
  refine zfw_calli (mc := 1) (ms := 6) (wr := (wM β (gM cI cB) h sv sl9 tk cd mn mi mc mq mr mw ct9 ln9 mt ma mx mh)) (wc := oC cL o fo ++ (wH α (gH cI cB) (h, old, ch) (rg0, rg1) (ln_0, ln_1, ln_2, ln_3, ln_4, ln_5, ln_6, ln_7, ln_8, ln_9) (sl_0, sl_1, sl_2) (pd0, pd1) (ct_0, ct_1) sg (cd, ln9, pl, le, ro, co, nu) (sv, sl9, tk, ct9))) hP hD hS hA (vx_runSW (As := [.ref (α 0), .int (zI (xI xs (i + 1))), .int (zI (xI xs (i + 2))), .ref o]) (rest := []) hC (c_L_spillByLevels l D τ α (gH cI cB) h old ch rg0 rg1 (ln_0, ln_1, ln_2, ln_3, ln_4, ln_5, ln_6, ln_7, ln_8, ln_9) (sl_0, sl_1, sl_2) pd0 pd1 (ct_0, ct_1) sg (cd, ln9, pl, le, ro, co, nu) (sv, sl9, tk, ct9) (xI xs (i + 1)) (xI xs (i + 2)) (xI_b xs _) (xI_b xs _) hh hst cL o fo _) (vx_cwSW 4 hts (gSW hB wl_L_273 wt_L_spillByLevels wi_L wc_L_spillByLevels) rfl rfl rfl hd_L_spillByLevels.2 ⟨Nat.le_of_ble_eq_true rfl, Nat.le_of_ble_eq_true rfl⟩) (zpX_S hKo (zPc hP) (zDc hD) hS hA hG hGX) rfl rfl hl.1 rfl (lv_room (Nat.le_of_ble_eq_true rfl)) dL_law_2130 ⟨by show _ ≤ 1083; omega, by show _ ≤ 10672; omega⟩) (fun r w1 H locs hq9 hP hD hS => ?_)
  rcases hq9 with hq9 | hq9
  · skip
    obtain ⟨l2c, w2c, q2c, vc, go, hf0, hf1, hgo, rfl, rfl⟩ := hq9
    refine lv_istore (lv' := [(5, .int (zI 0)), (0, .ref b), (1, .ref (α 0)), (2, .ref (β 0)), (3, .ref o), (4, .int (zI i))]) hx hb dL_law_2133 hl (by decide) rfl (fun ls hl => ?_)
    refine lv_aload_n hx hb dL_law_2135 rfl (lv_at hl 3 rfl) ?_
    refine lv_aload_n hx hb dL_law_2136 rfl (lv_at hl 1 rfl) ?_
    refine lv_iload hx hb dL_law_2137 (lv_at hl 5 rfl) ?_
    refine lv_iconst (v := zI 1) hx hb dL_law_2139 rfl ?_
    refine z_iadd hx hb dL_law_2140 ?_
    refine z_sld hx hb hXs hbl hbA hS ⟨⟨by omega, by omega⟩, hL⟩ dL_law_2141 ?_
    refine lv_aload_n hx hb dL_law_2142 rfl (lv_at hl 1 rfl) ?_
    refine lv_iload hx hb dL_law_2143 (lv_at hl 5 rfl) ?_
    refine lv_iconst (v := zI 2) hx hb dL_law_2145 rfl ?_
    refine z_iadd hx hb dL_law_2146 ?_
    refine z_sld hx hb hXs hbl hbA hS ⟨⟨by omega, by omega⟩, hL⟩ dL_law_2147 ?_
    have hP := zPswap hP
    have hD := zDswap hD
    refine zfw_calli (mc := 0) (ms := 0)  hP hD hS hA (va_runV (As := [.int (zI (xI xs (i + 1))), .int (zI (xI xs (i + 2)))]) (rest := []) hC (c_X10_spillByLevels l D τ β (gM cI cB) h sv sl9 tk cd mn mi mc mq mr mw ct9 ln9 mt ma mx mh (xI xs (i + 1)) (xI xs (i + 2)) (xI_b xs _) (xI_b xs _) hh _) (cwV 2 hts (gV hB wl_L_275 wn_X10_spillByLevels ws_X10_spillByLevels wi_X10 wc_X10_spillByLevels) rfl rfl rfl hd_X10_spillByLevels ⟨Nat.le_of_ble_eq_true rfl, Nat.le_of_ble_eq_true rfl⟩) (zp_V hKm (zPc hP) (zDc hD) hS hA hG (ci := 10) (q0 := 0) rfl rfl rfl) rfl rfl hl.1 rfl (lv_room (Nat.le_of_ble_eq_true rfl)) dL_law_2148 ⟨by show _ ≤ 1083; omega, by show _ ≤ 10672; omega⟩) (fun r w1 H locs hq9 hP hD hS => ?_)
    obtain ⟨w2m, t2m, vm, hm0, hm1, rfl, rfl⟩ := hq9
    have hP := zPswap hP
    have hD := zDswap hD
    refine lv_istore (lv' := [(6, .int (zI vm)), (5, .int (zI 0)), (0, .ref b), (1, .ref (α 0)), (2, .ref (β 0)), (3, .ref o), (4, .int (zI i))]) hx hb dL_law_2151 hl (by decide) rfl (fun ls hl => ?_)
    refine lv_aload_n hx hb dL_law_2153 rfl (lv_at hl 4 rfl) ?_
    have hP := zPswap hP
    have hD := zDswap hD
    refine zfw_calli (mc := 0) (ms := 0)  hP hD hS hA (va_runV (As := []) (rest := []) hC (c_X10_thrown l D τ β (gM cI cB) _ _ _ _ _ _ _ _ _ _ _ _ _ _ _ _ _ _) (cwV 0 hts (gV hB wl_L_145 wn_X10_thrown ws_X10_thrown wi_X10 wc_X10_thrown) rfl rfl rfl hd_X10_thrown ⟨Nat.le_of_ble_eq_true rfl, Nat.le_of_ble_eq_true rfl⟩) (zp_V hKm (zPc hP) (zDc hD) hS hA hG (ci := 10) (q0 := 0) rfl rfl rfl) rfl rfl hl.1 rfl (lv_room (Nat.le_of_ble_eq_true rfl)) dL_law_2154 ⟨by show _ ≤ 1083; omega, by show _ ≤ 10672; omega⟩) (fun r w1 H locs hq9 hP hD hS => ?_)
    obtain ⟨vt, ht0, rfl, rfl⟩ := hq9
    have hP := zPswap hP
    have hD := zDswap hD
    refine lv_iload hx hb dL_law_2157 (lv_at hl 1 rfl) ?_
    have heq_2159 : vt = 0 := by rw [ht0, hm0, hf0]
    refine z_iceqE (tgt := 2164) hx hb heq_2159 dL_law_2159 (by decide) ?_
    refine lv_iload hx hb dL_law_2164 (lv_at hl 1 rfl) ?_
    refine z_ifne (tgt := 2181) hx hb ⟨by omega, by omega⟩ dL_law_2166 (by decide) (fun c_2166 => absurd rfl c_2166) (fun c_2166 => ?_)
    refine lv_aload_n hx hb dL_law_2169 rfl (lv_at hl 5 rfl) ?_
    refine lv_iconst (v := zI 0) hx hb dL_law_2170 rfl ?_
    refine zo_lald hx hb hKo (zPc hP) dL_law_2171 ?_
    refine lv_iload hx hb dL_law_2172 (lv_at hl 0 rfl) ?_
    refine lv_i2l (v := (zI vm).toInt64) hx hb dL_law_2174 rfl ?_
    refine z_lcmpE hx hb (by rw [hgo, hf1, (hm1 (hm0.trans hf0))]) dL_law_2175 ?_
    refine z_ifeq (tgt := 2181) hx hb ⟨by omega, by omega⟩ dL_law_2176 (by decide) (fun c_2176 => ?_) (fun c_2176 => absurd rfl c_2176)
    refine lv_goto (tgt := 2893) hx hb dL_law_2181 (by decide) ?_
    refine W.widen (k := cells + 2) (n := slots + 12) (by omega) (by omega) ?_
    exact hk _ _ _ _ _ _ _ _ _ _ _ _ _ _ _ _ _ _ _ _ _ _ _ _ _ _ _ _ _ _ _ H locs ls (hI) hP hD hS (lv_sub hl [2, 3, 4, 5, 6] rfl)
  · skip
    obtain ⟨hx9, rfl, rfl⟩ := hq9
    refine lv_istore (lv' := [(5, .int (zI 1)), (0, .ref b), (1, .ref (α 0)), (2, .ref (β 0)), (3, .ref o), (4, .int (zI i))]) hx hb dL_law_2133 hl (by decide) rfl (fun ls hl => ?_)
    refine lv_aload_n hx hb dL_law_2135 rfl (lv_at hl 3 rfl) ?_
    refine lv_aload_n hx hb dL_law_2136 rfl (lv_at hl 1 rfl) ?_
    refine lv_iload hx hb dL_law_2137 (lv_at hl 5 rfl) ?_
    refine lv_iconst (v := zI 1) hx hb dL_law_2139 rfl ?_
    refine z_iadd hx hb dL_law_2140 ?_
    refine z_sld hx hb hXs hbl hbA hS ⟨⟨by omega, by omega⟩, hL⟩ dL_law_2141 ?_
    refine lv_aload_n hx hb dL_law_2142 rfl (lv_at hl 1 rfl) ?_
    refine lv_iload hx hb dL_law_2143 (lv_at hl 5 rfl) ?_
    refine lv_iconst (v := zI 2) hx hb dL_law_2145 rfl ?_
    refine z_iadd hx hb dL_law_2146 ?_
    refine z_sld hx hb hXs hbl hbA hS ⟨⟨by omega, by omega⟩, hL⟩ dL_law_2147 ?_
    have hP := zPswap hP
    have hD := zDswap hD
    refine zfw_calli (mc := 0) (ms := 0)  hP hD hS hA (va_runV (As := [.int (zI (xI xs (i + 1))), .int (zI (xI xs (i + 2)))]) (rest := []) hC (c_X10_spillByLevels l D τ β (gM cI cB) h sv sl9 tk cd mn mi mc mq mr mw ct9 ln9 mt ma mx mh (xI xs (i + 1)) (xI xs (i + 2)) (xI_b xs _) (xI_b xs _) hh _) (cwV 2 hts (gV hB wl_L_275 wn_X10_spillByLevels ws_X10_spillByLevels wi_X10 wc_X10_spillByLevels) rfl rfl rfl hd_X10_spillByLevels ⟨Nat.le_of_ble_eq_true rfl, Nat.le_of_ble_eq_true rfl⟩) (zp_V hKm (zPc hP) (zDc hD) hS hA hG (ci := 10) (q0 := 0) rfl rfl rfl) rfl rfl hl.1 rfl (lv_room (Nat.le_of_ble_eq_true rfl)) dL_law_2148 ⟨by show _ ≤ 1083; omega, by show _ ≤ 10672; omega⟩) (fun r w1 H locs hq9 hP hD hS => ?_)
    obtain ⟨w2m, t2m, vm, hm0, hm1, rfl, rfl⟩ := hq9
    have hP := zPswap hP
    have hD := zDswap hD
    refine lv_istore (lv' := [(6, .int (zI vm)), (5, .int (zI 1)), (0, .ref b), (1, .ref (α 0)), (2, .ref (β 0)), (3, .ref o), (4, .int (zI i))]) hx hb dL_law_2151 hl (by decide) rfl (fun ls hl => ?_)
    refine lv_aload_n hx hb dL_law_2153 rfl (lv_at hl 4 rfl) ?_
    have hP := zPswap hP
    have hD := zDswap hD
    refine zfw_calli (mc := 0) (ms := 0)  hP hD hS hA (va_runV (As := []) (rest := []) hC (c_X10_thrown l D τ β (gM cI cB) _ _ _ _ _ _ _ _ _ _ _ _ _ _ _ _ _ _) (cwV 0 hts (gV hB wl_L_145 wn_X10_thrown ws_X10_thrown wi_X10 wc_X10_thrown) rfl rfl rfl hd_X10_thrown ⟨Nat.le_of_ble_eq_true rfl, Nat.le_of_ble_eq_true rfl⟩) (zp_V hKm (zPc hP) (zDc hD) hS hA hG (ci := 10) (q0 := 0) rfl rfl rfl) rfl rfl hl.1 rfl (lv_room (Nat.le_of_ble_eq_true rfl)) dL_law_2154 ⟨by show _ ≤ 1083; omega, by show _ ≤ 10672; omega⟩) (fun r w1 H locs hq9 hP hD hS => ?_)
    obtain ⟨vt, ht0, rfl, rfl⟩ := hq9
    have hP := zPswap hP
    have hD := zDswap hD
    refine lv_iload hx hb dL_law_2157 (lv_at hl 1 rfl) ?_
    have heq_2159 : vt = 1 := by rw [ht0, hm0, hx9]
    refine z_iceqE (tgt := 2164) hx hb heq_2159 dL_law_2159 (by decide) ?_
    refine lv_iload hx hb dL_law_2164 (lv_at hl 1 rfl) ?_
    refine z_ifne (tgt := 2181) hx hb ⟨by omega, by omega⟩ dL_law_2166 (by decide) (fun c_2166 => ?_) (fun c_2166 => absurd c_2166 (by decide))
    refine lv_goto (tgt := 2893) hx hb dL_law_2181 (by decide) ?_
    refine W.widen (k := cells + 2) (n := slots + 12) (by omega) (by omega) ?_
    exact hk _ _ _ _ _ _ _ _ _ _ _ _ _ _ _ _ _ _ _ _ _ _ _ _ _ _ _ _ _ _ _ H locs ls (hI) hP hD hS (lv_sub hl [2, 3, 4, 5, 6] rfl)
set_option maxHeartbeats 4000000 in
set_option maxRecDepth 100000 in
theorem law_2184 {p : Program} {l : Launch} {e : Env} {s : State} {m : MethodId} {below : List Frame} {meth : Method} {c : Code} {Q : State → Prop} {D : va_G} {τ : Nat → Nat} {A : Nat → Prop} {α β : Nat → Nat} {cI cB cL : ClassId} {o b L : Nat} {xs : Nat → Int32} {i : Int} {cells slots : Nat} (hX : LCx p l s m c D τ A cI cB cL b L xs) (hi : 0 ≤ i ∧ i + 6 ≤ L) (hc : cells + 2 ≤ 1083 ∧ slots + 12 ≤ 10672)
    (hk : LSt p l e s m below meth c Q D A α β cI cB cL o b i 2893 (cells + 2) (slots + 12)) : LSt p l e s m below meth c Q D A α β cI cB cL o b i 2184 cells slots := by
  obtain ⟨hC, hKm, hKo, hKh, hG, hA, hGX, hst, hXs, hbl, hbA, hL⟩ := hX
  intro h old ch rg ln sl pd ct sg cd ln9 pl le ro co nu sv sl9 tk ct9 mn mi mc mq mr mw mt ma mx mh fo H locs ls hI hP hD hS hl
  obtain ⟨rg0, rg1⟩ := rg
  obtain ⟨ln_0, ln_1, ln_2, ln_3, ln_4, ln_5, ln_6, ln_7, ln_8, ln_9⟩ := ln
  obtain ⟨sl_0, sl_1, sl_2⟩ := sl
  obtain ⟨pd0, pd1⟩ := pd
  obtain ⟨ct_0, ct_1⟩ := ct
  have hx := hC.1
  have hb := hC.2.1
  have hml := hC.2.2.1
  have hts := hC.2.2.2.2
  have hB : ∀ w ∈ W0, w ∈ W0 := fun _ h => h
  have hh := hI.1
  have hct := hI.2.2.2.1
  have hln := hI.2.2.2.2.1
  have hmf := hI.2.2.2.2.2.1
  have hov := hI.2.2.2.2.2.2
  have hcd : ∀ k, 0 ≤ k → k < ln9 → 0 ≤ cd k ∧ cd k ≤ 126 := fun k a b => by have z := hmf k a b; omega
  have hP : va_P D vwCl ((wM β (gM cI cB) h sv sl9 tk cd mn mi mc mq mr mw ct9 ln9 mt ma mx mh) ++ (oC cL o fo ++ (wH α (gH cI cB) (h, old, ch) (rg0, rg1) (ln_0, ln_1, ln_2, ln_3, ln_4, ln_5, ln_6, ln_7, ln_8, ln_9) (sl_0, sl_1, sl_2) (pd0, pd1) (ct_0, ct_1) sg (cd, ln9, pl, le, ro, co, nu) (sv, sl9, tk, ct9)))) H := hP
  have hD : va_D A ((wM β (gM cI cB) h sv sl9 tk cd mn mi mc mq mr mw ct9 ln9 mt ma mx mh) ++ (oC cL o fo ++ (wH α (gH cI cB) (h, old, ch) (rg0, rg1) (ln_0, ln_1, ln_2, ln_3, ln_4, ln_5, ln_6, ln_7, ln_8, ln_9) (sl_0, sl_1, sl_2) (pd0, pd1) (ct_0, ct_1) sg (cd, ln9, pl, le, ro, co, nu) (sv, sl9, tk, ct9)))) := hD
  refine lv_aload_n hx hb dL_law_2184 rfl (lv_at hl 1 rfl) ?_
  refine lv_aload_n hx hb dL_law_2185 rfl (lv_at hl 0 rfl) ?_
  refine lv_iload hx hb dL_law_2186 (lv_at hl 4 rfl) ?_
  refine lv_iconst (v := zI 1) hx hb dL_law_2188 rfl ?_
  refine z_iadd hx hb dL_law_2189 ?_
  refine z_sld hx hb hXs hbl hbA hS ⟨⟨by omega, by omega⟩, hL⟩ dL_law_2190 ?_
  refine lv_aload_n hx hb dL_law_2191 rfl (lv_at hl 0 rfl) ?_
  refine lv_iload hx hb dL_law_2192 (lv_at hl 4 rfl) ?_
  refine lv_iconst (v := zI 2) hx hb dL_law_2194 rfl ?_
  refine z_iadd hx hb dL_law_2195 ?_
  refine z_sld hx hb hXs hbl hbA hS ⟨⟨by omega, by omega⟩, hL⟩ dL_law_2196 ?_
  refine lv_aload_n hx hb dL_law_2197 rfl (lv_at hl 3 rfl) ?_
  refine zfw_calli (mc := 1) (ms := 6) (wr := (wM β (gM cI cB) h sv sl9 tk cd mn mi mc mq mr mw ct9 ln9 mt ma mx mh)) (wc := oC cL o fo ++ (wH α (gH cI cB) (h, old, ch) (rg0, rg1) (ln_0, ln_1, ln_2, ln_3, ln_4, ln_5, ln_6, ln_7, ln_8, ln_9) (sl_0, sl_1, sl_2) (pd0, pd1) (ct_0, ct_1) sg (cd, ln9, pl, le, ro, co, nu) (sv, sl9, tk, ct9))) hP hD hS hA (vx_runSW (As := [.ref (α 0), .int (zI (xI xs (i + 1))), .int (zI (xI xs (i + 2))), .ref o]) (rest := []) hC (c_L_depthOf l D τ α (gH cI cB) h old ch (rg0, rg1) (ln_0, ln_1, ln_2, ln_3, ln_4, ln_5, ln_6, ln_7, ln_8, ln_9) (sl_0, sl_1, sl_2) pd0 pd1 (ct_0, ct_1) sg (cd, ln9, pl, le, ro, co, nu) (sv, sl9, tk, ct9) (xI xs (i + 1)) (xI xs (i + 2)) (xI_b xs _) (xI_b xs _) hh hst cL o fo _) (vx_cwSW 4 hts (gSW hB wl_L_276 wt_L_depthOf wi_L wc_L_depthOf) rfl rfl rfl hd_L_depthOf.2 ⟨Nat.le_of_ble_eq_true rfl, Nat.le_of_ble_eq_true rfl⟩) (zpX_S hKo (zPc hP) (zDc hD) hS hA hG hGX) rfl rfl hl.1 rfl (lv_room (Nat.le_of_ble_eq_true rfl)) dL_law_2198 ⟨by show _ ≤ 1083; omega, by show _ ≤ 10672; omega⟩) (fun r w1 H locs hq9 hP hD hS => ?_)
  rcases hq9 with hq9 | hq9
  · skip
    obtain ⟨w2c, vc, go, hf0, hf1, hgo, rfl, rfl⟩ := hq9
    refine lv_istore (lv' := [(5, .int (zI 0)), (0, .ref b), (1, .ref (α 0)), (2, .ref (β 0)), (3, .ref o), (4, .int (zI i))]) hx hb dL_law_2201 hl (by decide) rfl (fun ls hl => ?_)
    refine lv_aload_n hx hb dL_law_2203 rfl (lv_at hl 3 rfl) ?_
    refine lv_aload_n hx hb dL_law_2204 rfl (lv_at hl 1 rfl) ?_
    refine lv_iload hx hb dL_law_2205 (lv_at hl 5 rfl) ?_
    refine lv_iconst (v := zI 1) hx hb dL_law_2207 rfl ?_
    refine z_iadd hx hb dL_law_2208 ?_
    refine z_sld hx hb hXs hbl hbA hS ⟨⟨by omega, by omega⟩, hL⟩ dL_law_2209 ?_
    refine lv_aload_n hx hb dL_law_2210 rfl (lv_at hl 1 rfl) ?_
    refine lv_iload hx hb dL_law_2211 (lv_at hl 5 rfl) ?_
    refine lv_iconst (v := zI 2) hx hb dL_law_2213 rfl ?_
    refine z_iadd hx hb dL_law_2214 ?_
    refine z_sld hx hb hXs hbl hbA hS ⟨⟨by omega, by omega⟩, hL⟩ dL_law_2215 ?_
    have hP := zPswap hP
    have hD := zDswap hD
    refine zfw_calli (mc := 0) (ms := 0)  hP hD hS hA (va_runV (As := [.int (zI (xI xs (i + 1))), .int (zI (xI xs (i + 2)))]) (rest := []) hC (c_X10_depthOf l D τ β (gM cI cB) h sv sl9 tk cd mn mi mc mq mr mw ct9 ln9 mt ma mx mh (xI xs (i + 1)) (xI xs (i + 2)) (xI_b xs _) (xI_b xs _) hh _) (cwV 2 hts (gV hB wl_L_278 wn_X10_depthOf ws_X10_depthOf wi_X10 wc_X10_depthOf) rfl rfl rfl hd_X10_depthOf ⟨Nat.le_of_ble_eq_true rfl, Nat.le_of_ble_eq_true rfl⟩) (zp_V hKm (zPc hP) (zDc hD) hS hA hG (ci := 10) (q0 := 0) rfl rfl rfl) rfl rfl hl.1 rfl (lv_room (Nat.le_of_ble_eq_true rfl)) dL_law_2216 ⟨by show _ ≤ 1083; omega, by show _ ≤ 10672; omega⟩) (fun r w1 H locs hq9 hP hD hS => ?_)
    obtain ⟨w2m, t2m, vm, hm0, hm1, rfl, rfl⟩ := hq9
    have hP := zPswap hP
    have hD := zDswap hD
    refine lv_istore (lv' := [(6, .int (zI vm)), (5, .int (zI 0)), (0, .ref b), (1, .ref (α 0)), (2, .ref (β 0)), (3, .ref o), (4, .int (zI i))]) hx hb dL_law_2219 hl (by decide) rfl (fun ls hl => ?_)
    refine lv_aload_n hx hb dL_law_2221 rfl (lv_at hl 4 rfl) ?_
    have hP := zPswap hP
    have hD := zDswap hD
    refine zfw_calli (mc := 0) (ms := 0)  hP hD hS hA (va_runV (As := []) (rest := []) hC (c_X10_thrown l D τ β (gM cI cB) _ _ _ _ _ _ _ _ _ _ _ _ _ _ _ _ _ _) (cwV 0 hts (gV hB wl_L_145 wn_X10_thrown ws_X10_thrown wi_X10 wc_X10_thrown) rfl rfl rfl hd_X10_thrown ⟨Nat.le_of_ble_eq_true rfl, Nat.le_of_ble_eq_true rfl⟩) (zp_V hKm (zPc hP) (zDc hD) hS hA hG (ci := 10) (q0 := 0) rfl rfl rfl) rfl rfl hl.1 rfl (lv_room (Nat.le_of_ble_eq_true rfl)) dL_law_2222 ⟨by show _ ≤ 1083; omega, by show _ ≤ 10672; omega⟩) (fun r w1 H locs hq9 hP hD hS => ?_)
    obtain ⟨vt, ht0, rfl, rfl⟩ := hq9
    have hP := zPswap hP
    have hD := zDswap hD
    refine lv_iload hx hb dL_law_2225 (lv_at hl 1 rfl) ?_
    have heq_2227 : vt = 0 := by rw [ht0, hm0, hf0]
    refine z_iceqE (tgt := 2232) hx hb heq_2227 dL_law_2227 (by decide) ?_
    refine lv_iload hx hb dL_law_2232 (lv_at hl 1 rfl) ?_
    refine z_ifne (tgt := 2249) hx hb ⟨by omega, by omega⟩ dL_law_2234 (by decide) (fun c_2234 => absurd rfl c_2234) (fun c_2234 => ?_)
    refine lv_aload_n hx hb dL_law_2237 rfl (lv_at hl 5 rfl) ?_
    refine lv_iconst (v := zI 0) hx hb dL_law_2238 rfl ?_
    refine zo_lald hx hb hKo (zPc hP) dL_law_2239 ?_
    refine lv_iload hx hb dL_law_2240 (lv_at hl 0 rfl) ?_
    refine lv_i2l (v := (zI vm).toInt64) hx hb dL_law_2242 rfl ?_
    refine z_lcmpE hx hb (by rw [hgo, hf1, (hm1 (hm0.trans hf0))]) dL_law_2243 ?_
    refine z_ifeq (tgt := 2249) hx hb ⟨by omega, by omega⟩ dL_law_2244 (by decide) (fun c_2244 => ?_) (fun c_2244 => absurd rfl c_2244)
    refine lv_goto (tgt := 2893) hx hb dL_law_2249 (by decide) ?_
    refine W.widen (k := cells + 2) (n := slots + 12) (by omega) (by omega) ?_
    exact hk _ _ _ _ _ _ _ _ _ _ _ _ _ _ _ _ _ _ _ _ _ _ _ _ _ _ _ _ _ _ _ H locs ls (hI) hP hD hS (lv_sub hl [2, 3, 4, 5, 6] rfl)
  · skip
    obtain ⟨hx9, rfl, rfl⟩ := hq9
    refine lv_istore (lv' := [(5, .int (zI 1)), (0, .ref b), (1, .ref (α 0)), (2, .ref (β 0)), (3, .ref o), (4, .int (zI i))]) hx hb dL_law_2201 hl (by decide) rfl (fun ls hl => ?_)
    refine lv_aload_n hx hb dL_law_2203 rfl (lv_at hl 3 rfl) ?_
    refine lv_aload_n hx hb dL_law_2204 rfl (lv_at hl 1 rfl) ?_
    refine lv_iload hx hb dL_law_2205 (lv_at hl 5 rfl) ?_
    refine lv_iconst (v := zI 1) hx hb dL_law_2207 rfl ?_
    refine z_iadd hx hb dL_law_2208 ?_
    refine z_sld hx hb hXs hbl hbA hS ⟨⟨by omega, by omega⟩, hL⟩ dL_law_2209 ?_
    refine lv_aload_n hx hb dL_law_2210 rfl (lv_at hl 1 rfl) ?_
    refine lv_iload hx hb dL_law_2211 (lv_at hl 5 rfl) ?_
    refine lv_iconst (v := zI 2) hx hb dL_law_2213 rfl ?_
    refine z_iadd hx hb dL_law_2214 ?_
    refine z_sld hx hb hXs hbl hbA hS ⟨⟨by omega, by omega⟩, hL⟩ dL_law_2215 ?_
    have hP := zPswap hP
    have hD := zDswap hD
    refine zfw_calli (mc := 0) (ms := 0)  hP hD hS hA (va_runV (As := [.int (zI (xI xs (i + 1))), .int (zI (xI xs (i + 2)))]) (rest := []) hC (c_X10_depthOf l D τ β (gM cI cB) h sv sl9 tk cd mn mi mc mq mr mw ct9 ln9 mt ma mx mh (xI xs (i + 1)) (xI xs (i + 2)) (xI_b xs _) (xI_b xs _) hh _) (cwV 2 hts (gV hB wl_L_278 wn_X10_depthOf ws_X10_depthOf wi_X10 wc_X10_depthOf) rfl rfl rfl hd_X10_depthOf ⟨Nat.le_of_ble_eq_true rfl, Nat.le_of_ble_eq_true rfl⟩) (zp_V hKm (zPc hP) (zDc hD) hS hA hG (ci := 10) (q0 := 0) rfl rfl rfl) rfl rfl hl.1 rfl (lv_room (Nat.le_of_ble_eq_true rfl)) dL_law_2216 ⟨by show _ ≤ 1083; omega, by show _ ≤ 10672; omega⟩) (fun r w1 H locs hq9 hP hD hS => ?_)
    obtain ⟨w2m, t2m, vm, hm0, hm1, rfl, rfl⟩ := hq9
    have hP := zPswap hP
    have hD := zDswap hD
    refine lv_istore (lv' := [(6, .int (zI vm)), (5, .int (zI 1)), (0, .ref b), (1, .ref (α 0)), (2, .ref (β 0)), (3, .ref o), (4, .int (zI i))]) hx hb dL_law_2219 hl (by decide) rfl (fun ls hl => ?_)
    refine lv_aload_n hx hb dL_law_2221 rfl (lv_at hl 4 rfl) ?_
    have hP := zPswap hP
    have hD := zDswap hD
    refine zfw_calli (mc := 0) (ms := 0)  hP hD hS hA (va_runV (As := []) (rest := []) hC (c_X10_thrown l D τ β (gM cI cB) _ _ _ _ _ _ _ _ _ _ _ _ _ _ _ _ _ _) (cwV 0 hts (gV hB wl_L_145 wn_X10_thrown ws_X10_thrown wi_X10 wc_X10_thrown) rfl rfl rfl hd_X10_thrown ⟨Nat.le_of_ble_eq_true rfl, Nat.le_of_ble_eq_true rfl⟩) (zp_V hKm (zPc hP) (zDc hD) hS hA hG (ci := 10) (q0 := 0) rfl rfl rfl) rfl rfl hl.1 rfl (lv_room (Nat.le_of_ble_eq_true rfl)) dL_law_2222 ⟨by show _ ≤ 1083; omega, by show _ ≤ 10672; omega⟩) (fun r w1 H locs hq9 hP hD hS => ?_)
    obtain ⟨vt, ht0, rfl, rfl⟩ := hq9
    have hP := zPswap hP
    have hD := zDswap hD
    refine lv_iload hx hb dL_law_2225 (lv_at hl 1 rfl) ?_
    have heq_2227 : vt = 1 := by rw [ht0, hm0, hx9]
    refine z_iceqE (tgt := 2232) hx hb heq_2227 dL_law_2227 (by decide) ?_
    refine lv_iload hx hb dL_law_2232 (lv_at hl 1 rfl) ?_
    refine z_ifne (tgt := 2249) hx hb ⟨by omega, by omega⟩ dL_law_2234 (by decide) (fun c_2234 => ?_) (fun c_2234 => absurd c_2234 (by decide))
    refine lv_goto (tgt := 2893) hx hb dL_law_2249 (by decide) ?_
    refine W.widen (k := cells + 2) (n := slots + 12) (by omega) (by omega) ?_
    exact hk _ _ _ _ _ _ _ _ _ _ _ _ _ _ _ _ _ _ _ _ _ _ _ _ _ _ _ _ _ _ _ H locs ls (hI) hP hD hS (lv_sub hl [2, 3, 4, 5, 6] rfl)
set_option maxHeartbeats 4000000 in
set_option maxRecDepth 100000 in
theorem law_2252 {p : Program} {l : Launch} {e : Env} {s : State} {m : MethodId} {below : List Frame} {meth : Method} {c : Code} {Q : State → Prop} {D : va_G} {τ : Nat → Nat} {A : Nat → Prop} {α β : Nat → Nat} {cI cB cL : ClassId} {o b L : Nat} {xs : Nat → Int32} {i : Int} {cells slots : Nat} (hX : LCx p l s m c D τ A cI cB cL b L xs) (hi : 0 ≤ i ∧ i + 6 ≤ L) (hc : cells + 2 ≤ 1083 ∧ slots + 12 ≤ 10672)
    (hk : LSt p l e s m below meth c Q D A α β cI cB cL o b i 2893 (cells + 2) (slots + 12)) : LSt p l e s m below meth c Q D A α β cI cB cL o b i 2252 cells slots := by
  obtain ⟨hC, hKm, hKo, hKh, hG, hA, hGX, hst, hXs, hbl, hbA, hL⟩ := hX
  intro h old ch rg ln sl pd ct sg cd ln9 pl le ro co nu sv sl9 tk ct9 mn mi mc mq mr mw mt ma mx mh fo H locs ls hI hP hD hS hl
  obtain ⟨rg0, rg1⟩ := rg
  obtain ⟨ln_0, ln_1, ln_2, ln_3, ln_4, ln_5, ln_6, ln_7, ln_8, ln_9⟩ := ln
  obtain ⟨sl_0, sl_1, sl_2⟩ := sl
  obtain ⟨pd0, pd1⟩ := pd
  obtain ⟨ct_0, ct_1⟩ := ct
  have hx := hC.1
  have hb := hC.2.1
  have hml := hC.2.2.1
  have hts := hC.2.2.2.2
  have hB : ∀ w ∈ W0, w ∈ W0 := fun _ h => h
  have hh := hI.1
  have hct := hI.2.2.2.1
  have hln := hI.2.2.2.2.1
  have hmf := hI.2.2.2.2.2.1
  have hov := hI.2.2.2.2.2.2
  have hcd : ∀ k, 0 ≤ k → k < ln9 → 0 ≤ cd k ∧ cd k ≤ 126 := fun k a b => by have z := hmf k a b; omega
  have hP : va_P D vwCl ((wM β (gM cI cB) h sv sl9 tk cd mn mi mc mq mr mw ct9 ln9 mt ma mx mh) ++ (oC cL o fo ++ (wH α (gH cI cB) (h, old, ch) (rg0, rg1) (ln_0, ln_1, ln_2, ln_3, ln_4, ln_5, ln_6, ln_7, ln_8, ln_9) (sl_0, sl_1, sl_2) (pd0, pd1) (ct_0, ct_1) sg (cd, ln9, pl, le, ro, co, nu) (sv, sl9, tk, ct9)))) H := hP
  have hD : va_D A ((wM β (gM cI cB) h sv sl9 tk cd mn mi mc mq mr mw ct9 ln9 mt ma mx mh) ++ (oC cL o fo ++ (wH α (gH cI cB) (h, old, ch) (rg0, rg1) (ln_0, ln_1, ln_2, ln_3, ln_4, ln_5, ln_6, ln_7, ln_8, ln_9) (sl_0, sl_1, sl_2) (pd0, pd1) (ct_0, ct_1) sg (cd, ln9, pl, le, ro, co, nu) (sv, sl9, tk, ct9)))) := hD
  refine lv_aload_n hx hb dL_law_2252 rfl (lv_at hl 1 rfl) ?_
  have hP : va_P D vwCl (((wM β (gM cI cB) h sv sl9 tk cd mn mi mc mq mr mw ct9 ln9 mt ma mx mh) ++ oC cL o fo) ++ (wH α (gH cI cB) (h, old, ch) (rg0, rg1) (ln_0, ln_1, ln_2, ln_3, ln_4, ln_5, ln_6, ln_7, ln_8, ln_9) (sl_0, sl_1, sl_2) (pd0, pd1) (ct_0, ct_1) sg (cd, ln9, pl, le, ro, co, nu) (sv, sl9, tk, ct9))) H := by rw [List.append_assoc]; exact hP
  have hD : va_D A (((wM β (gM cI cB) h sv sl9 tk cd mn mi mc mq mr mw ct9 ln9 mt ma mx mh) ++ oC cL o fo) ++ (wH α (gH cI cB) (h, old, ch) (rg0, rg1) (ln_0, ln_1, ln_2, ln_3, ln_4, ln_5, ln_6, ln_7, ln_8, ln_9) (sl_0, sl_1, sl_2) (pd0, pd1) (ct_0, ct_1) sg (cd, ln9, pl, le, ro, co, nu) (sv, sl9, tk, ct9))) := by rw [List.append_assoc]; exact hD
  refine zfw_calli (mc := 0) (ms := 0) (wr := (wM β (gM cI cB) h sv sl9 tk cd mn mi mc mq mr mw ct9 ln9 mt ma mx mh) ++ oC cL o fo) (wc := (wH α (gH cI cB) (h, old, ch) (rg0, rg1) (ln_0, ln_1, ln_2, ln_3, ln_4, ln_5, ln_6, ln_7, ln_8, ln_9) (sl_0, sl_1, sl_2) (pd0, pd1) (ct_0, ct_1) sg (cd, ln9, pl, le, ro, co, nu) (sv, sl9, tk, ct9))) hP hD hS hA (va_runV (As := []) (rest := []) hC (c_X9_water l D τ α (gH cI cB) h old ch (rg0, rg1) (ln_0, ln_1, ln_2, ln_3, ln_4, ln_5, ln_6, ln_7, ln_8, ln_9) (sl_0, sl_1, sl_2) pd0 pd1 (ct_0, ct_1) sg (cd, ln9, pl, le, ro, co, nu) (sv, sl9, tk, ct9) hh _) (cwV 0 hts (gV hB wl_L_279 wn_X9_water ws_X9_water wi_X9 wc_X9_water) rfl rfl rfl hd_X9_water ⟨Nat.le_of_ble_eq_true rfl, Nat.le_of_ble_eq_true rfl⟩) (zp_V hKh (zPc hP) (zDc hD) hS hA hG (ci := 9) (q0 := 0) rfl rfl rfl) rfl rfl hl.1 rfl (lv_room (Nat.le_of_ble_eq_true rfl)) dL_law_2253 ⟨by show _ ≤ 1083; omega, by show _ ≤ 10672; omega⟩) (fun r w1 H locs hq9 hP hD hS => ?_)
  obtain ⟨w2c, vc, hf0, hf1, rfl, rfl⟩ := hq9
  rw [List.append_assoc] at hP hD
  refine lv_aload_n hx hb dL_law_2256 rfl (lv_at hl 2 rfl) ?_
  have hP := zPswap hP
  have hD := zDswap hD
  refine zfw_calli (mc := 0) (ms := 0)  hP hD hS hA (va_runV (As := []) (rest := [.int (zI vc)]) hC (c_X10_water l D τ β (gM cI cB) h sv sl9 tk cd mn mi mc mq mr mw ct9 ln9 mt ma mx mh hh _) (cwV 0 hts (gV hB wl_L_282 wn_X10_water ws_X10_water wi_X10 wc_X10_water) rfl rfl rfl hd_X10_water ⟨Nat.le_of_ble_eq_true rfl, Nat.le_of_ble_eq_true rfl⟩) (zp_V hKm (zPc hP) (zDc hD) hS hA hG (ci := 10) (q0 := 0) rfl rfl rfl) rfl rfl hl.1 rfl (lv_room (Nat.le_of_ble_eq_true rfl)) dL_law_2257 ⟨by show _ ≤ 1083; omega, by show _ ≤ 10672; omega⟩) (fun r w1 H locs hq9 hP hD hS => ?_)
  obtain ⟨w2m, vm, hm0, hm1, rfl, rfl⟩ := hq9
  have hP := zPswap hP
  have hD := zDswap hD
  have heq_2260 : vc = vm := by rw [hf0, hm0]
  refine z_iceqE (tgt := 2893) hx hb heq_2260 dL_law_2260 (by decide) ?_
  refine W.widen (k := cells + 2) (n := slots + 12) (by omega) (by omega) ?_
  exact hk _ _ _ _ _ _ _ _ _ _ _ _ _ _ _ _ _ _ _ _ _ _ _ _ _ _ _ _ _ _ _ H locs ls (hI) hP hD hS (lv_sub hl [0, 1, 2, 3, 4] rfl)
set_option maxHeartbeats 4000000 in
set_option maxRecDepth 100000 in
theorem law_2265 {p : Program} {l : Launch} {e : Env} {s : State} {m : MethodId} {below : List Frame} {meth : Method} {c : Code} {Q : State → Prop} {D : va_G} {τ : Nat → Nat} {A : Nat → Prop} {α β : Nat → Nat} {cI cB cL : ClassId} {o b L : Nat} {xs : Nat → Int32} {i : Int} {cells slots : Nat} (hX : LCx p l s m c D τ A cI cB cL b L xs) (hi : 0 ≤ i ∧ i + 6 ≤ L) (hc : cells + 2 ≤ 1083 ∧ slots + 12 ≤ 10672)
    (hk : LSt p l e s m below meth c Q D A α β cI cB cL o b i 2893 (cells + 2) (slots + 12)) : LSt p l e s m below meth c Q D A α β cI cB cL o b i 2265 cells slots := by
  obtain ⟨hC, hKm, hKo, hKh, hG, hA, hGX, hst, hXs, hbl, hbA, hL⟩ := hX
  intro h old ch rg ln sl pd ct sg cd ln9 pl le ro co nu sv sl9 tk ct9 mn mi mc mq mr mw mt ma mx mh fo H locs ls hI hP hD hS hl
  obtain ⟨rg0, rg1⟩ := rg
  obtain ⟨ln_0, ln_1, ln_2, ln_3, ln_4, ln_5, ln_6, ln_7, ln_8, ln_9⟩ := ln
  obtain ⟨sl_0, sl_1, sl_2⟩ := sl
  obtain ⟨pd0, pd1⟩ := pd
  obtain ⟨ct_0, ct_1⟩ := ct
  have hx := hC.1
  have hb := hC.2.1
  have hml := hC.2.2.1
  have hts := hC.2.2.2.2
  have hB : ∀ w ∈ W0, w ∈ W0 := fun _ h => h
  have hh := hI.1
  have hct := hI.2.2.2.1
  have hln := hI.2.2.2.2.1
  have hmf := hI.2.2.2.2.2.1
  have hov := hI.2.2.2.2.2.2
  have hcd : ∀ k, 0 ≤ k → k < ln9 → 0 ≤ cd k ∧ cd k ≤ 126 := fun k a b => by have z := hmf k a b; omega
  have hP : va_P D vwCl ((wM β (gM cI cB) h sv sl9 tk cd mn mi mc mq mr mw ct9 ln9 mt ma mx mh) ++ (oC cL o fo ++ (wH α (gH cI cB) (h, old, ch) (rg0, rg1) (ln_0, ln_1, ln_2, ln_3, ln_4, ln_5, ln_6, ln_7, ln_8, ln_9) (sl_0, sl_1, sl_2) (pd0, pd1) (ct_0, ct_1) sg (cd, ln9, pl, le, ro, co, nu) (sv, sl9, tk, ct9)))) H := hP
  have hD : va_D A ((wM β (gM cI cB) h sv sl9 tk cd mn mi mc mq mr mw ct9 ln9 mt ma mx mh) ++ (oC cL o fo ++ (wH α (gH cI cB) (h, old, ch) (rg0, rg1) (ln_0, ln_1, ln_2, ln_3, ln_4, ln_5, ln_6, ln_7, ln_8, ln_9) (sl_0, sl_1, sl_2) (pd0, pd1) (ct_0, ct_1) sg (cd, ln9, pl, le, ro, co, nu) (sv, sl9, tk, ct9)))) := hD
  refine lv_aload_n hx hb dL_law_2265 rfl (lv_at hl 1 rfl) ?_
  have hP : va_P D vwCl (((wM β (gM cI cB) h sv sl9 tk cd mn mi mc mq mr mw ct9 ln9 mt ma mx mh) ++ oC cL o fo) ++ (wH α (gH cI cB) (h, old, ch) (rg0, rg1) (ln_0, ln_1, ln_2, ln_3, ln_4, ln_5, ln_6, ln_7, ln_8, ln_9) (sl_0, sl_1, sl_2) (pd0, pd1) (ct_0, ct_1) sg (cd, ln9, pl, le, ro, co, nu) (sv, sl9, tk, ct9))) H := by rw [List.append_assoc]; exact hP
  have hD : va_D A (((wM β (gM cI cB) h sv sl9 tk cd mn mi mc mq mr mw ct9 ln9 mt ma mx mh) ++ oC cL o fo) ++ (wH α (gH cI cB) (h, old, ch) (rg0, rg1) (ln_0, ln_1, ln_2, ln_3, ln_4, ln_5, ln_6, ln_7, ln_8, ln_9) (sl_0, sl_1, sl_2) (pd0, pd1) (ct_0, ct_1) sg (cd, ln9, pl, le, ro, co, nu) (sv, sl9, tk, ct9))) := by rw [List.append_assoc]; exact hD
  refine zfw_calli (mc := 0) (ms := 0) (wr := (wM β (gM cI cB) h sv sl9 tk cd mn mi mc mq mr mw ct9 ln9 mt ma mx mh) ++ oC cL o fo) (wc := (wH α (gH cI cB) (h, old, ch) (rg0, rg1) (ln_0, ln_1, ln_2, ln_3, ln_4, ln_5, ln_6, ln_7, ln_8, ln_9) (sl_0, sl_1, sl_2) (pd0, pd1) (ct_0, ct_1) sg (cd, ln9, pl, le, ro, co, nu) (sv, sl9, tk, ct9))) hP hD hS hA (va_runV (As := []) (rest := []) hC (c_X9_ponds l D τ α (gH cI cB) h old ch rg0 rg1 (ln_0, ln_1, ln_2, ln_3, ln_4, ln_5, ln_6, ln_7, ln_8, ln_9) (sl_0, sl_1, sl_2) pd0 pd1 (ct_0, ct_1) sg (cd, ln9, pl, le, ro, co, nu) (sv, sl9, tk, ct9) hh _) (cwV 0 hts (gV hB wl_L_283 wn_X9_ponds ws_X9_ponds wi_X9 wc_X9_ponds) rfl rfl rfl hd_X9_ponds ⟨Nat.le_of_ble_eq_true rfl, Nat.le_of_ble_eq_true rfl⟩) (zp_V hKh (zPc hP) (zDc hD) hS hA hG (ci := 9) (q0 := 0) rfl rfl rfl) rfl rfl hl.1 rfl (lv_room (Nat.le_of_ble_eq_true rfl)) dL_law_2266 ⟨by show _ ≤ 1083; omega, by show _ ≤ 10672; omega⟩) (fun r w1 H locs hq9 hP hD hS => ?_)
  obtain ⟨w2c, b2c, q2c, vc, hf0, hf1, rfl, rfl⟩ := hq9
  rw [List.append_assoc] at hP hD
  refine lv_aload_n hx hb dL_law_2269 rfl (lv_at hl 2 rfl) ?_
  have hP := zPswap hP
  have hD := zDswap hD
  refine zfw_calli (mc := 0) (ms := 0)  hP hD hS hA (va_runV (As := []) (rest := [.int (zI vc)]) hC (c_X10_ponds l D τ β (gM cI cB) h sv sl9 tk cd mn mi mc mq mr mw ct9 ln9 mt ma mx mh hh _) (cwV 0 hts (gV hB wl_L_286 wn_X10_ponds ws_X10_ponds wi_X10 wc_X10_ponds) rfl rfl rfl hd_X10_ponds ⟨Nat.le_of_ble_eq_true rfl, Nat.le_of_ble_eq_true rfl⟩) (zp_V hKm (zPc hP) (zDc hD) hS hA hG (ci := 10) (q0 := 0) rfl rfl rfl) rfl rfl hl.1 rfl (lv_room (Nat.le_of_ble_eq_true rfl)) dL_law_2270 ⟨by show _ ≤ 1083; omega, by show _ ≤ 10672; omega⟩) (fun r w1 H locs hq9 hP hD hS => ?_)
  obtain ⟨w2m, r2m, vm, hm0, hm1, rfl, rfl⟩ := hq9
  have hP := zPswap hP
  have hD := zDswap hD
  have heq_2273 : vc = vm := by rw [hf0, hm0]; rfl
  refine z_iceqE (tgt := 2893) hx hb heq_2273 dL_law_2273 (by decide) ?_
  refine W.widen (k := cells + 2) (n := slots + 12) (by omega) (by omega) ?_
  exact hk _ _ _ _ _ _ _ _ _ _ _ _ _ _ _ _ _ _ _ _ _ _ _ _ _ _ _ _ _ _ _ H locs ls (hI) hP hD hS (lv_sub hl [0, 1, 2, 3, 4] rfl)
set_option maxHeartbeats 4000000 in
set_option maxRecDepth 100000 in
theorem law_2278 {p : Program} {l : Launch} {e : Env} {s : State} {m : MethodId} {below : List Frame} {meth : Method} {c : Code} {Q : State → Prop} {D : va_G} {τ : Nat → Nat} {A : Nat → Prop} {α β : Nat → Nat} {cI cB cL : ClassId} {o b L : Nat} {xs : Nat → Int32} {i : Int} {cells slots : Nat} (hX : LCx p l s m c D τ A cI cB cL b L xs) (hi : 0 ≤ i ∧ i + 6 ≤ L) (hc : cells + 2 ≤ 1083 ∧ slots + 12 ≤ 10672)
    (hk : LSt p l e s m below meth c Q D A α β cI cB cL o b i 2893 (cells + 2) (slots + 12)) : LSt p l e s m below meth c Q D A α β cI cB cL o b i 2278 cells slots := by
  obtain ⟨hC, hKm, hKo, hKh, hG, hA, hGX, hst, hXs, hbl, hbA, hL⟩ := hX
  intro h old ch rg ln sl pd ct sg cd ln9 pl le ro co nu sv sl9 tk ct9 mn mi mc mq mr mw mt ma mx mh fo H locs ls hI hP hD hS hl
  obtain ⟨rg0, rg1⟩ := rg
  obtain ⟨ln_0, ln_1, ln_2, ln_3, ln_4, ln_5, ln_6, ln_7, ln_8, ln_9⟩ := ln
  obtain ⟨sl_0, sl_1, sl_2⟩ := sl
  obtain ⟨pd0, pd1⟩ := pd
  obtain ⟨ct_0, ct_1⟩ := ct
  have hx := hC.1
  have hb := hC.2.1
  have hml := hC.2.2.1
  have hts := hC.2.2.2.2
  have hB : ∀ w ∈ W0, w ∈ W0 := fun _ h => h
  have hh := hI.1
  have hct := hI.2.2.2.1
  have hln := hI.2.2.2.2.1
  have hmf := hI.2.2.2.2.2.1
  have hov := hI.2.2.2.2.2.2
  have hcd : ∀ k, 0 ≤ k → k < ln9 → 0 ≤ cd k ∧ cd k ≤ 126 := fun k a b => by have z := hmf k a b; omega
  have hP : va_P D vwCl ((wM β (gM cI cB) h sv sl9 tk cd mn mi mc mq mr mw ct9 ln9 mt ma mx mh) ++ (oC cL o fo ++ (wH α (gH cI cB) (h, old, ch) (rg0, rg1) (ln_0, ln_1, ln_2, ln_3, ln_4, ln_5, ln_6, ln_7, ln_8, ln_9) (sl_0, sl_1, sl_2) (pd0, pd1) (ct_0, ct_1) sg (cd, ln9, pl, le, ro, co, nu) (sv, sl9, tk, ct9)))) H := hP
  have hD : va_D A ((wM β (gM cI cB) h sv sl9 tk cd mn mi mc mq mr mw ct9 ln9 mt ma mx mh) ++ (oC cL o fo ++ (wH α (gH cI cB) (h, old, ch) (rg0, rg1) (ln_0, ln_1, ln_2, ln_3, ln_4, ln_5, ln_6, ln_7, ln_8, ln_9) (sl_0, sl_1, sl_2) (pd0, pd1) (ct_0, ct_1) sg (cd, ln9, pl, le, ro, co, nu) (sv, sl9, tk, ct9)))) := hD
  refine lv_aload_n hx hb dL_law_2278 rfl (lv_at hl 1 rfl) ?_
  refine lv_aload_n hx hb dL_law_2279 rfl (lv_at hl 0 rfl) ?_
  refine lv_iload hx hb dL_law_2280 (lv_at hl 4 rfl) ?_
  refine lv_iconst (v := zI 1) hx hb dL_law_2282 rfl ?_
  refine z_iadd hx hb dL_law_2283 ?_
  refine z_sld hx hb hXs hbl hbA hS ⟨⟨by omega, by omega⟩, hL⟩ dL_law_2284 ?_
  refine lv_aload_n hx hb dL_law_2285 rfl (lv_at hl 0 rfl) ?_
  refine lv_iload hx hb dL_law_2286 (lv_at hl 4 rfl) ?_
  refine lv_iconst (v := zI 2) hx hb dL_law_2288 rfl ?_
  refine z_iadd hx hb dL_law_2289 ?_
  refine z_sld hx hb hXs hbl hbA hS ⟨⟨by omega, by omega⟩, hL⟩ dL_law_2290 ?_
  refine lv_aload_n hx hb dL_law_2291 rfl (lv_at hl 0 rfl) ?_
  refine lv_iload hx hb dL_law_2292 (lv_at hl 4 rfl) ?_
  refine lv_iconst (v := zI 3) hx hb dL_law_2294 rfl ?_
  refine z_iadd hx hb dL_law_2295 ?_
  refine z_sld hx hb hXs hbl hbA hS ⟨⟨by omega, by omega⟩, hL⟩ dL_law_2296 ?_
  refine lv_aload_n hx hb dL_law_2297 rfl (lv_at hl 0 rfl) ?_
  refine lv_iload hx hb dL_law_2298 (lv_at hl 4 rfl) ?_
  refine lv_iconst (v := zI 4) hx hb dL_law_2300 rfl ?_
  refine z_iadd hx hb dL_law_2301 ?_
  refine z_sld hx hb hXs hbl hbA hS ⟨⟨by omega, by omega⟩, hL⟩ dL_law_2302 ?_
  refine lv_aload_n hx hb dL_law_2303 rfl (lv_at hl 3 rfl) ?_
  refine zfw_calli (mc := 2) (ms := 12) (wr := (wM β (gM cI cB) h sv sl9 tk cd mn mi mc mq mr mw ct9 ln9 mt ma mx mh)) (wc := oC cL o fo ++ (wH α (gH cI cB) (h, old, ch) (rg0, rg1) (ln_0, ln_1, ln_2, ln_3, ln_4, ln_5, ln_6, ln_7, ln_8, ln_9) (sl_0, sl_1, sl_2) (pd0, pd1) (ct_0, ct_1) sg (cd, ln9, pl, le, ro, co, nu) (sv, sl9, tk, ct9))) hP hD hS hA (vx_runSW (As := [.ref (α 0), .int (zI (xI xs (i + 1))), .int (zI (xI xs (i + 2))), .int (zI (xI xs (i + 3))), .int (zI (xI xs (i + 4))), .ref o]) (rest := []) hC (c_L_cutLength l D τ α (gH cI cB) h old ch (rg0, rg1) (ln_0, ln_1, ln_2, ln_3, ln_4, ln_5, ln_6, ln_7, ln_8, ln_9) (sl_0, sl_1, sl_2) (pd0, pd1) ct_0 ct_1 sg (cd, ln9, pl, le, ro, co, nu) (sv, sl9, tk, ct9) (xI xs (i + 1)) (xI xs (i + 2)) (xI xs (i + 3)) (xI xs (i + 4)) (xI_b xs _) (xI_b xs _) (xI_b xs _) (xI_b xs _) hh hst cL o fo _) (vx_cwSW 6 hts (gSW hB wl_L_287 wt_L_cutLength wi_L wc_L_cutLength) rfl rfl rfl hd_L_cutLength.2 ⟨Nat.le_of_ble_eq_true rfl, Nat.le_of_ble_eq_true rfl⟩) (zpX_S hKo (zPc hP) (zDc hD) hS hA hG hGX) rfl rfl hl.1 rfl (lv_room (Nat.le_of_ble_eq_true rfl)) dL_law_2304 ⟨by show _ ≤ 1083; omega, by show _ ≤ 10672; omega⟩) (fun r w1 H locs hq9 hP hD hS => ?_)
  rcases hq9 with hq9 | hq9
  · skip
    obtain ⟨f2c, n2c, vc, go, hf0, hf1, hgo, rfl, rfl⟩ := hq9
    refine lv_istore (lv' := [(5, .int (zI 0)), (0, .ref b), (1, .ref (α 0)), (2, .ref (β 0)), (3, .ref o), (4, .int (zI i))]) hx hb dL_law_2307 hl (by decide) rfl (fun ls hl => ?_)
    refine lv_aload_n hx hb dL_law_2309 rfl (lv_at hl 3 rfl) ?_
    refine lv_aload_n hx hb dL_law_2310 rfl (lv_at hl 1 rfl) ?_
    refine lv_iload hx hb dL_law_2311 (lv_at hl 5 rfl) ?_
    refine lv_iconst (v := zI 1) hx hb dL_law_2313 rfl ?_
    refine z_iadd hx hb dL_law_2314 ?_
    refine z_sld hx hb hXs hbl hbA hS ⟨⟨by omega, by omega⟩, hL⟩ dL_law_2315 ?_
    refine lv_aload_n hx hb dL_law_2316 rfl (lv_at hl 1 rfl) ?_
    refine lv_iload hx hb dL_law_2317 (lv_at hl 5 rfl) ?_
    refine lv_iconst (v := zI 2) hx hb dL_law_2319 rfl ?_
    refine z_iadd hx hb dL_law_2320 ?_
    refine z_sld hx hb hXs hbl hbA hS ⟨⟨by omega, by omega⟩, hL⟩ dL_law_2321 ?_
    refine lv_aload_n hx hb dL_law_2322 rfl (lv_at hl 1 rfl) ?_
    refine lv_iload hx hb dL_law_2323 (lv_at hl 5 rfl) ?_
    refine lv_iconst (v := zI 3) hx hb dL_law_2325 rfl ?_
    refine z_iadd hx hb dL_law_2326 ?_
    refine z_sld hx hb hXs hbl hbA hS ⟨⟨by omega, by omega⟩, hL⟩ dL_law_2327 ?_
    refine lv_aload_n hx hb dL_law_2328 rfl (lv_at hl 1 rfl) ?_
    refine lv_iload hx hb dL_law_2329 (lv_at hl 5 rfl) ?_
    refine lv_iconst (v := zI 4) hx hb dL_law_2331 rfl ?_
    refine z_iadd hx hb dL_law_2332 ?_
    refine z_sld hx hb hXs hbl hbA hS ⟨⟨by omega, by omega⟩, hL⟩ dL_law_2333 ?_
    have hP := zPswap hP
    have hD := zDswap hD
    refine zfw_calli (mc := 0) (ms := 0)  hP hD hS hA (va_runV (As := [.int (zI (xI xs (i + 1))), .int (zI (xI xs (i + 2))), .int (zI (xI xs (i + 3))), .int (zI (xI xs (i + 4)))]) (rest := []) hC (c_X10_cutLength l D τ β (gM cI cB) h sv sl9 tk cd mn mi mc mq mr mw ct9 ln9 mt ma mx mh (xI xs (i + 1)) (xI xs (i + 2)) (xI xs (i + 3)) (xI xs (i + 4)) (xI_b xs _) (xI_b xs _) (xI_b xs _) (xI_b xs _) _) (cwV 4 hts (gV hB wl_L_290 wn_X10_cutLength ws_X10_cutLength wi_X10 wc_X10_cutLength) rfl rfl rfl hd_X10_cutLength ⟨Nat.le_of_ble_eq_true rfl, Nat.le_of_ble_eq_true rfl⟩) (zp_V hKm (zPc hP) (zDc hD) hS hA hG (ci := 10) (q0 := 0) rfl rfl rfl) rfl rfl hl.1 rfl (lv_room (Nat.le_of_ble_eq_true rfl)) dL_law_2334 ⟨by show _ ≤ 1083; omega, by show _ ≤ 10672; omega⟩) (fun r w1 H locs hq9 hP hD hS => ?_)
    obtain ⟨t2m, vm, hm0, hm1, rfl, rfl⟩ := hq9
    have hP := zPswap hP
    have hD := zDswap hD
    refine lv_istore (lv' := [(6, .int (zI vm)), (5, .int (zI 0)), (0, .ref b), (1, .ref (α 0)), (2, .ref (β 0)), (3, .ref o), (4, .int (zI i))]) hx hb dL_law_2337 hl (by decide) rfl (fun ls hl => ?_)
    refine lv_aload_n hx hb dL_law_2339 rfl (lv_at hl 4 rfl) ?_
    have hP := zPswap hP
    have hD := zDswap hD
    refine zfw_calli (mc := 0) (ms := 0)  hP hD hS hA (va_runV (As := []) (rest := []) hC (c_X10_thrown l D τ β (gM cI cB) _ _ _ _ _ _ _ _ _ _ _ _ _ _ _ _ _ _) (cwV 0 hts (gV hB wl_L_145 wn_X10_thrown ws_X10_thrown wi_X10 wc_X10_thrown) rfl rfl rfl hd_X10_thrown ⟨Nat.le_of_ble_eq_true rfl, Nat.le_of_ble_eq_true rfl⟩) (zp_V hKm (zPc hP) (zDc hD) hS hA hG (ci := 10) (q0 := 0) rfl rfl rfl) rfl rfl hl.1 rfl (lv_room (Nat.le_of_ble_eq_true rfl)) dL_law_2340 ⟨by show _ ≤ 1083; omega, by show _ ≤ 10672; omega⟩) (fun r w1 H locs hq9 hP hD hS => ?_)
    obtain ⟨vt, ht0, rfl, rfl⟩ := hq9
    have hP := zPswap hP
    have hD := zDswap hD
    refine lv_iload hx hb dL_law_2343 (lv_at hl 1 rfl) ?_
    have heq_2345 : vt = 0 := by rw [ht0, hm0, hf0]
    refine z_iceqE (tgt := 2350) hx hb heq_2345 dL_law_2345 (by decide) ?_
    refine lv_iload hx hb dL_law_2350 (lv_at hl 1 rfl) ?_
    refine z_ifne (tgt := 2367) hx hb ⟨by omega, by omega⟩ dL_law_2352 (by decide) (fun c_2352 => absurd rfl c_2352) (fun c_2352 => ?_)
    refine lv_aload_n hx hb dL_law_2355 rfl (lv_at hl 5 rfl) ?_
    refine lv_iconst (v := zI 0) hx hb dL_law_2356 rfl ?_
    refine zo_lald hx hb hKo (zPc hP) dL_law_2357 ?_
    refine lv_iload hx hb dL_law_2358 (lv_at hl 0 rfl) ?_
    refine lv_i2l (v := (zI vm).toInt64) hx hb dL_law_2360 rfl ?_
    refine z_lcmpE hx hb (by rw [hgo, hf1, (hm1 (hm0.trans hf0))]) dL_law_2361 ?_
    refine z_ifeq (tgt := 2367) hx hb ⟨by omega, by omega⟩ dL_law_2362 (by decide) (fun c_2362 => ?_) (fun c_2362 => absurd rfl c_2362)
    refine lv_goto (tgt := 2893) hx hb dL_law_2367 (by decide) ?_
    refine W.widen (k := cells + 2) (n := slots + 12) (by omega) (by omega) ?_
    exact hk _ _ _ _ _ _ _ _ _ _ _ _ _ _ _ _ _ _ _ _ _ _ _ _ _ _ _ _ _ _ _ H locs ls (hI) hP hD hS (lv_sub hl [2, 3, 4, 5, 6] rfl)
  · skip
    obtain ⟨hx9, rfl, rfl⟩ := hq9
    refine lv_istore (lv' := [(5, .int (zI 1)), (0, .ref b), (1, .ref (α 0)), (2, .ref (β 0)), (3, .ref o), (4, .int (zI i))]) hx hb dL_law_2307 hl (by decide) rfl (fun ls hl => ?_)
    refine lv_aload_n hx hb dL_law_2309 rfl (lv_at hl 3 rfl) ?_
    refine lv_aload_n hx hb dL_law_2310 rfl (lv_at hl 1 rfl) ?_
    refine lv_iload hx hb dL_law_2311 (lv_at hl 5 rfl) ?_
    refine lv_iconst (v := zI 1) hx hb dL_law_2313 rfl ?_
    refine z_iadd hx hb dL_law_2314 ?_
    refine z_sld hx hb hXs hbl hbA hS ⟨⟨by omega, by omega⟩, hL⟩ dL_law_2315 ?_
    refine lv_aload_n hx hb dL_law_2316 rfl (lv_at hl 1 rfl) ?_
    refine lv_iload hx hb dL_law_2317 (lv_at hl 5 rfl) ?_
    refine lv_iconst (v := zI 2) hx hb dL_law_2319 rfl ?_
    refine z_iadd hx hb dL_law_2320 ?_
    refine z_sld hx hb hXs hbl hbA hS ⟨⟨by omega, by omega⟩, hL⟩ dL_law_2321 ?_
    refine lv_aload_n hx hb dL_law_2322 rfl (lv_at hl 1 rfl) ?_
    refine lv_iload hx hb dL_law_2323 (lv_at hl 5 rfl) ?_
    refine lv_iconst (v := zI 3) hx hb dL_law_2325 rfl ?_
    refine z_iadd hx hb dL_law_2326 ?_
    refine z_sld hx hb hXs hbl hbA hS ⟨⟨by omega, by omega⟩, hL⟩ dL_law_2327 ?_
    refine lv_aload_n hx hb dL_law_2328 rfl (lv_at hl 1 rfl) ?_
    refine lv_iload hx hb dL_law_2329 (lv_at hl 5 rfl) ?_
    refine lv_iconst (v := zI 4) hx hb dL_law_2331 rfl ?_
    refine z_iadd hx hb dL_law_2332 ?_
    refine z_sld hx hb hXs hbl hbA hS ⟨⟨by omega, by omega⟩, hL⟩ dL_law_2333 ?_
    have hP := zPswap hP
    have hD := zDswap hD
    refine zfw_calli (mc := 0) (ms := 0)  hP hD hS hA (va_runV (As := [.int (zI (xI xs (i + 1))), .int (zI (xI xs (i + 2))), .int (zI (xI xs (i + 3))), .int (zI (xI xs (i + 4)))]) (rest := []) hC (c_X10_cutLength l D τ β (gM cI cB) h sv sl9 tk cd mn mi mc mq mr mw ct9 ln9 mt ma mx mh (xI xs (i + 1)) (xI xs (i + 2)) (xI xs (i + 3)) (xI xs (i + 4)) (xI_b xs _) (xI_b xs _) (xI_b xs _) (xI_b xs _) _) (cwV 4 hts (gV hB wl_L_290 wn_X10_cutLength ws_X10_cutLength wi_X10 wc_X10_cutLength) rfl rfl rfl hd_X10_cutLength ⟨Nat.le_of_ble_eq_true rfl, Nat.le_of_ble_eq_true rfl⟩) (zp_V hKm (zPc hP) (zDc hD) hS hA hG (ci := 10) (q0 := 0) rfl rfl rfl) rfl rfl hl.1 rfl (lv_room (Nat.le_of_ble_eq_true rfl)) dL_law_2334 ⟨by show _ ≤ 1083; omega, by show _ ≤ 10672; omega⟩) (fun r w1 H locs hq9 hP hD hS => ?_)
    obtain ⟨t2m, vm, hm0, hm1, rfl, rfl⟩ := hq9
    have hP := zPswap hP
    have hD := zDswap hD
    refine lv_istore (lv' := [(6, .int (zI vm)), (5, .int (zI 1)), (0, .ref b), (1, .ref (α 0)), (2, .ref (β 0)), (3, .ref o), (4, .int (zI i))]) hx hb dL_law_2337 hl (by decide) rfl (fun ls hl => ?_)
    refine lv_aload_n hx hb dL_law_2339 rfl (lv_at hl 4 rfl) ?_
    have hP := zPswap hP
    have hD := zDswap hD
    refine zfw_calli (mc := 0) (ms := 0)  hP hD hS hA (va_runV (As := []) (rest := []) hC (c_X10_thrown l D τ β (gM cI cB) _ _ _ _ _ _ _ _ _ _ _ _ _ _ _ _ _ _) (cwV 0 hts (gV hB wl_L_145 wn_X10_thrown ws_X10_thrown wi_X10 wc_X10_thrown) rfl rfl rfl hd_X10_thrown ⟨Nat.le_of_ble_eq_true rfl, Nat.le_of_ble_eq_true rfl⟩) (zp_V hKm (zPc hP) (zDc hD) hS hA hG (ci := 10) (q0 := 0) rfl rfl rfl) rfl rfl hl.1 rfl (lv_room (Nat.le_of_ble_eq_true rfl)) dL_law_2340 ⟨by show _ ≤ 1083; omega, by show _ ≤ 10672; omega⟩) (fun r w1 H locs hq9 hP hD hS => ?_)
    obtain ⟨vt, ht0, rfl, rfl⟩ := hq9
    have hP := zPswap hP
    have hD := zDswap hD
    refine lv_iload hx hb dL_law_2343 (lv_at hl 1 rfl) ?_
    have heq_2345 : vt = 1 := by rw [ht0, hm0, hx9]
    refine z_iceqE (tgt := 2350) hx hb heq_2345 dL_law_2345 (by decide) ?_
    refine lv_iload hx hb dL_law_2350 (lv_at hl 1 rfl) ?_
    refine z_ifne (tgt := 2367) hx hb ⟨by omega, by omega⟩ dL_law_2352 (by decide) (fun c_2352 => ?_) (fun c_2352 => absurd c_2352 (by decide))
    refine lv_goto (tgt := 2893) hx hb dL_law_2367 (by decide) ?_
    refine W.widen (k := cells + 2) (n := slots + 12) (by omega) (by omega) ?_
    exact hk _ _ _ _ _ _ _ _ _ _ _ _ _ _ _ _ _ _ _ _ _ _ _ _ _ _ _ _ _ _ _ H locs ls (hI) hP hD hS (lv_sub hl [2, 3, 4, 5, 6] rfl)
set_option maxHeartbeats 4000000 in
set_option maxRecDepth 100000 in
theorem law_2370 {p : Program} {l : Launch} {e : Env} {s : State} {m : MethodId} {below : List Frame} {meth : Method} {c : Code} {Q : State → Prop} {D : va_G} {τ : Nat → Nat} {A : Nat → Prop} {α β : Nat → Nat} {cI cB cL : ClassId} {o b L : Nat} {xs : Nat → Int32} {i : Int} {cells slots : Nat} (hX : LCx p l s m c D τ A cI cB cL b L xs) (hi : 0 ≤ i ∧ i + 6 ≤ L) (hc : cells + 2 ≤ 1083 ∧ slots + 12 ≤ 10672)
    (hk : LSt p l e s m below meth c Q D A α β cI cB cL o b i 2893 (cells + 2) (slots + 12)) : LSt p l e s m below meth c Q D A α β cI cB cL o b i 2370 cells slots := by
  obtain ⟨hC, hKm, hKo, hKh, hG, hA, hGX, hst, hXs, hbl, hbA, hL⟩ := hX
  intro h old ch rg ln sl pd ct sg cd ln9 pl le ro co nu sv sl9 tk ct9 mn mi mc mq mr mw mt ma mx mh fo H locs ls hI hP hD hS hl
  obtain ⟨rg0, rg1⟩ := rg
  obtain ⟨ln_0, ln_1, ln_2, ln_3, ln_4, ln_5, ln_6, ln_7, ln_8, ln_9⟩ := ln
  obtain ⟨sl_0, sl_1, sl_2⟩ := sl
  obtain ⟨pd0, pd1⟩ := pd
  obtain ⟨ct_0, ct_1⟩ := ct
  have hx := hC.1
  have hb := hC.2.1
  have hml := hC.2.2.1
  have hts := hC.2.2.2.2
  have hB : ∀ w ∈ W0, w ∈ W0 := fun _ h => h
  have hh := hI.1
  have hct := hI.2.2.2.1
  have hln := hI.2.2.2.2.1
  have hmf := hI.2.2.2.2.2.1
  have hov := hI.2.2.2.2.2.2
  have hcd : ∀ k, 0 ≤ k → k < ln9 → 0 ≤ cd k ∧ cd k ≤ 126 := fun k a b => by have z := hmf k a b; omega
  have hP : va_P D vwCl ((wM β (gM cI cB) h sv sl9 tk cd mn mi mc mq mr mw ct9 ln9 mt ma mx mh) ++ (oC cL o fo ++ (wH α (gH cI cB) (h, old, ch) (rg0, rg1) (ln_0, ln_1, ln_2, ln_3, ln_4, ln_5, ln_6, ln_7, ln_8, ln_9) (sl_0, sl_1, sl_2) (pd0, pd1) (ct_0, ct_1) sg (cd, ln9, pl, le, ro, co, nu) (sv, sl9, tk, ct9)))) H := hP
  have hD : va_D A ((wM β (gM cI cB) h sv sl9 tk cd mn mi mc mq mr mw ct9 ln9 mt ma mx mh) ++ (oC cL o fo ++ (wH α (gH cI cB) (h, old, ch) (rg0, rg1) (ln_0, ln_1, ln_2, ln_3, ln_4, ln_5, ln_6, ln_7, ln_8, ln_9) (sl_0, sl_1, sl_2) (pd0, pd1) (ct_0, ct_1) sg (cd, ln9, pl, le, ro, co, nu) (sv, sl9, tk, ct9)))) := hD
  refine lv_aload_n hx hb dL_law_2370 rfl (lv_at hl 1 rfl) ?_
  refine lv_aload_n hx hb dL_law_2371 rfl (lv_at hl 0 rfl) ?_
  refine lv_iload hx hb dL_law_2372 (lv_at hl 4 rfl) ?_
  refine lv_iconst (v := zI 1) hx hb dL_law_2374 rfl ?_
  refine z_iadd hx hb dL_law_2375 ?_
  refine z_sld hx hb hXs hbl hbA hS ⟨⟨by omega, by omega⟩, hL⟩ dL_law_2376 ?_
  refine lv_aload_n hx hb dL_law_2377 rfl (lv_at hl 0 rfl) ?_
  refine lv_iload hx hb dL_law_2378 (lv_at hl 4 rfl) ?_
  refine lv_iconst (v := zI 2) hx hb dL_law_2380 rfl ?_
  refine z_iadd hx hb dL_law_2381 ?_
  refine z_sld hx hb hXs hbl hbA hS ⟨⟨by omega, by omega⟩, hL⟩ dL_law_2382 ?_
  refine lv_aload_n hx hb dL_law_2383 rfl (lv_at hl 0 rfl) ?_
  refine lv_iload hx hb dL_law_2384 (lv_at hl 4 rfl) ?_
  refine lv_iconst (v := zI 3) hx hb dL_law_2386 rfl ?_
  refine z_iadd hx hb dL_law_2387 ?_
  refine z_sld hx hb hXs hbl hbA hS ⟨⟨by omega, by omega⟩, hL⟩ dL_law_2388 ?_
  refine lv_aload_n hx hb dL_law_2389 rfl (lv_at hl 0 rfl) ?_
  refine lv_iload hx hb dL_law_2390 (lv_at hl 4 rfl) ?_
  refine lv_iconst (v := zI 4) hx hb dL_law_2392 rfl ?_
  refine z_iadd hx hb dL_law_2393 ?_
  refine z_sld hx hb hXs hbl hbA hS ⟨⟨by omega, by omega⟩, hL⟩ dL_law_2394 ?_
  refine lv_aload_n hx hb dL_law_2395 rfl (lv_at hl 0 rfl) ?_
  refine lv_iload hx hb dL_law_2396 (lv_at hl 4 rfl) ?_
  refine lv_iconst (v := zI 5) hx hb dL_law_2398 rfl ?_
  refine z_iadd hx hb dL_law_2399 ?_
  refine z_sld hx hb hXs hbl hbA hS ⟨⟨by omega, by omega⟩, hL⟩ dL_law_2400 ?_
  refine lv_aload_n hx hb dL_law_2401 rfl (lv_at hl 3 rfl) ?_
  refine zfw_calli (mc := 2) (ms := 12) (wr := (wM β (gM cI cB) h sv sl9 tk cd mn mi mc mq mr mw ct9 ln9 mt ma mx mh)) (wc := oC cL o fo ++ (wH α (gH cI cB) (h, old, ch) (rg0, rg1) (ln_0, ln_1, ln_2, ln_3, ln_4, ln_5, ln_6, ln_7, ln_8, ln_9) (sl_0, sl_1, sl_2) (pd0, pd1) (ct_0, ct_1) sg (cd, ln9, pl, le, ro, co, nu) (sv, sl9, tk, ct9))) hP hD hS hA (vx_runSW (As := [.ref (α 0), .int (zI (xI xs (i + 1))), .int (zI (xI xs (i + 2))), .int (zI (xI xs (i + 3))), .int (zI (xI xs (i + 4))), .int (zI (xI xs (i + 5))), .ref o]) (rest := []) hC (c_L_cutHeight l D τ α (gH cI cB) h old ch (rg0, rg1) (ln_0, ln_1, ln_2, ln_3, ln_4, ln_5, ln_6, ln_7, ln_8, ln_9) (sl_0, sl_1, sl_2) (pd0, pd1) ct_0 ct_1 sg (cd, ln9, pl, le, ro, co, nu) (sv, sl9, tk, ct9) (xI xs (i + 1)) (xI xs (i + 2)) (xI xs (i + 3)) (xI xs (i + 4)) (xI xs (i + 5)) (xI_b xs _) (xI_b xs _) (xI_b xs _) (xI_b xs _) (xI_b xs _) hh hst cL o fo _) (vx_cwSW 7 hts (gSW hB wl_L_291 wt_L_cutHeight wi_L wc_L_cutHeight) rfl rfl rfl hd_L_cutHeight.2 ⟨Nat.le_of_ble_eq_true rfl, Nat.le_of_ble_eq_true rfl⟩) (zpX_S hKo (zPc hP) (zDc hD) hS hA hG hGX) rfl rfl hl.1 rfl (lv_room (Nat.le_of_ble_eq_true rfl)) dL_law_2402 ⟨by show _ ≤ 1083; omega, by show _ ≤ 10672; omega⟩) (fun r w1 H locs hq9 hP hD hS => ?_)
  rcases hq9 with hq9 | hq9 | hq9
  · skip
    obtain ⟨f2c, n2c, vc, go, hf0, hf1, hgo, rfl, rfl⟩ := hq9
    refine lv_istore (lv' := [(5, .int (zI 0)), (0, .ref b), (1, .ref (α 0)), (2, .ref (β 0)), (3, .ref o), (4, .int (zI i))]) hx hb dL_law_2405 hl (by decide) rfl (fun ls hl => ?_)
    refine lv_aload_n hx hb dL_law_2407 rfl (lv_at hl 3 rfl) ?_
    refine lv_aload_n hx hb dL_law_2408 rfl (lv_at hl 1 rfl) ?_
    refine lv_iload hx hb dL_law_2409 (lv_at hl 5 rfl) ?_
    refine lv_iconst (v := zI 1) hx hb dL_law_2411 rfl ?_
    refine z_iadd hx hb dL_law_2412 ?_
    refine z_sld hx hb hXs hbl hbA hS ⟨⟨by omega, by omega⟩, hL⟩ dL_law_2413 ?_
    refine lv_aload_n hx hb dL_law_2414 rfl (lv_at hl 1 rfl) ?_
    refine lv_iload hx hb dL_law_2415 (lv_at hl 5 rfl) ?_
    refine lv_iconst (v := zI 2) hx hb dL_law_2417 rfl ?_
    refine z_iadd hx hb dL_law_2418 ?_
    refine z_sld hx hb hXs hbl hbA hS ⟨⟨by omega, by omega⟩, hL⟩ dL_law_2419 ?_
    refine lv_aload_n hx hb dL_law_2420 rfl (lv_at hl 1 rfl) ?_
    refine lv_iload hx hb dL_law_2421 (lv_at hl 5 rfl) ?_
    refine lv_iconst (v := zI 3) hx hb dL_law_2423 rfl ?_
    refine z_iadd hx hb dL_law_2424 ?_
    refine z_sld hx hb hXs hbl hbA hS ⟨⟨by omega, by omega⟩, hL⟩ dL_law_2425 ?_
    refine lv_aload_n hx hb dL_law_2426 rfl (lv_at hl 1 rfl) ?_
    refine lv_iload hx hb dL_law_2427 (lv_at hl 5 rfl) ?_
    refine lv_iconst (v := zI 4) hx hb dL_law_2429 rfl ?_
    refine z_iadd hx hb dL_law_2430 ?_
    refine z_sld hx hb hXs hbl hbA hS ⟨⟨by omega, by omega⟩, hL⟩ dL_law_2431 ?_
    refine lv_aload_n hx hb dL_law_2432 rfl (lv_at hl 1 rfl) ?_
    refine lv_iload hx hb dL_law_2433 (lv_at hl 5 rfl) ?_
    refine lv_iconst (v := zI 5) hx hb dL_law_2435 rfl ?_
    refine z_iadd hx hb dL_law_2436 ?_
    refine z_sld hx hb hXs hbl hbA hS ⟨⟨by omega, by omega⟩, hL⟩ dL_law_2437 ?_
    have hP := zPswap hP
    have hD := zDswap hD
    refine zfw_calli (mc := 0) (ms := 0)  hP hD hS hA (va_runV (As := [.int (zI (xI xs (i + 1))), .int (zI (xI xs (i + 2))), .int (zI (xI xs (i + 3))), .int (zI (xI xs (i + 4))), .int (zI (xI xs (i + 5)))]) (rest := []) hC (c_X10_cutHeight l D τ β (gM cI cB) h sv sl9 tk cd mn mi mc mq mr mw ct9 ln9 mt ma mx mh (xI xs (i + 1)) (xI xs (i + 2)) (xI xs (i + 3)) (xI xs (i + 4)) (xI xs (i + 5)) (xI_b xs _) (xI_b xs _) (xI_b xs _) (xI_b xs _) (xI_b xs _) hh _) (cwV 5 hts (gV hB wl_L_294 wn_X10_cutHeight ws_X10_cutHeight wi_X10 wc_X10_cutHeight) rfl rfl rfl hd_X10_cutHeight ⟨Nat.le_of_ble_eq_true rfl, Nat.le_of_ble_eq_true rfl⟩) (zp_V hKm (zPc hP) (zDc hD) hS hA hG (ci := 10) (q0 := 0) rfl rfl rfl) rfl rfl hl.1 rfl (lv_room (Nat.le_of_ble_eq_true rfl)) dL_law_2438 ⟨by show _ ≤ 1083; omega, by show _ ≤ 10672; omega⟩) (fun r w1 H locs hq9 hP hD hS => ?_)
    obtain ⟨t2m, vm, hm0, hm1, rfl, rfl⟩ := hq9
    have hP := zPswap hP
    have hD := zDswap hD
    refine lv_istore (lv' := [(6, .int (zI vm)), (5, .int (zI 0)), (0, .ref b), (1, .ref (α 0)), (2, .ref (β 0)), (3, .ref o), (4, .int (zI i))]) hx hb dL_law_2441 hl (by decide) rfl (fun ls hl => ?_)
    refine lv_aload_n hx hb dL_law_2443 rfl (lv_at hl 4 rfl) ?_
    have hP := zPswap hP
    have hD := zDswap hD
    refine zfw_calli (mc := 0) (ms := 0)  hP hD hS hA (va_runV (As := []) (rest := []) hC (c_X10_thrown l D τ β (gM cI cB) _ _ _ _ _ _ _ _ _ _ _ _ _ _ _ _ _ _) (cwV 0 hts (gV hB wl_L_145 wn_X10_thrown ws_X10_thrown wi_X10 wc_X10_thrown) rfl rfl rfl hd_X10_thrown ⟨Nat.le_of_ble_eq_true rfl, Nat.le_of_ble_eq_true rfl⟩) (zp_V hKm (zPc hP) (zDc hD) hS hA hG (ci := 10) (q0 := 0) rfl rfl rfl) rfl rfl hl.1 rfl (lv_room (Nat.le_of_ble_eq_true rfl)) dL_law_2444 ⟨by show _ ≤ 1083; omega, by show _ ≤ 10672; omega⟩) (fun r w1 H locs hq9 hP hD hS => ?_)
    obtain ⟨vt, ht0, rfl, rfl⟩ := hq9
    have hP := zPswap hP
    have hD := zDswap hD
    refine lv_iload hx hb dL_law_2447 (lv_at hl 1 rfl) ?_
    have heq_2449 : vt = 0 := by rw [ht0, hm0, hf0]
    refine z_iceqE (tgt := 2454) hx hb heq_2449 dL_law_2449 (by decide) ?_
    refine lv_iload hx hb dL_law_2454 (lv_at hl 1 rfl) ?_
    refine z_ifne (tgt := 2471) hx hb ⟨by omega, by omega⟩ dL_law_2456 (by decide) (fun c_2456 => absurd rfl c_2456) (fun c_2456 => ?_)
    refine lv_aload_n hx hb dL_law_2459 rfl (lv_at hl 5 rfl) ?_
    refine lv_iconst (v := zI 0) hx hb dL_law_2460 rfl ?_
    refine zo_lald hx hb hKo (zPc hP) dL_law_2461 ?_
    refine lv_iload hx hb dL_law_2462 (lv_at hl 0 rfl) ?_
    refine lv_i2l (v := (zI vm).toInt64) hx hb dL_law_2464 rfl ?_
    refine z_lcmpE hx hb (by rw [hgo, hf1, (hm1 (hm0.trans hf0))]) dL_law_2465 ?_
    refine z_ifeq (tgt := 2471) hx hb ⟨by omega, by omega⟩ dL_law_2466 (by decide) (fun c_2466 => ?_) (fun c_2466 => absurd rfl c_2466)
    refine lv_goto (tgt := 2893) hx hb dL_law_2471 (by decide) ?_
    refine W.widen (k := cells + 2) (n := slots + 12) (by omega) (by omega) ?_
    exact hk _ _ _ _ _ _ _ _ _ _ _ _ _ _ _ _ _ _ _ _ _ _ _ _ _ _ _ _ _ _ _ H locs ls (hI) hP hD hS (lv_sub hl [2, 3, 4, 5, 6] rfl)
  · skip
    obtain ⟨hx9, rfl, rfl⟩ := hq9
    refine lv_istore (lv' := [(5, .int (zI 1)), (0, .ref b), (1, .ref (α 0)), (2, .ref (β 0)), (3, .ref o), (4, .int (zI i))]) hx hb dL_law_2405 hl (by decide) rfl (fun ls hl => ?_)
    refine lv_aload_n hx hb dL_law_2407 rfl (lv_at hl 3 rfl) ?_
    refine lv_aload_n hx hb dL_law_2408 rfl (lv_at hl 1 rfl) ?_
    refine lv_iload hx hb dL_law_2409 (lv_at hl 5 rfl) ?_
    refine lv_iconst (v := zI 1) hx hb dL_law_2411 rfl ?_
    refine z_iadd hx hb dL_law_2412 ?_
    refine z_sld hx hb hXs hbl hbA hS ⟨⟨by omega, by omega⟩, hL⟩ dL_law_2413 ?_
    refine lv_aload_n hx hb dL_law_2414 rfl (lv_at hl 1 rfl) ?_
    refine lv_iload hx hb dL_law_2415 (lv_at hl 5 rfl) ?_
    refine lv_iconst (v := zI 2) hx hb dL_law_2417 rfl ?_
    refine z_iadd hx hb dL_law_2418 ?_
    refine z_sld hx hb hXs hbl hbA hS ⟨⟨by omega, by omega⟩, hL⟩ dL_law_2419 ?_
    refine lv_aload_n hx hb dL_law_2420 rfl (lv_at hl 1 rfl) ?_
    refine lv_iload hx hb dL_law_2421 (lv_at hl 5 rfl) ?_
    refine lv_iconst (v := zI 3) hx hb dL_law_2423 rfl ?_
    refine z_iadd hx hb dL_law_2424 ?_
    refine z_sld hx hb hXs hbl hbA hS ⟨⟨by omega, by omega⟩, hL⟩ dL_law_2425 ?_
    refine lv_aload_n hx hb dL_law_2426 rfl (lv_at hl 1 rfl) ?_
    refine lv_iload hx hb dL_law_2427 (lv_at hl 5 rfl) ?_
    refine lv_iconst (v := zI 4) hx hb dL_law_2429 rfl ?_
    refine z_iadd hx hb dL_law_2430 ?_
    refine z_sld hx hb hXs hbl hbA hS ⟨⟨by omega, by omega⟩, hL⟩ dL_law_2431 ?_
    refine lv_aload_n hx hb dL_law_2432 rfl (lv_at hl 1 rfl) ?_
    refine lv_iload hx hb dL_law_2433 (lv_at hl 5 rfl) ?_
    refine lv_iconst (v := zI 5) hx hb dL_law_2435 rfl ?_
    refine z_iadd hx hb dL_law_2436 ?_
    refine z_sld hx hb hXs hbl hbA hS ⟨⟨by omega, by omega⟩, hL⟩ dL_law_2437 ?_
    have hP := zPswap hP
    have hD := zDswap hD
    refine zfw_calli (mc := 0) (ms := 0)  hP hD hS hA (va_runV (As := [.int (zI (xI xs (i + 1))), .int (zI (xI xs (i + 2))), .int (zI (xI xs (i + 3))), .int (zI (xI xs (i + 4))), .int (zI (xI xs (i + 5)))]) (rest := []) hC (c_X10_cutHeight l D τ β (gM cI cB) h sv sl9 tk cd mn mi mc mq mr mw ct9 ln9 mt ma mx mh (xI xs (i + 1)) (xI xs (i + 2)) (xI xs (i + 3)) (xI xs (i + 4)) (xI xs (i + 5)) (xI_b xs _) (xI_b xs _) (xI_b xs _) (xI_b xs _) (xI_b xs _) hh _) (cwV 5 hts (gV hB wl_L_294 wn_X10_cutHeight ws_X10_cutHeight wi_X10 wc_X10_cutHeight) rfl rfl rfl hd_X10_cutHeight ⟨Nat.le_of_ble_eq_true rfl, Nat.le_of_ble_eq_true rfl⟩) (zp_V hKm (zPc hP) (zDc hD) hS hA hG (ci := 10) (q0 := 0) rfl rfl rfl) rfl rfl hl.1 rfl (lv_room (Nat.le_of_ble_eq_true rfl)) dL_law_2438 ⟨by show _ ≤ 1083; omega, by show _ ≤ 10672; omega⟩) (fun r w1 H locs hq9 hP hD hS => ?_)
    obtain ⟨t2m, vm, hm0, hm1, rfl, rfl⟩ := hq9
    have hP := zPswap hP
    have hD := zDswap hD
    refine lv_istore (lv' := [(6, .int (zI vm)), (5, .int (zI 1)), (0, .ref b), (1, .ref (α 0)), (2, .ref (β 0)), (3, .ref o), (4, .int (zI i))]) hx hb dL_law_2441 hl (by decide) rfl (fun ls hl => ?_)
    refine lv_aload_n hx hb dL_law_2443 rfl (lv_at hl 4 rfl) ?_
    have hP := zPswap hP
    have hD := zDswap hD
    refine zfw_calli (mc := 0) (ms := 0)  hP hD hS hA (va_runV (As := []) (rest := []) hC (c_X10_thrown l D τ β (gM cI cB) _ _ _ _ _ _ _ _ _ _ _ _ _ _ _ _ _ _) (cwV 0 hts (gV hB wl_L_145 wn_X10_thrown ws_X10_thrown wi_X10 wc_X10_thrown) rfl rfl rfl hd_X10_thrown ⟨Nat.le_of_ble_eq_true rfl, Nat.le_of_ble_eq_true rfl⟩) (zp_V hKm (zPc hP) (zDc hD) hS hA hG (ci := 10) (q0 := 0) rfl rfl rfl) rfl rfl hl.1 rfl (lv_room (Nat.le_of_ble_eq_true rfl)) dL_law_2444 ⟨by show _ ≤ 1083; omega, by show _ ≤ 10672; omega⟩) (fun r w1 H locs hq9 hP hD hS => ?_)
    obtain ⟨vt, ht0, rfl, rfl⟩ := hq9
    have hP := zPswap hP
    have hD := zDswap hD
    refine lv_iload hx hb dL_law_2447 (lv_at hl 1 rfl) ?_
    have heq_2449 : vt = 1 := by rw [ht0, hm0, hx9]
    refine z_iceqE (tgt := 2454) hx hb heq_2449 dL_law_2449 (by decide) ?_
    refine lv_iload hx hb dL_law_2454 (lv_at hl 1 rfl) ?_
    refine z_ifne (tgt := 2471) hx hb ⟨by omega, by omega⟩ dL_law_2456 (by decide) (fun c_2456 => ?_) (fun c_2456 => absurd c_2456 (by decide))
    refine lv_goto (tgt := 2893) hx hb dL_law_2471 (by decide) ?_
    refine W.widen (k := cells + 2) (n := slots + 12) (by omega) (by omega) ?_
    exact hk _ _ _ _ _ _ _ _ _ _ _ _ _ _ _ _ _ _ _ _ _ _ _ _ _ _ _ _ _ _ _ H locs ls (hI) hP hD hS (lv_sub hl [2, 3, 4, 5, 6] rfl)
  · skip
    obtain ⟨f2c, n2c, hx9, rfl, rfl⟩ := hq9
    refine lv_istore (lv' := [(5, .int (zI 1)), (0, .ref b), (1, .ref (α 0)), (2, .ref (β 0)), (3, .ref o), (4, .int (zI i))]) hx hb dL_law_2405 hl (by decide) rfl (fun ls hl => ?_)
    refine lv_aload_n hx hb dL_law_2407 rfl (lv_at hl 3 rfl) ?_
    refine lv_aload_n hx hb dL_law_2408 rfl (lv_at hl 1 rfl) ?_
    refine lv_iload hx hb dL_law_2409 (lv_at hl 5 rfl) ?_
    refine lv_iconst (v := zI 1) hx hb dL_law_2411 rfl ?_
    refine z_iadd hx hb dL_law_2412 ?_
    refine z_sld hx hb hXs hbl hbA hS ⟨⟨by omega, by omega⟩, hL⟩ dL_law_2413 ?_
    refine lv_aload_n hx hb dL_law_2414 rfl (lv_at hl 1 rfl) ?_
    refine lv_iload hx hb dL_law_2415 (lv_at hl 5 rfl) ?_
    refine lv_iconst (v := zI 2) hx hb dL_law_2417 rfl ?_
    refine z_iadd hx hb dL_law_2418 ?_
    refine z_sld hx hb hXs hbl hbA hS ⟨⟨by omega, by omega⟩, hL⟩ dL_law_2419 ?_
    refine lv_aload_n hx hb dL_law_2420 rfl (lv_at hl 1 rfl) ?_
    refine lv_iload hx hb dL_law_2421 (lv_at hl 5 rfl) ?_
    refine lv_iconst (v := zI 3) hx hb dL_law_2423 rfl ?_
    refine z_iadd hx hb dL_law_2424 ?_
    refine z_sld hx hb hXs hbl hbA hS ⟨⟨by omega, by omega⟩, hL⟩ dL_law_2425 ?_
    refine lv_aload_n hx hb dL_law_2426 rfl (lv_at hl 1 rfl) ?_
    refine lv_iload hx hb dL_law_2427 (lv_at hl 5 rfl) ?_
    refine lv_iconst (v := zI 4) hx hb dL_law_2429 rfl ?_
    refine z_iadd hx hb dL_law_2430 ?_
    refine z_sld hx hb hXs hbl hbA hS ⟨⟨by omega, by omega⟩, hL⟩ dL_law_2431 ?_
    refine lv_aload_n hx hb dL_law_2432 rfl (lv_at hl 1 rfl) ?_
    refine lv_iload hx hb dL_law_2433 (lv_at hl 5 rfl) ?_
    refine lv_iconst (v := zI 5) hx hb dL_law_2435 rfl ?_
    refine z_iadd hx hb dL_law_2436 ?_
    refine z_sld hx hb hXs hbl hbA hS ⟨⟨by omega, by omega⟩, hL⟩ dL_law_2437 ?_
    have hP := zPswap hP
    have hD := zDswap hD
    refine zfw_calli (mc := 0) (ms := 0)  hP hD hS hA (va_runV (As := [.int (zI (xI xs (i + 1))), .int (zI (xI xs (i + 2))), .int (zI (xI xs (i + 3))), .int (zI (xI xs (i + 4))), .int (zI (xI xs (i + 5)))]) (rest := []) hC (c_X10_cutHeight l D τ β (gM cI cB) h sv sl9 tk cd mn mi mc mq mr mw ct9 ln9 mt ma mx mh (xI xs (i + 1)) (xI xs (i + 2)) (xI xs (i + 3)) (xI xs (i + 4)) (xI xs (i + 5)) (xI_b xs _) (xI_b xs _) (xI_b xs _) (xI_b xs _) (xI_b xs _) hh _) (cwV 5 hts (gV hB wl_L_294 wn_X10_cutHeight ws_X10_cutHeight wi_X10 wc_X10_cutHeight) rfl rfl rfl hd_X10_cutHeight ⟨Nat.le_of_ble_eq_true rfl, Nat.le_of_ble_eq_true rfl⟩) (zp_V hKm (zPc hP) (zDc hD) hS hA hG (ci := 10) (q0 := 0) rfl rfl rfl) rfl rfl hl.1 rfl (lv_room (Nat.le_of_ble_eq_true rfl)) dL_law_2438 ⟨by show _ ≤ 1083; omega, by show _ ≤ 10672; omega⟩) (fun r w1 H locs hq9 hP hD hS => ?_)
    obtain ⟨t2m, vm, hm0, hm1, rfl, rfl⟩ := hq9
    have hP := zPswap hP
    have hD := zDswap hD
    refine lv_istore (lv' := [(6, .int (zI vm)), (5, .int (zI 1)), (0, .ref b), (1, .ref (α 0)), (2, .ref (β 0)), (3, .ref o), (4, .int (zI i))]) hx hb dL_law_2441 hl (by decide) rfl (fun ls hl => ?_)
    refine lv_aload_n hx hb dL_law_2443 rfl (lv_at hl 4 rfl) ?_
    have hP := zPswap hP
    have hD := zDswap hD
    refine zfw_calli (mc := 0) (ms := 0)  hP hD hS hA (va_runV (As := []) (rest := []) hC (c_X10_thrown l D τ β (gM cI cB) _ _ _ _ _ _ _ _ _ _ _ _ _ _ _ _ _ _) (cwV 0 hts (gV hB wl_L_145 wn_X10_thrown ws_X10_thrown wi_X10 wc_X10_thrown) rfl rfl rfl hd_X10_thrown ⟨Nat.le_of_ble_eq_true rfl, Nat.le_of_ble_eq_true rfl⟩) (zp_V hKm (zPc hP) (zDc hD) hS hA hG (ci := 10) (q0 := 0) rfl rfl rfl) rfl rfl hl.1 rfl (lv_room (Nat.le_of_ble_eq_true rfl)) dL_law_2444 ⟨by show _ ≤ 1083; omega, by show _ ≤ 10672; omega⟩) (fun r w1 H locs hq9 hP hD hS => ?_)
    obtain ⟨vt, ht0, rfl, rfl⟩ := hq9
    have hP := zPswap hP
    have hD := zDswap hD
    refine lv_iload hx hb dL_law_2447 (lv_at hl 1 rfl) ?_
    have heq_2449 : vt = 1 := by rw [ht0, hm0, hx9]
    refine z_iceqE (tgt := 2454) hx hb heq_2449 dL_law_2449 (by decide) ?_
    refine lv_iload hx hb dL_law_2454 (lv_at hl 1 rfl) ?_
    refine z_ifne (tgt := 2471) hx hb ⟨by omega, by omega⟩ dL_law_2456 (by decide) (fun c_2456 => ?_) (fun c_2456 => absurd c_2456 (by decide))
    refine lv_goto (tgt := 2893) hx hb dL_law_2471 (by decide) ?_
    refine W.widen (k := cells + 2) (n := slots + 12) (by omega) (by omega) ?_
    exact hk _ _ _ _ _ _ _ _ _ _ _ _ _ _ _ _ _ _ _ _ _ _ _ _ _ _ _ _ _ _ _ H locs ls (hI) hP hD hS (lv_sub hl [2, 3, 4, 5, 6] rfl)
set_option maxHeartbeats 4000000 in
set_option maxRecDepth 100000 in
theorem law_2474 {p : Program} {l : Launch} {e : Env} {s : State} {m : MethodId} {below : List Frame} {meth : Method} {c : Code} {Q : State → Prop} {D : va_G} {τ : Nat → Nat} {A : Nat → Prop} {α β : Nat → Nat} {cI cB cL : ClassId} {o b L : Nat} {xs : Nat → Int32} {i : Int} {cells slots : Nat} (hX : LCx p l s m c D τ A cI cB cL b L xs) (hi : 0 ≤ i ∧ i + 6 ≤ L) (hc : cells + 2 ≤ 1083 ∧ slots + 12 ≤ 10672)
    (hk : LSt p l e s m below meth c Q D A α β cI cB cL o b i 2893 (cells + 2) (slots + 12)) : LSt p l e s m below meth c Q D A α β cI cB cL o b i 2474 cells slots := by
  obtain ⟨hC, hKm, hKo, hKh, hG, hA, hGX, hst, hXs, hbl, hbA, hL⟩ := hX
  intro h old ch rg ln sl pd ct sg cd ln9 pl le ro co nu sv sl9 tk ct9 mn mi mc mq mr mw mt ma mx mh fo H locs ls hI hP hD hS hl
  obtain ⟨rg0, rg1⟩ := rg
  obtain ⟨ln_0, ln_1, ln_2, ln_3, ln_4, ln_5, ln_6, ln_7, ln_8, ln_9⟩ := ln
  obtain ⟨sl_0, sl_1, sl_2⟩ := sl
  obtain ⟨pd0, pd1⟩ := pd
  obtain ⟨ct_0, ct_1⟩ := ct
  have hx := hC.1
  have hb := hC.2.1
  have hml := hC.2.2.1
  have hts := hC.2.2.2.2
  have hB : ∀ w ∈ W0, w ∈ W0 := fun _ h => h
  have hh := hI.1
  have hct := hI.2.2.2.1
  have hln := hI.2.2.2.2.1
  have hmf := hI.2.2.2.2.2.1
  have hov := hI.2.2.2.2.2.2
  have hcd : ∀ k, 0 ≤ k → k < ln9 → 0 ≤ cd k ∧ cd k ≤ 126 := fun k a b => by have z := hmf k a b; omega
  have hP : va_P D vwCl ((wM β (gM cI cB) h sv sl9 tk cd mn mi mc mq mr mw ct9 ln9 mt ma mx mh) ++ (oC cL o fo ++ (wH α (gH cI cB) (h, old, ch) (rg0, rg1) (ln_0, ln_1, ln_2, ln_3, ln_4, ln_5, ln_6, ln_7, ln_8, ln_9) (sl_0, sl_1, sl_2) (pd0, pd1) (ct_0, ct_1) sg (cd, ln9, pl, le, ro, co, nu) (sv, sl9, tk, ct9)))) H := hP
  have hD : va_D A ((wM β (gM cI cB) h sv sl9 tk cd mn mi mc mq mr mw ct9 ln9 mt ma mx mh) ++ (oC cL o fo ++ (wH α (gH cI cB) (h, old, ch) (rg0, rg1) (ln_0, ln_1, ln_2, ln_3, ln_4, ln_5, ln_6, ln_7, ln_8, ln_9) (sl_0, sl_1, sl_2) (pd0, pd1) (ct_0, ct_1) sg (cd, ln9, pl, le, ro, co, nu) (sv, sl9, tk, ct9)))) := hD
  refine lv_aload_n hx hb dL_law_2474 rfl (lv_at hl 1 rfl) ?_
  refine lv_aload_n hx hb dL_law_2475 rfl (lv_at hl 0 rfl) ?_
  refine lv_iload hx hb dL_law_2476 (lv_at hl 4 rfl) ?_
  refine lv_iconst (v := zI 1) hx hb dL_law_2478 rfl ?_
  refine z_iadd hx hb dL_law_2479 ?_
  refine z_sld hx hb hXs hbl hbA hS ⟨⟨by omega, by omega⟩, hL⟩ dL_law_2480 ?_
  refine lv_aload_n hx hb dL_law_2481 rfl (lv_at hl 0 rfl) ?_
  refine lv_iload hx hb dL_law_2482 (lv_at hl 4 rfl) ?_
  refine lv_iconst (v := zI 2) hx hb dL_law_2484 rfl ?_
  refine z_iadd hx hb dL_law_2485 ?_
  refine z_sld hx hb hXs hbl hbA hS ⟨⟨by omega, by omega⟩, hL⟩ dL_law_2486 ?_
  refine lv_aload_n hx hb dL_law_2487 rfl (lv_at hl 0 rfl) ?_
  refine lv_iload hx hb dL_law_2488 (lv_at hl 4 rfl) ?_
  refine lv_iconst (v := zI 3) hx hb dL_law_2490 rfl ?_
  refine z_iadd hx hb dL_law_2491 ?_
  refine z_sld hx hb hXs hbl hbA hS ⟨⟨by omega, by omega⟩, hL⟩ dL_law_2492 ?_
  refine lv_aload_n hx hb dL_law_2493 rfl (lv_at hl 0 rfl) ?_
  refine lv_iload hx hb dL_law_2494 (lv_at hl 4 rfl) ?_
  refine lv_iconst (v := zI 4) hx hb dL_law_2496 rfl ?_
  refine z_iadd hx hb dL_law_2497 ?_
  refine z_sld hx hb hXs hbl hbA hS ⟨⟨by omega, by omega⟩, hL⟩ dL_law_2498 ?_
  refine lv_aload_n hx hb dL_law_2499 rfl (lv_at hl 3 rfl) ?_
  refine zfw_calli (mc := 2) (ms := 12) (wr := (wM β (gM cI cB) h sv sl9 tk cd mn mi mc mq mr mw ct9 ln9 mt ma mx mh)) (wc := oC cL o fo ++ (wH α (gH cI cB) (h, old, ch) (rg0, rg1) (ln_0, ln_1, ln_2, ln_3, ln_4, ln_5, ln_6, ln_7, ln_8, ln_9) (sl_0, sl_1, sl_2) (pd0, pd1) (ct_0, ct_1) sg (cd, ln9, pl, le, ro, co, nu) (sv, sl9, tk, ct9))) hP hD hS hA (vx_runSW (As := [.ref (α 0), .int (zI (xI xs (i + 1))), .int (zI (xI xs (i + 2))), .int (zI (xI xs (i + 3))), .int (zI (xI xs (i + 4))), .ref o]) (rest := []) hC (c_L_climb l D τ α (gH cI cB) h old ch (rg0, rg1) (ln_0, ln_1, ln_2, ln_3, ln_4, ln_5, ln_6, ln_7, ln_8, ln_9) (sl_0, sl_1, sl_2) (pd0, pd1) ct_0 ct_1 sg (cd, ln9, pl, le, ro, co, nu) (sv, sl9, tk, ct9) (xI xs (i + 1)) (xI xs (i + 2)) (xI xs (i + 3)) (xI xs (i + 4)) (xI_b xs _) (xI_b xs _) (xI_b xs _) (xI_b xs _) hh hst cL o fo _) (vx_cwSW 6 hts (gSW hB wl_L_295 wt_L_climb wi_L wc_L_climb) rfl rfl rfl hd_L_climb.2 ⟨Nat.le_of_ble_eq_true rfl, Nat.le_of_ble_eq_true rfl⟩) (zpX_S hKo (zPc hP) (zDc hD) hS hA hG hGX) rfl rfl hl.1 rfl (lv_room (Nat.le_of_ble_eq_true rfl)) dL_law_2500 ⟨by show _ ≤ 1083; omega, by show _ ≤ 10672; omega⟩) (fun r w1 H locs hq9 hP hD hS => ?_)
  rcases hq9 with hq9 | hq9
  · skip
    obtain ⟨f2c, n2c, vc, go, hf0, hf1, hgo, rfl, rfl⟩ := hq9
    refine lv_istore (lv' := [(5, .int (zI 0)), (0, .ref b), (1, .ref (α 0)), (2, .ref (β 0)), (3, .ref o), (4, .int (zI i))]) hx hb dL_law_2503 hl (by decide) rfl (fun ls hl => ?_)
    refine lv_aload_n hx hb dL_law_2505 rfl (lv_at hl 3 rfl) ?_
    refine lv_aload_n hx hb dL_law_2506 rfl (lv_at hl 1 rfl) ?_
    refine lv_iload hx hb dL_law_2507 (lv_at hl 5 rfl) ?_
    refine lv_iconst (v := zI 1) hx hb dL_law_2509 rfl ?_
    refine z_iadd hx hb dL_law_2510 ?_
    refine z_sld hx hb hXs hbl hbA hS ⟨⟨by omega, by omega⟩, hL⟩ dL_law_2511 ?_
    refine lv_aload_n hx hb dL_law_2512 rfl (lv_at hl 1 rfl) ?_
    refine lv_iload hx hb dL_law_2513 (lv_at hl 5 rfl) ?_
    refine lv_iconst (v := zI 2) hx hb dL_law_2515 rfl ?_
    refine z_iadd hx hb dL_law_2516 ?_
    refine z_sld hx hb hXs hbl hbA hS ⟨⟨by omega, by omega⟩, hL⟩ dL_law_2517 ?_
    refine lv_aload_n hx hb dL_law_2518 rfl (lv_at hl 1 rfl) ?_
    refine lv_iload hx hb dL_law_2519 (lv_at hl 5 rfl) ?_
    refine lv_iconst (v := zI 3) hx hb dL_law_2521 rfl ?_
    refine z_iadd hx hb dL_law_2522 ?_
    refine z_sld hx hb hXs hbl hbA hS ⟨⟨by omega, by omega⟩, hL⟩ dL_law_2523 ?_
    refine lv_aload_n hx hb dL_law_2524 rfl (lv_at hl 1 rfl) ?_
    refine lv_iload hx hb dL_law_2525 (lv_at hl 5 rfl) ?_
    refine lv_iconst (v := zI 4) hx hb dL_law_2527 rfl ?_
    refine z_iadd hx hb dL_law_2528 ?_
    refine z_sld hx hb hXs hbl hbA hS ⟨⟨by omega, by omega⟩, hL⟩ dL_law_2529 ?_
    have hP := zPswap hP
    have hD := zDswap hD
    refine zfw_calli (mc := 0) (ms := 0)  hP hD hS hA (va_runV (As := [.int (zI (xI xs (i + 1))), .int (zI (xI xs (i + 2))), .int (zI (xI xs (i + 3))), .int (zI (xI xs (i + 4)))]) (rest := []) hC (c_X10_climb l D τ β (gM cI cB) h sv sl9 tk cd mn mi mc mq mr mw ct9 ln9 mt ma mx mh (xI xs (i + 1)) (xI xs (i + 2)) (xI xs (i + 3)) (xI xs (i + 4)) (xI_b xs _) (xI_b xs _) (xI_b xs _) (xI_b xs _) hh _) (cwV 4 hts (gV hB wl_L_297 wn_X10_climb ws_X10_climb wi_X10 wc_X10_climb) rfl rfl rfl hd_X10_climb ⟨Nat.le_of_ble_eq_true rfl, Nat.le_of_ble_eq_true rfl⟩) (zp_V hKm (zPc hP) (zDc hD) hS hA hG (ci := 10) (q0 := 0) rfl rfl rfl) rfl rfl hl.1 rfl (lv_room (Nat.le_of_ble_eq_true rfl)) dL_law_2530 ⟨by show _ ≤ 1083; omega, by show _ ≤ 10672; omega⟩) (fun r w1 H locs hq9 hP hD hS => ?_)
    obtain ⟨t2m, vm, hm0, hm1, rfl, rfl⟩ := hq9
    have hP := zPswap hP
    have hD := zDswap hD
    refine lv_istore (lv' := [(6, .int (zI vm)), (5, .int (zI 0)), (0, .ref b), (1, .ref (α 0)), (2, .ref (β 0)), (3, .ref o), (4, .int (zI i))]) hx hb dL_law_2533 hl (by decide) rfl (fun ls hl => ?_)
    refine lv_aload_n hx hb dL_law_2535 rfl (lv_at hl 4 rfl) ?_
    have hP := zPswap hP
    have hD := zDswap hD
    refine zfw_calli (mc := 0) (ms := 0)  hP hD hS hA (va_runV (As := []) (rest := []) hC (c_X10_thrown l D τ β (gM cI cB) _ _ _ _ _ _ _ _ _ _ _ _ _ _ _ _ _ _) (cwV 0 hts (gV hB wl_L_145 wn_X10_thrown ws_X10_thrown wi_X10 wc_X10_thrown) rfl rfl rfl hd_X10_thrown ⟨Nat.le_of_ble_eq_true rfl, Nat.le_of_ble_eq_true rfl⟩) (zp_V hKm (zPc hP) (zDc hD) hS hA hG (ci := 10) (q0 := 0) rfl rfl rfl) rfl rfl hl.1 rfl (lv_room (Nat.le_of_ble_eq_true rfl)) dL_law_2536 ⟨by show _ ≤ 1083; omega, by show _ ≤ 10672; omega⟩) (fun r w1 H locs hq9 hP hD hS => ?_)
    obtain ⟨vt, ht0, rfl, rfl⟩ := hq9
    have hP := zPswap hP
    have hD := zDswap hD
    refine lv_iload hx hb dL_law_2539 (lv_at hl 1 rfl) ?_
    have heq_2541 : vt = 0 := by rw [ht0, hm0, hf0]
    refine z_iceqE (tgt := 2546) hx hb heq_2541 dL_law_2541 (by decide) ?_
    refine lv_iload hx hb dL_law_2546 (lv_at hl 1 rfl) ?_
    refine z_ifne (tgt := 2563) hx hb ⟨by omega, by omega⟩ dL_law_2548 (by decide) (fun c_2548 => absurd rfl c_2548) (fun c_2548 => ?_)
    refine lv_aload_n hx hb dL_law_2551 rfl (lv_at hl 5 rfl) ?_
    refine lv_iconst (v := zI 0) hx hb dL_law_2552 rfl ?_
    refine zo_lald hx hb hKo (zPc hP) dL_law_2553 ?_
    refine lv_iload hx hb dL_law_2554 (lv_at hl 0 rfl) ?_
    refine lv_i2l (v := (zI vm).toInt64) hx hb dL_law_2556 rfl ?_
    refine z_lcmpE hx hb (by rw [hgo, hf1, (hm1 (hm0.trans hf0))]) dL_law_2557 ?_
    refine z_ifeq (tgt := 2563) hx hb ⟨by omega, by omega⟩ dL_law_2558 (by decide) (fun c_2558 => ?_) (fun c_2558 => absurd rfl c_2558)
    refine lv_goto (tgt := 2893) hx hb dL_law_2563 (by decide) ?_
    refine W.widen (k := cells + 2) (n := slots + 12) (by omega) (by omega) ?_
    exact hk _ _ _ _ _ _ _ _ _ _ _ _ _ _ _ _ _ _ _ _ _ _ _ _ _ _ _ _ _ _ _ H locs ls (hI) hP hD hS (lv_sub hl [2, 3, 4, 5, 6] rfl)
  · skip
    obtain ⟨hx9, rfl, rfl⟩ := hq9
    refine lv_istore (lv' := [(5, .int (zI 1)), (0, .ref b), (1, .ref (α 0)), (2, .ref (β 0)), (3, .ref o), (4, .int (zI i))]) hx hb dL_law_2503 hl (by decide) rfl (fun ls hl => ?_)
    refine lv_aload_n hx hb dL_law_2505 rfl (lv_at hl 3 rfl) ?_
    refine lv_aload_n hx hb dL_law_2506 rfl (lv_at hl 1 rfl) ?_
    refine lv_iload hx hb dL_law_2507 (lv_at hl 5 rfl) ?_
    refine lv_iconst (v := zI 1) hx hb dL_law_2509 rfl ?_
    refine z_iadd hx hb dL_law_2510 ?_
    refine z_sld hx hb hXs hbl hbA hS ⟨⟨by omega, by omega⟩, hL⟩ dL_law_2511 ?_
    refine lv_aload_n hx hb dL_law_2512 rfl (lv_at hl 1 rfl) ?_
    refine lv_iload hx hb dL_law_2513 (lv_at hl 5 rfl) ?_
    refine lv_iconst (v := zI 2) hx hb dL_law_2515 rfl ?_
    refine z_iadd hx hb dL_law_2516 ?_
    refine z_sld hx hb hXs hbl hbA hS ⟨⟨by omega, by omega⟩, hL⟩ dL_law_2517 ?_
    refine lv_aload_n hx hb dL_law_2518 rfl (lv_at hl 1 rfl) ?_
    refine lv_iload hx hb dL_law_2519 (lv_at hl 5 rfl) ?_
    refine lv_iconst (v := zI 3) hx hb dL_law_2521 rfl ?_
    refine z_iadd hx hb dL_law_2522 ?_
    refine z_sld hx hb hXs hbl hbA hS ⟨⟨by omega, by omega⟩, hL⟩ dL_law_2523 ?_
    refine lv_aload_n hx hb dL_law_2524 rfl (lv_at hl 1 rfl) ?_
    refine lv_iload hx hb dL_law_2525 (lv_at hl 5 rfl) ?_
    refine lv_iconst (v := zI 4) hx hb dL_law_2527 rfl ?_
    refine z_iadd hx hb dL_law_2528 ?_
    refine z_sld hx hb hXs hbl hbA hS ⟨⟨by omega, by omega⟩, hL⟩ dL_law_2529 ?_
    have hP := zPswap hP
    have hD := zDswap hD
    refine zfw_calli (mc := 0) (ms := 0)  hP hD hS hA (va_runV (As := [.int (zI (xI xs (i + 1))), .int (zI (xI xs (i + 2))), .int (zI (xI xs (i + 3))), .int (zI (xI xs (i + 4)))]) (rest := []) hC (c_X10_climb l D τ β (gM cI cB) h sv sl9 tk cd mn mi mc mq mr mw ct9 ln9 mt ma mx mh (xI xs (i + 1)) (xI xs (i + 2)) (xI xs (i + 3)) (xI xs (i + 4)) (xI_b xs _) (xI_b xs _) (xI_b xs _) (xI_b xs _) hh _) (cwV 4 hts (gV hB wl_L_297 wn_X10_climb ws_X10_climb wi_X10 wc_X10_climb) rfl rfl rfl hd_X10_climb ⟨Nat.le_of_ble_eq_true rfl, Nat.le_of_ble_eq_true rfl⟩) (zp_V hKm (zPc hP) (zDc hD) hS hA hG (ci := 10) (q0 := 0) rfl rfl rfl) rfl rfl hl.1 rfl (lv_room (Nat.le_of_ble_eq_true rfl)) dL_law_2530 ⟨by show _ ≤ 1083; omega, by show _ ≤ 10672; omega⟩) (fun r w1 H locs hq9 hP hD hS => ?_)
    obtain ⟨t2m, vm, hm0, hm1, rfl, rfl⟩ := hq9
    have hP := zPswap hP
    have hD := zDswap hD
    refine lv_istore (lv' := [(6, .int (zI vm)), (5, .int (zI 1)), (0, .ref b), (1, .ref (α 0)), (2, .ref (β 0)), (3, .ref o), (4, .int (zI i))]) hx hb dL_law_2533 hl (by decide) rfl (fun ls hl => ?_)
    refine lv_aload_n hx hb dL_law_2535 rfl (lv_at hl 4 rfl) ?_
    have hP := zPswap hP
    have hD := zDswap hD
    refine zfw_calli (mc := 0) (ms := 0)  hP hD hS hA (va_runV (As := []) (rest := []) hC (c_X10_thrown l D τ β (gM cI cB) _ _ _ _ _ _ _ _ _ _ _ _ _ _ _ _ _ _) (cwV 0 hts (gV hB wl_L_145 wn_X10_thrown ws_X10_thrown wi_X10 wc_X10_thrown) rfl rfl rfl hd_X10_thrown ⟨Nat.le_of_ble_eq_true rfl, Nat.le_of_ble_eq_true rfl⟩) (zp_V hKm (zPc hP) (zDc hD) hS hA hG (ci := 10) (q0 := 0) rfl rfl rfl) rfl rfl hl.1 rfl (lv_room (Nat.le_of_ble_eq_true rfl)) dL_law_2536 ⟨by show _ ≤ 1083; omega, by show _ ≤ 10672; omega⟩) (fun r w1 H locs hq9 hP hD hS => ?_)
    obtain ⟨vt, ht0, rfl, rfl⟩ := hq9
    have hP := zPswap hP
    have hD := zDswap hD
    refine lv_iload hx hb dL_law_2539 (lv_at hl 1 rfl) ?_
    have heq_2541 : vt = 1 := by rw [ht0, hm0, hx9]
    refine z_iceqE (tgt := 2546) hx hb heq_2541 dL_law_2541 (by decide) ?_
    refine lv_iload hx hb dL_law_2546 (lv_at hl 1 rfl) ?_
    refine z_ifne (tgt := 2563) hx hb ⟨by omega, by omega⟩ dL_law_2548 (by decide) (fun c_2548 => ?_) (fun c_2548 => absurd c_2548 (by decide))
    refine lv_goto (tgt := 2893) hx hb dL_law_2563 (by decide) ?_
    refine W.widen (k := cells + 2) (n := slots + 12) (by omega) (by omega) ?_
    exact hk _ _ _ _ _ _ _ _ _ _ _ _ _ _ _ _ _ _ _ _ _ _ _ _ _ _ _ _ _ _ _ H locs ls (hI) hP hD hS (lv_sub hl [2, 3, 4, 5, 6] rfl)
set_option maxHeartbeats 4000000 in
set_option maxRecDepth 100000 in
theorem law_2566 {p : Program} {l : Launch} {e : Env} {s : State} {m : MethodId} {below : List Frame} {meth : Method} {c : Code} {Q : State → Prop} {D : va_G} {τ : Nat → Nat} {A : Nat → Prop} {α β : Nat → Nat} {cI cB cL : ClassId} {o b L : Nat} {xs : Nat → Int32} {i : Int} {cells slots : Nat} (hX : LCx p l s m c D τ A cI cB cL b L xs) (hi : 0 ≤ i ∧ i + 6 ≤ L) (hc : cells + 2 ≤ 1083 ∧ slots + 12 ≤ 10672)
    (hk : LSt p l e s m below meth c Q D A α β cI cB cL o b i 2893 (cells + 2) (slots + 12)) : LSt p l e s m below meth c Q D A α β cI cB cL o b i 2566 cells slots := by
  obtain ⟨hC, hKm, hKo, hKh, hG, hA, hGX, hst, hXs, hbl, hbA, hL⟩ := hX
  intro h old ch rg ln sl pd ct sg cd ln9 pl le ro co nu sv sl9 tk ct9 mn mi mc mq mr mw mt ma mx mh fo H locs ls hI hP hD hS hl
  obtain ⟨rg0, rg1⟩ := rg
  obtain ⟨ln_0, ln_1, ln_2, ln_3, ln_4, ln_5, ln_6, ln_7, ln_8, ln_9⟩ := ln
  obtain ⟨sl_0, sl_1, sl_2⟩ := sl
  obtain ⟨pd0, pd1⟩ := pd
  obtain ⟨ct_0, ct_1⟩ := ct
  have hx := hC.1
  have hb := hC.2.1
  have hml := hC.2.2.1
  have hts := hC.2.2.2.2
  have hB : ∀ w ∈ W0, w ∈ W0 := fun _ h => h
  have hh := hI.1
  have hct := hI.2.2.2.1
  have hln := hI.2.2.2.2.1
  have hmf := hI.2.2.2.2.2.1
  have hov := hI.2.2.2.2.2.2
  have hcd : ∀ k, 0 ≤ k → k < ln9 → 0 ≤ cd k ∧ cd k ≤ 126 := fun k a b => by have z := hmf k a b; omega
  have hP : va_P D vwCl ((wM β (gM cI cB) h sv sl9 tk cd mn mi mc mq mr mw ct9 ln9 mt ma mx mh) ++ (oC cL o fo ++ (wH α (gH cI cB) (h, old, ch) (rg0, rg1) (ln_0, ln_1, ln_2, ln_3, ln_4, ln_5, ln_6, ln_7, ln_8, ln_9) (sl_0, sl_1, sl_2) (pd0, pd1) (ct_0, ct_1) sg (cd, ln9, pl, le, ro, co, nu) (sv, sl9, tk, ct9)))) H := hP
  have hD : va_D A ((wM β (gM cI cB) h sv sl9 tk cd mn mi mc mq mr mw ct9 ln9 mt ma mx mh) ++ (oC cL o fo ++ (wH α (gH cI cB) (h, old, ch) (rg0, rg1) (ln_0, ln_1, ln_2, ln_3, ln_4, ln_5, ln_6, ln_7, ln_8, ln_9) (sl_0, sl_1, sl_2) (pd0, pd1) (ct_0, ct_1) sg (cd, ln9, pl, le, ro, co, nu) (sv, sl9, tk, ct9)))) := hD
  refine lv_aload_n hx hb dL_law_2566 rfl (lv_at hl 1 rfl) ?_
  refine lv_aload_n hx hb dL_law_2567 rfl (lv_at hl 0 rfl) ?_
  refine lv_iload hx hb dL_law_2568 (lv_at hl 4 rfl) ?_
  refine lv_iconst (v := zI 1) hx hb dL_law_2570 rfl ?_
  refine z_iadd hx hb dL_law_2571 ?_
  refine z_sld hx hb hXs hbl hbA hS ⟨⟨by omega, by omega⟩, hL⟩ dL_law_2572 ?_
  refine lv_aload_n hx hb dL_law_2573 rfl (lv_at hl 0 rfl) ?_
  refine lv_iload hx hb dL_law_2574 (lv_at hl 4 rfl) ?_
  refine lv_iconst (v := zI 2) hx hb dL_law_2576 rfl ?_
  refine z_iadd hx hb dL_law_2577 ?_
  refine z_sld hx hb hXs hbl hbA hS ⟨⟨by omega, by omega⟩, hL⟩ dL_law_2578 ?_
  refine lv_aload_n hx hb dL_law_2579 rfl (lv_at hl 0 rfl) ?_
  refine lv_iload hx hb dL_law_2580 (lv_at hl 4 rfl) ?_
  refine lv_iconst (v := zI 3) hx hb dL_law_2582 rfl ?_
  refine z_iadd hx hb dL_law_2583 ?_
  refine z_sld hx hb hXs hbl hbA hS ⟨⟨by omega, by omega⟩, hL⟩ dL_law_2584 ?_
  refine lv_aload_n hx hb dL_law_2585 rfl (lv_at hl 0 rfl) ?_
  refine lv_iload hx hb dL_law_2586 (lv_at hl 4 rfl) ?_
  refine lv_iconst (v := zI 4) hx hb dL_law_2588 rfl ?_
  refine z_iadd hx hb dL_law_2589 ?_
  refine z_sld hx hb hXs hbl hbA hS ⟨⟨by omega, by omega⟩, hL⟩ dL_law_2590 ?_
  refine lv_aload_n hx hb dL_law_2591 rfl (lv_at hl 3 rfl) ?_
  refine zfw_calli (mc := 2) (ms := 12) (wr := (wM β (gM cI cB) h sv sl9 tk cd mn mi mc mq mr mw ct9 ln9 mt ma mx mh)) (wc := oC cL o fo ++ (wH α (gH cI cB) (h, old, ch) (rg0, rg1) (ln_0, ln_1, ln_2, ln_3, ln_4, ln_5, ln_6, ln_7, ln_8, ln_9) (sl_0, sl_1, sl_2) (pd0, pd1) (ct_0, ct_1) sg (cd, ln9, pl, le, ro, co, nu) (sv, sl9, tk, ct9))) hP hD hS hA (vx_runSW (As := [.ref (α 0), .int (zI (xI xs (i + 1))), .int (zI (xI xs (i + 2))), .int (zI (xI xs (i + 3))), .int (zI (xI xs (i + 4))), .ref o]) (rest := []) hC (c_L_pass l D τ α (gH cI cB) h old ch (rg0, rg1) (ln_0, ln_1, ln_2, ln_3, ln_4, ln_5, ln_6, ln_7, ln_8, ln_9) (sl_0, sl_1, sl_2) (pd0, pd1) ct_0 ct_1 sg (cd, ln9, pl, le, ro, co, nu) (sv, sl9, tk, ct9) (xI xs (i + 1)) (xI xs (i + 2)) (xI xs (i + 3)) (xI xs (i + 4)) (xI_b xs _) (xI_b xs _) (xI_b xs _) (xI_b xs _) hh hst cL o fo _) (vx_cwSW 6 hts (gSW hB wl_L_298 wt_L_pass wi_L wc_L_pass) rfl rfl rfl hd_L_pass.2 ⟨Nat.le_of_ble_eq_true rfl, Nat.le_of_ble_eq_true rfl⟩) (zpX_S hKo (zPc hP) (zDc hD) hS hA hG hGX) rfl rfl hl.1 rfl (lv_room (Nat.le_of_ble_eq_true rfl)) dL_law_2592 ⟨by show _ ≤ 1083; omega, by show _ ≤ 10672; omega⟩) (fun r w1 H locs hq9 hP hD hS => ?_)
  rcases hq9 with hq9 | hq9
  · skip
    obtain ⟨f2c, n2c, vc, go, hf0, hf1, hgo, rfl, rfl⟩ := hq9
    refine lv_istore (lv' := [(5, .int (zI 0)), (0, .ref b), (1, .ref (α 0)), (2, .ref (β 0)), (3, .ref o), (4, .int (zI i))]) hx hb dL_law_2595 hl (by decide) rfl (fun ls hl => ?_)
    refine lv_aload_n hx hb dL_law_2597 rfl (lv_at hl 3 rfl) ?_
    refine lv_aload_n hx hb dL_law_2598 rfl (lv_at hl 1 rfl) ?_
    refine lv_iload hx hb dL_law_2599 (lv_at hl 5 rfl) ?_
    refine lv_iconst (v := zI 1) hx hb dL_law_2601 rfl ?_
    refine z_iadd hx hb dL_law_2602 ?_
    refine z_sld hx hb hXs hbl hbA hS ⟨⟨by omega, by omega⟩, hL⟩ dL_law_2603 ?_
    refine lv_aload_n hx hb dL_law_2604 rfl (lv_at hl 1 rfl) ?_
    refine lv_iload hx hb dL_law_2605 (lv_at hl 5 rfl) ?_
    refine lv_iconst (v := zI 2) hx hb dL_law_2607 rfl ?_
    refine z_iadd hx hb dL_law_2608 ?_
    refine z_sld hx hb hXs hbl hbA hS ⟨⟨by omega, by omega⟩, hL⟩ dL_law_2609 ?_
    refine lv_aload_n hx hb dL_law_2610 rfl (lv_at hl 1 rfl) ?_
    refine lv_iload hx hb dL_law_2611 (lv_at hl 5 rfl) ?_
    refine lv_iconst (v := zI 3) hx hb dL_law_2613 rfl ?_
    refine z_iadd hx hb dL_law_2614 ?_
    refine z_sld hx hb hXs hbl hbA hS ⟨⟨by omega, by omega⟩, hL⟩ dL_law_2615 ?_
    refine lv_aload_n hx hb dL_law_2616 rfl (lv_at hl 1 rfl) ?_
    refine lv_iload hx hb dL_law_2617 (lv_at hl 5 rfl) ?_
    refine lv_iconst (v := zI 4) hx hb dL_law_2619 rfl ?_
    refine z_iadd hx hb dL_law_2620 ?_
    refine z_sld hx hb hXs hbl hbA hS ⟨⟨by omega, by omega⟩, hL⟩ dL_law_2621 ?_
    have hP := zPswap hP
    have hD := zDswap hD
    refine zfw_calli (mc := 0) (ms := 0)  hP hD hS hA (va_runV (As := [.int (zI (xI xs (i + 1))), .int (zI (xI xs (i + 2))), .int (zI (xI xs (i + 3))), .int (zI (xI xs (i + 4)))]) (rest := []) hC (c_X10_pass l D τ β (gM cI cB) h sv sl9 tk cd mn mi mc mq mr mw ct9 ln9 mt ma mx mh (xI xs (i + 1)) (xI xs (i + 2)) (xI xs (i + 3)) (xI xs (i + 4)) (xI_b xs _) (xI_b xs _) (xI_b xs _) (xI_b xs _) hh _) (cwV 4 hts (gV hB wl_L_300 wn_X10_pass ws_X10_pass wi_X10 wc_X10_pass) rfl rfl rfl hd_X10_pass ⟨Nat.le_of_ble_eq_true rfl, Nat.le_of_ble_eq_true rfl⟩) (zp_V hKm (zPc hP) (zDc hD) hS hA hG (ci := 10) (q0 := 0) rfl rfl rfl) rfl rfl hl.1 rfl (lv_room (Nat.le_of_ble_eq_true rfl)) dL_law_2622 ⟨by show _ ≤ 1083; omega, by show _ ≤ 10672; omega⟩) (fun r w1 H locs hq9 hP hD hS => ?_)
    obtain ⟨t2m, vm, hm0, hm1, rfl, rfl⟩ := hq9
    have hP := zPswap hP
    have hD := zDswap hD
    refine lv_istore (lv' := [(6, .int (zI vm)), (5, .int (zI 0)), (0, .ref b), (1, .ref (α 0)), (2, .ref (β 0)), (3, .ref o), (4, .int (zI i))]) hx hb dL_law_2625 hl (by decide) rfl (fun ls hl => ?_)
    refine lv_aload_n hx hb dL_law_2627 rfl (lv_at hl 4 rfl) ?_
    have hP := zPswap hP
    have hD := zDswap hD
    refine zfw_calli (mc := 0) (ms := 0)  hP hD hS hA (va_runV (As := []) (rest := []) hC (c_X10_thrown l D τ β (gM cI cB) _ _ _ _ _ _ _ _ _ _ _ _ _ _ _ _ _ _) (cwV 0 hts (gV hB wl_L_145 wn_X10_thrown ws_X10_thrown wi_X10 wc_X10_thrown) rfl rfl rfl hd_X10_thrown ⟨Nat.le_of_ble_eq_true rfl, Nat.le_of_ble_eq_true rfl⟩) (zp_V hKm (zPc hP) (zDc hD) hS hA hG (ci := 10) (q0 := 0) rfl rfl rfl) rfl rfl hl.1 rfl (lv_room (Nat.le_of_ble_eq_true rfl)) dL_law_2628 ⟨by show _ ≤ 1083; omega, by show _ ≤ 10672; omega⟩) (fun r w1 H locs hq9 hP hD hS => ?_)
    obtain ⟨vt, ht0, rfl, rfl⟩ := hq9
    have hP := zPswap hP
    have hD := zDswap hD
    refine lv_iload hx hb dL_law_2631 (lv_at hl 1 rfl) ?_
    have heq_2633 : vt = 0 := by rw [ht0, hm0, hf0]
    refine z_iceqE (tgt := 2638) hx hb heq_2633 dL_law_2633 (by decide) ?_
    refine lv_iload hx hb dL_law_2638 (lv_at hl 1 rfl) ?_
    refine z_ifne (tgt := 2655) hx hb ⟨by omega, by omega⟩ dL_law_2640 (by decide) (fun c_2640 => absurd rfl c_2640) (fun c_2640 => ?_)
    refine lv_aload_n hx hb dL_law_2643 rfl (lv_at hl 5 rfl) ?_
    refine lv_iconst (v := zI 0) hx hb dL_law_2644 rfl ?_
    refine zo_lald hx hb hKo (zPc hP) dL_law_2645 ?_
    refine lv_iload hx hb dL_law_2646 (lv_at hl 0 rfl) ?_
    refine lv_i2l (v := (zI vm).toInt64) hx hb dL_law_2648 rfl ?_
    refine z_lcmpE hx hb (by rw [hgo, hf1, (hm1 (hm0.trans hf0))]) dL_law_2649 ?_
    refine z_ifeq (tgt := 2655) hx hb ⟨by omega, by omega⟩ dL_law_2650 (by decide) (fun c_2650 => ?_) (fun c_2650 => absurd rfl c_2650)
    refine lv_goto (tgt := 2893) hx hb dL_law_2655 (by decide) ?_
    refine W.widen (k := cells + 2) (n := slots + 12) (by omega) (by omega) ?_
    exact hk _ _ _ _ _ _ _ _ _ _ _ _ _ _ _ _ _ _ _ _ _ _ _ _ _ _ _ _ _ _ _ H locs ls (hI) hP hD hS (lv_sub hl [2, 3, 4, 5, 6] rfl)
  · skip
    obtain ⟨hx9, rfl, rfl⟩ := hq9
    refine lv_istore (lv' := [(5, .int (zI 1)), (0, .ref b), (1, .ref (α 0)), (2, .ref (β 0)), (3, .ref o), (4, .int (zI i))]) hx hb dL_law_2595 hl (by decide) rfl (fun ls hl => ?_)
    refine lv_aload_n hx hb dL_law_2597 rfl (lv_at hl 3 rfl) ?_
    refine lv_aload_n hx hb dL_law_2598 rfl (lv_at hl 1 rfl) ?_
    refine lv_iload hx hb dL_law_2599 (lv_at hl 5 rfl) ?_
    refine lv_iconst (v := zI 1) hx hb dL_law_2601 rfl ?_
    refine z_iadd hx hb dL_law_2602 ?_
    refine z_sld hx hb hXs hbl hbA hS ⟨⟨by omega, by omega⟩, hL⟩ dL_law_2603 ?_
    refine lv_aload_n hx hb dL_law_2604 rfl (lv_at hl 1 rfl) ?_
    refine lv_iload hx hb dL_law_2605 (lv_at hl 5 rfl) ?_
    refine lv_iconst (v := zI 2) hx hb dL_law_2607 rfl ?_
    refine z_iadd hx hb dL_law_2608 ?_
    refine z_sld hx hb hXs hbl hbA hS ⟨⟨by omega, by omega⟩, hL⟩ dL_law_2609 ?_
    refine lv_aload_n hx hb dL_law_2610 rfl (lv_at hl 1 rfl) ?_
    refine lv_iload hx hb dL_law_2611 (lv_at hl 5 rfl) ?_
    refine lv_iconst (v := zI 3) hx hb dL_law_2613 rfl ?_
    refine z_iadd hx hb dL_law_2614 ?_
    refine z_sld hx hb hXs hbl hbA hS ⟨⟨by omega, by omega⟩, hL⟩ dL_law_2615 ?_
    refine lv_aload_n hx hb dL_law_2616 rfl (lv_at hl 1 rfl) ?_
    refine lv_iload hx hb dL_law_2617 (lv_at hl 5 rfl) ?_
    refine lv_iconst (v := zI 4) hx hb dL_law_2619 rfl ?_
    refine z_iadd hx hb dL_law_2620 ?_
    refine z_sld hx hb hXs hbl hbA hS ⟨⟨by omega, by omega⟩, hL⟩ dL_law_2621 ?_
    have hP := zPswap hP
    have hD := zDswap hD
    refine zfw_calli (mc := 0) (ms := 0)  hP hD hS hA (va_runV (As := [.int (zI (xI xs (i + 1))), .int (zI (xI xs (i + 2))), .int (zI (xI xs (i + 3))), .int (zI (xI xs (i + 4)))]) (rest := []) hC (c_X10_pass l D τ β (gM cI cB) h sv sl9 tk cd mn mi mc mq mr mw ct9 ln9 mt ma mx mh (xI xs (i + 1)) (xI xs (i + 2)) (xI xs (i + 3)) (xI xs (i + 4)) (xI_b xs _) (xI_b xs _) (xI_b xs _) (xI_b xs _) hh _) (cwV 4 hts (gV hB wl_L_300 wn_X10_pass ws_X10_pass wi_X10 wc_X10_pass) rfl rfl rfl hd_X10_pass ⟨Nat.le_of_ble_eq_true rfl, Nat.le_of_ble_eq_true rfl⟩) (zp_V hKm (zPc hP) (zDc hD) hS hA hG (ci := 10) (q0 := 0) rfl rfl rfl) rfl rfl hl.1 rfl (lv_room (Nat.le_of_ble_eq_true rfl)) dL_law_2622 ⟨by show _ ≤ 1083; omega, by show _ ≤ 10672; omega⟩) (fun r w1 H locs hq9 hP hD hS => ?_)
    obtain ⟨t2m, vm, hm0, hm1, rfl, rfl⟩ := hq9
    have hP := zPswap hP
    have hD := zDswap hD
    refine lv_istore (lv' := [(6, .int (zI vm)), (5, .int (zI 1)), (0, .ref b), (1, .ref (α 0)), (2, .ref (β 0)), (3, .ref o), (4, .int (zI i))]) hx hb dL_law_2625 hl (by decide) rfl (fun ls hl => ?_)
    refine lv_aload_n hx hb dL_law_2627 rfl (lv_at hl 4 rfl) ?_
    have hP := zPswap hP
    have hD := zDswap hD
    refine zfw_calli (mc := 0) (ms := 0)  hP hD hS hA (va_runV (As := []) (rest := []) hC (c_X10_thrown l D τ β (gM cI cB) _ _ _ _ _ _ _ _ _ _ _ _ _ _ _ _ _ _) (cwV 0 hts (gV hB wl_L_145 wn_X10_thrown ws_X10_thrown wi_X10 wc_X10_thrown) rfl rfl rfl hd_X10_thrown ⟨Nat.le_of_ble_eq_true rfl, Nat.le_of_ble_eq_true rfl⟩) (zp_V hKm (zPc hP) (zDc hD) hS hA hG (ci := 10) (q0 := 0) rfl rfl rfl) rfl rfl hl.1 rfl (lv_room (Nat.le_of_ble_eq_true rfl)) dL_law_2628 ⟨by show _ ≤ 1083; omega, by show _ ≤ 10672; omega⟩) (fun r w1 H locs hq9 hP hD hS => ?_)
    obtain ⟨vt, ht0, rfl, rfl⟩ := hq9
    have hP := zPswap hP
    have hD := zDswap hD
    refine lv_iload hx hb dL_law_2631 (lv_at hl 1 rfl) ?_
    have heq_2633 : vt = 1 := by rw [ht0, hm0, hx9]
    refine z_iceqE (tgt := 2638) hx hb heq_2633 dL_law_2633 (by decide) ?_
    refine lv_iload hx hb dL_law_2638 (lv_at hl 1 rfl) ?_
    refine z_ifne (tgt := 2655) hx hb ⟨by omega, by omega⟩ dL_law_2640 (by decide) (fun c_2640 => ?_) (fun c_2640 => absurd c_2640 (by decide))
    refine lv_goto (tgt := 2893) hx hb dL_law_2655 (by decide) ?_
    refine W.widen (k := cells + 2) (n := slots + 12) (by omega) (by omega) ?_
    exact hk _ _ _ _ _ _ _ _ _ _ _ _ _ _ _ _ _ _ _ _ _ _ _ _ _ _ _ _ _ _ _ H locs ls (hI) hP hD hS (lv_sub hl [2, 3, 4, 5, 6] rfl)
set_option maxHeartbeats 4000000 in
set_option maxRecDepth 100000 in
theorem law_2658 {p : Program} {l : Launch} {e : Env} {s : State} {m : MethodId} {below : List Frame} {meth : Method} {c : Code} {Q : State → Prop} {D : va_G} {τ : Nat → Nat} {A : Nat → Prop} {α β : Nat → Nat} {cI cB cL : ClassId} {o b L : Nat} {xs : Nat → Int32} {i : Int} {cells slots : Nat} (hX : LCx p l s m c D τ A cI cB cL b L xs) (hi : 0 ≤ i ∧ i + 6 ≤ L) (hc : cells + 2 ≤ 1083 ∧ slots + 12 ≤ 10672)
    (hk : LSt p l e s m below meth c Q D A α β cI cB cL o b i 2893 (cells + 2) (slots + 12)) : LSt p l e s m below meth c Q D A α β cI cB cL o b i 2658 cells slots := by
  obtain ⟨hC, hKm, hKo, hKh, hG, hA, hGX, hst, hXs, hbl, hbA, hL⟩ := hX
  intro h old ch rg ln sl pd ct sg cd ln9 pl le ro co nu sv sl9 tk ct9 mn mi mc mq mr mw mt ma mx mh fo H locs ls hI hP hD hS hl
  obtain ⟨rg0, rg1⟩ := rg
  obtain ⟨ln_0, ln_1, ln_2, ln_3, ln_4, ln_5, ln_6, ln_7, ln_8, ln_9⟩ := ln
  obtain ⟨sl_0, sl_1, sl_2⟩ := sl
  obtain ⟨pd0, pd1⟩ := pd
  obtain ⟨ct_0, ct_1⟩ := ct
  have hx := hC.1
  have hb := hC.2.1
  have hml := hC.2.2.1
  have hts := hC.2.2.2.2
  have hB : ∀ w ∈ W0, w ∈ W0 := fun _ h => h
  have hh := hI.1
  have hct := hI.2.2.2.1
  have hln := hI.2.2.2.2.1
  have hmf := hI.2.2.2.2.2.1
  have hov := hI.2.2.2.2.2.2
  have hcd : ∀ k, 0 ≤ k → k < ln9 → 0 ≤ cd k ∧ cd k ≤ 126 := fun k a b => by have z := hmf k a b; omega
  have hP : va_P D vwCl ((wM β (gM cI cB) h sv sl9 tk cd mn mi mc mq mr mw ct9 ln9 mt ma mx mh) ++ (oC cL o fo ++ (wH α (gH cI cB) (h, old, ch) (rg0, rg1) (ln_0, ln_1, ln_2, ln_3, ln_4, ln_5, ln_6, ln_7, ln_8, ln_9) (sl_0, sl_1, sl_2) (pd0, pd1) (ct_0, ct_1) sg (cd, ln9, pl, le, ro, co, nu) (sv, sl9, tk, ct9)))) H := hP
  have hD : va_D A ((wM β (gM cI cB) h sv sl9 tk cd mn mi mc mq mr mw ct9 ln9 mt ma mx mh) ++ (oC cL o fo ++ (wH α (gH cI cB) (h, old, ch) (rg0, rg1) (ln_0, ln_1, ln_2, ln_3, ln_4, ln_5, ln_6, ln_7, ln_8, ln_9) (sl_0, sl_1, sl_2) (pd0, pd1) (ct_0, ct_1) sg (cd, ln9, pl, le, ro, co, nu) (sv, sl9, tk, ct9)))) := hD
  refine lv_aload_n hx hb dL_law_2658 rfl (lv_at hl 1 rfl) ?_
  refine lv_aload_n hx hb dL_law_2659 rfl (lv_at hl 0 rfl) ?_
  refine lv_iload hx hb dL_law_2660 (lv_at hl 4 rfl) ?_
  refine lv_iconst (v := zI 1) hx hb dL_law_2662 rfl ?_
  refine z_iadd hx hb dL_law_2663 ?_
  refine z_sld hx hb hXs hbl hbA hS ⟨⟨by omega, by omega⟩, hL⟩ dL_law_2664 ?_
  refine lv_aload_n hx hb dL_law_2665 rfl (lv_at hl 0 rfl) ?_
  refine lv_iload hx hb dL_law_2666 (lv_at hl 4 rfl) ?_
  refine lv_iconst (v := zI 2) hx hb dL_law_2668 rfl ?_
  refine z_iadd hx hb dL_law_2669 ?_
  refine z_sld hx hb hXs hbl hbA hS ⟨⟨by omega, by omega⟩, hL⟩ dL_law_2670 ?_
  refine lv_aload_n hx hb dL_law_2671 rfl (lv_at hl 0 rfl) ?_
  refine lv_iload hx hb dL_law_2672 (lv_at hl 4 rfl) ?_
  refine lv_iconst (v := zI 3) hx hb dL_law_2674 rfl ?_
  refine z_iadd hx hb dL_law_2675 ?_
  refine z_sld hx hb hXs hbl hbA hS ⟨⟨by omega, by omega⟩, hL⟩ dL_law_2676 ?_
  refine lv_aload_n hx hb dL_law_2677 rfl (lv_at hl 0 rfl) ?_
  refine lv_iload hx hb dL_law_2678 (lv_at hl 4 rfl) ?_
  refine lv_iconst (v := zI 4) hx hb dL_law_2680 rfl ?_
  refine z_iadd hx hb dL_law_2681 ?_
  refine z_sld hx hb hXs hbl hbA hS ⟨⟨by omega, by omega⟩, hL⟩ dL_law_2682 ?_
  refine lv_aload_n hx hb dL_law_2683 rfl (lv_at hl 3 rfl) ?_
  refine zfw_calli (mc := 2) (ms := 12) (wr := (wM β (gM cI cB) h sv sl9 tk cd mn mi mc mq mr mw ct9 ln9 mt ma mx mh)) (wc := oC cL o fo ++ (wH α (gH cI cB) (h, old, ch) (rg0, rg1) (ln_0, ln_1, ln_2, ln_3, ln_4, ln_5, ln_6, ln_7, ln_8, ln_9) (sl_0, sl_1, sl_2) (pd0, pd1) (ct_0, ct_1) sg (cd, ln9, pl, le, ro, co, nu) (sv, sl9, tk, ct9))) hP hD hS hA (vx_runSW (As := [.ref (α 0), .int (zI (xI xs (i + 1))), .int (zI (xI xs (i + 2))), .int (zI (xI xs (i + 3))), .int (zI (xI xs (i + 4))), .ref o]) (rest := []) hC (c_L_sees l D τ α (gH cI cB) h old ch (rg0, rg1) (ln_0, ln_1, ln_2, ln_3, ln_4, ln_5, ln_6, ln_7, ln_8, ln_9) (sl_0, sl_1, sl_2) (pd0, pd1) ct_0 ct_1 sg (cd, ln9, pl, le, ro, co, nu) (sv, sl9, tk, ct9) (xI xs (i + 1)) (xI xs (i + 2)) (xI xs (i + 3)) (xI xs (i + 4)) (xI_b xs _) (xI_b xs _) (xI_b xs _) (xI_b xs _) hh hst cL o fo _) (vx_cwSW 6 hts (gSW hB wl_L_301 wt_L_sees wi_L wc_L_sees) rfl rfl rfl hd_L_sees.2 ⟨Nat.le_of_ble_eq_true rfl, Nat.le_of_ble_eq_true rfl⟩) (zpX_S hKo (zPc hP) (zDc hD) hS hA hG hGX) rfl rfl hl.1 rfl (lv_room (Nat.le_of_ble_eq_true rfl)) dL_law_2684 ⟨by show _ ≤ 1083; omega, by show _ ≤ 10672; omega⟩) (fun r w1 H locs hq9 hP hD hS => ?_)
  rcases hq9 with hq9 | hq9
  · skip
    obtain ⟨f2c, n2c, vc, go, hf0, hf1, hgo, rfl, rfl⟩ := hq9
    refine lv_istore (lv' := [(5, .int (zI 0)), (0, .ref b), (1, .ref (α 0)), (2, .ref (β 0)), (3, .ref o), (4, .int (zI i))]) hx hb dL_law_2687 hl (by decide) rfl (fun ls hl => ?_)
    refine lv_aload_n hx hb dL_law_2689 rfl (lv_at hl 3 rfl) ?_
    refine lv_aload_n hx hb dL_law_2690 rfl (lv_at hl 1 rfl) ?_
    refine lv_iload hx hb dL_law_2691 (lv_at hl 5 rfl) ?_
    refine lv_iconst (v := zI 1) hx hb dL_law_2693 rfl ?_
    refine z_iadd hx hb dL_law_2694 ?_
    refine z_sld hx hb hXs hbl hbA hS ⟨⟨by omega, by omega⟩, hL⟩ dL_law_2695 ?_
    refine lv_aload_n hx hb dL_law_2696 rfl (lv_at hl 1 rfl) ?_
    refine lv_iload hx hb dL_law_2697 (lv_at hl 5 rfl) ?_
    refine lv_iconst (v := zI 2) hx hb dL_law_2699 rfl ?_
    refine z_iadd hx hb dL_law_2700 ?_
    refine z_sld hx hb hXs hbl hbA hS ⟨⟨by omega, by omega⟩, hL⟩ dL_law_2701 ?_
    refine lv_aload_n hx hb dL_law_2702 rfl (lv_at hl 1 rfl) ?_
    refine lv_iload hx hb dL_law_2703 (lv_at hl 5 rfl) ?_
    refine lv_iconst (v := zI 3) hx hb dL_law_2705 rfl ?_
    refine z_iadd hx hb dL_law_2706 ?_
    refine z_sld hx hb hXs hbl hbA hS ⟨⟨by omega, by omega⟩, hL⟩ dL_law_2707 ?_
    refine lv_aload_n hx hb dL_law_2708 rfl (lv_at hl 1 rfl) ?_
    refine lv_iload hx hb dL_law_2709 (lv_at hl 5 rfl) ?_
    refine lv_iconst (v := zI 4) hx hb dL_law_2711 rfl ?_
    refine z_iadd hx hb dL_law_2712 ?_
    refine z_sld hx hb hXs hbl hbA hS ⟨⟨by omega, by omega⟩, hL⟩ dL_law_2713 ?_
    have hP := zPswap hP
    have hD := zDswap hD
    refine zfw_calli (mc := 0) (ms := 0)  hP hD hS hA (va_runV (As := [.int (zI (xI xs (i + 1))), .int (zI (xI xs (i + 2))), .int (zI (xI xs (i + 3))), .int (zI (xI xs (i + 4)))]) (rest := []) hC (c_X10_sees l D τ β (gM cI cB) h sv sl9 tk cd mn mi mc mq mr mw ct9 ln9 mt ma mx mh (xI xs (i + 1)) (xI xs (i + 2)) (xI xs (i + 3)) (xI xs (i + 4)) (xI_b xs _) (xI_b xs _) (xI_b xs _) (xI_b xs _) hh _) (cwV 4 hts (gV hB wl_L_303 wn_X10_sees ws_X10_sees wi_X10 wc_X10_sees) rfl rfl rfl hd_X10_sees ⟨Nat.le_of_ble_eq_true rfl, Nat.le_of_ble_eq_true rfl⟩) (zp_V hKm (zPc hP) (zDc hD) hS hA hG (ci := 10) (q0 := 0) rfl rfl rfl) rfl rfl hl.1 rfl (lv_room (Nat.le_of_ble_eq_true rfl)) dL_law_2714 ⟨by show _ ≤ 1083; omega, by show _ ≤ 10672; omega⟩) (fun r w1 H locs hq9 hP hD hS => ?_)
    obtain ⟨t2m, vm, hm0, hm1, rfl, rfl⟩ := hq9
    have hP := zPswap hP
    have hD := zDswap hD
    refine lv_istore (lv' := [(6, .int (bI vm)), (5, .int (zI 0)), (0, .ref b), (1, .ref (α 0)), (2, .ref (β 0)), (3, .ref o), (4, .int (zI i))]) hx hb dL_law_2717 hl (by decide) rfl (fun ls hl => ?_)
    refine lv_aload_n hx hb dL_law_2719 rfl (lv_at hl 4 rfl) ?_
    have hP := zPswap hP
    have hD := zDswap hD
    refine zfw_calli (mc := 0) (ms := 0)  hP hD hS hA (va_runV (As := []) (rest := []) hC (c_X10_thrown l D τ β (gM cI cB) _ _ _ _ _ _ _ _ _ _ _ _ _ _ _ _ _ _) (cwV 0 hts (gV hB wl_L_145 wn_X10_thrown ws_X10_thrown wi_X10 wc_X10_thrown) rfl rfl rfl hd_X10_thrown ⟨Nat.le_of_ble_eq_true rfl, Nat.le_of_ble_eq_true rfl⟩) (zp_V hKm (zPc hP) (zDc hD) hS hA hG (ci := 10) (q0 := 0) rfl rfl rfl) rfl rfl hl.1 rfl (lv_room (Nat.le_of_ble_eq_true rfl)) dL_law_2720 ⟨by show _ ≤ 1083; omega, by show _ ≤ 10672; omega⟩) (fun r w1 H locs hq9 hP hD hS => ?_)
    obtain ⟨vt, ht0, rfl, rfl⟩ := hq9
    have hP := zPswap hP
    have hD := zDswap hD
    refine lv_iload hx hb dL_law_2723 (lv_at hl 1 rfl) ?_
    have heq_2725 : vt = 0 := by rw [ht0, hm0, hf0]
    refine z_iceqE (tgt := 2730) hx hb heq_2725 dL_law_2725 (by decide) ?_
    refine lv_iload hx hb dL_law_2730 (lv_at hl 1 rfl) ?_
    refine z_ifne (tgt := 2754) hx hb ⟨by omega, by omega⟩ dL_law_2732 (by decide) (fun c_2732 => absurd rfl c_2732) (fun c_2732 => ?_)
    refine lv_aload_n hx hb dL_law_2735 rfl (lv_at hl 5 rfl) ?_
    refine lv_iconst (v := zI 0) hx hb dL_law_2736 rfl ?_
    refine zo_lald hx hb hKo (zPc hP) dL_law_2737 ?_
    refine lv_iload hx hb dL_law_2738 (lv_at hl 0 rfl) ?_
    refine z_ifeqB (tgt := 2747) hx hb dL_law_2740 (by decide) (fun c_2740 => ?_) (fun c_2740 => ?_)
    · skip
      refine lv_lconst (v := zL 0) hx hb dL_law_2747 rfl ?_
      refine z_lcmpE hx hb (by rw [hgo, show vc = false from (bool_iff2 hf1 (hm1 (hm0.trans hf0))).trans c_2740]; rfl) dL_law_2748 ?_
      refine z_ifeq (tgt := 2754) hx hb ⟨by omega, by omega⟩ dL_law_2749 (by decide) (fun c_2749 => ?_) (fun c_2749 => absurd rfl c_2749)
      refine lv_goto (tgt := 2893) hx hb dL_law_2754 (by decide) ?_
      refine W.widen (k := cells + 2) (n := slots + 12) (by omega) (by omega) ?_
      exact hk _ _ _ _ _ _ _ _ _ _ _ _ _ _ _ _ _ _ _ _ _ _ _ _ _ _ _ _ _ _ _ H locs ls (hI) hP hD hS (lv_sub hl [2, 3, 4, 5, 6] rfl)
    · skip
      refine lv_lconst (v := zL 1) hx hb dL_law_2743 rfl ?_
      refine lv_goto (tgt := 2748) hx hb dL_law_2744 (by decide) ?_
      refine z_lcmpE hx hb (by rw [hgo, show vc = true from (bool_iff2 hf1 (hm1 (hm0.trans hf0))).trans c_2740]; rfl) dL_law_2748 ?_
      refine z_ifeq (tgt := 2754) hx hb ⟨by omega, by omega⟩ dL_law_2749 (by decide) (fun c_2749 => ?_) (fun c_2749 => absurd rfl c_2749)
      refine lv_goto (tgt := 2893) hx hb dL_law_2754 (by decide) ?_
      refine W.widen (k := cells + 2) (n := slots + 12) (by omega) (by omega) ?_
      exact hk _ _ _ _ _ _ _ _ _ _ _ _ _ _ _ _ _ _ _ _ _ _ _ _ _ _ _ _ _ _ _ H locs ls (hI) hP hD hS (lv_sub hl [2, 3, 4, 5, 6] rfl)
  · skip
    obtain ⟨hx9, rfl, rfl⟩ := hq9
    refine lv_istore (lv' := [(5, .int (zI 1)), (0, .ref b), (1, .ref (α 0)), (2, .ref (β 0)), (3, .ref o), (4, .int (zI i))]) hx hb dL_law_2687 hl (by decide) rfl (fun ls hl => ?_)
    refine lv_aload_n hx hb dL_law_2689 rfl (lv_at hl 3 rfl) ?_
    refine lv_aload_n hx hb dL_law_2690 rfl (lv_at hl 1 rfl) ?_
    refine lv_iload hx hb dL_law_2691 (lv_at hl 5 rfl) ?_
    refine lv_iconst (v := zI 1) hx hb dL_law_2693 rfl ?_
    refine z_iadd hx hb dL_law_2694 ?_
    refine z_sld hx hb hXs hbl hbA hS ⟨⟨by omega, by omega⟩, hL⟩ dL_law_2695 ?_
    refine lv_aload_n hx hb dL_law_2696 rfl (lv_at hl 1 rfl) ?_
    refine lv_iload hx hb dL_law_2697 (lv_at hl 5 rfl) ?_
    refine lv_iconst (v := zI 2) hx hb dL_law_2699 rfl ?_
    refine z_iadd hx hb dL_law_2700 ?_
    refine z_sld hx hb hXs hbl hbA hS ⟨⟨by omega, by omega⟩, hL⟩ dL_law_2701 ?_
    refine lv_aload_n hx hb dL_law_2702 rfl (lv_at hl 1 rfl) ?_
    refine lv_iload hx hb dL_law_2703 (lv_at hl 5 rfl) ?_
    refine lv_iconst (v := zI 3) hx hb dL_law_2705 rfl ?_
    refine z_iadd hx hb dL_law_2706 ?_
    refine z_sld hx hb hXs hbl hbA hS ⟨⟨by omega, by omega⟩, hL⟩ dL_law_2707 ?_
    refine lv_aload_n hx hb dL_law_2708 rfl (lv_at hl 1 rfl) ?_
    refine lv_iload hx hb dL_law_2709 (lv_at hl 5 rfl) ?_
    refine lv_iconst (v := zI 4) hx hb dL_law_2711 rfl ?_
    refine z_iadd hx hb dL_law_2712 ?_
    refine z_sld hx hb hXs hbl hbA hS ⟨⟨by omega, by omega⟩, hL⟩ dL_law_2713 ?_
    have hP := zPswap hP
    have hD := zDswap hD
    refine zfw_calli (mc := 0) (ms := 0)  hP hD hS hA (va_runV (As := [.int (zI (xI xs (i + 1))), .int (zI (xI xs (i + 2))), .int (zI (xI xs (i + 3))), .int (zI (xI xs (i + 4)))]) (rest := []) hC (c_X10_sees l D τ β (gM cI cB) h sv sl9 tk cd mn mi mc mq mr mw ct9 ln9 mt ma mx mh (xI xs (i + 1)) (xI xs (i + 2)) (xI xs (i + 3)) (xI xs (i + 4)) (xI_b xs _) (xI_b xs _) (xI_b xs _) (xI_b xs _) hh _) (cwV 4 hts (gV hB wl_L_303 wn_X10_sees ws_X10_sees wi_X10 wc_X10_sees) rfl rfl rfl hd_X10_sees ⟨Nat.le_of_ble_eq_true rfl, Nat.le_of_ble_eq_true rfl⟩) (zp_V hKm (zPc hP) (zDc hD) hS hA hG (ci := 10) (q0 := 0) rfl rfl rfl) rfl rfl hl.1 rfl (lv_room (Nat.le_of_ble_eq_true rfl)) dL_law_2714 ⟨by show _ ≤ 1083; omega, by show _ ≤ 10672; omega⟩) (fun r w1 H locs hq9 hP hD hS => ?_)
    obtain ⟨t2m, vm, hm0, hm1, rfl, rfl⟩ := hq9
    have hP := zPswap hP
    have hD := zDswap hD
    refine lv_istore (lv' := [(6, .int (bI vm)), (5, .int (zI 1)), (0, .ref b), (1, .ref (α 0)), (2, .ref (β 0)), (3, .ref o), (4, .int (zI i))]) hx hb dL_law_2717 hl (by decide) rfl (fun ls hl => ?_)
    refine lv_aload_n hx hb dL_law_2719 rfl (lv_at hl 4 rfl) ?_
    have hP := zPswap hP
    have hD := zDswap hD
    refine zfw_calli (mc := 0) (ms := 0)  hP hD hS hA (va_runV (As := []) (rest := []) hC (c_X10_thrown l D τ β (gM cI cB) _ _ _ _ _ _ _ _ _ _ _ _ _ _ _ _ _ _) (cwV 0 hts (gV hB wl_L_145 wn_X10_thrown ws_X10_thrown wi_X10 wc_X10_thrown) rfl rfl rfl hd_X10_thrown ⟨Nat.le_of_ble_eq_true rfl, Nat.le_of_ble_eq_true rfl⟩) (zp_V hKm (zPc hP) (zDc hD) hS hA hG (ci := 10) (q0 := 0) rfl rfl rfl) rfl rfl hl.1 rfl (lv_room (Nat.le_of_ble_eq_true rfl)) dL_law_2720 ⟨by show _ ≤ 1083; omega, by show _ ≤ 10672; omega⟩) (fun r w1 H locs hq9 hP hD hS => ?_)
    obtain ⟨vt, ht0, rfl, rfl⟩ := hq9
    have hP := zPswap hP
    have hD := zDswap hD
    refine lv_iload hx hb dL_law_2723 (lv_at hl 1 rfl) ?_
    have heq_2725 : vt = 1 := by rw [ht0, hm0, hx9]
    refine z_iceqE (tgt := 2730) hx hb heq_2725 dL_law_2725 (by decide) ?_
    refine lv_iload hx hb dL_law_2730 (lv_at hl 1 rfl) ?_
    refine z_ifne (tgt := 2754) hx hb ⟨by omega, by omega⟩ dL_law_2732 (by decide) (fun c_2732 => ?_) (fun c_2732 => absurd c_2732 (by decide))
    refine lv_goto (tgt := 2893) hx hb dL_law_2754 (by decide) ?_
    refine W.widen (k := cells + 2) (n := slots + 12) (by omega) (by omega) ?_
    exact hk _ _ _ _ _ _ _ _ _ _ _ _ _ _ _ _ _ _ _ _ _ _ _ _ _ _ _ _ _ _ _ H locs ls (hI) hP hD hS (lv_sub hl [2, 3, 4, 5, 6] rfl)
set_option maxHeartbeats 4000000 in
set_option maxRecDepth 100000 in
theorem law_2757 {p : Program} {l : Launch} {e : Env} {s : State} {m : MethodId} {below : List Frame} {meth : Method} {c : Code} {Q : State → Prop} {D : va_G} {τ : Nat → Nat} {A : Nat → Prop} {α β : Nat → Nat} {cI cB cL : ClassId} {o b L : Nat} {xs : Nat → Int32} {i : Int} {cells slots : Nat} (hX : LCx p l s m c D τ A cI cB cL b L xs) (hi : 0 ≤ i ∧ i + 6 ≤ L) (hc : cells + 2 ≤ 1083 ∧ slots + 12 ≤ 10672)
    (hk : LSt p l e s m below meth c Q D A α β cI cB cL o b i 2893 (cells + 2) (slots + 12)) : LSt p l e s m below meth c Q D A α β cI cB cL o b i 2757 cells slots := by
  obtain ⟨hC, hKm, hKo, hKh, hG, hA, hGX, hst, hXs, hbl, hbA, hL⟩ := hX
  intro h old ch rg ln sl pd ct sg cd ln9 pl le ro co nu sv sl9 tk ct9 mn mi mc mq mr mw mt ma mx mh fo H locs ls hI hP hD hS hl
  obtain ⟨rg0, rg1⟩ := rg
  obtain ⟨ln_0, ln_1, ln_2, ln_3, ln_4, ln_5, ln_6, ln_7, ln_8, ln_9⟩ := ln
  obtain ⟨sl_0, sl_1, sl_2⟩ := sl
  obtain ⟨pd0, pd1⟩ := pd
  obtain ⟨ct_0, ct_1⟩ := ct
  have hx := hC.1
  have hb := hC.2.1
  have hml := hC.2.2.1
  have hts := hC.2.2.2.2
  have hB : ∀ w ∈ W0, w ∈ W0 := fun _ h => h
  have hh := hI.1
  have hct := hI.2.2.2.1
  have hln := hI.2.2.2.2.1
  have hmf := hI.2.2.2.2.2.1
  have hov := hI.2.2.2.2.2.2
  have hcd : ∀ k, 0 ≤ k → k < ln9 → 0 ≤ cd k ∧ cd k ≤ 126 := fun k a b => by have z := hmf k a b; omega
  have hP : va_P D vwCl ((wM β (gM cI cB) h sv sl9 tk cd mn mi mc mq mr mw ct9 ln9 mt ma mx mh) ++ (oC cL o fo ++ (wH α (gH cI cB) (h, old, ch) (rg0, rg1) (ln_0, ln_1, ln_2, ln_3, ln_4, ln_5, ln_6, ln_7, ln_8, ln_9) (sl_0, sl_1, sl_2) (pd0, pd1) (ct_0, ct_1) sg (cd, ln9, pl, le, ro, co, nu) (sv, sl9, tk, ct9)))) H := hP
  have hD : va_D A ((wM β (gM cI cB) h sv sl9 tk cd mn mi mc mq mr mw ct9 ln9 mt ma mx mh) ++ (oC cL o fo ++ (wH α (gH cI cB) (h, old, ch) (rg0, rg1) (ln_0, ln_1, ln_2, ln_3, ln_4, ln_5, ln_6, ln_7, ln_8, ln_9) (sl_0, sl_1, sl_2) (pd0, pd1) (ct_0, ct_1) sg (cd, ln9, pl, le, ro, co, nu) (sv, sl9, tk, ct9)))) := hD
  refine lv_aload_n hx hb dL_law_2757 rfl (lv_at hl 1 rfl) ?_
  refine lv_aload_n hx hb dL_law_2758 rfl (lv_at hl 0 rfl) ?_
  refine lv_iload hx hb dL_law_2759 (lv_at hl 4 rfl) ?_
  refine lv_iconst (v := zI 1) hx hb dL_law_2761 rfl ?_
  refine z_iadd hx hb dL_law_2762 ?_
  refine z_sld hx hb hXs hbl hbA hS ⟨⟨by omega, by omega⟩, hL⟩ dL_law_2763 ?_
  refine lv_aload_n hx hb dL_law_2764 rfl (lv_at hl 0 rfl) ?_
  refine lv_iload hx hb dL_law_2765 (lv_at hl 4 rfl) ?_
  refine lv_iconst (v := zI 2) hx hb dL_law_2767 rfl ?_
  refine z_iadd hx hb dL_law_2768 ?_
  refine z_sld hx hb hXs hbl hbA hS ⟨⟨by omega, by omega⟩, hL⟩ dL_law_2769 ?_
  refine lv_aload_n hx hb dL_law_2770 rfl (lv_at hl 3 rfl) ?_
  refine zfw_calli (mc := 1) (ms := 6) (wr := (wM β (gM cI cB) h sv sl9 tk cd mn mi mc mq mr mw ct9 ln9 mt ma mx mh)) (wc := oC cL o fo ++ (wH α (gH cI cB) (h, old, ch) (rg0, rg1) (ln_0, ln_1, ln_2, ln_3, ln_4, ln_5, ln_6, ln_7, ln_8, ln_9) (sl_0, sl_1, sl_2) (pd0, pd1) (ct_0, ct_1) sg (cd, ln9, pl, le, ro, co, nu) (sv, sl9, tk, ct9))) hP hD hS hA (vx_runSW (As := [.ref (α 0), .int (zI (xI xs (i + 1))), .int (zI (xI xs (i + 2))), .ref o]) (rest := []) hC (c_L_seenFrom l D τ α (gH cI cB) h old ch (rg0, rg1) (ln_0, ln_1, ln_2, ln_3, ln_4, ln_5, ln_6, ln_7, ln_8, ln_9) (sl_0, sl_1, sl_2) (pd0, pd1) ct_0 ct_1 sg (cd, ln9, pl, le, ro, co, nu) (sv, sl9, tk, ct9) (xI xs (i + 1)) (xI xs (i + 2)) (xI_b xs _) (xI_b xs _) hh hst cL o fo _) (vx_cwSW 4 hts (gSW hB wl_L_304 wt_L_seenFrom wi_L wc_L_seenFrom) rfl rfl rfl hd_L_seenFrom.2 ⟨Nat.le_of_ble_eq_true rfl, Nat.le_of_ble_eq_true rfl⟩) (zpX_S hKo (zPc hP) (zDc hD) hS hA hG hGX) rfl rfl hl.1 rfl (lv_room (Nat.le_of_ble_eq_true rfl)) dL_law_2771 ⟨by show _ ≤ 1083; omega, by show _ ≤ 10672; omega⟩) (fun r w1 H locs hq9 hP hD hS => ?_)
  rcases hq9 with hq9 | hq9
  · skip
    obtain ⟨f2c, n2c, vc, go, hf0, hf1, hgo, rfl, rfl⟩ := hq9
    refine lv_istore (lv' := [(5, .int (zI 0)), (0, .ref b), (1, .ref (α 0)), (2, .ref (β 0)), (3, .ref o), (4, .int (zI i))]) hx hb dL_law_2774 hl (by decide) rfl (fun ls hl => ?_)
    refine lv_aload_n hx hb dL_law_2776 rfl (lv_at hl 3 rfl) ?_
    refine lv_aload_n hx hb dL_law_2777 rfl (lv_at hl 1 rfl) ?_
    refine lv_iload hx hb dL_law_2778 (lv_at hl 5 rfl) ?_
    refine lv_iconst (v := zI 1) hx hb dL_law_2780 rfl ?_
    refine z_iadd hx hb dL_law_2781 ?_
    refine z_sld hx hb hXs hbl hbA hS ⟨⟨by omega, by omega⟩, hL⟩ dL_law_2782 ?_
    refine lv_aload_n hx hb dL_law_2783 rfl (lv_at hl 1 rfl) ?_
    refine lv_iload hx hb dL_law_2784 (lv_at hl 5 rfl) ?_
    refine lv_iconst (v := zI 2) hx hb dL_law_2786 rfl ?_
    refine z_iadd hx hb dL_law_2787 ?_
    refine z_sld hx hb hXs hbl hbA hS ⟨⟨by omega, by omega⟩, hL⟩ dL_law_2788 ?_
    have hP := zPswap hP
    have hD := zDswap hD
    refine zfw_calli (mc := 0) (ms := 0)  hP hD hS hA (va_runV (As := [.int (zI (xI xs (i + 1))), .int (zI (xI xs (i + 2)))]) (rest := []) hC (c_X10_seenFrom l D τ β (gM cI cB) h sv sl9 tk cd mn mi mc mq mr mw ct9 ln9 mt ma mx mh (xI xs (i + 1)) (xI xs (i + 2)) (xI_b xs _) (xI_b xs _) hh _) (cwV 2 hts (gV hB wl_L_306 wn_X10_seenFrom ws_X10_seenFrom wi_X10 wc_X10_seenFrom) rfl rfl rfl hd_X10_seenFrom ⟨Nat.le_of_ble_eq_true rfl, Nat.le_of_ble_eq_true rfl⟩) (zp_V hKm (zPc hP) (zDc hD) hS hA hG (ci := 10) (q0 := 0) rfl rfl rfl) rfl rfl hl.1 rfl (lv_room (Nat.le_of_ble_eq_true rfl)) dL_law_2789 ⟨by show _ ≤ 1083; omega, by show _ ≤ 10672; omega⟩) (fun r w1 H locs hq9 hP hD hS => ?_)
    obtain ⟨t2m, vm, hm0, hm1, rfl, rfl⟩ := hq9
    have hP := zPswap hP
    have hD := zDswap hD
    refine lv_istore (lv' := [(6, .int (zI vm)), (5, .int (zI 0)), (0, .ref b), (1, .ref (α 0)), (2, .ref (β 0)), (3, .ref o), (4, .int (zI i))]) hx hb dL_law_2792 hl (by decide) rfl (fun ls hl => ?_)
    refine lv_aload_n hx hb dL_law_2794 rfl (lv_at hl 4 rfl) ?_
    have hP := zPswap hP
    have hD := zDswap hD
    refine zfw_calli (mc := 0) (ms := 0)  hP hD hS hA (va_runV (As := []) (rest := []) hC (c_X10_thrown l D τ β (gM cI cB) _ _ _ _ _ _ _ _ _ _ _ _ _ _ _ _ _ _) (cwV 0 hts (gV hB wl_L_145 wn_X10_thrown ws_X10_thrown wi_X10 wc_X10_thrown) rfl rfl rfl hd_X10_thrown ⟨Nat.le_of_ble_eq_true rfl, Nat.le_of_ble_eq_true rfl⟩) (zp_V hKm (zPc hP) (zDc hD) hS hA hG (ci := 10) (q0 := 0) rfl rfl rfl) rfl rfl hl.1 rfl (lv_room (Nat.le_of_ble_eq_true rfl)) dL_law_2795 ⟨by show _ ≤ 1083; omega, by show _ ≤ 10672; omega⟩) (fun r w1 H locs hq9 hP hD hS => ?_)
    obtain ⟨vt, ht0, rfl, rfl⟩ := hq9
    have hP := zPswap hP
    have hD := zDswap hD
    refine lv_iload hx hb dL_law_2798 (lv_at hl 1 rfl) ?_
    have heq_2800 : vt = 0 := by rw [ht0, hm0, hf0]
    refine z_iceqE (tgt := 2805) hx hb heq_2800 dL_law_2800 (by decide) ?_
    refine lv_iload hx hb dL_law_2805 (lv_at hl 1 rfl) ?_
    refine z_ifne (tgt := 2822) hx hb ⟨by omega, by omega⟩ dL_law_2807 (by decide) (fun c_2807 => absurd rfl c_2807) (fun c_2807 => ?_)
    refine lv_aload_n hx hb dL_law_2810 rfl (lv_at hl 5 rfl) ?_
    refine lv_iconst (v := zI 0) hx hb dL_law_2811 rfl ?_
    refine zo_lald hx hb hKo (zPc hP) dL_law_2812 ?_
    refine lv_iload hx hb dL_law_2813 (lv_at hl 0 rfl) ?_
    refine lv_i2l (v := (zI vm).toInt64) hx hb dL_law_2815 rfl ?_
    refine z_lcmpE hx hb (by rw [hgo, hf1, (hm1 (hm0.trans hf0))]) dL_law_2816 ?_
    refine z_ifeq (tgt := 2822) hx hb ⟨by omega, by omega⟩ dL_law_2817 (by decide) (fun c_2817 => ?_) (fun c_2817 => absurd rfl c_2817)
    refine lv_goto (tgt := 2893) hx hb dL_law_2822 (by decide) ?_
    refine W.widen (k := cells + 2) (n := slots + 12) (by omega) (by omega) ?_
    exact hk _ _ _ _ _ _ _ _ _ _ _ _ _ _ _ _ _ _ _ _ _ _ _ _ _ _ _ _ _ _ _ H locs ls (hI) hP hD hS (lv_sub hl [2, 3, 4, 5, 6] rfl)
  · skip
    obtain ⟨hx9, rfl, rfl⟩ := hq9
    refine lv_istore (lv' := [(5, .int (zI 1)), (0, .ref b), (1, .ref (α 0)), (2, .ref (β 0)), (3, .ref o), (4, .int (zI i))]) hx hb dL_law_2774 hl (by decide) rfl (fun ls hl => ?_)
    refine lv_aload_n hx hb dL_law_2776 rfl (lv_at hl 3 rfl) ?_
    refine lv_aload_n hx hb dL_law_2777 rfl (lv_at hl 1 rfl) ?_
    refine lv_iload hx hb dL_law_2778 (lv_at hl 5 rfl) ?_
    refine lv_iconst (v := zI 1) hx hb dL_law_2780 rfl ?_
    refine z_iadd hx hb dL_law_2781 ?_
    refine z_sld hx hb hXs hbl hbA hS ⟨⟨by omega, by omega⟩, hL⟩ dL_law_2782 ?_
    refine lv_aload_n hx hb dL_law_2783 rfl (lv_at hl 1 rfl) ?_
    refine lv_iload hx hb dL_law_2784 (lv_at hl 5 rfl) ?_
    refine lv_iconst (v := zI 2) hx hb dL_law_2786 rfl ?_
    refine z_iadd hx hb dL_law_2787 ?_
    refine z_sld hx hb hXs hbl hbA hS ⟨⟨by omega, by omega⟩, hL⟩ dL_law_2788 ?_
    have hP := zPswap hP
    have hD := zDswap hD
    refine zfw_calli (mc := 0) (ms := 0)  hP hD hS hA (va_runV (As := [.int (zI (xI xs (i + 1))), .int (zI (xI xs (i + 2)))]) (rest := []) hC (c_X10_seenFrom l D τ β (gM cI cB) h sv sl9 tk cd mn mi mc mq mr mw ct9 ln9 mt ma mx mh (xI xs (i + 1)) (xI xs (i + 2)) (xI_b xs _) (xI_b xs _) hh _) (cwV 2 hts (gV hB wl_L_306 wn_X10_seenFrom ws_X10_seenFrom wi_X10 wc_X10_seenFrom) rfl rfl rfl hd_X10_seenFrom ⟨Nat.le_of_ble_eq_true rfl, Nat.le_of_ble_eq_true rfl⟩) (zp_V hKm (zPc hP) (zDc hD) hS hA hG (ci := 10) (q0 := 0) rfl rfl rfl) rfl rfl hl.1 rfl (lv_room (Nat.le_of_ble_eq_true rfl)) dL_law_2789 ⟨by show _ ≤ 1083; omega, by show _ ≤ 10672; omega⟩) (fun r w1 H locs hq9 hP hD hS => ?_)
    obtain ⟨t2m, vm, hm0, hm1, rfl, rfl⟩ := hq9
    have hP := zPswap hP
    have hD := zDswap hD
    refine lv_istore (lv' := [(6, .int (zI vm)), (5, .int (zI 1)), (0, .ref b), (1, .ref (α 0)), (2, .ref (β 0)), (3, .ref o), (4, .int (zI i))]) hx hb dL_law_2792 hl (by decide) rfl (fun ls hl => ?_)
    refine lv_aload_n hx hb dL_law_2794 rfl (lv_at hl 4 rfl) ?_
    have hP := zPswap hP
    have hD := zDswap hD
    refine zfw_calli (mc := 0) (ms := 0)  hP hD hS hA (va_runV (As := []) (rest := []) hC (c_X10_thrown l D τ β (gM cI cB) _ _ _ _ _ _ _ _ _ _ _ _ _ _ _ _ _ _) (cwV 0 hts (gV hB wl_L_145 wn_X10_thrown ws_X10_thrown wi_X10 wc_X10_thrown) rfl rfl rfl hd_X10_thrown ⟨Nat.le_of_ble_eq_true rfl, Nat.le_of_ble_eq_true rfl⟩) (zp_V hKm (zPc hP) (zDc hD) hS hA hG (ci := 10) (q0 := 0) rfl rfl rfl) rfl rfl hl.1 rfl (lv_room (Nat.le_of_ble_eq_true rfl)) dL_law_2795 ⟨by show _ ≤ 1083; omega, by show _ ≤ 10672; omega⟩) (fun r w1 H locs hq9 hP hD hS => ?_)
    obtain ⟨vt, ht0, rfl, rfl⟩ := hq9
    have hP := zPswap hP
    have hD := zDswap hD
    refine lv_iload hx hb dL_law_2798 (lv_at hl 1 rfl) ?_
    have heq_2800 : vt = 1 := by rw [ht0, hm0, hx9]
    refine z_iceqE (tgt := 2805) hx hb heq_2800 dL_law_2800 (by decide) ?_
    refine lv_iload hx hb dL_law_2805 (lv_at hl 1 rfl) ?_
    refine z_ifne (tgt := 2822) hx hb ⟨by omega, by omega⟩ dL_law_2807 (by decide) (fun c_2807 => ?_) (fun c_2807 => absurd c_2807 (by decide))
    refine lv_goto (tgt := 2893) hx hb dL_law_2822 (by decide) ?_
    refine W.widen (k := cells + 2) (n := slots + 12) (by omega) (by omega) ?_
    exact hk _ _ _ _ _ _ _ _ _ _ _ _ _ _ _ _ _ _ _ _ _ _ _ _ _ _ _ _ _ _ _ H locs ls (hI) hP hD hS (lv_sub hl [2, 3, 4, 5, 6] rfl)
set_option maxHeartbeats 4000000 in
set_option maxRecDepth 100000 in
theorem law_2825 {p : Program} {l : Launch} {e : Env} {s : State} {m : MethodId} {below : List Frame} {meth : Method} {c : Code} {Q : State → Prop} {D : va_G} {τ : Nat → Nat} {A : Nat → Prop} {α β : Nat → Nat} {cI cB cL : ClassId} {o b L : Nat} {xs : Nat → Int32} {i : Int} {cells slots : Nat} (hX : LCx p l s m c D τ A cI cB cL b L xs) (hi : 0 ≤ i ∧ i + 6 ≤ L) (hc : cells + 2 ≤ 1083 ∧ slots + 12 ≤ 10672)
    (hk : LSt p l e s m below meth c Q D A α β cI cB cL o b i 2893 (cells + 2) (slots + 12)) : LSt p l e s m below meth c Q D A α β cI cB cL o b i 2825 cells slots := by
  obtain ⟨hC, hKm, hKo, hKh, hG, hA, hGX, hst, hXs, hbl, hbA, hL⟩ := hX
  intro h old ch rg ln sl pd ct sg cd ln9 pl le ro co nu sv sl9 tk ct9 mn mi mc mq mr mw mt ma mx mh fo H locs ls hI hP hD hS hl
  obtain ⟨rg0, rg1⟩ := rg
  obtain ⟨ln_0, ln_1, ln_2, ln_3, ln_4, ln_5, ln_6, ln_7, ln_8, ln_9⟩ := ln
  obtain ⟨sl_0, sl_1, sl_2⟩ := sl
  obtain ⟨pd0, pd1⟩ := pd
  obtain ⟨ct_0, ct_1⟩ := ct
  have hx := hC.1
  have hb := hC.2.1
  have hml := hC.2.2.1
  have hts := hC.2.2.2.2
  have hB : ∀ w ∈ W0, w ∈ W0 := fun _ h => h
  have hh := hI.1
  have hct := hI.2.2.2.1
  have hln := hI.2.2.2.2.1
  have hmf := hI.2.2.2.2.2.1
  have hov := hI.2.2.2.2.2.2
  have hcd : ∀ k, 0 ≤ k → k < ln9 → 0 ≤ cd k ∧ cd k ≤ 126 := fun k a b => by have z := hmf k a b; omega
  have hP : va_P D vwCl ((wM β (gM cI cB) h sv sl9 tk cd mn mi mc mq mr mw ct9 ln9 mt ma mx mh) ++ (oC cL o fo ++ (wH α (gH cI cB) (h, old, ch) (rg0, rg1) (ln_0, ln_1, ln_2, ln_3, ln_4, ln_5, ln_6, ln_7, ln_8, ln_9) (sl_0, sl_1, sl_2) (pd0, pd1) (ct_0, ct_1) sg (cd, ln9, pl, le, ro, co, nu) (sv, sl9, tk, ct9)))) H := hP
  have hD : va_D A ((wM β (gM cI cB) h sv sl9 tk cd mn mi mc mq mr mw ct9 ln9 mt ma mx mh) ++ (oC cL o fo ++ (wH α (gH cI cB) (h, old, ch) (rg0, rg1) (ln_0, ln_1, ln_2, ln_3, ln_4, ln_5, ln_6, ln_7, ln_8, ln_9) (sl_0, sl_1, sl_2) (pd0, pd1) (ct_0, ct_1) sg (cd, ln9, pl, le, ro, co, nu) (sv, sl9, tk, ct9)))) := hD
  refine lv_aload_n hx hb dL_law_2825 rfl (lv_at hl 1 rfl) ?_
  have hP : va_P D vwCl (((wM β (gM cI cB) h sv sl9 tk cd mn mi mc mq mr mw ct9 ln9 mt ma mx mh) ++ oC cL o fo) ++ (wH α (gH cI cB) (h, old, ch) (rg0, rg1) (ln_0, ln_1, ln_2, ln_3, ln_4, ln_5, ln_6, ln_7, ln_8, ln_9) (sl_0, sl_1, sl_2) (pd0, pd1) (ct_0, ct_1) sg (cd, ln9, pl, le, ro, co, nu) (sv, sl9, tk, ct9))) H := by rw [List.append_assoc]; exact hP
  have hD : va_D A (((wM β (gM cI cB) h sv sl9 tk cd mn mi mc mq mr mw ct9 ln9 mt ma mx mh) ++ oC cL o fo) ++ (wH α (gH cI cB) (h, old, ch) (rg0, rg1) (ln_0, ln_1, ln_2, ln_3, ln_4, ln_5, ln_6, ln_7, ln_8, ln_9) (sl_0, sl_1, sl_2) (pd0, pd1) (ct_0, ct_1) sg (cd, ln9, pl, le, ro, co, nu) (sv, sl9, tk, ct9))) := by rw [List.append_assoc]; exact hD
  refine zfw_calli (mc := 0) (ms := 0) (wr := (wM β (gM cI cB) h sv sl9 tk cd mn mi mc mq mr mw ct9 ln9 mt ma mx mh) ++ oC cL o fo) (wc := (wH α (gH cI cB) (h, old, ch) (rg0, rg1) (ln_0, ln_1, ln_2, ln_3, ln_4, ln_5, ln_6, ln_7, ln_8, ln_9) (sl_0, sl_1, sl_2) (pd0, pd1) (ct_0, ct_1) sg (cd, ln9, pl, le, ro, co, nu) (sv, sl9, tk, ct9))) hP hD hS hA (va_runV (As := []) (rest := []) hC (c_X9_lookout l D τ α (gH cI cB) h old ch (rg0, rg1) (ln_0, ln_1, ln_2, ln_3, ln_4, ln_5, ln_6, ln_7, ln_8, ln_9) (sl_0, sl_1, sl_2) (pd0, pd1) ct_0 ct_1 sg (cd, ln9, pl, le, ro, co, nu) (sv, sl9, tk, ct9) hh _) (cwV 0 hts (gV hB wl_L_307 wn_X9_lookout ws_X9_lookout wi_X9 wc_X9_lookout) rfl rfl rfl hd_X9_lookout ⟨Nat.le_of_ble_eq_true rfl, Nat.le_of_ble_eq_true rfl⟩) (zp_V hKh (zPc hP) (zDc hD) hS hA hG (ci := 9) (q0 := 0) rfl rfl rfl) rfl rfl hl.1 rfl (lv_room (Nat.le_of_ble_eq_true rfl)) dL_law_2826 ⟨by show _ ≤ 1083; omega, by show _ ≤ 10672; omega⟩) (fun r w1 H locs hq9 hP hD hS => ?_)
  obtain ⟨f2c, n2c, s2c, vc, hf0, hf1, rfl, rfl⟩ := hq9
  rw [List.append_assoc] at hP hD
  refine lv_aload_n hx hb dL_law_2829 rfl (lv_at hl 2 rfl) ?_
  have hP := zPswap hP
  have hD := zDswap hD
  refine zfw_calli (mc := 0) (ms := 0)  hP hD hS hA (va_runV (As := []) (rest := [.int (zI vc)]) hC (c_X10_lookout l D τ β (gM cI cB) h sv sl9 tk cd mn mi mc mq mr mw ct9 ln9 mt ma mx mh hh _) (cwV 0 hts (gV hB wl_L_310 wn_X10_lookout ws_X10_lookout wi_X10 wc_X10_lookout) rfl rfl rfl hd_X10_lookout ⟨Nat.le_of_ble_eq_true rfl, Nat.le_of_ble_eq_true rfl⟩) (zp_V hKm (zPc hP) (zDc hD) hS hA hG (ci := 10) (q0 := 0) rfl rfl rfl) rfl rfl hl.1 rfl (lv_room (Nat.le_of_ble_eq_true rfl)) dL_law_2830 ⟨by show _ ≤ 1083; omega, by show _ ≤ 10672; omega⟩) (fun r w1 H locs hq9 hP hD hS => ?_)
  obtain ⟨vm, hm0, hm1, rfl, rfl⟩ := hq9
  have hP := zPswap hP
  have hD := zDswap hD
  have heq_2833 : vc = vm := by rw [hf0, hm0]
  refine z_iceqE (tgt := 2893) hx hb heq_2833 dL_law_2833 (by decide) ?_
  refine W.widen (k := cells + 2) (n := slots + 12) (by omega) (by omega) ?_
  exact hk _ _ _ _ _ _ _ _ _ _ _ _ _ _ _ _ _ _ _ _ _ _ _ _ _ _ _ _ _ _ _ H locs ls (hI) hP hD hS (lv_sub hl [0, 1, 2, 3, 4] rfl)
set_option maxHeartbeats 4000000 in
set_option maxRecDepth 100000 in
theorem law_2838 {p : Program} {l : Launch} {e : Env} {s : State} {m : MethodId} {below : List Frame} {meth : Method} {c : Code} {Q : State → Prop} {D : va_G} {τ : Nat → Nat} {A : Nat → Prop} {α β : Nat → Nat} {cI cB cL : ClassId} {o b L : Nat} {xs : Nat → Int32} {i : Int} {cells slots : Nat} (hX : LCx p l s m c D τ A cI cB cL b L xs) (hi : 0 ≤ i ∧ i + 6 ≤ L) (hc : cells + 2 ≤ 1083 ∧ slots + 12 ≤ 10672)
    (hk : LSt p l e s m below meth c Q D A α β cI cB cL o b i 2893 (cells + 2) (slots + 12)) : LSt p l e s m below meth c Q D A α β cI cB cL o b i 2838 cells slots := by
  obtain ⟨hC, hKm, hKo, hKh, hG, hA, hGX, hst, hXs, hbl, hbA, hL⟩ := hX
  intro h old ch rg ln sl pd ct sg cd ln9 pl le ro co nu sv sl9 tk ct9 mn mi mc mq mr mw mt ma mx mh fo H locs ls hI hP hD hS hl
  obtain ⟨rg0, rg1⟩ := rg
  obtain ⟨ln_0, ln_1, ln_2, ln_3, ln_4, ln_5, ln_6, ln_7, ln_8, ln_9⟩ := ln
  obtain ⟨sl_0, sl_1, sl_2⟩ := sl
  obtain ⟨pd0, pd1⟩ := pd
  obtain ⟨ct_0, ct_1⟩ := ct
  have hx := hC.1
  have hb := hC.2.1
  have hml := hC.2.2.1
  have hts := hC.2.2.2.2
  have hB : ∀ w ∈ W0, w ∈ W0 := fun _ h => h
  have hh := hI.1
  have hct := hI.2.2.2.1
  have hln := hI.2.2.2.2.1
  have hmf := hI.2.2.2.2.2.1
  have hov := hI.2.2.2.2.2.2
  have hcd : ∀ k, 0 ≤ k → k < ln9 → 0 ≤ cd k ∧ cd k ≤ 126 := fun k a b => by have z := hmf k a b; omega
  have hP : va_P D vwCl ((wM β (gM cI cB) h sv sl9 tk cd mn mi mc mq mr mw ct9 ln9 mt ma mx mh) ++ (oC cL o fo ++ (wH α (gH cI cB) (h, old, ch) (rg0, rg1) (ln_0, ln_1, ln_2, ln_3, ln_4, ln_5, ln_6, ln_7, ln_8, ln_9) (sl_0, sl_1, sl_2) (pd0, pd1) (ct_0, ct_1) sg (cd, ln9, pl, le, ro, co, nu) (sv, sl9, tk, ct9)))) H := hP
  have hD : va_D A ((wM β (gM cI cB) h sv sl9 tk cd mn mi mc mq mr mw ct9 ln9 mt ma mx mh) ++ (oC cL o fo ++ (wH α (gH cI cB) (h, old, ch) (rg0, rg1) (ln_0, ln_1, ln_2, ln_3, ln_4, ln_5, ln_6, ln_7, ln_8, ln_9) (sl_0, sl_1, sl_2) (pd0, pd1) (ct_0, ct_1) sg (cd, ln9, pl, le, ro, co, nu) (sv, sl9, tk, ct9)))) := hD
  refine lv_aload_n hx hb dL_law_2838 rfl (lv_at hl 1 rfl) ?_
  have hP : va_P D vwCl (((wM β (gM cI cB) h sv sl9 tk cd mn mi mc mq mr mw ct9 ln9 mt ma mx mh) ++ oC cL o fo) ++ (wH α (gH cI cB) (h, old, ch) (rg0, rg1) (ln_0, ln_1, ln_2, ln_3, ln_4, ln_5, ln_6, ln_7, ln_8, ln_9) (sl_0, sl_1, sl_2) (pd0, pd1) (ct_0, ct_1) sg (cd, ln9, pl, le, ro, co, nu) (sv, sl9, tk, ct9))) H := by rw [List.append_assoc]; exact hP
  have hD : va_D A (((wM β (gM cI cB) h sv sl9 tk cd mn mi mc mq mr mw ct9 ln9 mt ma mx mh) ++ oC cL o fo) ++ (wH α (gH cI cB) (h, old, ch) (rg0, rg1) (ln_0, ln_1, ln_2, ln_3, ln_4, ln_5, ln_6, ln_7, ln_8, ln_9) (sl_0, sl_1, sl_2) (pd0, pd1) (ct_0, ct_1) sg (cd, ln9, pl, le, ro, co, nu) (sv, sl9, tk, ct9))) := by rw [List.append_assoc]; exact hD
  refine zfw_calld (mc := 0) (ms := 0) (wr := (wM β (gM cI cB) h sv sl9 tk cd mn mi mc mq mr mw ct9 ln9 mt ma mx mh) ++ oC cL o fo) (wc := (wH α (gH cI cB) (h, old, ch) (rg0, rg1) (ln_0, ln_1, ln_2, ln_3, ln_4, ln_5, ln_6, ln_7, ln_8, ln_9) (sl_0, sl_1, sl_2) (pd0, pd1) (ct_0, ct_1) sg (cd, ln9, pl, le, ro, co, nu) (sv, sl9, tk, ct9))) hP hD hS hA (va_runV (As := []) (rest := []) hC (c_X9_meanDrop l D τ α (gH cI cB) h old ch (rg0, rg1) (ln_0, ln_1, ln_2, ln_3, ln_4, ln_5, ln_6, ln_7, ln_8, ln_9) sl_0 sl_1 sl_2 (pd0, pd1) (ct_0, ct_1) sg (cd, ln9, pl, le, ro, co, nu) (sv, sl9, tk, ct9) hh _) (cwV 0 hts (gV hB wl_L_311 wn_X9_meanDrop ws_X9_meanDrop wi_X9 wc_X9_meanDrop) rfl rfl rfl hd_X9_meanDrop ⟨Nat.le_of_ble_eq_true rfl, Nat.le_of_ble_eq_true rfl⟩) (zp_V hKh (zPc hP) (zDc hD) hS hA hG (ci := 9) (q0 := 0) rfl rfl rfl) rfl rfl hl.1 rfl (lv_room (Nat.le_of_ble_eq_true rfl)) dL_law_2839 ⟨by show _ ≤ 1083; omega, by show _ ≤ 10672; omega⟩) (fun r w1 H locs hq9 hP hD hS => ?_)
  obtain ⟨n2c, d2c, vc, hf0, rfl, rfl⟩ := hq9
  rw [List.append_assoc] at hP hD
  refine lv_dstore (lv' := [(5, .double vc), (0, .ref b), (1, .ref (α 0)), (2, .ref (β 0)), (3, .ref o), (4, .int (zI i))]) hx hb dL_law_2842 hl (by decide) rfl (fun ls hl => ?_)
  refine lv_aload_n hx hb dL_law_2844 rfl (lv_at hl 3 rfl) ?_
  have hP := zPswap hP
  have hD := zDswap hD
  refine zfw_calld (mc := 0) (ms := 0)  hP hD hS hA (va_runV (As := []) (rest := []) hC (c_X10_meanDrop l D τ β (gM cI cB) h sv sl9 tk cd mn mi mc mq mr mw ct9 ln9 mt ma mx mh hh _) (cwV 0 hts (gV hB wl_L_315 wn_X10_meanDrop ws_X10_meanDrop wi_X10 wc_X10_meanDrop) rfl rfl rfl hd_X10_meanDrop ⟨Nat.le_of_ble_eq_true rfl, Nat.le_of_ble_eq_true rfl⟩) (zp_V hKm (zPc hP) (zDc hD) hS hA hG (ci := 10) (q0 := 0) rfl rfl rfl) rfl rfl hl.1 rfl (lv_room (Nat.le_of_ble_eq_true rfl)) dL_law_2845 ⟨by show _ ≤ 1083; omega, by show _ ≤ 10672; omega⟩) (fun r w1 H locs hq9 hP hD hS => ?_)
  obtain ⟨vm, hm0, rfl, rfl⟩ := hq9
  have hP := zPswap hP
  have hD := zDswap hD
  refine lv_dstore (lv' := [(7, .double vm), (5, .double vc), (0, .ref b), (1, .ref (α 0)), (2, .ref (β 0)), (3, .ref o), (4, .int (zI i))]) hx hb dL_law_2848 hl (by decide) rfl (fun ls hl => ?_)
  refine lv_dload hx hb dL_law_2850 (lv_at hl 1 rfl) ?_
  refine lv_dload hx hb dL_law_2852 (lv_at hl 0 rfl) ?_
  refine z_dcmp (op := .l) hx hb dL_law_2854 ?_
  have hb_2854 : dcI vc vm .l = 0 := by exact dc_mean hh hf0 hm0
  refine z_ifeq (tgt := 2876) hx hb ⟨by omega, by omega⟩ dL_law_2855 (by decide) (fun c_2855 => ?_) (fun c_2855 => absurd hb_2854 c_2855)
  refine lv_goto (tgt := 2893) hx hb dL_law_2876 (by decide) ?_
  refine W.widen (k := cells + 2) (n := slots + 12) (by omega) (by omega) ?_
  exact hk _ _ _ _ _ _ _ _ _ _ _ _ _ _ _ _ _ _ _ _ _ _ _ _ _ _ _ _ _ _ _ H locs ls (hI) hP hD hS (lv_sub hl [2, 3, 4, 5, 6] rfl)
set_option maxHeartbeats 4000000 in
set_option maxRecDepth 100000 in
theorem law_2879 {p : Program} {l : Launch} {e : Env} {s : State} {m : MethodId} {below : List Frame} {meth : Method} {c : Code} {Q : State → Prop} {D : va_G} {τ : Nat → Nat} {A : Nat → Prop} {α β : Nat → Nat} {cI cB cL : ClassId} {o b L : Nat} {xs : Nat → Int32} {i : Int} {cells slots : Nat} (hX : LCx p l s m c D τ A cI cB cL b L xs) (hi : 0 ≤ i ∧ i + 6 ≤ L) (hc : cells + 2 ≤ 1083 ∧ slots + 12 ≤ 10672)
    (hk : LSt p l e s m below meth c Q D A α β cI cB cL o b i 2893 (cells + 2) (slots + 12)) : LSt p l e s m below meth c Q D A α β cI cB cL o b i 2879 cells slots := by
  obtain ⟨hC, hKm, hKo, hKh, hG, hA, hGX, hst, hXs, hbl, hbA, hL⟩ := hX
  intro h old ch rg ln sl pd ct sg cd ln9 pl le ro co nu sv sl9 tk ct9 mn mi mc mq mr mw mt ma mx mh fo H locs ls hI hP hD hS hl
  obtain ⟨rg0, rg1⟩ := rg
  obtain ⟨ln_0, ln_1, ln_2, ln_3, ln_4, ln_5, ln_6, ln_7, ln_8, ln_9⟩ := ln
  obtain ⟨sl_0, sl_1, sl_2⟩ := sl
  obtain ⟨pd0, pd1⟩ := pd
  obtain ⟨ct_0, ct_1⟩ := ct
  have hx := hC.1
  have hb := hC.2.1
  have hml := hC.2.2.1
  have hts := hC.2.2.2.2
  have hB : ∀ w ∈ W0, w ∈ W0 := fun _ h => h
  have hh := hI.1
  have hct := hI.2.2.2.1
  have hln := hI.2.2.2.2.1
  have hmf := hI.2.2.2.2.2.1
  have hov := hI.2.2.2.2.2.2
  have hcd : ∀ k, 0 ≤ k → k < ln9 → 0 ≤ cd k ∧ cd k ≤ 126 := fun k a b => by have z := hmf k a b; omega
  have hP : va_P D vwCl ((wM β (gM cI cB) h sv sl9 tk cd mn mi mc mq mr mw ct9 ln9 mt ma mx mh) ++ (oC cL o fo ++ (wH α (gH cI cB) (h, old, ch) (rg0, rg1) (ln_0, ln_1, ln_2, ln_3, ln_4, ln_5, ln_6, ln_7, ln_8, ln_9) (sl_0, sl_1, sl_2) (pd0, pd1) (ct_0, ct_1) sg (cd, ln9, pl, le, ro, co, nu) (sv, sl9, tk, ct9)))) H := hP
  have hD : va_D A ((wM β (gM cI cB) h sv sl9 tk cd mn mi mc mq mr mw ct9 ln9 mt ma mx mh) ++ (oC cL o fo ++ (wH α (gH cI cB) (h, old, ch) (rg0, rg1) (ln_0, ln_1, ln_2, ln_3, ln_4, ln_5, ln_6, ln_7, ln_8, ln_9) (sl_0, sl_1, sl_2) (pd0, pd1) (ct_0, ct_1) sg (cd, ln9, pl, le, ro, co, nu) (sv, sl9, tk, ct9)))) := hD
  refine lv_aload_n hx hb dL_law_2879 rfl (lv_at hl 1 rfl) ?_
  have hP : va_P D vwCl (((wM β (gM cI cB) h sv sl9 tk cd mn mi mc mq mr mw ct9 ln9 mt ma mx mh) ++ oC cL o fo) ++ (wH α (gH cI cB) (h, old, ch) (rg0, rg1) (ln_0, ln_1, ln_2, ln_3, ln_4, ln_5, ln_6, ln_7, ln_8, ln_9) (sl_0, sl_1, sl_2) (pd0, pd1) (ct_0, ct_1) sg (cd, ln9, pl, le, ro, co, nu) (sv, sl9, tk, ct9))) H := by rw [List.append_assoc]; exact hP
  have hD : va_D A (((wM β (gM cI cB) h sv sl9 tk cd mn mi mc mq mr mw ct9 ln9 mt ma mx mh) ++ oC cL o fo) ++ (wH α (gH cI cB) (h, old, ch) (rg0, rg1) (ln_0, ln_1, ln_2, ln_3, ln_4, ln_5, ln_6, ln_7, ln_8, ln_9) (sl_0, sl_1, sl_2) (pd0, pd1) (ct_0, ct_1) sg (cd, ln9, pl, le, ro, co, nu) (sv, sl9, tk, ct9))) := by rw [List.append_assoc]; exact hD
  refine zfw_calll (mc := 0) (ms := 0) (wr := (wM β (gM cI cB) h sv sl9 tk cd mn mi mc mq mr mw ct9 ln9 mt ma mx mh) ++ oC cL o fo) (wc := (wH α (gH cI cB) (h, old, ch) (rg0, rg1) (ln_0, ln_1, ln_2, ln_3, ln_4, ln_5, ln_6, ln_7, ln_8, ln_9) (sl_0, sl_1, sl_2) (pd0, pd1) (ct_0, ct_1) sg (cd, ln9, pl, le, ro, co, nu) (sv, sl9, tk, ct9))) hP hD hS hA (va_runV (As := []) (rest := []) hC (c_X9_digest l D τ α (gH cI cB) h old ch rg0 rg1 ln_0 ln_1 ln_2 ln_3 ln_4 ln_5 ln_6 ln_7 ln_8 ln_9 sl_0 sl_1 sl_2 pd0 pd1 ct_0 ct_1 sg cd ln9 pl le ro co nu sv sl9 tk ct9 hh hct hln hcd _) (cwV 0 hts (gV hB wl_L_316 wn_X9_digest ws_X9_digest wi_X9 wc_X9_digest) rfl rfl rfl hd_X9_digest ⟨Nat.le_of_ble_eq_true rfl, Nat.le_of_ble_eq_true rfl⟩) (zp_V hKh (zPc hP) (zDc hD) hS hA hG (ci := 9) (q0 := 0) rfl rfl rfl) rfl rfl hl.1 rfl (lv_room (Nat.le_of_ble_eq_true rfl)) dL_law_2880 ⟨by show _ ≤ 1083; omega, by show _ ≤ 10672; omega⟩) (fun r w1 H locs hq9 hP hD hS => ?_)
  obtain ⟨f2c, n2c, g5c, n3c, d3c, q3c, w3c, l3c, b3c, q4c, m7c, f7c, s7c, gn7c, p7c, q7c, n7c, t7c, c7c, l7c, vc, hf0, rfl, rfl⟩ := hq9
  rw [List.append_assoc] at hP hD
  refine lv_aload_n hx hb dL_law_2883 rfl (lv_at hl 2 rfl) ?_
  have hP := zPswap hP
  have hD := zDswap hD
  refine zfw_calll (mc := 0) (ms := 0)  hP hD hS hA (va_runV (As := []) (rest := [.long vc]) hC (c_X10_digest l D τ β (gM cI cB) h sv sl9 tk cd mn mi mc mq mr mw ct9 ln9 mt ma mx mh hh hln hmf hct _) (cwV 0 hts (gV hB wl_L_320 wn_X10_digest ws_X10_digest wi_X10 wc_X10_digest) rfl rfl rfl hd_X10_digest ⟨Nat.le_of_ble_eq_true rfl, Nat.le_of_ble_eq_true rfl⟩) (zp_V hKm (zPc hP) (zDc hD) hS hA hG (ci := 10) (q0 := 0) rfl rfl rfl) rfl rfl hl.1 rfl (lv_room (Nat.le_of_ble_eq_true rfl)) dL_law_2884 ⟨by show _ ≤ 1083; omega, by show _ ≤ 10672; omega⟩) (fun r w1 H locs hq9 hP hD hS => ?_)
  obtain ⟨w2m, m2m, c2m, q2m, r2m, h2m, vm, hm0, rfl, rfl⟩ := hq9
  have hP := zPswap hP
  have hD := zDswap hD
  refine z_lcmpE hx hb (by rw [hf0, hm0]) dL_law_2887 ?_
  refine z_ifeq (tgt := 2893) hx hb ⟨by omega, by omega⟩ dL_law_2888 (by decide) (fun c_2888 => ?_) (fun c_2888 => absurd rfl c_2888)
  refine W.widen (k := cells + 2) (n := slots + 12) (by omega) (by omega) ?_
  exact hk _ _ _ _ _ _ _ _ _ _ _ _ _ _ _ _ _ _ _ _ _ _ _ _ _ _ _ _ _ _ _ H locs ls (hI) hP hD hS (lv_sub hl [0, 1, 2, 3, 4] rfl)

