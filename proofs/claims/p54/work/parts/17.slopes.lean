abbrev wz_X8_read : List Cond := .code yX8_read cX8_read 6 none :: W0
abbrev rm_X8_read : Room := { frames := 2, cells := 0, slots := 0, locals := 42 }
theorem hd_X8_read : yX8_read.cls = RX8 ∧ yX8_read.cls ≠ "java/lang/invoke/MethodHandle" ∧ yX8_read.cls ≠ "java/lang/invoke/VarHandle" ∧ (parseMethodDescriptor yX8_read.desc).map (fun d => d.parameters.length) = some 1 := by decide +kernel
set_option maxHeartbeats 4000000 in
set_option maxRecDepth 100000 in
theorem c_X8_read (l : Launch) (D : va_G) (τ : Nat → Nat) (α : Nat → Nat) (γ : Nat → ClassId) (h : IA) (old : IA) (ch : IA) (rg : TRg) (ln : TLn) (nx : IA) (dr : IA) (qu : IA) (pd : TPd) (ct : TCt) (sg : TSg) (od : TOd) (hs : THs) (hh : ∀ k, 0 ≤ k → k < 49 → 0 ≤ h k ∧ h k ≤ 99) : cM l yX8_read wz_X8_read rm_X8_read D τ (tyH γ) [.ref (α 4), .ref (α 1)] (wH α γ (h, old, ch) rg ln (nx, dr, qu) pd ct sg od hs) (zQv (fun w => ∃ (n2 : IA), ∃ (d2 : IA), (n2 = zmix 49 (S_next h) nx) ∧ (d2 = zmix 49 (S_drop h) dr) ∧ wH α γ (h, old, ch) rg ln (n2, d2, qu) pd ct sg od hs = w)) := by
  refine z_ofM (cc := cX8_read) (maxL := 6) (ret := none) (by decide +kernel) rfl (Nat.le_of_ble_eq_true rfl) ?_
  intro pg e s m args below meth c hC hr hlk hnm hK hP A hD hG hA hS ls hl Q hQ
  have hx := hC.1
  have hb := hC.2.1
  have hml := hC.2.2.1
  have hown := hC.2.2.2.1
  have hts := hC.2.2.2.2
  have hB : ∀ w ∈ W0, w ∈ wz_X8_read := fun _ h => List.mem_cons_of_mem _ h
  have hW0 : ∀ w ∈ W0, w.before args s = true := fun w h => hts w (hB w h)
  have hl : lv_has ls 6 [(0, .ref (α 4)), (1, .ref (α 1))] := hl
  refine lv_iconst (v := zI 0) hx hb dX8_read_0 rfl ?_
  refine lv_istore_n (lv' := [(2, .int (zI 0)), (0, .ref (α 4)), (1, .ref (α 1))]) hx hb dX8_read_1 rfl hl (by decide) rfl (fun ls hl => ?_)
  suffices HL_2 : ∀ (n_2 : Nat), ∀ (n1 : IA) (d1 : IA) (i : Int) (H : Heap) (locs : List Loc) (hP : va_P D vwCl (wH α γ (h, old, ch) rg ln (n1, d1, qu) pd ct sg od hs) H) (hD : va_D A (wH α γ (h, old, ch) rg ln (n1, d1, qu) pd ct sg od hs)) (hS : va_S A s.heap H locs) (ls : Array Slot) (hl : lv_has ls 6 [(2, .int (zI i)), (0, .ref (α 4)), (1, .ref (α 1))]) (hi : 0 ≤ i ∧ i ≤ 49) (hn1 : n1 = zmix i (S_next h) nx) (hd1 : d1 = zmix i (S_drop h) dr) (hm : (49 - i).toNat < n_2), W pg l e rm_X8_read s m args below meth c H locs 0 0 Q (F0 m 2 ls []) from HL_2 _ nx dr 0 _ _ hP hD hS _ (lv_sub hl [0, 1, 2] rfl) (by first | assumption | rfl | omega) (by exact (zmix_0 _ _).symm) (by exact (zmix_0 _ _).symm) (Nat.lt_succ_self _)
  intro n_2
  induction n_2 with
  | zero => intro n1 d1 i H locs hP hD hS ls hl hi hn1 hd1 hm; exact absurd hm (Nat.not_lt_zero _)
  | succ n_2 ih_2 =>
    intro n1 d1 i H locs hP hD hS ls hl hi hn1 hd1 hm
    refine lv_iload_n hx hb dX8_read_2 rfl (lv_at hl 0 rfl) ?_
    refine lv_bipush (v := zI 49) hx hb dX8_read_3 (zI_b8 (by decide)) ?_
    refine z_icge (tgt := 95) hx hb ⟨by omega, by omega⟩ ⟨by omega, by omega⟩ dX8_read_5 (by decide) (fun c_5 => ?_) (fun c_5 => ?_)
    · have ei : i = 49 := by omega
      exact z_vret hC hr hlk hQ hP hD hS ⟨n1, d1, (by rw [hn1, ei]), (by rw [hd1, ei]), rfl⟩ dX8_read_95
    · refine lv_iload_n hx hb dX8_read_8 rfl (lv_at hl 0 rfl) ?_
      refine lv_istore_n (lv' := [(3, .int (zI i)), (2, .int (zI i)), (0, .ref (α 4)), (1, .ref (α 1))]) hx hb dX8_read_9 rfl hl (by decide) rfl (fun ls hl => ?_)
      refine lv_iconst (v := zI 0) hx hb dX8_read_10 rfl ?_
      refine lv_istore (lv' := [(4, .int (zI 0)), (3, .int (zI i)), (2, .int (zI i)), (0, .ref (α 4)), (1, .ref (α 1))]) hx hb dX8_read_11 hl (by decide) rfl (fun ls hl => ?_)
      suffices HL_13 : ∀ (n_13 : Nat), ∀ (w : Int) (j : Int) (H : Heap) (locs : List Loc) (hP : va_P D vwCl (wH α γ (h, old, ch) rg ln (n1, d1, qu) pd ct sg od hs) H) (hD : va_D A (wH α γ (h, old, ch) rg ln (n1, d1, qu) pd ct sg od hs)) (hS : va_S A s.heap H locs) (ls : Array Slot) (hl : lv_has ls 6 [(3, .int (zI w)), (4, .int (zI j)), (2, .int (zI i)), (0, .ref (α 4)), (1, .ref (α 1))]) (hj : 0 ≤ j ∧ j ≤ 4) (hw : w = S_lowI h i j) (hwb : 0 ≤ w ∧ w < 49) (hm : (4 - j).toNat < n_13), W pg l e rm_X8_read s m args below meth c H locs 0 0 Q (F0 m 13 ls []) from HL_13 _ i 0 _ _ hP hD hS _ (lv_sub hl [1, 0, 2, 3, 4] rfl) (by first | assumption | rfl | omega) (by exact (S_lowI_0 _ _).symm) (by first | assumption | rfl | omega) (Nat.lt_succ_self _)
      intro n_13
      induction n_13 with
      | zero => intro w j H locs hP hD hS ls hl hj hw hwb hm; exact absurd hm (Nat.not_lt_zero _)
      | succ n_13 ih_13 =>
        intro w j H locs hP hD hS ls hl hj hw hwb hm
        refine lv_iload hx hb dX8_read_13 (lv_at hl 1 rfl) ?_
        refine lv_iconst (v := zI 4) hx hb dX8_read_15 rfl ?_
        refine z_icge (tgt := 56) hx hb ⟨by omega, by omega⟩ ⟨by omega, by omega⟩ dX8_read_16 (by decide) (fun c_16 => ?_) (fun c_16 => ?_)
        · have ew : w = S_lowI h i 4 := by rw [hw, show j = 4 by omega]
          refine lv_aload_n hx hb dX8_read_56 rfl (lv_at hl 3 rfl) ?_
          refine va_get (D := D) (ci := 8) (v := .ref (α 21)) (C := RX8) (T := TX8) (N := 3) hx hb hts (fun w h => List.mem_cons_of_mem _ (wx_X8 w h)) hown hK hP 4 rfl rfl 0 (by decide) (hW0 _ wf_X8_9) (fun _ h9 => h9) rfl dX8_read_57 ?_
          refine lv_iload_n hx hb dX8_read_60 rfl (lv_at hl 2 rfl) ?_
          refine lv_iload_n hx hb dX8_read_61 rfl (lv_at hl 0 rfl) ?_
          refine lv_iload_n hx hb dX8_read_62 rfl (lv_at hl 2 rfl) ?_
          refine z_icne (tgt := 70) hx hb ⟨by omega, by omega⟩ ⟨by omega, by omega⟩ dX8_read_63 (by decide) (fun c_63 => ?_) (fun c_63 => ?_)
          · refine lv_iload_n hx hb dX8_read_70 rfl (lv_at hl 0 rfl) ?_
            refine z_iast (f := n1) (v := w) hx hb hK hP hD hS 21 11 rfl rfl ⟨⟨by omega, by omega⟩, by decide⟩ dX8_read_71 (fun H locs hP hD hS => ?_)
            have hP : va_P D vwCl (wH α γ (h, old, ch) rg ln (zu n1 i w, d1, qu) pd ct sg od hs) H := hP
            have hD : va_D A (wH α γ (h, old, ch) rg ln (zu n1 i w, d1, qu) pd ct sg od hs) := hD
            refine lv_aload_n hx hb dX8_read_72 rfl (lv_at hl 3 rfl) ?_
            refine va_get (D := D) (ci := 8) (v := .ref (α 22)) (C := RX8) (T := TX8) (N := 3) hx hb hts (fun w h => List.mem_cons_of_mem _ (wx_X8 w h)) hown hK hP 4 rfl rfl 1 (by decide) (hW0 _ wf_X8_15) (fun _ h9 => h9) rfl dX8_read_73 ?_
            refine lv_iload_n hx hb dX8_read_76 rfl (lv_at hl 2 rfl) ?_
            refine lv_aload_n hx hb dX8_read_77 rfl (lv_at hl 4 rfl) ?_
            refine lv_iload_n hx hb dX8_read_78 rfl (lv_at hl 2 rfl) ?_
            refine z_calli hP hD hS hA (va_runV (As := [.int (zI i)]) (rest := [.int (zI i), .ref (α 22)]) hC (c_X6_at l D τ α γ h old ch rg ln (zu n1 i w, d1, qu) pd ct sg od hs i (by first | assumption | rfl | omega) (by first | assumption | rfl | omega) _) (cwV 1 hts (gV hB wl_X8_25 wn_X6_at ws_X6_at wi_X6 wc_X6_at) rfl rfl rfl hd_X6_at ⟨Nat.le_of_ble_eq_true rfl, Nat.le_of_ble_eq_true rfl⟩) (zp_V hK hP hD hS hA hG (ci := 6) (q0 := 1) rfl rfl rfl) rfl rfl hl.1 rfl (lv_room (Nat.le_of_ble_eq_true rfl)) dX8_read_79 ⟨Nat.le_of_ble_eq_true rfl, Nat.le_of_ble_eq_true rfl⟩) (fun r w1 H locs hq9 hP hD hS => ?_)
            obtain ⟨v79_1, hv79_0, hv79_1, hv79_2, rfl, rfl⟩ := hq9
            have hP : va_P D vwCl (wH α γ (h, old, ch) rg ln (zu n1 i w, d1, qu) pd ct sg od hs) H := hP
            have hD : va_D A (wH α γ (h, old, ch) rg ln (zu n1 i w, d1, qu) pd ct sg od hs) := hD
            refine lv_aload_n hx hb dX8_read_82 rfl (lv_at hl 4 rfl) ?_
            refine lv_iload_n hx hb dX8_read_83 rfl (lv_at hl 0 rfl) ?_
            refine z_calli hP hD hS hA (va_runV (As := [.int (zI w)]) (rest := [.int (zI v79_1), .int (zI i), .ref (α 22)]) hC (c_X6_at l D τ α γ h old ch rg ln (zu n1 i w, d1, qu) pd ct sg od hs w (by first | assumption | rfl | omega) (by first | assumption | rfl | omega) _) (cwV 1 hts (gV hB wl_X8_25 wn_X6_at ws_X6_at wi_X6 wc_X6_at) rfl rfl rfl hd_X6_at ⟨Nat.le_of_ble_eq_true rfl, Nat.le_of_ble_eq_true rfl⟩) (zp_V hK hP hD hS hA hG (ci := 6) (q0 := 1) rfl rfl rfl) rfl rfl hl.1 rfl (lv_room (Nat.le_of_ble_eq_true rfl)) dX8_read_84 ⟨Nat.le_of_ble_eq_true rfl, Nat.le_of_ble_eq_true rfl⟩) (fun r w1 H locs hq9 hP hD hS => ?_)
            obtain ⟨v84_2, hv84_0, hv84_1, hv84_2, rfl, rfl⟩ := hq9
            have hP : va_P D vwCl (wH α γ (h, old, ch) rg ln (zu n1 i w, d1, qu) pd ct sg od hs) H := hP
            have hD : va_D A (wH α γ (h, old, ch) rg ln (zu n1 i w, d1, qu) pd ct sg od hs) := hD
            refine z_isub hx hb dX8_read_87 ?_
            refine z_iast (f := d1) (v := v79_1 - v84_2) hx hb hK hP hD hS 22 12 rfl rfl ⟨⟨by omega, by omega⟩, by decide⟩ dX8_read_88 (fun H locs hP hD hS => ?_)
            have hP : va_P D vwCl (wH α γ (h, old, ch) rg ln (zu n1 i w, zu d1 i (v79_1 - v84_2), qu) pd ct sg od hs) H := hP
            have hD : va_D A (wH α γ (h, old, ch) rg ln (zu n1 i w, zu d1 i (v79_1 - v84_2), qu) pd ct sg od hs) := hD
            refine z_iinc (k := 2) (v := i + 1) (lv' := [(2, .int (zI (i + 1))), (3, .int (zI w)), (4, .int (zI j)), (0, .ref (α 4)), (1, .ref (α 1))]) hx hb dX8_read_89 hl rfl rfl (by decide) rfl (fun ls hl => ?_)
            refine lv_goto (tgt := 2) hx hb dX8_read_92 (by decide) ?_
            exact ih_2 (zu n1 i w) (zu d1 i (v79_1 - v84_2)) (i + 1) _ _ hP hD hS _ (lv_sub hl [0, 3, 4] rfl) (by first | assumption | rfl | omega) (by rw [hn1]; exact zmix_up hi.1 (by unfold S_next S_low; rw [← ew]; first | (rw [if_pos (by omega)]; done) | (rw [if_neg (by omega)]; done))) (by rw [hd1]; refine zmix_up hi.1 ?_; unfold S_drop S_low; rw [← ew]; have e1 := hv79_2 (by omega); have e2 := hv84_2 (by omega); omega) (by omega)
          · refine lv_iconst (v := zI (-1)) hx hb dX8_read_66 rfl ?_
            refine lv_goto (tgt := 71) hx hb dX8_read_67 (by decide) ?_
            refine z_iast (f := n1) (v := (-1)) hx hb hK hP hD hS 21 11 rfl rfl ⟨⟨by omega, by omega⟩, by decide⟩ dX8_read_71 (fun H locs hP hD hS => ?_)
            have hP : va_P D vwCl (wH α γ (h, old, ch) rg ln (zu n1 i (-1), d1, qu) pd ct sg od hs) H := hP
            have hD : va_D A (wH α γ (h, old, ch) rg ln (zu n1 i (-1), d1, qu) pd ct sg od hs) := hD
            refine lv_aload_n hx hb dX8_read_72 rfl (lv_at hl 3 rfl) ?_
            refine va_get (D := D) (ci := 8) (v := .ref (α 22)) (C := RX8) (T := TX8) (N := 3) hx hb hts (fun w h => List.mem_cons_of_mem _ (wx_X8 w h)) hown hK hP 4 rfl rfl 1 (by decide) (hW0 _ wf_X8_15) (fun _ h9 => h9) rfl dX8_read_73 ?_
            refine lv_iload_n hx hb dX8_read_76 rfl (lv_at hl 2 rfl) ?_
            refine lv_aload_n hx hb dX8_read_77 rfl (lv_at hl 4 rfl) ?_
            refine lv_iload_n hx hb dX8_read_78 rfl (lv_at hl 2 rfl) ?_
            refine z_calli hP hD hS hA (va_runV (As := [.int (zI i)]) (rest := [.int (zI i), .ref (α 22)]) hC (c_X6_at l D τ α γ h old ch rg ln (zu n1 i (-1), d1, qu) pd ct sg od hs i (by first | assumption | rfl | omega) (by first | assumption | rfl | omega) _) (cwV 1 hts (gV hB wl_X8_25 wn_X6_at ws_X6_at wi_X6 wc_X6_at) rfl rfl rfl hd_X6_at ⟨Nat.le_of_ble_eq_true rfl, Nat.le_of_ble_eq_true rfl⟩) (zp_V hK hP hD hS hA hG (ci := 6) (q0 := 1) rfl rfl rfl) rfl rfl hl.1 rfl (lv_room (Nat.le_of_ble_eq_true rfl)) dX8_read_79 ⟨Nat.le_of_ble_eq_true rfl, Nat.le_of_ble_eq_true rfl⟩) (fun r w1 H locs hq9 hP hD hS => ?_)
            obtain ⟨v79_3, hv79_0, hv79_1, hv79_2, rfl, rfl⟩ := hq9
            have hP : va_P D vwCl (wH α γ (h, old, ch) rg ln (zu n1 i (-1), d1, qu) pd ct sg od hs) H := hP
            have hD : va_D A (wH α γ (h, old, ch) rg ln (zu n1 i (-1), d1, qu) pd ct sg od hs) := hD
            refine lv_aload_n hx hb dX8_read_82 rfl (lv_at hl 4 rfl) ?_
            refine lv_iload_n hx hb dX8_read_83 rfl (lv_at hl 0 rfl) ?_
            refine z_calli hP hD hS hA (va_runV (As := [.int (zI w)]) (rest := [.int (zI v79_3), .int (zI i), .ref (α 22)]) hC (c_X6_at l D τ α γ h old ch rg ln (zu n1 i (-1), d1, qu) pd ct sg od hs w (by first | assumption | rfl | omega) (by first | assumption | rfl | omega) _) (cwV 1 hts (gV hB wl_X8_25 wn_X6_at ws_X6_at wi_X6 wc_X6_at) rfl rfl rfl hd_X6_at ⟨Nat.le_of_ble_eq_true rfl, Nat.le_of_ble_eq_true rfl⟩) (zp_V hK hP hD hS hA hG (ci := 6) (q0 := 1) rfl rfl rfl) rfl rfl hl.1 rfl (lv_room (Nat.le_of_ble_eq_true rfl)) dX8_read_84 ⟨Nat.le_of_ble_eq_true rfl, Nat.le_of_ble_eq_true rfl⟩) (fun r w1 H locs hq9 hP hD hS => ?_)
            obtain ⟨v84_4, hv84_0, hv84_1, hv84_2, rfl, rfl⟩ := hq9
            have hP : va_P D vwCl (wH α γ (h, old, ch) rg ln (zu n1 i (-1), d1, qu) pd ct sg od hs) H := hP
            have hD : va_D A (wH α γ (h, old, ch) rg ln (zu n1 i (-1), d1, qu) pd ct sg od hs) := hD
            refine z_isub hx hb dX8_read_87 ?_
            refine z_iast (f := d1) (v := v79_3 - v84_4) hx hb hK hP hD hS 22 12 rfl rfl ⟨⟨by omega, by omega⟩, by decide⟩ dX8_read_88 (fun H locs hP hD hS => ?_)
            have hP : va_P D vwCl (wH α γ (h, old, ch) rg ln (zu n1 i (-1), zu d1 i (v79_3 - v84_4), qu) pd ct sg od hs) H := hP
            have hD : va_D A (wH α γ (h, old, ch) rg ln (zu n1 i (-1), zu d1 i (v79_3 - v84_4), qu) pd ct sg od hs) := hD
            refine z_iinc (k := 2) (v := i + 1) (lv' := [(2, .int (zI (i + 1))), (3, .int (zI w)), (4, .int (zI j)), (0, .ref (α 4)), (1, .ref (α 1))]) hx hb dX8_read_89 hl rfl rfl (by decide) rfl (fun ls hl => ?_)
            refine lv_goto (tgt := 2) hx hb dX8_read_92 (by decide) ?_
            exact ih_2 (zu n1 i (-1)) (zu d1 i (v79_3 - v84_4)) (i + 1) _ _ hP hD hS _ (lv_sub hl [0, 3, 4] rfl) (by first | assumption | rfl | omega) (by rw [hn1]; exact zmix_up hi.1 (by unfold S_next S_low; rw [← ew]; first | (rw [if_pos (by omega)]; done) | (rw [if_neg (by omega)]; done))) (by rw [hd1]; refine zmix_up hi.1 ?_; unfold S_drop S_low; rw [← ew]; have e1 := hv79_2 (by omega); have e2 := hv84_2 (by omega); omega) (by omega)
        · refine lv_iload_n hx hb dX8_read_19 rfl (lv_at hl 2 rfl) ?_
          refine lv_iload hx hb dX8_read_20 (lv_at hl 1 rfl) ?_
          refine z_calli hP hD hS hA (va_runSN (As := [.int (zI i), .int (zI j)]) (rest := []) hC (c_X9_stepFrom l D τ _ _ i j (by first | assumption | rfl | omega) (by first | assumption | rfl | omega) _) ⟨va_cnB 2 hts (gC hB wc_X9_stepFrom) rfl rfl rfl (hG.2.2.2.2.2.2.2 _ (List.mem_of_getElem? (i := 13) rfl)) (hW0 _ wi_X9) hd_X9_stepFrom.2 ⟨Nat.le_of_ble_eq_true rfl, Nat.le_of_ble_eq_true rfl⟩, (hW0 _ wt_X9_stepFrom), trivial⟩ (zp_S hK hP hD hS hA hG) rfl rfl hl.1 rfl (lv_room (Nat.le_of_ble_eq_true rfl)) dX8_read_22 ⟨Nat.le_of_ble_eq_true rfl, Nat.le_of_ble_eq_true rfl⟩) (fun r w1 H locs hq9 hP hD hS => ?_)
          obtain ⟨v22_5, hv22_0, hv22_1, rfl, rfl⟩ := hq9
          refine lv_istore (lv' := [(5, .int (zI v22_5)), (3, .int (zI w)), (4, .int (zI j)), (2, .int (zI i)), (0, .ref (α 4)), (1, .ref (α 1))]) hx hb dX8_read_25 hl (by decide) rfl (fun ls hl => ?_)
          refine lv_iload hx hb dX8_read_27 (lv_at hl 0 rfl) ?_
          refine lv_iconst (v := zI (-1)) hx hb dX8_read_29 rfl ?_
          refine z_iceq (tgt := 50) hx hb ⟨by omega, by omega⟩ ⟨by omega, by omega⟩ dX8_read_30 (by decide) (fun c_30 => ?_) (fun c_30 => ?_)
          · refine z_iinc (k := 2) (v := j + 1) (lv' := [(4, .int (zI (j + 1))), (5, .int (zI v22_5)), (3, .int (zI w)), (2, .int (zI i)), (0, .ref (α 4)), (1, .ref (α 1))]) hx hb dX8_read_50 hl rfl rfl (by decide) rfl (fun ls hl => ?_)
            refine lv_goto (tgt := 13) hx hb dX8_read_53 (by decide) ?_
            exact ih_13 w (j + 1) _ _ hP hD hS _ (lv_sub hl [2, 0, 3, 4, 5] rfl) (by first | assumption | rfl | omega) (by rw [S_lowI_up hj.1, ← hw]; unfold lowStep; rw [← hv22_0]; first | (rw [if_pos (by omega)]; done) | (rw [if_neg (by omega), if_pos (by omega)]; done) | (rw [if_neg (by omega), if_neg (by omega)]; done)) (by first | assumption | rfl | omega) (by omega)
          · refine lv_aload_n hx hb dX8_read_33 rfl (lv_at hl 5 rfl) ?_
            refine lv_iload hx hb dX8_read_34 (lv_at hl 0 rfl) ?_
            refine z_calli hP hD hS hA (va_runV (As := [.int (zI v22_5)]) (rest := []) hC (c_X6_at l D τ α γ h old ch rg ln (n1, d1, qu) pd ct sg od hs v22_5 (by first | assumption | rfl | omega) (by first | assumption | rfl | omega) _) (cwV 1 hts (gV hB wl_X8_25 wn_X6_at ws_X6_at wi_X6 wc_X6_at) rfl rfl rfl hd_X6_at ⟨Nat.le_of_ble_eq_true rfl, Nat.le_of_ble_eq_true rfl⟩) (zp_V hK hP hD hS hA hG (ci := 6) (q0 := 1) rfl rfl rfl) rfl rfl hl.1 rfl (lv_room (Nat.le_of_ble_eq_true rfl)) dX8_read_36 ⟨Nat.le_of_ble_eq_true rfl, Nat.le_of_ble_eq_true rfl⟩) (fun r w1 H locs hq9 hP hD hS => ?_)
            obtain ⟨v36_6, hv36_0, hv36_1, hv36_2, rfl, rfl⟩ := hq9
            have hP : va_P D vwCl (wH α γ (h, old, ch) rg ln (n1, d1, qu) pd ct sg od hs) H := hP
            have hD : va_D A (wH α γ (h, old, ch) rg ln (n1, d1, qu) pd ct sg od hs) := hD
            refine lv_aload_n hx hb dX8_read_39 rfl (lv_at hl 5 rfl) ?_
            refine lv_iload_n hx hb dX8_read_40 rfl (lv_at hl 1 rfl) ?_
            refine z_calli hP hD hS hA (va_runV (As := [.int (zI w)]) (rest := [.int (zI v36_6)]) hC (c_X6_at l D τ α γ h old ch rg ln (n1, d1, qu) pd ct sg od hs w (by first | assumption | rfl | omega) (by first | assumption | rfl | omega) _) (cwV 1 hts (gV hB wl_X8_25 wn_X6_at ws_X6_at wi_X6 wc_X6_at) rfl rfl rfl hd_X6_at ⟨Nat.le_of_ble_eq_true rfl, Nat.le_of_ble_eq_true rfl⟩) (zp_V hK hP hD hS hA hG (ci := 6) (q0 := 1) rfl rfl rfl) rfl rfl hl.1 rfl (lv_room (Nat.le_of_ble_eq_true rfl)) dX8_read_41 ⟨Nat.le_of_ble_eq_true rfl, Nat.le_of_ble_eq_true rfl⟩) (fun r w1 H locs hq9 hP hD hS => ?_)
            obtain ⟨v41_7, hv41_0, hv41_1, hv41_2, rfl, rfl⟩ := hq9
            have hP : va_P D vwCl (wH α γ (h, old, ch) rg ln (n1, d1, qu) pd ct sg od hs) H := hP
            have hD : va_D A (wH α γ (h, old, ch) rg ln (n1, d1, qu) pd ct sg od hs) := hD
            have e36 := hv36_2 (by omega)
            have e41 := hv41_2 (by omega)
            refine z_icge (tgt := 50) hx hb ⟨by omega, by omega⟩ ⟨by omega, by omega⟩ dX8_read_44 (by decide) (fun c_44 => ?_) (fun c_44 => ?_)
            · refine z_iinc (k := 2) (v := j + 1) (lv' := [(4, .int (zI (j + 1))), (5, .int (zI v22_5)), (3, .int (zI w)), (2, .int (zI i)), (0, .ref (α 4)), (1, .ref (α 1))]) hx hb dX8_read_50 hl rfl rfl (by decide) rfl (fun ls hl => ?_)
              refine lv_goto (tgt := 13) hx hb dX8_read_53 (by decide) ?_
              exact ih_13 w (j + 1) _ _ hP hD hS _ (lv_sub hl [2, 0, 3, 4, 5] rfl) (by first | assumption | rfl | omega) (by rw [S_lowI_up hj.1, ← hw]; unfold lowStep; rw [← hv22_0]; first | (rw [if_pos (by omega)]; done) | (rw [if_neg (by omega), if_pos (by omega)]; done) | (rw [if_neg (by omega), if_neg (by omega)]; done)) (by first | assumption | rfl | omega) (by omega)
            · refine lv_iload hx hb dX8_read_47 (lv_at hl 0 rfl) ?_
              refine lv_istore_n (lv' := [(3, .int (zI v22_5)), (5, .int (zI v22_5)), (4, .int (zI j)), (2, .int (zI i)), (0, .ref (α 4)), (1, .ref (α 1))]) hx hb dX8_read_49 rfl hl (by decide) rfl (fun ls hl => ?_)
              refine z_iinc (k := 2) (v := j + 1) (lv' := [(4, .int (zI (j + 1))), (3, .int (zI v22_5)), (5, .int (zI v22_5)), (2, .int (zI i)), (0, .ref (α 4)), (1, .ref (α 1))]) hx hb dX8_read_50 hl rfl rfl (by decide) rfl (fun ls hl => ?_)
              refine lv_goto (tgt := 13) hx hb dX8_read_53 (by decide) ?_
              exact ih_13 v22_5 (j + 1) _ _ hP hD hS _ (lv_sub hl [1, 0, 3, 4, 5] rfl) (by first | assumption | rfl | omega) (by rw [S_lowI_up hj.1, ← hw]; unfold lowStep; rw [← hv22_0]; first | (rw [if_pos (by omega)]; done) | (rw [if_neg (by omega), if_pos (by omega)]; done) | (rw [if_neg (by omega), if_neg (by omega)]; done)) (by first | assumption | rfl | omega) (by omega)

abbrev wz_X8_next : List Cond := .code yX8_next cX8_next 2 (some .int) :: W0
abbrev rm_X8_next : Room := { frames := 1, cells := 0, slots := 0, locals := 20 }
theorem hd_X8_next : yX8_next.cls = RX8 ∧ yX8_next.cls ≠ "java/lang/invoke/MethodHandle" ∧ yX8_next.cls ≠ "java/lang/invoke/VarHandle" ∧ (parseMethodDescriptor yX8_next.desc).map (fun d => d.parameters.length) = some 1 := by decide +kernel
set_option maxHeartbeats 4000000 in
set_option maxRecDepth 100000 in
theorem c_X8_next (l : Launch) (D : va_G) (τ : Nat → Nat) (α : Nat → Nat) (γ : Nat → ClassId) (rl : TRl) (rg : TRg) (ln : TLn) (nx : IA) (dr : IA) (qu : IA) (pd : TPd) (ct : TCt) (sg : TSg) (od : TOd) (hs : THs) (h : IA) (a : Int) (ha : -2147483648 ≤ a ∧ a < 2147483648) (hnx : ∀ k, 0 ≤ k → k < 49 → nx k = S_next h k) : cM l yX8_next wz_X8_next rm_X8_next D τ (tyH γ) [.ref (α 4), .int (zI a)] (wH α γ rl rg ln (nx, dr, qu) pd ct sg od hs) (zQi (fun r w => ∃ (v : Int), (0 ≤ a ∧ a < 49 → v = S_next h a) ∧ (¬ (0 ≤ a ∧ a < 49) → v = -1) ∧ (-1 ≤ v ∧ v < 49) ∧ r = zI v ∧ wH α γ rl rg ln (nx, dr, qu) pd ct sg od hs = w)) := by
  refine z_ofM (cc := cX8_next) (maxL := 2) (ret := (some .int)) (by decide +kernel) rfl (Nat.le_of_ble_eq_true rfl) ?_
  intro pg e s m args below meth c hC hr hlk hnm hK hP A hD hG hA hS ls hl Q hQ
  have hx := hC.1
  have hb := hC.2.1
  have hml := hC.2.2.1
  have hown := hC.2.2.2.1
  have hts := hC.2.2.2.2
  have hB : ∀ w ∈ W0, w ∈ wz_X8_next := fun _ h => List.mem_cons_of_mem _ h
  have hW0 : ∀ w ∈ W0, w.before args s = true := fun w h => hts w (hB w h)
  have hl : lv_has ls 2 [(0, .ref (α 4)), (1, .int (zI a))] := hl
  refine lv_iload_n hx hb dX8_next_0 rfl (lv_at hl 1 rfl) ?_
  refine z_calli hP hD hS hA (va_runSN (As := [.int (zI a)]) (rest := []) hC (c_X9_isPoint l D τ _ _ a (by first | assumption | rfl | omega) _) ⟨va_cnB 1 hts (gC hB wc_X9_isPoint) rfl rfl rfl (hG.2.2.2.2.2.2.2 _ (List.mem_of_getElem? (i := 14) rfl)) (hW0 _ wi_X9) hd_X9_isPoint.2 ⟨Nat.le_of_ble_eq_true rfl, Nat.le_of_ble_eq_true rfl⟩, (hW0 _ wt_X9_isPoint), trivial⟩ (zp_S hK hP hD hS hA hG) rfl rfl hl.1 rfl (lv_room (Nat.le_of_ble_eq_true rfl)) dX8_next_1 ⟨Nat.le_of_ble_eq_true rfl, Nat.le_of_ble_eq_true rfl⟩) (fun r w1 H locs hq9 hP hD hS => ?_)
  obtain ⟨v1_1, hv1_0, rfl, rfl⟩ := hq9
  refine z_ifeqB (tgt := 16) hx hb dX8_next_4 (by decide) (fun c_4 => ?_) (fun c_4 => ?_)
  · have hb_4 := zb_neg hv1_0 c_4
    refine lv_iconst (v := zI (-1)) hx hb dX8_next_16 rfl ?_
    exact z_iret hC hr hlk hQ hP hD hS ⟨(-1), (by intro h9; first | exact hnx a h9.1 h9.2 | exact absurd h9 hb_4), (by intro h9; first | rfl | exact absurd hb_4 h9), (by first | omega | (rw [hnx a (by omega) (by omega)]; exact S_next_b hb_4)), rfl, rfl⟩ dX8_next_17
  · have hb_4 := hv1_0.mp c_4
    refine lv_aload_n hx hb dX8_next_7 rfl (lv_at hl 0 rfl) ?_
    refine va_get (D := D) (ci := 8) (v := .ref (α 21)) (C := RX8) (T := TX8) (N := 3) hx hb hts (fun w h => List.mem_cons_of_mem _ (wx_X8 w h)) hown hK hP 4 rfl rfl 0 (by decide) (hW0 _ wf_X8_9) (fun _ h9 => h9) rfl dX8_next_8 ?_
    refine lv_iload_n hx hb dX8_next_11 rfl (lv_at hl 1 rfl) ?_
    refine z_iald (f := nx) hx hb hK hP 21 11 rfl rfl ⟨⟨by omega, by omega⟩, by decide⟩ dX8_next_12 ?_
    refine lv_goto (tgt := 17) hx hb dX8_next_13 (by decide) ?_
    exact z_iret hC hr hlk hQ hP hD hS ⟨nx a, (by intro h9; first | exact hnx a h9.1 h9.2 | exact absurd h9 hb_4), (by intro h9; first | rfl | exact absurd hb_4 h9), (by first | omega | (rw [hnx a (by omega) (by omega)]; exact S_next_b hb_4)), rfl, rfl⟩ dX8_next_17

abbrev wz_X8_isLowest : List Cond := .code yX8_isLowest cX8_isLowest 2 (some .boolean) :: W0
abbrev rm_X8_isLowest : Room := { frames := 2, cells := 0, slots := 0, locals := 41 }
theorem hd_X8_isLowest : yX8_isLowest.cls = RX8 ∧ yX8_isLowest.cls ≠ "java/lang/invoke/MethodHandle" ∧ yX8_isLowest.cls ≠ "java/lang/invoke/VarHandle" ∧ (parseMethodDescriptor yX8_isLowest.desc).map (fun d => d.parameters.length) = some 1 := by decide +kernel
set_option maxHeartbeats 4000000 in
set_option maxRecDepth 100000 in
theorem c_X8_isLowest (l : Launch) (D : va_G) (τ : Nat → Nat) (α : Nat → Nat) (γ : Nat → ClassId) (rl : TRl) (rg : TRg) (ln : TLn) (nx : IA) (dr : IA) (qu : IA) (pd : TPd) (ct : TCt) (sg : TSg) (od : TOd) (hs : THs) (h : IA) (a : Int) (ha : 0 ≤ a ∧ a < 49) (hnx : ∀ k, 0 ≤ k → k < 49 → nx k = S_next h k) : cM l yX8_isLowest wz_X8_isLowest rm_X8_isLowest D τ (tyH γ) [.ref (α 4), .int (zI a)] (wH α γ rl rg ln (nx, dr, qu) pd ct sg od hs) (zQi (fun r w => ∃ (v : Bool), (v = true ↔ S_next h a = -1) ∧ r = bI v ∧ wH α γ rl rg ln (nx, dr, qu) pd ct sg od hs = w)) := by
  refine z_ofM (cc := cX8_isLowest) (maxL := 2) (ret := (some .boolean)) (by decide +kernel) rfl (Nat.le_of_ble_eq_true rfl) ?_
  intro pg e s m args below meth c hC hr hlk hnm hK hP A hD hG hA hS ls hl Q hQ
  have hx := hC.1
  have hb := hC.2.1
  have hml := hC.2.2.1
  have hown := hC.2.2.2.1
  have hts := hC.2.2.2.2
  have hB : ∀ w ∈ W0, w ∈ wz_X8_isLowest := fun _ h => List.mem_cons_of_mem _ h
  have hW0 : ∀ w ∈ W0, w.before args s = true := fun w h => hts w (hB w h)
  have hl : lv_has ls 2 [(0, .ref (α 4)), (1, .int (zI a))] := hl
  refine lv_aload_n hx hb dX8_isLowest_0 rfl (lv_at hl 0 rfl) ?_
  refine lv_iload_n hx hb dX8_isLowest_1 rfl (lv_at hl 1 rfl) ?_
  refine z_calli hP hD hS hA (va_runV (As := [.int (zI a)]) (rest := []) hC (c_X8_next l D τ α γ rl rg ln nx dr qu pd ct sg od hs h a (by first | assumption | rfl | omega) (by first | assumption | rfl | omega) _) (cwV 1 hts (gV hB wl_X8_35 wn_X8_next ws_X8_next wi_X8 wc_X8_next) rfl rfl rfl hd_X8_next ⟨Nat.le_of_ble_eq_true rfl, Nat.le_of_ble_eq_true rfl⟩) (zp_V hK hP hD hS hA hG (ci := 8) (q0 := 4) rfl rfl rfl) rfl rfl hl.1 rfl (lv_room (Nat.le_of_ble_eq_true rfl)) dX8_isLowest_2 ⟨Nat.le_of_ble_eq_true rfl, Nat.le_of_ble_eq_true rfl⟩) (fun r w1 H locs hq9 hP hD hS => ?_)
  obtain ⟨v2_1, hv2_0, hv2_1, hv2_2, rfl, rfl⟩ := hq9
  have hP : va_P D vwCl (wH α γ rl rg ln (nx, dr, qu) pd ct sg od hs) H := hP
  have hD : va_D A (wH α γ rl rg ln (nx, dr, qu) pd ct sg od hs) := hD
  refine lv_iconst (v := zI (-1)) hx hb dX8_isLowest_5 rfl ?_
  have e2 := hv2_0 ha
  refine z_icne (tgt := 13) hx hb ⟨by omega, by omega⟩ ⟨by omega, by omega⟩ dX8_isLowest_6 (by decide) (fun c_6 => ?_) (fun c_6 => ?_)
  · refine lv_iconst (v := zI 0) hx hb dX8_isLowest_13 rfl ?_
    refine W.eq (g2 := F0 m 14 ls [.int (bI false)]) rfl ?_
    exact z_zret hC hr hlk hQ hP hD hS ⟨false, (by constructor <;> intro h9 <;> first | (cases h9; done) | rfl | omega | assumption), rfl, rfl⟩ dX8_isLowest_14
  · refine lv_iconst (v := zI 1) hx hb dX8_isLowest_9 rfl ?_
    refine lv_goto (tgt := 14) hx hb dX8_isLowest_10 (by decide) ?_
    refine W.eq (g2 := F0 m 14 ls [.int (bI true)]) rfl ?_
    exact z_zret hC hr hlk hQ hP hD hS ⟨true, (by constructor <;> intro h9 <;> first | (cases h9; done) | rfl | omega | assumption), rfl, rfl⟩ dX8_isLowest_14

abbrev wz_X8_drop : List Cond := .code yX8_drop cX8_drop 2 (some .int) :: W0
abbrev rm_X8_drop : Room := { frames := 1, cells := 0, slots := 0, locals := 20 }
theorem hd_X8_drop : yX8_drop.cls = RX8 ∧ yX8_drop.cls ≠ "java/lang/invoke/MethodHandle" ∧ yX8_drop.cls ≠ "java/lang/invoke/VarHandle" ∧ (parseMethodDescriptor yX8_drop.desc).map (fun d => d.parameters.length) = some 1 := by decide +kernel
set_option maxHeartbeats 4000000 in
set_option maxRecDepth 100000 in
theorem c_X8_drop (l : Launch) (D : va_G) (τ : Nat → Nat) (α : Nat → Nat) (γ : Nat → ClassId) (rl : TRl) (rg : TRg) (ln : TLn) (nx : IA) (dr : IA) (qu : IA) (pd : TPd) (ct : TCt) (sg : TSg) (od : TOd) (hs : THs) (h : IA) (a : Int) (ha : 0 ≤ a ∧ a < 49) (hh : ∀ k, 0 ≤ k → k < 49 → 0 ≤ h k ∧ h k ≤ 99) (hdr : ∀ k, 0 ≤ k → k < 49 → dr k = S_drop h k) : cM l yX8_drop wz_X8_drop rm_X8_drop D τ (tyH γ) [.ref (α 4), .int (zI a)] (wH α γ rl rg ln (nx, dr, qu) pd ct sg od hs) (zQi (fun r w => ∃ (v : Int), (v = S_drop h a) ∧ (0 ≤ v ∧ v ≤ 99) ∧ r = zI v ∧ wH α γ rl rg ln (nx, dr, qu) pd ct sg od hs = w)) := by
  refine z_ofM (cc := cX8_drop) (maxL := 2) (ret := (some .int)) (by decide +kernel) rfl (Nat.le_of_ble_eq_true rfl) ?_
  intro pg e s m args below meth c hC hr hlk hnm hK hP A hD hG hA hS ls hl Q hQ
  have hx := hC.1
  have hb := hC.2.1
  have hml := hC.2.2.1
  have hown := hC.2.2.2.1
  have hts := hC.2.2.2.2
  have hB : ∀ w ∈ W0, w ∈ wz_X8_drop := fun _ h => List.mem_cons_of_mem _ h
  have hW0 : ∀ w ∈ W0, w.before args s = true := fun w h => hts w (hB w h)
  have hl : lv_has ls 2 [(0, .ref (α 4)), (1, .int (zI a))] := hl
  refine lv_iload_n hx hb dX8_drop_0 rfl (lv_at hl 1 rfl) ?_
  refine z_calli hP hD hS hA (va_runSN (As := [.int (zI a)]) (rest := []) hC (c_X9_isPoint l D τ _ _ a (by first | assumption | rfl | omega) _) ⟨va_cnB 1 hts (gC hB wc_X9_isPoint) rfl rfl rfl (hG.2.2.2.2.2.2.2 _ (List.mem_of_getElem? (i := 14) rfl)) (hW0 _ wi_X9) hd_X9_isPoint.2 ⟨Nat.le_of_ble_eq_true rfl, Nat.le_of_ble_eq_true rfl⟩, (hW0 _ wt_X9_isPoint), trivial⟩ (zp_S hK hP hD hS hA hG) rfl rfl hl.1 rfl (lv_room (Nat.le_of_ble_eq_true rfl)) dX8_drop_1 ⟨Nat.le_of_ble_eq_true rfl, Nat.le_of_ble_eq_true rfl⟩) (fun r w1 H locs hq9 hP hD hS => ?_)
  obtain ⟨v1_1, hv1_0, rfl, rfl⟩ := hq9
  refine z_ifeqB (tgt := 16) hx hb dX8_drop_4 (by decide) (fun c_4 => ?_) (fun c_4 => ?_)
  · have hb_4 := zb_neg hv1_0 c_4
    exact absurd ha hb_4
  · have hb_4 := hv1_0.mp c_4
    refine lv_aload_n hx hb dX8_drop_7 rfl (lv_at hl 0 rfl) ?_
    refine va_get (D := D) (ci := 8) (v := .ref (α 22)) (C := RX8) (T := TX8) (N := 3) hx hb hts (fun w h => List.mem_cons_of_mem _ (wx_X8 w h)) hown hK hP 4 rfl rfl 1 (by decide) (hW0 _ wf_X8_15) (fun _ h9 => h9) rfl dX8_drop_8 ?_
    refine lv_iload_n hx hb dX8_drop_11 rfl (lv_at hl 1 rfl) ?_
    refine z_iald (f := dr) hx hb hK hP 22 12 rfl rfl ⟨⟨by omega, by omega⟩, by decide⟩ dX8_drop_12 ?_
    refine lv_goto (tgt := 17) hx hb dX8_drop_13 (by decide) ?_
    exact z_iret hC hr hlk hQ hP hD hS ⟨dr a, (by exact hdr a ha.1 ha.2), (by rw [hdr a ha.1 ha.2]; exact S_drop_b hh ha), rfl, rfl⟩ dX8_drop_17

abbrev wz_X8_end : List Cond := .code yX8_end cX8_end 4 (some .int) :: W0
abbrev rm_X8_end : Room := { frames := 3, cells := 0, slots := 0, locals := 62 }
theorem hd_X8_end : yX8_end.cls = RX8 ∧ yX8_end.cls ≠ "java/lang/invoke/MethodHandle" ∧ yX8_end.cls ≠ "java/lang/invoke/VarHandle" ∧ (parseMethodDescriptor yX8_end.desc).map (fun d => d.parameters.length) = some 1 := by decide +kernel
set_option maxHeartbeats 4000000 in
set_option maxRecDepth 100000 in
theorem c_X8_end (l : Launch) (D : va_G) (τ : Nat → Nat) (α : Nat → Nat) (γ : Nat → ClassId) (rl : TRl) (rg : TRg) (ln : TLn) (nx : IA) (dr : IA) (qu : IA) (pd : TPd) (ct : TCt) (sg : TSg) (od : TOd) (hs : THs) (h : IA) (a : Int) (ha : 0 ≤ a ∧ a < 49) (hnx : ∀ k, 0 ≤ k → k < 49 → nx k = S_next h k) : cM l yX8_end wz_X8_end rm_X8_end D τ (tyH γ) [.ref (α 4), .int (zI a)] (wH α γ rl rg ln (nx, dr, qu) pd ct sg od hs) (zQi (fun r w => ∃ (v : Int), (v = S_sink h a) ∧ (0 ≤ v ∧ v < 49) ∧ r = zI v ∧ wH α γ rl rg ln (nx, dr, qu) pd ct sg od hs = w)) := by
  refine z_ofM (cc := cX8_end) (maxL := 4) (ret := (some .int)) (by decide +kernel) rfl (Nat.le_of_ble_eq_true rfl) ?_
  intro pg e s m args below meth c hC hr hlk hnm hK hP A hD hG hA hS ls hl Q hQ
  have hx := hC.1
  have hb := hC.2.1
  have hml := hC.2.2.1
  have hown := hC.2.2.2.1
  have hts := hC.2.2.2.2
  have hB : ∀ w ∈ W0, w ∈ wz_X8_end := fun _ h => List.mem_cons_of_mem _ h
  have hW0 : ∀ w ∈ W0, w.before args s = true := fun w h => hts w (hB w h)
  have hl : lv_has ls 4 [(0, .ref (α 4)), (1, .int (zI a))] := hl
  refine lv_iload_n hx hb dX8_end_0 rfl (lv_at hl 1 rfl) ?_
  refine lv_istore_n (lv' := [(2, .int (zI a)), (0, .ref (α 4)), (1, .int (zI a))]) hx hb dX8_end_1 rfl hl (by decide) rfl (fun ls hl => ?_)
  refine lv_iconst (v := zI 0) hx hb dX8_end_2 rfl ?_
  refine lv_istore_n (lv' := [(3, .int (zI 0)), (2, .int (zI a)), (0, .ref (α 4)), (1, .int (zI a))]) hx hb dX8_end_3 rfl hl (by decide) rfl (fun ls hl => ?_)
  suffices HL_4 : ∀ (n_4 : Nat), ∀ (q : Int) (i : Int) (H : Heap) (locs : List Loc) (hP : va_P D vwCl (wH α γ rl rg ln (nx, dr, qu) pd ct sg od hs) H) (hD : va_D A (wH α γ rl rg ln (nx, dr, qu) pd ct sg od hs)) (hS : va_S A s.heap H locs) (ls : Array Slot) (hl : lv_has ls 4 [(2, .int (zI q)), (3, .int (zI i)), (0, .ref (α 4)), (1, .int (zI a))]) (hi : 0 ≤ i ∧ i ≤ 49) (hq : 0 ≤ q ∧ q < 49) (hsk : S_sinkN h (49 - i).toNat q = S_sink h a) (hm : (49 - i).toNat < n_4), W pg l e rm_X8_end s m args below meth c H locs 0 0 Q (F0 m 4 ls []) from HL_4 _ a 0 _ _ hP hD hS _ (lv_sub hl [1, 0, 2, 3] rfl) (by first | assumption | rfl | omega) (by first | assumption | rfl | omega) (by rfl) (Nat.lt_succ_self _)
  intro n_4
  induction n_4 with
  | zero => intro q i H locs hP hD hS ls hl hi hq hsk hm; exact absurd hm (Nat.not_lt_zero _)
  | succ n_4 ih_4 =>
    intro q i H locs hP hD hS ls hl hi hq hsk hm
    refine lv_iload_n hx hb dX8_end_4 rfl (lv_at hl 1 rfl) ?_
    refine lv_bipush (v := zI 49) hx hb dX8_end_5 (zI_b8 (by decide)) ?_
    refine z_icge (tgt := 30) hx hb ⟨by omega, by omega⟩ ⟨by omega, by omega⟩ dX8_end_7 (by decide) (fun c_7 => ?_) (fun c_7 => ?_)
    · refine lv_iload_n hx hb dX8_end_30 rfl (lv_at hl 0 rfl) ?_
      exact z_iret hC hr hlk hQ hP hD hS ⟨q, (by rw [← hsk]; first | (rw [S_sinkN_s hb_15]; done) | (rw [show (49 - i).toNat = 0 by omega]; rfl)), (by omega), rfl, rfl⟩ dX8_end_31
    · refine lv_aload_n hx hb dX8_end_10 rfl (lv_at hl 2 rfl) ?_
      refine lv_iload_n hx hb dX8_end_11 rfl (lv_at hl 0 rfl) ?_
      refine z_calli hP hD hS hA (va_runV (As := [.int (zI q)]) (rest := []) hC (c_X8_isLowest l D τ α γ rl rg ln nx dr qu pd ct sg od hs h q (by first | assumption | rfl | omega) (by first | assumption | rfl | omega) _) (cwV 1 hts (gV hB wl_X8_38 wn_X8_isLowest ws_X8_isLowest wi_X8 wc_X8_isLowest) rfl rfl rfl hd_X8_isLowest ⟨Nat.le_of_ble_eq_true rfl, Nat.le_of_ble_eq_true rfl⟩) (zp_V hK hP hD hS hA hG (ci := 8) (q0 := 4) rfl rfl rfl) rfl rfl hl.1 rfl (lv_room (Nat.le_of_ble_eq_true rfl)) dX8_end_12 ⟨Nat.le_of_ble_eq_true rfl, Nat.le_of_ble_eq_true rfl⟩) (fun r w1 H locs hq9 hP hD hS => ?_)
      obtain ⟨v12_1, hv12_0, rfl, rfl⟩ := hq9
      have hP : va_P D vwCl (wH α γ rl rg ln (nx, dr, qu) pd ct sg od hs) H := hP
      have hD : va_D A (wH α γ rl rg ln (nx, dr, qu) pd ct sg od hs) := hD
      refine z_ifneB (tgt := 30) hx hb dX8_end_15 (by decide) (fun c_15 => ?_) (fun c_15 => ?_)
      · have hb_15 := hv12_0.mp c_15
        refine lv_iload_n hx hb dX8_end_30 rfl (lv_at hl 0 rfl) ?_
        exact z_iret hC hr hlk hQ hP hD hS ⟨q, (by rw [← hsk]; first | (rw [S_sinkN_s hb_15]; done) | (rw [show (49 - i).toNat = 0 by omega]; rfl)), (by omega), rfl, rfl⟩ dX8_end_31
      · have hb_15 := zb_neg hv12_0 c_15
        refine lv_aload_n hx hb dX8_end_18 rfl (lv_at hl 2 rfl) ?_
        refine lv_iload_n hx hb dX8_end_19 rfl (lv_at hl 0 rfl) ?_
        refine z_calli hP hD hS hA (va_runV (As := [.int (zI q)]) (rest := []) hC (c_X8_next l D τ α γ rl rg ln nx dr qu pd ct sg od hs h q (by first | assumption | rfl | omega) (by first | assumption | rfl | omega) _) (cwV 1 hts (gV hB wl_X8_35 wn_X8_next ws_X8_next wi_X8 wc_X8_next) rfl rfl rfl hd_X8_next ⟨Nat.le_of_ble_eq_true rfl, Nat.le_of_ble_eq_true rfl⟩) (zp_V hK hP hD hS hA hG (ci := 8) (q0 := 4) rfl rfl rfl) rfl rfl hl.1 rfl (lv_room (Nat.le_of_ble_eq_true rfl)) dX8_end_20 ⟨Nat.le_of_ble_eq_true rfl, Nat.le_of_ble_eq_true rfl⟩) (fun r w1 H locs hq9 hP hD hS => ?_)
        obtain ⟨v20_2, hv20_0, hv20_1, hv20_2, rfl, rfl⟩ := hq9
        have hP : va_P D vwCl (wH α γ rl rg ln (nx, dr, qu) pd ct sg od hs) H := hP
        have hD : va_D A (wH α γ rl rg ln (nx, dr, qu) pd ct sg od hs) := hD
        refine lv_istore_n (lv' := [(2, .int (zI v20_2)), (3, .int (zI i)), (0, .ref (α 4)), (1, .int (zI a))]) hx hb dX8_end_23 rfl hl (by decide) rfl (fun ls hl => ?_)
        refine z_iinc (k := 1) (v := i + 1) (lv' := [(3, .int (zI (i + 1))), (2, .int (zI v20_2)), (0, .ref (α 4)), (1, .int (zI a))]) hx hb dX8_end_24 hl rfl rfl (by decide) rfl (fun ls hl => ?_)
        refine lv_goto (tgt := 4) hx hb dX8_end_27 (by decide) ?_
        exact ih_4 v20_2 (i + 1) _ _ hP hD hS _ (lv_sub hl [1, 0, 2, 3] rfl) (by first | assumption | rfl | omega) (by have e20 := hv20_0 hq; have b20 := S_next_b (h := h) hq; omega) (by rw [← hsk, show (49 - i).toNat = (49 - (i + 1)).toNat + 1 by omega, S_sinkN_t hb_15, hv20_0 hq]) (by omega)

abbrev wz_X8_steps : List Cond := .code yX8_steps cX8_steps 5 (some .int) :: W0
abbrev rm_X8_steps : Room := { frames := 3, cells := 0, slots := 0, locals := 62 }
theorem hd_X8_steps : yX8_steps.cls = RX8 ∧ yX8_steps.cls ≠ "java/lang/invoke/MethodHandle" ∧ yX8_steps.cls ≠ "java/lang/invoke/VarHandle" ∧ (parseMethodDescriptor yX8_steps.desc).map (fun d => d.parameters.length) = some 1 := by decide +kernel
set_option maxHeartbeats 4000000 in
set_option maxRecDepth 100000 in
theorem c_X8_steps (l : Launch) (D : va_G) (τ : Nat → Nat) (α : Nat → Nat) (γ : Nat → ClassId) (rl : TRl) (rg : TRg) (ln : TLn) (nx : IA) (dr : IA) (qu : IA) (pd : TPd) (ct : TCt) (sg : TSg) (od : TOd) (hs : THs) (h : IA) (a : Int) (ha : 0 ≤ a ∧ a < 49) (hnx : ∀ k, 0 ≤ k → k < 49 → nx k = S_next h k) : cM l yX8_steps wz_X8_steps rm_X8_steps D τ (tyH γ) [.ref (α 4), .int (zI a)] (wH α γ rl rg ln (nx, dr, qu) pd ct sg od hs) (zQi (fun r w => ∃ (v : Int), (v = S_steps h a) ∧ (0 ≤ v ∧ v ≤ 49) ∧ r = zI v ∧ wH α γ rl rg ln (nx, dr, qu) pd ct sg od hs = w)) := by
  refine z_ofM (cc := cX8_steps) (maxL := 5) (ret := (some .int)) (by decide +kernel) rfl (Nat.le_of_ble_eq_true rfl) ?_
  intro pg e s m args below meth c hC hr hlk hnm hK hP A hD hG hA hS ls hl Q hQ
  have hx := hC.1
  have hb := hC.2.1
  have hml := hC.2.2.1
  have hown := hC.2.2.2.1
  have hts := hC.2.2.2.2
  have hB : ∀ w ∈ W0, w ∈ wz_X8_steps := fun _ h => List.mem_cons_of_mem _ h
  have hW0 : ∀ w ∈ W0, w.before args s = true := fun w h => hts w (hB w h)
  have hl : lv_has ls 5 [(0, .ref (α 4)), (1, .int (zI a))] := hl
  refine lv_iload_n hx hb dX8_steps_0 rfl (lv_at hl 1 rfl) ?_
  refine lv_istore_n (lv' := [(2, .int (zI a)), (0, .ref (α 4)), (1, .int (zI a))]) hx hb dX8_steps_1 rfl hl (by decide) rfl (fun ls hl => ?_)
  refine lv_iconst (v := zI 0) hx hb dX8_steps_2 rfl ?_
  refine lv_istore_n (lv' := [(3, .int (zI 0)), (2, .int (zI a)), (0, .ref (α 4)), (1, .int (zI a))]) hx hb dX8_steps_3 rfl hl (by decide) rfl (fun ls hl => ?_)
  refine lv_iconst (v := zI 0) hx hb dX8_steps_4 rfl ?_
  refine lv_istore (lv' := [(4, .int (zI 0)), (3, .int (zI 0)), (2, .int (zI a)), (0, .ref (α 4)), (1, .int (zI a))]) hx hb dX8_steps_5 hl (by decide) rfl (fun ls hl => ?_)
  suffices HL_7 : ∀ (n_7 : Nat), ∀ (q : Int) (n : Int) (i : Int) (H : Heap) (locs : List Loc) (hP : va_P D vwCl (wH α γ rl rg ln (nx, dr, qu) pd ct sg od hs) H) (hD : va_D A (wH α γ rl rg ln (nx, dr, qu) pd ct sg od hs)) (hS : va_S A s.heap H locs) (ls : Array Slot) (hl : lv_has ls 5 [(2, .int (zI q)), (3, .int (zI n)), (4, .int (zI i)), (0, .ref (α 4)), (1, .int (zI a))]) (hi : 0 ≤ i ∧ i ≤ 49) (hq : 0 ≤ q ∧ q < 49) (hsk : n + S_stepsN h (49 - i).toNat q = S_steps h a) (hn : 0 ≤ n ∧ n ≤ i) (hm : (49 - i).toNat < n_7), W pg l e rm_X8_steps s m args below meth c H locs 0 0 Q (F0 m 7 ls []) from HL_7 _ a 0 0 _ _ hP hD hS _ (lv_sub hl [2, 1, 0, 3, 4] rfl) (by first | assumption | rfl | omega) (by first | assumption | rfl | omega) (by rw [Int.zero_add]; rfl) (by first | assumption | rfl | omega) (Nat.lt_succ_self _)
  intro n_7
  induction n_7 with
  | zero => intro q n i H locs hP hD hS ls hl hi hq hsk hn hm; exact absurd hm (Nat.not_lt_zero _)
  | succ n_7 ih_7 =>
    intro q n i H locs hP hD hS ls hl hi hq hsk hn hm
    refine lv_iload hx hb dX8_steps_7 (lv_at hl 2 rfl) ?_
    refine lv_bipush (v := zI 49) hx hb dX8_steps_9 (zI_b8 (by decide)) ?_
    refine z_icge (tgt := 37) hx hb ⟨by omega, by omega⟩ ⟨by omega, by omega⟩ dX8_steps_11 (by decide) (fun c_11 => ?_) (fun c_11 => ?_)
    · refine lv_iload_n hx hb dX8_steps_37 rfl (lv_at hl 1 rfl) ?_
      exact z_iret hC hr hlk hQ hP hD hS ⟨n, (by rw [← hsk]; first | (rw [S_stepsN_s hb_19]; omega) | (rw [show (49 - i).toNat = 0 by omega]; exact (Int.add_zero _).symm)), (by omega), rfl, rfl⟩ dX8_steps_38
    · refine lv_aload_n hx hb dX8_steps_14 rfl (lv_at hl 3 rfl) ?_
      refine lv_iload_n hx hb dX8_steps_15 rfl (lv_at hl 0 rfl) ?_
      refine z_calli hP hD hS hA (va_runV (As := [.int (zI q)]) (rest := []) hC (c_X8_isLowest l D τ α γ rl rg ln nx dr qu pd ct sg od hs h q (by first | assumption | rfl | omega) (by first | assumption | rfl | omega) _) (cwV 1 hts (gV hB wl_X8_38 wn_X8_isLowest ws_X8_isLowest wi_X8 wc_X8_isLowest) rfl rfl rfl hd_X8_isLowest ⟨Nat.le_of_ble_eq_true rfl, Nat.le_of_ble_eq_true rfl⟩) (zp_V hK hP hD hS hA hG (ci := 8) (q0 := 4) rfl rfl rfl) rfl rfl hl.1 rfl (lv_room (Nat.le_of_ble_eq_true rfl)) dX8_steps_16 ⟨Nat.le_of_ble_eq_true rfl, Nat.le_of_ble_eq_true rfl⟩) (fun r w1 H locs hq9 hP hD hS => ?_)
      obtain ⟨v16_1, hv16_0, rfl, rfl⟩ := hq9
      have hP : va_P D vwCl (wH α γ rl rg ln (nx, dr, qu) pd ct sg od hs) H := hP
      have hD : va_D A (wH α γ rl rg ln (nx, dr, qu) pd ct sg od hs) := hD
      refine z_ifneB (tgt := 37) hx hb dX8_steps_19 (by decide) (fun c_19 => ?_) (fun c_19 => ?_)
      · have hb_19 := hv16_0.mp c_19
        refine lv_iload_n hx hb dX8_steps_37 rfl (lv_at hl 1 rfl) ?_
        exact z_iret hC hr hlk hQ hP hD hS ⟨n, (by rw [← hsk]; first | (rw [S_stepsN_s hb_19]; omega) | (rw [show (49 - i).toNat = 0 by omega]; exact (Int.add_zero _).symm)), (by omega), rfl, rfl⟩ dX8_steps_38
      · have hb_19 := zb_neg hv16_0 c_19
        refine lv_aload_n hx hb dX8_steps_22 rfl (lv_at hl 3 rfl) ?_
        refine lv_iload_n hx hb dX8_steps_23 rfl (lv_at hl 0 rfl) ?_
        refine z_calli hP hD hS hA (va_runV (As := [.int (zI q)]) (rest := []) hC (c_X8_next l D τ α γ rl rg ln nx dr qu pd ct sg od hs h q (by first | assumption | rfl | omega) (by first | assumption | rfl | omega) _) (cwV 1 hts (gV hB wl_X8_35 wn_X8_next ws_X8_next wi_X8 wc_X8_next) rfl rfl rfl hd_X8_next ⟨Nat.le_of_ble_eq_true rfl, Nat.le_of_ble_eq_true rfl⟩) (zp_V hK hP hD hS hA hG (ci := 8) (q0 := 4) rfl rfl rfl) rfl rfl hl.1 rfl (lv_room (Nat.le_of_ble_eq_true rfl)) dX8_steps_24 ⟨Nat.le_of_ble_eq_true rfl, Nat.le_of_ble_eq_true rfl⟩) (fun r w1 H locs hq9 hP hD hS => ?_)
        obtain ⟨v24_2, hv24_0, hv24_1, hv24_2, rfl, rfl⟩ := hq9
        have hP : va_P D vwCl (wH α γ rl rg ln (nx, dr, qu) pd ct sg od hs) H := hP
        have hD : va_D A (wH α γ rl rg ln (nx, dr, qu) pd ct sg od hs) := hD
        refine lv_istore_n (lv' := [(2, .int (zI v24_2)), (3, .int (zI n)), (4, .int (zI i)), (0, .ref (α 4)), (1, .int (zI a))]) hx hb dX8_steps_27 rfl hl (by decide) rfl (fun ls hl => ?_)
        refine z_iinc (k := 1) (v := n + 1) (lv' := [(3, .int (zI (n + 1))), (2, .int (zI v24_2)), (4, .int (zI i)), (0, .ref (α 4)), (1, .int (zI a))]) hx hb dX8_steps_28 hl rfl rfl (by decide) rfl (fun ls hl => ?_)
        refine z_iinc (k := 2) (v := i + 1) (lv' := [(4, .int (zI (i + 1))), (3, .int (zI (n + 1))), (2, .int (zI v24_2)), (0, .ref (α 4)), (1, .int (zI a))]) hx hb dX8_steps_31 hl rfl rfl (by decide) rfl (fun ls hl => ?_)
        refine lv_goto (tgt := 7) hx hb dX8_steps_34 (by decide) ?_
        exact ih_7 v24_2 (n + 1) (i + 1) _ _ hP hD hS _ (lv_sub hl [2, 1, 0, 3, 4] rfl) (by first | assumption | rfl | omega) (by have e24 := hv24_0 hq; have b24 := S_next_b (h := h) hq; omega) (by rw [← hsk, show (49 - i).toNat = (49 - (i + 1)).toNat + 1 by omega, S_stepsN_t hb_19, hv24_0 hq]; omega) (by first | assumption | rfl | omega) (by omega)

abbrev wz_X8_countFollowing : List Cond := .code yX8_countFollowing cX8_countFollowing 4 (some .int) :: W0
abbrev rm_X8_countFollowing : Room := { frames := 4, cells := 0, slots := 0, locals := 85 }
theorem hd_X8_countFollowing : yX8_countFollowing.cls = RX8 ∧ yX8_countFollowing.cls ≠ "java/lang/invoke/MethodHandle" ∧ yX8_countFollowing.cls ≠ "java/lang/invoke/VarHandle" ∧ (parseMethodDescriptor yX8_countFollowing.desc).map (fun d => d.parameters.length) = some 1 := by decide +kernel
set_option maxHeartbeats 4000000 in
set_option maxRecDepth 100000 in
theorem c_X8_countFollowing (l : Launch) (D : va_G) (τ : Nat → Nat) (α : Nat → Nat) (γ : Nat → ClassId) (rl : TRl) (rg : TRg) (ln : TLn) (nx : IA) (dr : IA) (qu : IA) (pd : TPd) (ct : TCt) (sg : TSg) (od : TOd) (hs : THs) (h : IA) (a : Int) (ha : 0 ≤ a ∧ a < 49) (hnx : ∀ k, 0 ≤ k → k < 49 → nx k = S_next h k) : cM l yX8_countFollowing wz_X8_countFollowing rm_X8_countFollowing D τ (tyH γ) [.ref (α 4), .int (zI a)] (wH α γ rl rg ln (nx, dr, qu) pd ct sg od hs) (zQi (fun r w => ∃ (v : Int), (v = zC (fun k => decide (S_sink h k = a)) 49) ∧ (0 ≤ v ∧ v ≤ 49) ∧ r = zI v ∧ wH α γ rl rg ln (nx, dr, qu) pd ct sg od hs = w)) := by
  refine z_ofM (cc := cX8_countFollowing) (maxL := 4) (ret := (some .int)) (by decide +kernel) rfl (Nat.le_of_ble_eq_true rfl) ?_
  intro pg e s m args below meth c hC hr hlk hnm hK hP A hD hG hA hS ls hl Q hQ
  have hx := hC.1
  have hb := hC.2.1
  have hml := hC.2.2.1
  have hown := hC.2.2.2.1
  have hts := hC.2.2.2.2
  have hB : ∀ w ∈ W0, w ∈ wz_X8_countFollowing := fun _ h => List.mem_cons_of_mem _ h
  have hW0 : ∀ w ∈ W0, w.before args s = true := fun w h => hts w (hB w h)
  have hl : lv_has ls 4 [(0, .ref (α 4)), (1, .int (zI a))] := hl
  refine lv_iconst (v := zI 0) hx hb dX8_countFollowing_0 rfl ?_
  refine lv_istore_n (lv' := [(2, .int (zI 0)), (0, .ref (α 4)), (1, .int (zI a))]) hx hb dX8_countFollowing_1 rfl hl (by decide) rfl (fun ls hl => ?_)
  refine lv_iconst (v := zI 0) hx hb dX8_countFollowing_2 rfl ?_
  refine lv_istore_n (lv' := [(3, .int (zI 0)), (2, .int (zI 0)), (0, .ref (α 4)), (1, .int (zI a))]) hx hb dX8_countFollowing_3 rfl hl (by decide) rfl (fun ls hl => ?_)
  suffices HL_4 : ∀ (n_4 : Nat), ∀ (n : Int) (i : Int) (H : Heap) (locs : List Loc) (hP : va_P D vwCl (wH α γ rl rg ln (nx, dr, qu) pd ct sg od hs) H) (hD : va_D A (wH α γ rl rg ln (nx, dr, qu) pd ct sg od hs)) (hS : va_S A s.heap H locs) (ls : Array Slot) (hl : lv_has ls 4 [(2, .int (zI n)), (3, .int (zI i)), (0, .ref (α 4)), (1, .int (zI a))]) (hi : 0 ≤ i ∧ i ≤ 49) (hn : n = zC (fun k => decide (S_sink h k = a)) i) (hnb : 0 ≤ n ∧ n ≤ i) (hm : (49 - i).toNat < n_4), W pg l e rm_X8_countFollowing s m args below meth c H locs 0 0 Q (F0 m 4 ls []) from HL_4 _ 0 0 _ _ hP hD hS _ (lv_sub hl [1, 0, 2, 3] rfl) (by first | assumption | rfl | omega) (by exact (zC_0 _).symm) (by first | assumption | rfl | omega) (Nat.lt_succ_self _)
  intro n_4
  induction n_4 with
  | zero => intro n i H locs hP hD hS ls hl hi hn hnb hm; exact absurd hm (Nat.not_lt_zero _)
  | succ n_4 ih_4 =>
    intro n i H locs hP hD hS ls hl hi hn hnb hm
    refine lv_iload_n hx hb dX8_countFollowing_4 rfl (lv_at hl 1 rfl) ?_
    refine lv_bipush (v := zI 49) hx hb dX8_countFollowing_5 (zI_b8 (by decide)) ?_
    refine z_icge (tgt := 28) hx hb ⟨by omega, by omega⟩ ⟨by omega, by omega⟩ dX8_countFollowing_7 (by decide) (fun c_7 => ?_) (fun c_7 => ?_)
    · refine lv_iload_n hx hb dX8_countFollowing_28 rfl (lv_at hl 0 rfl) ?_
      exact z_iret hC hr hlk hQ hP hD hS ⟨n, (by rw [hn, show i = 49 by omega]), (by first | assumption | rfl | omega), rfl, rfl⟩ dX8_countFollowing_29
    · refine lv_aload_n hx hb dX8_countFollowing_10 rfl (lv_at hl 2 rfl) ?_
      refine lv_iload_n hx hb dX8_countFollowing_11 rfl (lv_at hl 1 rfl) ?_
      refine z_calli hP hD hS hA (va_runV (As := [.int (zI i)]) (rest := []) hC (c_X8_end l D τ α γ rl rg ln nx dr qu pd ct sg od hs h i (by first | assumption | rfl | omega) (by first | assumption | rfl | omega) _) (cwV 1 hts (gV hB wl_X8_41 wn_X8_end ws_X8_end wi_X8 wc_X8_end) rfl rfl rfl hd_X8_end ⟨Nat.le_of_ble_eq_true rfl, Nat.le_of_ble_eq_true rfl⟩) (zp_V hK hP hD hS hA hG (ci := 8) (q0 := 4) rfl rfl rfl) rfl rfl hl.1 rfl (lv_room (Nat.le_of_ble_eq_true rfl)) dX8_countFollowing_12 ⟨Nat.le_of_ble_eq_true rfl, Nat.le_of_ble_eq_true rfl⟩) (fun r w1 H locs hq9 hP hD hS => ?_)
      obtain ⟨v12_1, hv12_0, hv12_1, rfl, rfl⟩ := hq9
      have hP : va_P D vwCl (wH α γ rl rg ln (nx, dr, qu) pd ct sg od hs) H := hP
      have hD : va_D A (wH α γ rl rg ln (nx, dr, qu) pd ct sg od hs) := hD
      refine lv_iload_n hx hb dX8_countFollowing_15 rfl (lv_at hl 3 rfl) ?_
      refine z_icne (tgt := 22) hx hb ⟨by omega, by omega⟩ ⟨by omega, by omega⟩ dX8_countFollowing_16 (by decide) (fun c_16 => ?_) (fun c_16 => ?_)
      · refine z_iinc (k := 1) (v := i + 1) (lv' := [(3, .int (zI (i + 1))), (2, .int (zI n)), (0, .ref (α 4)), (1, .int (zI a))]) hx hb dX8_countFollowing_22 hl rfl rfl (by decide) rfl (fun ls hl => ?_)
        refine lv_goto (tgt := 4) hx hb dX8_countFollowing_25 (by decide) ?_
        exact ih_4 n (i + 1) _ _ hP hD hS _ (lv_sub hl [1, 0, 2, 3] rfl) (by first | assumption | rfl | omega) (by rw [zC_up hi.1, ← hn]; first | (rw [z1_f (decide_eq_false (by omega))]; omega) | (rw [z1_t (decide_eq_true (by omega))])) (by first | assumption | rfl | omega) (by omega)
      · refine z_iinc (k := 0) (v := n + 1) (lv' := [(2, .int (zI (n + 1))), (3, .int (zI i)), (0, .ref (α 4)), (1, .int (zI a))]) hx hb dX8_countFollowing_19 hl rfl rfl (by decide) rfl (fun ls hl => ?_)
        refine z_iinc (k := 1) (v := i + 1) (lv' := [(3, .int (zI (i + 1))), (2, .int (zI (n + 1))), (0, .ref (α 4)), (1, .int (zI a))]) hx hb dX8_countFollowing_22 hl rfl rfl (by decide) rfl (fun ls hl => ?_)
        refine lv_goto (tgt := 4) hx hb dX8_countFollowing_25 (by decide) ?_
        exact ih_4 (n + 1) (i + 1) _ _ hP hD hS _ (lv_sub hl [1, 0, 2, 3] rfl) (by first | assumption | rfl | omega) (by rw [zC_up hi.1, ← hn]; first | (rw [z1_f (decide_eq_false (by omega))]; omega) | (rw [z1_t (decide_eq_true (by omega))])) (by first | assumption | rfl | omega) (by omega)

abbrev wz_X8_countGoingUp : List Cond := .code yX8_countGoingUp cX8_countGoingUp 6 (some .int) :: W0
abbrev rm_X8_countGoingUp : Room := { frames := 2, cells := 0, slots := 0, locals := 42 }
theorem hd_X8_countGoingUp : yX8_countGoingUp.cls = RX8 ∧ yX8_countGoingUp.cls ≠ "java/lang/invoke/MethodHandle" ∧ yX8_countGoingUp.cls ≠ "java/lang/invoke/VarHandle" ∧ (parseMethodDescriptor yX8_countGoingUp.desc).map (fun d => d.parameters.length) = some 1 := by decide +kernel
set_option maxHeartbeats 4000000 in
set_option maxRecDepth 100000 in
theorem c_X8_countGoingUp (l : Launch) (D : va_G) (τ : Nat → Nat) (α : Nat → Nat) (γ : Nat → ClassId) (rl : TRl) (rg : TRg) (ln : TLn) (nx : IA) (dr : IA) (qu : IA) (pd : TPd) (ct : TCt) (sg : TSg) (od : TOd) (hs : THs) (h : IA) (a : Int) (ha : 0 ≤ a ∧ a < 49) (hnx : ∀ k, 0 ≤ k → k < 49 → nx k = S_next h k) : cM l yX8_countGoingUp wz_X8_countGoingUp rm_X8_countGoingUp D τ (tyH γ) [.ref (α 4), .int (zI a)] (wH α γ rl rg ln (nx, dr, qu) pd ct sg od hs) (zQi (fun r w => ∃ (q2 : IA), ∃ (v : Int), (v = S_flow h a) ∧ (1 ≤ v ∧ v ≤ 49) ∧ r = zI v ∧ wH α γ rl rg ln (nx, dr, q2) pd ct sg od hs = w)) := by
  refine z_ofM (cc := cX8_countGoingUp) (maxL := 6) (ret := (some .int)) (by decide +kernel) rfl (Nat.le_of_ble_eq_true rfl) ?_
  intro pg e s m args below meth c hC hr hlk hnm hK hP A hD hG hA hS ls hl Q hQ
  have hx := hC.1
  have hb := hC.2.1
  have hml := hC.2.2.1
  have hown := hC.2.2.2.1
  have hts := hC.2.2.2.2
  have hB : ∀ w ∈ W0, w ∈ wz_X8_countGoingUp := fun _ h => List.mem_cons_of_mem _ h
  have hW0 : ∀ w ∈ W0, w.before args s = true := fun w h => hts w (hB w h)
  have hl : lv_has ls 6 [(0, .ref (α 4)), (1, .int (zI a))] := hl
  refine lv_aload_n hx hb dX8_countGoingUp_0 rfl (lv_at hl 0 rfl) ?_
  refine va_get (D := D) (ci := 8) (v := .ref (α 23)) (C := RX8) (T := TX8) (N := 3) hx hb hts (fun w h => List.mem_cons_of_mem _ (wx_X8 w h)) hown hK hP 4 rfl rfl 2 (by decide) (hW0 _ wf_X8_18) (fun _ h9 => h9) rfl dX8_countGoingUp_1 ?_
  refine lv_iconst (v := zI 0) hx hb dX8_countGoingUp_4 rfl ?_
  refine lv_iload_n hx hb dX8_countGoingUp_5 rfl (lv_at hl 1 rfl) ?_
  refine z_iast (f := qu) (v := a) hx hb hK hP hD hS 23 13 rfl rfl ⟨⟨by omega, by omega⟩, by decide⟩ dX8_countGoingUp_6 (fun H locs hP hD hS => ?_)
  have hP : va_P D vwCl (wH α γ rl rg ln (nx, dr, zu qu 0 a) pd ct sg od hs) H := hP
  have hD : va_D A (wH α γ rl rg ln (nx, dr, zu qu 0 a) pd ct sg od hs) := hD
  refine lv_iconst (v := zI 1) hx hb dX8_countGoingUp_7 rfl ?_
  refine lv_istore_n (lv' := [(2, .int (zI 1)), (0, .ref (α 4)), (1, .int (zI a))]) hx hb dX8_countGoingUp_8 rfl hl (by decide) rfl (fun ls hl => ?_)
  refine lv_iconst (v := zI 0) hx hb dX8_countGoingUp_9 rfl ?_
  refine lv_istore_n (lv' := [(3, .int (zI 0)), (2, .int (zI 1)), (0, .ref (α 4)), (1, .int (zI a))]) hx hb dX8_countGoingUp_10 rfl hl (by decide) rfl (fun ls hl => ?_)
  suffices HL_11 : ∀ (n_11 : Nat), ∀ (q : IA) (e8 : Int) (hd : Int) (H : Heap) (locs : List Loc) (hP : va_P D vwCl (wH α γ rl rg ln (nx, dr, q) pd ct sg od hs) H) (hD : va_D A (wH α γ rl rg ln (nx, dr, q) pd ct sg od hs)) (hS : va_S A s.heap H locs) (ls : Array Slot) (hl : lv_has ls 6 [(2, .int (zI e8)), (3, .int (zI hd)), (0, .ref (α 4)), (1, .int (zI a))]) (hI : BQi h a q e8 hd 0) (hr8 : 1 ≤ e8 ∧ e8 ≤ 49 ∧ 0 ≤ hd ∧ hd ≤ e8) (hm : (49 - hd).toNat < n_11), W pg l e rm_X8_countGoingUp s m args below meth c H locs 0 0 Q (F0 m 11 ls []) from HL_11 _ (zu qu 0 a) 1 0 _ _ hP hD hS _ (lv_sub hl [1, 0, 2, 3] rfl) (by exact BQ_init ha) (by first | assumption | rfl | omega) (Nat.lt_succ_self _)
  intro n_11
  induction n_11 with
  | zero => intro q e8 hd H locs hP hD hS ls hl hI hr8 hm; exact absurd hm (Nat.not_lt_zero _)
  | succ n_11 ih_11 =>
    intro q e8 hd H locs hP hD hS ls hl hI hr8 hm
    refine lv_iload_n hx hb dX8_countGoingUp_11 rfl (lv_at hl 1 rfl) ?_
    refine lv_iload_n hx hb dX8_countGoingUp_12 rfl (lv_at hl 0 rfl) ?_
    refine z_icge (tgt := 94) hx hb ⟨by omega, by omega⟩ ⟨by omega, by omega⟩ dX8_countGoingUp_13 (by decide) (fun c_13 => ?_) (fun c_13 => ?_)
    · refine lv_iload_n hx hb dX8_countGoingUp_94 rfl (lv_at hl 0 rfl) ?_
      exact z_iret hC hr hlk hQ hP hD hS ⟨q, e8, (by exact BQ_end hI (by omega)), (by omega), rfl, rfl⟩ dX8_countGoingUp_95
    · refine lv_iload_n hx hb dX8_countGoingUp_16 rfl (lv_at hl 1 rfl) ?_
      refine lv_bipush (v := zI 49) hx hb dX8_countGoingUp_17 (zI_b8 (by decide)) ?_
      refine z_icge (tgt := 94) hx hb ⟨by omega, by omega⟩ ⟨by omega, by omega⟩ dX8_countGoingUp_19 (by decide) (fun c_19 => ?_) (fun c_19 => ?_)
      · refine lv_iload_n hx hb dX8_countGoingUp_94 rfl (lv_at hl 0 rfl) ?_
        exact z_iret hC hr hlk hQ hP hD hS ⟨q, e8, (by exact BQ_end hI (by omega)), (by omega), rfl, rfl⟩ dX8_countGoingUp_95
      · refine lv_iconst (v := zI 0) hx hb dX8_countGoingUp_22 rfl ?_
        refine lv_istore (lv' := [(4, .int (zI 0)), (2, .int (zI e8)), (3, .int (zI hd)), (0, .ref (α 4)), (1, .int (zI a))]) hx hb dX8_countGoingUp_23 hl (by decide) rfl (fun ls hl => ?_)
        suffices HL_25 : ∀ (n_25 : Nat), ∀ (q1 : IA) (e1 : Int) (j : Int) (H : Heap) (locs : List Loc) (hP : va_P D vwCl (wH α γ rl rg ln (nx, dr, q1) pd ct sg od hs) H) (hD : va_D A (wH α γ rl rg ln (nx, dr, q1) pd ct sg od hs)) (hS : va_S A s.heap H locs) (ls : Array Slot) (hl : lv_has ls 6 [(2, .int (zI e1)), (4, .int (zI j)), (3, .int (zI hd)), (0, .ref (α 4)), (1, .int (zI a))]) (hj : 0 ≤ j ∧ j ≤ 4) (hJ : BQi h a q1 e1 hd j) (hr1 : 1 ≤ e1 ∧ e1 ≤ 49 ∧ 0 ≤ hd ∧ hd < e1) (hm : (4 - j).toNat < n_25), W pg l e rm_X8_countGoingUp s m args below meth c H locs 0 0 Q (F0 m 25 ls []) from HL_25 _ q e8 0 _ _ hP hD hS _ (lv_sub hl [1, 0, 2, 3, 4] rfl) (by first | assumption | rfl | omega) (by exact hI) (by first | assumption | rfl | omega) (Nat.lt_succ_self _)
        intro n_25
        induction n_25 with
        | zero => intro q1 e1 j H locs hP hD hS ls hl hj hJ hr1 hm; exact absurd hm (Nat.not_lt_zero _)
        | succ n_25 ih_25 =>
          intro q1 e1 j H locs hP hD hS ls hl hj hJ hr1 hm
          refine lv_iload hx hb dX8_countGoingUp_25 (lv_at hl 1 rfl) ?_
          have hqr := (BQ_rng hJ).2 hd (by omega) (by omega)
          refine lv_iconst (v := zI 4) hx hb dX8_countGoingUp_27 rfl ?_
          refine z_icge (tgt := 88) hx hb ⟨by omega, by omega⟩ ⟨by omega, by omega⟩ dX8_countGoingUp_28 (by decide) (fun c_28 => ?_) (fun c_28 => ?_)
          · refine z_iinc (k := 2) (v := hd + 1) (lv' := [(3, .int (zI (hd + 1))), (2, .int (zI e1)), (4, .int (zI j)), (0, .ref (α 4)), (1, .int (zI a))]) hx hb dX8_countGoingUp_88 hl rfl rfl (by decide) rfl (fun ls hl => ?_)
            refine lv_goto (tgt := 11) hx hb dX8_countGoingUp_91 (by decide) ?_
            exact ih_11 q1 e1 (hd + 1) _ _ hP hD hS _ (lv_sub hl [1, 0, 3, 4] rfl) (by exact BQ_out (show BQi h a q1 e1 hd 4 from (show j = 4 by omega) ▸ hJ) (by omega)) (by omega) (by omega)
          · refine lv_aload_n hx hb dX8_countGoingUp_31 rfl (lv_at hl 3 rfl) ?_
            refine va_get (D := D) (ci := 8) (v := .ref (α 23)) (C := RX8) (T := TX8) (N := 3) hx hb hts (fun w h => List.mem_cons_of_mem _ (wx_X8 w h)) hown hK hP 4 rfl rfl 2 (by decide) (hW0 _ wf_X8_18) (fun _ h9 => h9) rfl dX8_countGoingUp_32 ?_
            refine lv_iload_n hx hb dX8_countGoingUp_35 rfl (lv_at hl 2 rfl) ?_
            refine z_iald (f := q1) hx hb hK hP 23 13 rfl rfl ⟨⟨by omega, by omega⟩, by decide⟩ dX8_countGoingUp_36 ?_
            refine lv_iload hx hb dX8_countGoingUp_37 (lv_at hl 1 rfl) ?_
            refine z_calli hP hD hS hA (va_runSN (As := [.int (zI (q1 hd)), .int (zI j)]) (rest := []) hC (c_X9_stepFrom l D τ _ _ (q1 hd) j (by first | assumption | rfl | omega) (by first | assumption | rfl | omega) _) ⟨va_cnB 2 hts (gC hB wc_X9_stepFrom) rfl rfl rfl (hG.2.2.2.2.2.2.2 _ (List.mem_of_getElem? (i := 13) rfl)) (hW0 _ wi_X9) hd_X9_stepFrom.2 ⟨Nat.le_of_ble_eq_true rfl, Nat.le_of_ble_eq_true rfl⟩, (hW0 _ wt_X9_stepFrom), trivial⟩ (zp_S hK hP hD hS hA hG) rfl rfl hl.1 rfl (lv_room (Nat.le_of_ble_eq_true rfl)) dX8_countGoingUp_39 ⟨Nat.le_of_ble_eq_true rfl, Nat.le_of_ble_eq_true rfl⟩) (fun r w1 H locs hq9 hP hD hS => ?_)
            obtain ⟨v39_1, hv39_0, hv39_1, rfl, rfl⟩ := hq9
            refine lv_istore (lv' := [(5, .int (zI v39_1)), (2, .int (zI e1)), (4, .int (zI j)), (3, .int (zI hd)), (0, .ref (α 4)), (1, .int (zI a))]) hx hb dX8_countGoingUp_42 hl (by decide) rfl (fun ls hl => ?_)
            refine lv_iload hx hb dX8_countGoingUp_44 (lv_at hl 0 rfl) ?_
            refine lv_iconst (v := zI (-1)) hx hb dX8_countGoingUp_46 rfl ?_
            refine z_iceq (tgt := 82) hx hb ⟨by omega, by omega⟩ ⟨by omega, by omega⟩ dX8_countGoingUp_47 (by decide) (fun c_47 => ?_) (fun c_47 => ?_)
            · refine z_iinc (k := 2) (v := j + 1) (lv' := [(4, .int (zI (j + 1))), (5, .int (zI v39_1)), (2, .int (zI e1)), (3, .int (zI hd)), (0, .ref (α 4)), (1, .int (zI a))]) hx hb dX8_countGoingUp_82 hl rfl rfl (by decide) rfl (fun ls hl => ?_)
              refine lv_goto (tgt := 25) hx hb dX8_countGoingUp_85 (by decide) ?_
              exact ih_25 q1 e1 (j + 1) _ _ hP hD hS _ (lv_sub hl [2, 0, 3, 4, 5] rfl) (by first | assumption | rfl | omega) (by first | exact BQ_skip hJ (Or.inl (by omega)) | exact BQ_skip hJ (Or.inr (by rw [← hv39_0]; omega)) | (have z9 := (BQ_new hJ ⟨hj.1, by omega⟩ (by omega) (by omega) (by rw [← hv39_0]; omega)).2; rw [← hv39_0] at z9; exact z9)) (by omega) (by omega)
            · refine lv_aload_n hx hb dX8_countGoingUp_50 rfl (lv_at hl 4 rfl) ?_
              refine lv_iload hx hb dX8_countGoingUp_51 (lv_at hl 0 rfl) ?_
              refine z_calli hP hD hS hA (va_runV (As := [.int (zI v39_1)]) (rest := []) hC (c_X8_next l D τ α γ rl rg ln nx dr q1 pd ct sg od hs h v39_1 (by first | assumption | rfl | omega) (by first | assumption | rfl | omega) _) (cwV 1 hts (gV hB wl_X8_35 wn_X8_next ws_X8_next wi_X8 wc_X8_next) rfl rfl rfl hd_X8_next ⟨Nat.le_of_ble_eq_true rfl, Nat.le_of_ble_eq_true rfl⟩) (zp_V hK hP hD hS hA hG (ci := 8) (q0 := 4) rfl rfl rfl) rfl rfl hl.1 rfl (lv_room (Nat.le_of_ble_eq_true rfl)) dX8_countGoingUp_53 ⟨Nat.le_of_ble_eq_true rfl, Nat.le_of_ble_eq_true rfl⟩) (fun r w1 H locs hq9 hP hD hS => ?_)
              obtain ⟨v53_2, hv53_0, hv53_1, hv53_2, rfl, rfl⟩ := hq9
              have hP : va_P D vwCl (wH α γ rl rg ln (nx, dr, q1) pd ct sg od hs) H := hP
              have hD : va_D A (wH α γ rl rg ln (nx, dr, q1) pd ct sg od hs) := hD
              have e53 := hv53_0 (by omega)
              refine lv_aload_n hx hb dX8_countGoingUp_56 rfl (lv_at hl 4 rfl) ?_
              refine va_get (D := D) (ci := 8) (v := .ref (α 23)) (C := RX8) (T := TX8) (N := 3) hx hb hts (fun w h => List.mem_cons_of_mem _ (wx_X8 w h)) hown hK hP 4 rfl rfl 2 (by decide) (hW0 _ wf_X8_18) (fun _ h9 => h9) rfl dX8_countGoingUp_57 ?_
              refine lv_iload_n hx hb dX8_countGoingUp_60 rfl (lv_at hl 3 rfl) ?_
              refine z_iald (f := q1) hx hb hK hP 23 13 rfl rfl ⟨⟨by omega, by omega⟩, by decide⟩ dX8_countGoingUp_61 ?_
              refine z_icne (tgt := 82) hx hb ⟨by omega, by omega⟩ ⟨by omega, by omega⟩ dX8_countGoingUp_62 (by decide) (fun c_62 => ?_) (fun c_62 => ?_)
              · refine z_iinc (k := 2) (v := j + 1) (lv' := [(4, .int (zI (j + 1))), (5, .int (zI v39_1)), (2, .int (zI e1)), (3, .int (zI hd)), (0, .ref (α 4)), (1, .int (zI a))]) hx hb dX8_countGoingUp_82 hl rfl rfl (by decide) rfl (fun ls hl => ?_)
                refine lv_goto (tgt := 25) hx hb dX8_countGoingUp_85 (by decide) ?_
                exact ih_25 q1 e1 (j + 1) _ _ hP hD hS _ (lv_sub hl [2, 0, 3, 4, 5] rfl) (by first | assumption | rfl | omega) (by first | exact BQ_skip hJ (Or.inl (by omega)) | exact BQ_skip hJ (Or.inr (by rw [← hv39_0]; omega)) | (have z9 := (BQ_new hJ ⟨hj.1, by omega⟩ (by omega) (by omega) (by rw [← hv39_0]; omega)).2; rw [← hv39_0] at z9; exact z9)) (by omega) (by omega)
              · refine lv_iload_n hx hb dX8_countGoingUp_65 rfl (lv_at hl 1 rfl) ?_
                refine lv_bipush (v := zI 49) hx hb dX8_countGoingUp_66 (zI_b8 (by decide)) ?_
                refine z_icge (tgt := 82) hx hb ⟨by omega, by omega⟩ ⟨by omega, by omega⟩ dX8_countGoingUp_68 (by decide) (fun c_68 => ?_) (fun c_68 => ?_)
                · exact absurd (BQ_new hJ ⟨hj.1, by omega⟩ (by omega) (by omega) (by rw [← hv39_0]; omega)).1 (by omega)
                · refine lv_aload_n hx hb dX8_countGoingUp_71 rfl (lv_at hl 4 rfl) ?_
                  refine va_get (D := D) (ci := 8) (v := .ref (α 23)) (C := RX8) (T := TX8) (N := 3) hx hb hts (fun w h => List.mem_cons_of_mem _ (wx_X8 w h)) hown hK hP 4 rfl rfl 2 (by decide) (hW0 _ wf_X8_18) (fun _ h9 => h9) rfl dX8_countGoingUp_72 ?_
                  refine lv_iload_n hx hb dX8_countGoingUp_75 rfl (lv_at hl 1 rfl) ?_
                  refine lv_iload hx hb dX8_countGoingUp_76 (lv_at hl 0 rfl) ?_
                  refine z_iast (f := q1) (v := v39_1) hx hb hK hP hD hS 23 13 rfl rfl ⟨⟨by omega, by omega⟩, by decide⟩ dX8_countGoingUp_78 (fun H locs hP hD hS => ?_)
                  have hP : va_P D vwCl (wH α γ rl rg ln (nx, dr, zu q1 e1 v39_1) pd ct sg od hs) H := hP
                  have hD : va_D A (wH α γ rl rg ln (nx, dr, zu q1 e1 v39_1) pd ct sg od hs) := hD
                  refine z_iinc (k := 1) (v := e1 + 1) (lv' := [(2, .int (zI (e1 + 1))), (5, .int (zI v39_1)), (4, .int (zI j)), (3, .int (zI hd)), (0, .ref (α 4)), (1, .int (zI a))]) hx hb dX8_countGoingUp_79 hl rfl rfl (by decide) rfl (fun ls hl => ?_)
                  refine z_iinc (k := 2) (v := j + 1) (lv' := [(4, .int (zI (j + 1))), (2, .int (zI (e1 + 1))), (5, .int (zI v39_1)), (3, .int (zI hd)), (0, .ref (α 4)), (1, .int (zI a))]) hx hb dX8_countGoingUp_82 hl rfl rfl (by decide) rfl (fun ls hl => ?_)
                  refine lv_goto (tgt := 25) hx hb dX8_countGoingUp_85 (by decide) ?_
                  exact ih_25 (zu q1 e1 v39_1) (e1 + 1) (j + 1) _ _ hP hD hS _ (lv_sub hl [1, 0, 3, 4, 5] rfl) (by first | assumption | rfl | omega) (by first | exact BQ_skip hJ (Or.inl (by omega)) | exact BQ_skip hJ (Or.inr (by rw [← hv39_0]; omega)) | (have z9 := (BQ_new hJ ⟨hj.1, by omega⟩ (by omega) (by omega) (by rw [← hv39_0]; omega)).2; rw [← hv39_0] at z9; exact z9)) (by omega) (by omega)

