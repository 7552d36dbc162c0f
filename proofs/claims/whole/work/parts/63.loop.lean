theorem and63 (v : Int32) : ∃ k : Int, (0 ≤ k ∧ k ≤ 63) ∧ v &&& zI 63 = zI k := by
  refine ⟨(v &&& zI 63).toInt, ?_, (Int32.ofInt_toInt _).symm⟩
  have h1 : (v &&& zI 63).toBitVec.toNat ≤ 63 := by
    rw [Int32.toBitVec_and, BitVec.toNat_and]
    exact Nat.le_trans Nat.and_le_right (by decide)
  have h2 : (v &&& zI 63).toInt = ((v &&& zI 63).toBitVec.toNat : Int) := BitVec.toInt_eq_toNat_of_lt (by omega)
  rw [h2]; omega
theorem zI_ofNat {n : Nat} (h : n < 2147483648) : Int32.ofNat n = zI (n : Int) := by
  refine Int32.toInt_inj.mp ?_
  rw [zI_toInt ⟨by omega, by omega⟩, Int32.toInt_ofNat_of_lt (by omega)]
set_option maxHeartbeats 8000000 in
set_option maxRecDepth 100000 in
theorem law_turn {p : Program} {l : Launch} {e : Env} {s : State} {m : MethodId} {below : List Frame} {meth : Method} {c : Code} {Q : State → Prop} {D : va_G} {τ : Nat → Nat} {A : Nat → Prop} {α β : Nat → Nat} {cI cB cL : ClassId} {o b L : Nat} {xs : Nat → Int32} {i : Int} {cells slots : Nat} (hX : LCx p l s m c D τ A cI cB cL b L xs) (h0 : 0 ≤ i ∧ i ≤ L) (hc : cells + 2 ≤ 1083 ∧ slots + 12 ≤ 10672)
    (hend : ∀ (H : Heap) (locs : List Loc) (ls : Array Slot), va_S A s.heap H locs → W p l e room_1 s m #[Value.ref b] below meth c H locs cells slots Q (F0 m 2899 ls []))
    (hk : i + 6 ≤ L → LSt p l e s m below meth c Q D A α β cI cB cL o b (i + 6) 23 (cells + 2) (slots + 12)) : LSt p l e s m below meth c Q D A α β cI cB cL o b i 23 cells slots := by
  have hX0 := hX
  obtain ⟨hC, hKm, hKo, hKh, hG, hA, hGX, hst, hXs, hbl, hbA, hL⟩ := hX
  have hx := hC.1
  have hb := hC.2.1
  intro h old ch rg ln sl pd ct sg cd ln9 pl le ro co nu sv sl9 tk ct9 mn mi mc mq mr mw mt ma mx mh fo H locs ls hI hP hD hS hl
  refine lv_iload hx hb dL_law_23 (lv_at hl 4 rfl) ?_
  refine lv_aload_n hx hb dL_law_25 rfl (lv_at hl 0 rfl) ?_
  refine va_slen hx hb hXs hbl hbA hS dL_law_26 ?_
  rw [zI_ofNat (n := L) (by omega)]
  refine lv_bipush (v := zI 6) hx hb dL_law_27 (zI_b8 (by decide)) ?_
  refine z_isub hx hb dL_law_29 ?_
  refine z_icgt (tgt := 2899) hx hb ⟨by omega, by omega⟩ ⟨by omega, by omega⟩ dL_law_30 (by decide) (fun c_30 => hend H locs ls hS) (fun c_30 => ?_)
  have hi : 0 ≤ i ∧ i + 6 ≤ L := by omega
  refine lv_aload_n hx hb dL_law_33 rfl (lv_at hl 0 rfl) ?_
  refine lv_iload hx hb dL_law_34 (lv_at hl 4 rfl) ?_
  refine z_sld hx hb hXs hbl hbA hS ⟨⟨by omega, by omega⟩, hL⟩ dL_law_36 ?_
  refine lv_bipush (v := zI 63) hx hb dL_law_37 (zI_b8 (by decide)) ?_
  refine lv_iand hx hb dL_law_39 ?_
  obtain ⟨k, hkb, hke⟩ := and63 (zI (xI xs i))
  rw [hke]
  have hk9 : LSt p l e s m below meth c Q D A α β cI cB cL o b i 2893 (cells + 2) (slots + 12) := by
    intro h old ch rg ln sl pd ct sg cd ln9 pl le ro co nu sv sl9 tk ct9 mn mi mc mq mr mw mt ma mx mh fo H locs ls hI hP hD hS hl
    refine z_iinc (k := 4) (v := i + 6) (lv' := [(4, .int (zI (i + 6))), (0, .ref b), (1, .ref (α 0)), (2, .ref (β 0)), (3, .ref o)]) hx hb dL_law_2893 hl rfl rfl (by decide) rfl (fun ls hl => ?_)
    refine lv_goto (tgt := 23) hx hb dL_law_2896 (by decide) ?_
    exact hk hi.2 h old ch rg ln sl pd ct sg cd ln9 pl le ro co nu sv sl9 tk ct9 mn mi mc mq mr mw mt ma mx mh fo H locs ls hI hP hD hS (lv_sub hl [1, 2, 3, 4, 0] rfl)
  by_cases c_0 : k = 0
  · refine z_tabIn (off := 220) (tgt := 260) hx hb ⟨by omega, by omega⟩ dL_law_40 (by omega) (by rw [c_0]; rfl) (by decide) ?_
    exact law_260 hX0 hi hc hk9 h old ch rg ln sl pd ct sg cd ln9 pl le ro co nu sv sl9 tk ct9 mn mi mc mq mr mw mt ma mx mh fo H locs ls hI hP hD hS hl
  by_cases c_1 : k = 1
  · refine z_tabIn (off := 300) (tgt := 340) hx hb ⟨by omega, by omega⟩ dL_law_40 (by omega) (by rw [c_1]; rfl) (by decide) ?_
    exact law_340 hX0 hi hc hk9 h old ch rg ln sl pd ct sg cd ln9 pl le ro co nu sv sl9 tk ct9 mn mi mc mq mr mw mt ma mx mh fo H locs ls hI hP hD hS hl
  by_cases c_2 : k = 2
  · refine z_tabIn (off := 380) (tgt := 420) hx hb ⟨by omega, by omega⟩ dL_law_40 (by omega) (by rw [c_2]; rfl) (by decide) ?_
    exact law_420 hX0 hi hc hk9 h old ch rg ln sl pd ct sg cd ln9 pl le ro co nu sv sl9 tk ct9 mn mi mc mq mr mw mt ma mx mh fo H locs ls hI hP hD hS hl
  by_cases c_3 : k = 3
  · refine z_tabIn (off := 393) (tgt := 433) hx hb ⟨by omega, by omega⟩ dL_law_40 (by omega) (by rw [c_3]; rfl) (by decide) ?_
    exact law_433 hX0 hi hc hk9 h old ch rg ln sl pd ct sg cd ln9 pl le ro co nu sv sl9 tk ct9 mn mi mc mq mr mw mt ma mx mh fo H locs ls hI hP hD hS hl
  by_cases c_4 : k = 4
  · refine z_tabIn (off := 449) (tgt := 489) hx hb ⟨by omega, by omega⟩ dL_law_40 (by omega) (by rw [c_4]; rfl) (by decide) ?_
    exact law_489 hX0 hi hc hk9 h old ch rg ln sl pd ct sg cd ln9 pl le ro co nu sv sl9 tk ct9 mn mi mc mq mr mw mt ma mx mh fo H locs ls hI hP hD hS hl
  by_cases c_5 : k = 5
  · refine z_tabIn (off := 462) (tgt := 502) hx hb ⟨by omega, by omega⟩ dL_law_40 (by omega) (by rw [c_5]; rfl) (by decide) ?_
    exact law_502 hX0 hi hc hk9 h old ch rg ln sl pd ct sg cd ln9 pl le ro co nu sv sl9 tk ct9 mn mi mc mq mr mw mt ma mx mh fo H locs ls hI hP hD hS hl
  by_cases c_6 : k = 6
  · refine z_tabIn (off := 518) (tgt := 558) hx hb ⟨by omega, by omega⟩ dL_law_40 (by omega) (by rw [c_6]; rfl) (by decide) ?_
    exact law_558 hX0 hi hc hk9 h old ch rg ln sl pd ct sg cd ln9 pl le ro co nu sv sl9 tk ct9 mn mi mc mq mr mw mt ma mx mh fo H locs ls hI hP hD hS hl
  by_cases c_7 : k = 7
  · refine z_tabIn (off := 531) (tgt := 571) hx hb ⟨by omega, by omega⟩ dL_law_40 (by omega) (by rw [c_7]; rfl) (by decide) ?_
    exact law_571 hX0 hi hc hk9 h old ch rg ln sl pd ct sg cd ln9 pl le ro co nu sv sl9 tk ct9 mn mi mc mq mr mw mt ma mx mh fo H locs ls hI hP hD hS hl
  by_cases c_8 : k = 8
  · refine z_tabIn (off := 544) (tgt := 584) hx hb ⟨by omega, by omega⟩ dL_law_40 (by omega) (by rw [c_8]; rfl) (by decide) ?_
    exact law_584 hX0 hi hc hk9 h old ch rg ln sl pd ct sg cd ln9 pl le ro co nu sv sl9 tk ct9 mn mi mc mq mr mw mt ma mx mh fo H locs ls hI hP hD hS hl
  by_cases c_9 : k = 9
  · refine z_tabIn (off := 588) (tgt := 628) hx hb ⟨by omega, by omega⟩ dL_law_40 (by omega) (by rw [c_9]; rfl) (by decide) ?_
    exact law_628 hX0 hi hc hk9 h old ch rg ln sl pd ct sg cd ln9 pl le ro co nu sv sl9 tk ct9 mn mi mc mq mr mw mt ma mx mh fo H locs ls hI hP hD hS hl
  by_cases c_10 : k = 10
  · refine z_tabIn (off := 624) (tgt := 664) hx hb ⟨by omega, by omega⟩ dL_law_40 (by omega) (by rw [c_10]; rfl) (by decide) ?_
    exact law_664 hX0 hi hc hk9 h old ch rg ln sl pd ct sg cd ln9 pl le ro co nu sv sl9 tk ct9 mn mi mc mq mr mw mt ma mx mh fo H locs ls hI hP hD hS hl
  by_cases c_11 : k = 11
  · refine z_tabIn (off := 660) (tgt := 700) hx hb ⟨by omega, by omega⟩ dL_law_40 (by omega) (by rw [c_11]; rfl) (by decide) ?_
    exact law_700 hX0 hi hc hk9 h old ch rg ln sl pd ct sg cd ln9 pl le ro co nu sv sl9 tk ct9 mn mi mc mq mr mw mt ma mx mh fo H locs ls hI hP hD hS hl
  by_cases c_12 : k = 12
  · refine z_tabIn (off := 684) (tgt := 724) hx hb ⟨by omega, by omega⟩ dL_law_40 (by omega) (by rw [c_12]; rfl) (by decide) ?_
    exact law_724 hX0 hi hc hk9 h old ch rg ln sl pd ct sg cd ln9 pl le ro co nu sv sl9 tk ct9 mn mi mc mq mr mw mt ma mx mh fo H locs ls hI hP hD hS hl
  by_cases c_13 : k = 13
  · refine z_tabIn (off := 697) (tgt := 737) hx hb ⟨by omega, by omega⟩ dL_law_40 (by omega) (by rw [c_13]; rfl) (by decide) ?_
    exact law_737 hX0 hi hc hk9 h old ch rg ln sl pd ct sg cd ln9 pl le ro co nu sv sl9 tk ct9 mn mi mc mq mr mw mt ma mx mh fo H locs ls hI hP hD hS hl
  by_cases c_14 : k = 14
  · refine z_tabIn (off := 765) (tgt := 805) hx hb ⟨by omega, by omega⟩ dL_law_40 (by omega) (by rw [c_14]; rfl) (by decide) ?_
    exact law_805 hX0 hi hc hk9 h old ch rg ln sl pd ct sg cd ln9 pl le ro co nu sv sl9 tk ct9 mn mi mc mq mr mw mt ma mx mh fo H locs ls hI hP hD hS hl
  by_cases c_15 : k = 15
  · refine z_tabIn (off := 778) (tgt := 818) hx hb ⟨by omega, by omega⟩ dL_law_40 (by omega) (by rw [c_15]; rfl) (by decide) ?_
    exact law_818 hX0 hi hc hk9 h old ch rg ln sl pd ct sg cd ln9 pl le ro co nu sv sl9 tk ct9 mn mi mc mq mr mw mt ma mx mh fo H locs ls hI hP hD hS hl
  by_cases c_16 : k = 16
  · refine z_tabIn (off := 791) (tgt := 831) hx hb ⟨by omega, by omega⟩ dL_law_40 (by omega) (by rw [c_16]; rfl) (by decide) ?_
    exact law_831 hX0 hi hc hk9 h old ch rg ln sl pd ct sg cd ln9 pl le ro co nu sv sl9 tk ct9 mn mi mc mq mr mw mt ma mx mh fo H locs ls hI hP hD hS hl
  by_cases c_17 : k = 17
  · refine z_tabIn (off := 847) (tgt := 887) hx hb ⟨by omega, by omega⟩ dL_law_40 (by omega) (by rw [c_17]; rfl) (by decide) ?_
    exact law_887 hX0 hi hc hk9 h old ch rg ln sl pd ct sg cd ln9 pl le ro co nu sv sl9 tk ct9 mn mi mc mq mr mw mt ma mx mh fo H locs ls hI hP hD hS hl
  by_cases c_18 : k = 18
  · refine z_tabIn (off := 903) (tgt := 943) hx hb ⟨by omega, by omega⟩ dL_law_40 (by omega) (by rw [c_18]; rfl) (by decide) ?_
    exact law_943 hX0 hi hc hk9 h old ch rg ln sl pd ct sg cd ln9 pl le ro co nu sv sl9 tk ct9 mn mi mc mq mr mw mt ma mx mh fo H locs ls hI hP hD hS hl
  by_cases c_19 : k = 19
  · refine z_tabIn (off := 959) (tgt := 999) hx hb ⟨by omega, by omega⟩ dL_law_40 (by omega) (by rw [c_19]; rfl) (by decide) ?_
    exact law_999 hX0 hi hc hk9 h old ch rg ln sl pd ct sg cd ln9 pl le ro co nu sv sl9 tk ct9 mn mi mc mq mr mw mt ma mx mh fo H locs ls hI hP hD hS hl
  by_cases c_20 : k = 20
  · refine z_tabIn (off := 1015) (tgt := 1055) hx hb ⟨by omega, by omega⟩ dL_law_40 (by omega) (by rw [c_20]; rfl) (by decide) ?_
    exact law_1055 hX0 hi hc hk9 h old ch rg ln sl pd ct sg cd ln9 pl le ro co nu sv sl9 tk ct9 mn mi mc mq mr mw mt ma mx mh fo H locs ls hI hP hD hS hl
  by_cases c_21 : k = 21
  · refine z_tabIn (off := 1095) (tgt := 1135) hx hb ⟨by omega, by omega⟩ dL_law_40 (by omega) (by rw [c_21]; rfl) (by decide) ?_
    exact law_1135 hX0 hi hc hk9 h old ch rg ln sl pd ct sg cd ln9 pl le ro co nu sv sl9 tk ct9 mn mi mc mq mr mw mt ma mx mh fo H locs ls hI hP hD hS hl
  by_cases c_22 : k = 22
  · refine z_tabIn (off := 1151) (tgt := 1191) hx hb ⟨by omega, by omega⟩ dL_law_40 (by omega) (by rw [c_22]; rfl) (by decide) ?_
    exact law_1191 hX0 hi hc hk9 h old ch rg ln sl pd ct sg cd ln9 pl le ro co nu sv sl9 tk ct9 mn mi mc mq mr mw mt ma mx mh fo H locs ls hI hP hD hS hl
  by_cases c_23 : k = 23
  · refine z_tabIn (off := 1207) (tgt := 1247) hx hb ⟨by omega, by omega⟩ dL_law_40 (by omega) (by rw [c_23]; rfl) (by decide) ?_
    exact law_1247 hX0 hi hc hk9 h old ch rg ln sl pd ct sg cd ln9 pl le ro co nu sv sl9 tk ct9 mn mi mc mq mr mw mt ma mx mh fo H locs ls hI hP hD hS hl
  by_cases c_24 : k = 24
  · refine z_tabIn (off := 1263) (tgt := 1303) hx hb ⟨by omega, by omega⟩ dL_law_40 (by omega) (by rw [c_24]; rfl) (by decide) ?_
    exact law_1303 hX0 hi hc hk9 h old ch rg ln sl pd ct sg cd ln9 pl le ro co nu sv sl9 tk ct9 mn mi mc mq mr mw mt ma mx mh fo H locs ls hI hP hD hS hl
  by_cases c_25 : k = 25
  · refine z_tabIn (off := 1319) (tgt := 1359) hx hb ⟨by omega, by omega⟩ dL_law_40 (by omega) (by rw [c_25]; rfl) (by decide) ?_
    exact law_1359 hX0 hi hc hk9 h old ch rg ln sl pd ct sg cd ln9 pl le ro co nu sv sl9 tk ct9 mn mi mc mq mr mw mt ma mx mh fo H locs ls hI hP hD hS hl
  by_cases c_26 : k = 26
  · refine z_tabIn (off := 1375) (tgt := 1415) hx hb ⟨by omega, by omega⟩ dL_law_40 (by omega) (by rw [c_26]; rfl) (by decide) ?_
    exact law_1415 hX0 hi hc hk9 h old ch rg ln sl pd ct sg cd ln9 pl le ro co nu sv sl9 tk ct9 mn mi mc mq mr mw mt ma mx mh fo H locs ls hI hP hD hS hl
  by_cases c_27 : k = 27
  · refine z_tabIn (off := 1431) (tgt := 1471) hx hb ⟨by omega, by omega⟩ dL_law_40 (by omega) (by rw [c_27]; rfl) (by decide) ?_
    exact law_1471 hX0 hi hc hk9 h old ch rg ln sl pd ct sg cd ln9 pl le ro co nu sv sl9 tk ct9 mn mi mc mq mr mw mt ma mx mh fo H locs ls hI hP hD hS hl
  by_cases c_28 : k = 28
  · refine z_tabIn (off := 1499) (tgt := 1539) hx hb ⟨by omega, by omega⟩ dL_law_40 (by omega) (by rw [c_28]; rfl) (by decide) ?_
    exact law_1539 hX0 hi hc hk9 h old ch rg ln sl pd ct sg cd ln9 pl le ro co nu sv sl9 tk ct9 mn mi mc mq mr mw mt ma mx mh fo H locs ls hI hP hD hS hl
  by_cases c_29 : k = 29
  · refine z_tabIn (off := 1574) (tgt := 1614) hx hb ⟨by omega, by omega⟩ dL_law_40 (by omega) (by rw [c_29]; rfl) (by decide) ?_
    exact law_1614 hX0 hi hc hk9 h old ch rg ln sl pd ct sg cd ln9 pl le ro co nu sv sl9 tk ct9 mn mi mc mq mr mw mt ma mx mh fo H locs ls hI hP hD hS hl
  by_cases c_30 : k = 30
  · refine z_tabIn (off := 1642) (tgt := 1682) hx hb ⟨by omega, by omega⟩ dL_law_40 (by omega) (by rw [c_30]; rfl) (by decide) ?_
    exact law_1682 hX0 hi hc hk9 h old ch rg ln sl pd ct sg cd ln9 pl le ro co nu sv sl9 tk ct9 mn mi mc mq mr mw mt ma mx mh fo H locs ls hI hP hD hS hl
  by_cases c_31 : k = 31
  · refine z_tabIn (off := 1710) (tgt := 1750) hx hb ⟨by omega, by omega⟩ dL_law_40 (by omega) (by rw [c_31]; rfl) (by decide) ?_
    exact law_1750 hX0 hi hc hk9 h old ch rg ln sl pd ct sg cd ln9 pl le ro co nu sv sl9 tk ct9 mn mi mc mq mr mw mt ma mx mh fo H locs ls hI hP hD hS hl
  by_cases c_32 : k = 32
  · refine z_tabIn (off := 1778) (tgt := 1818) hx hb ⟨by omega, by omega⟩ dL_law_40 (by omega) (by rw [c_32]; rfl) (by decide) ?_
    exact law_1818 hX0 hi hc hk9 h old ch rg ln sl pd ct sg cd ln9 pl le ro co nu sv sl9 tk ct9 mn mi mc mq mr mw mt ma mx mh fo H locs ls hI hP hD hS hl
  by_cases c_33 : k = 33
  · refine z_tabIn (off := 1846) (tgt := 1886) hx hb ⟨by omega, by omega⟩ dL_law_40 (by omega) (by rw [c_33]; rfl) (by decide) ?_
    exact law_1886 hX0 hi hc hk9 h old ch rg ln sl pd ct sg cd ln9 pl le ro co nu sv sl9 tk ct9 mn mi mc mq mr mw mt ma mx mh fo H locs ls hI hP hD hS hl
  by_cases c_34 : k = 34
  · refine z_tabIn (off := 1914) (tgt := 1954) hx hb ⟨by omega, by omega⟩ dL_law_40 (by omega) (by rw [c_34]; rfl) (by decide) ?_
    exact law_1954 hX0 hi hc hk9 h old ch rg ln sl pd ct sg cd ln9 pl le ro co nu sv sl9 tk ct9 mn mi mc mq mr mw mt ma mx mh fo H locs ls hI hP hD hS hl
  by_cases c_35 : k = 35
  · refine z_tabIn (off := 1982) (tgt := 2022) hx hb ⟨by omega, by omega⟩ dL_law_40 (by omega) (by rw [c_35]; rfl) (by decide) ?_
    exact law_2022 hX0 hi hc hk9 h old ch rg ln sl pd ct sg cd ln9 pl le ro co nu sv sl9 tk ct9 mn mi mc mq mr mw mt ma mx mh fo H locs ls hI hP hD hS hl
  by_cases c_36 : k = 36
  · refine z_tabIn (off := 1995) (tgt := 2035) hx hb ⟨by omega, by omega⟩ dL_law_40 (by omega) (by rw [c_36]; rfl) (by decide) ?_
    exact law_2035 hX0 hi hc hk9 h old ch rg ln sl pd ct sg cd ln9 pl le ro co nu sv sl9 tk ct9 mn mi mc mq mr mw mt ma mx mh fo H locs ls hI hP hD hS hl
  by_cases c_37 : k = 37
  · refine z_tabIn (off := 2008) (tgt := 2048) hx hb ⟨by omega, by omega⟩ dL_law_40 (by omega) (by rw [c_37]; rfl) (by decide) ?_
    exact law_2048 hX0 hi hc hk9 h old ch rg ln sl pd ct sg cd ln9 pl le ro co nu sv sl9 tk ct9 mn mi mc mq mr mw mt ma mx mh fo H locs ls hI hP hD hS hl
  by_cases c_38 : k = 38
  · refine z_tabIn (off := 2076) (tgt := 2116) hx hb ⟨by omega, by omega⟩ dL_law_40 (by omega) (by rw [c_38]; rfl) (by decide) ?_
    exact law_2116 hX0 hi hc hk9 h old ch rg ln sl pd ct sg cd ln9 pl le ro co nu sv sl9 tk ct9 mn mi mc mq mr mw mt ma mx mh fo H locs ls hI hP hD hS hl
  by_cases c_39 : k = 39
  · refine z_tabIn (off := 2144) (tgt := 2184) hx hb ⟨by omega, by omega⟩ dL_law_40 (by omega) (by rw [c_39]; rfl) (by decide) ?_
    exact law_2184 hX0 hi hc hk9 h old ch rg ln sl pd ct sg cd ln9 pl le ro co nu sv sl9 tk ct9 mn mi mc mq mr mw mt ma mx mh fo H locs ls hI hP hD hS hl
  by_cases c_40 : k = 40
  · refine z_tabIn (off := 2212) (tgt := 2252) hx hb ⟨by omega, by omega⟩ dL_law_40 (by omega) (by rw [c_40]; rfl) (by decide) ?_
    exact law_2252 hX0 hi hc hk9 h old ch rg ln sl pd ct sg cd ln9 pl le ro co nu sv sl9 tk ct9 mn mi mc mq mr mw mt ma mx mh fo H locs ls hI hP hD hS hl
  by_cases c_41 : k = 41
  · refine z_tabIn (off := 2225) (tgt := 2265) hx hb ⟨by omega, by omega⟩ dL_law_40 (by omega) (by rw [c_41]; rfl) (by decide) ?_
    exact law_2265 hX0 hi hc hk9 h old ch rg ln sl pd ct sg cd ln9 pl le ro co nu sv sl9 tk ct9 mn mi mc mq mr mw mt ma mx mh fo H locs ls hI hP hD hS hl
  by_cases c_42 : k = 42
  · refine z_tabIn (off := 2238) (tgt := 2278) hx hb ⟨by omega, by omega⟩ dL_law_40 (by omega) (by rw [c_42]; rfl) (by decide) ?_
    exact law_2278 hX0 hi hc hk9 h old ch rg ln sl pd ct sg cd ln9 pl le ro co nu sv sl9 tk ct9 mn mi mc mq mr mw mt ma mx mh fo H locs ls hI hP hD hS hl
  by_cases c_43 : k = 43
  · refine z_tabIn (off := 2330) (tgt := 2370) hx hb ⟨by omega, by omega⟩ dL_law_40 (by omega) (by rw [c_43]; rfl) (by decide) ?_
    exact law_2370 hX0 hi hc hk9 h old ch rg ln sl pd ct sg cd ln9 pl le ro co nu sv sl9 tk ct9 mn mi mc mq mr mw mt ma mx mh fo H locs ls hI hP hD hS hl
  by_cases c_44 : k = 44
  · refine z_tabIn (off := 2434) (tgt := 2474) hx hb ⟨by omega, by omega⟩ dL_law_40 (by omega) (by rw [c_44]; rfl) (by decide) ?_
    exact law_2474 hX0 hi hc hk9 h old ch rg ln sl pd ct sg cd ln9 pl le ro co nu sv sl9 tk ct9 mn mi mc mq mr mw mt ma mx mh fo H locs ls hI hP hD hS hl
  by_cases c_45 : k = 45
  · refine z_tabIn (off := 2526) (tgt := 2566) hx hb ⟨by omega, by omega⟩ dL_law_40 (by omega) (by rw [c_45]; rfl) (by decide) ?_
    exact law_2566 hX0 hi hc hk9 h old ch rg ln sl pd ct sg cd ln9 pl le ro co nu sv sl9 tk ct9 mn mi mc mq mr mw mt ma mx mh fo H locs ls hI hP hD hS hl
  by_cases c_46 : k = 46
  · refine z_tabIn (off := 2618) (tgt := 2658) hx hb ⟨by omega, by omega⟩ dL_law_40 (by omega) (by rw [c_46]; rfl) (by decide) ?_
    exact law_2658 hX0 hi hc hk9 h old ch rg ln sl pd ct sg cd ln9 pl le ro co nu sv sl9 tk ct9 mn mi mc mq mr mw mt ma mx mh fo H locs ls hI hP hD hS hl
  by_cases c_47 : k = 47
  · refine z_tabIn (off := 2717) (tgt := 2757) hx hb ⟨by omega, by omega⟩ dL_law_40 (by omega) (by rw [c_47]; rfl) (by decide) ?_
    exact law_2757 hX0 hi hc hk9 h old ch rg ln sl pd ct sg cd ln9 pl le ro co nu sv sl9 tk ct9 mn mi mc mq mr mw mt ma mx mh fo H locs ls hI hP hD hS hl
  by_cases c_48 : k = 48
  · refine z_tabIn (off := 2785) (tgt := 2825) hx hb ⟨by omega, by omega⟩ dL_law_40 (by omega) (by rw [c_48]; rfl) (by decide) ?_
    exact law_2825 hX0 hi hc hk9 h old ch rg ln sl pd ct sg cd ln9 pl le ro co nu sv sl9 tk ct9 mn mi mc mq mr mw mt ma mx mh fo H locs ls hI hP hD hS hl
  by_cases c_49 : k = 49
  · refine z_tabIn (off := 2798) (tgt := 2838) hx hb ⟨by omega, by omega⟩ dL_law_40 (by omega) (by rw [c_49]; rfl) (by decide) ?_
    exact law_2838 hX0 hi hc hk9 h old ch rg ln sl pd ct sg cd ln9 pl le ro co nu sv sl9 tk ct9 mn mi mc mq mr mw mt ma mx mh fo H locs ls hI hP hD hS hl
  by_cases c_50 : k = 50
  · refine z_tabIn (off := 2839) (tgt := 2879) hx hb ⟨by omega, by omega⟩ dL_law_40 (by omega) (by rw [c_50]; rfl) (by decide) ?_
    exact law_2879 hX0 hi hc hk9 h old ch rg ln sl pd ct sg cd ln9 pl le ro co nu sv sl9 tk ct9 mn mi mc mq mr mw mt ma mx mh fo H locs ls hI hP hD hS hl
  refine z_tabOut (tgt := 2893) hx hb ⟨by omega, by omega⟩ dL_law_40 (by omega) (by decide) ?_
  refine W.widen (k := cells + 2) (n := slots + 12) (by omega) (by omega) ?_
  exact hk9 h old ch rg ln sl pd ct sg cd ln9 pl le ro co nu sv sl9 tk ct9 mn mi mc mq mr mw mt ma mx mh fo H locs ls hI hP hD hS hl
theorem law_loop {p : Program} {l : Launch} {e : Env} {s : State} {m : MethodId} {below : List Frame} {meth : Method} {c : Code} {Q : State → Prop} {D : va_G} {τ : Nat → Nat} {A : Nat → Prop} {α β : Nat → Nat} {cI cB cL : ClassId} {o b L : Nat} {xs : Nat → Int32} (hX : LCx p l s m c D τ A cI cB cL b L xs)
    (hend : ∀ (H : Heap) (locs : List Loc) (ls : Array Slot), va_S A s.heap H locs → W p l e room_1 s m #[Value.ref b] below meth c H locs 1083 10672 Q (F0 m 2899 ls [])) :
    ∀ (n j : Nat), L < 6 * j + n → 6 * j ≤ L → LSt p l e s m below meth c Q D A α β cI cB cL o b ((6 * j : Nat) : Int) 23 (45 + 2 * j) (2396 + 12 * j) := by
  have hL : L ≤ 3072 := hX.2.2.2.2.2.2.2.2.2.2.2
  intro n
  induction n with
  | zero => intro j h1 h2; omega
  | succ n ih =>
    intro j h1 h2
    refine law_turn hX (by omega) (by omega) (fun H locs ls hS => W.widen (k := 1083) (n := 10672) (by omega) (by omega) (hend H locs ls hS)) (fun h3 => ?_)
    have h4 := ih (j + 1) (by omega) (by omega)
    rw [show ((6 * (j + 1) : Nat) : Int) = ((6 * j : Nat) : Int) + 6 by omega, show 45 + 2 * (j + 1) = 45 + 2 * j + 2 by omega, show 2396 + 12 * (j + 1) = 2396 + 12 * j + 12 by omega] at h4
    exact h4
