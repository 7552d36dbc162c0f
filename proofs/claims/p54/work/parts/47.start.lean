/-! THE START: what the tables and the start say of statics, texts, classes -/
section ZS
variable {s : State} {args : Array Value}
theorem zA_out : ∀ a : Nat, a < s.heap.size → ¬ (fun q : Nat => s.heap.size ≤ q) a := fun _ h => Nat.not_le.mpr h
theorem gsa_of {C n : String} {N : Nat} {f : IA} (hN : N < 2 ^ 31) (hl : (Cond.laysStatic C n "[I").before args s = true) (hi : (Cond.initialized C).before args s = true) (h1 : (Cond.arrayOf (.static C n "[I") .int).before args s = true) (h2 : (Cond.eq (.length (.static C n "[I")) (.int (Int32.ofNat N))).before args s = true) (h3 : ∀ j : Nat, j < N → (Cond.eq (.elem (.static C n "[I") (.int (Int32.ofNat j))) (.int (zF f j))).before args s = true) :
    ∃ t : Nat, GSa C n t N f (fun q : Nat => s.heap.size ≤ q) s s.heap := by
  obtain ⟨t, ht, hT⟩ := va_Tof (f := fun j => .int (zF f j)) (A := fun q : Nat => s.heap.size ≤ q) hN h1 (va_eqt h2) (fun j hj => va_eqt (h3 j hj)) zA_out
  exact ⟨t, va_Zof hl hi ht zA_out, hT⟩
theorem zstr_of {own tx : String} {k : Nat} (h1 : (Cond.stringRef own k tx).before args s = true) (h2 : (Cond.exactly (.string own k) "java/lang/String").before args s = true) : ∃ a : Nat, vk_R own k tx a s := by
  obtain ⟨a, _, _, _, h, -⟩ := Cond.exactly_spec h2
  exact ⟨a, vk_R.of h1 h⟩
theorem gs_of (hts : ∀ w ∈ lw_tbl, w.before args s = true) (hgv : (Cond.and given_1 narrow_1).before args s = true) : ∃ τ : Nat → Nat, GS τ (fun q : Nat => s.heap.size ≤ q) s s.heap := by
  have hs := flat_of_before _ hgv
  obtain ⟨t0, h0⟩ := gsa_of (C := "HillLines") (n := "ROW_STEPS") (N := 8) (f := ROWS) (by decide) (hts _ (by decide +kernel)) (hts _ (by decide +kernel)) (hs _ (by decide +kernel)) (hs _ (by decide +kernel)) (fun j hj => by rcases (show j = 0 ∨ j = 1 ∨ j = 2 ∨ j = 3 ∨ j = 4 ∨ j = 5 ∨ j = 6 ∨ j = 7 by omega) with rfl | rfl | rfl | rfl | rfl | rfl | rfl | rfl <;> exact hs _ (by decide +kernel))
  obtain ⟨t1, h1⟩ := gsa_of (C := "HillLines") (n := "COLUMN_STEPS") (N := 8) (f := COLS) (by decide) (hts _ (by decide +kernel)) (hts _ (by decide +kernel)) (hs _ (by decide +kernel)) (hs _ (by decide +kernel)) (fun j hj => by rcases (show j = 0 ∨ j = 1 ∨ j = 2 ∨ j = 3 ∨ j = 4 ∨ j = 5 ∨ j = 6 ∨ j = 7 by omega) with rfl | rfl | rfl | rfl | rfl | rfl | rfl | rfl <;> exact hs _ (by decide +kernel))
  obtain ⟨t3, h3⟩ := gsa_of (C := "HillLines$Lines") (n := "CORNER_ROWS") (N := 4) (f := CROW) (by decide) (hts _ (by decide +kernel)) (hts _ (by decide +kernel)) (hs _ (by decide +kernel)) (hs _ (by decide +kernel)) (fun j hj => by rcases (show j = 0 ∨ j = 1 ∨ j = 2 ∨ j = 3 by omega) with rfl | rfl | rfl | rfl <;> exact hs _ (by decide +kernel))
  obtain ⟨t4, h4⟩ := gsa_of (C := "HillLines$Lines") (n := "CORNER_COLUMNS") (N := 4) (f := CCOL) (by decide) (hts _ (by decide +kernel)) (hts _ (by decide +kernel)) (hs _ (by decide +kernel)) (hs _ (by decide +kernel)) (fun j hj => by rcases (show j = 0 ∨ j = 1 ∨ j = 2 ∨ j = 3 by omega) with rfl | rfl | rfl | rfl <;> exact hs _ (by decide +kernel))
  have h5 : vx_Zq Bundle.tN "UNASSIGNED_STACK" Bundle.steD (fun q : Nat => s.heap.size ≤ q) s s.heap := vx_Zqof (hts _ (by decide +kernel)) (hts _ (by decide +kernel)) (hs _ (by decide +kernel)) zA_out
  have h6 : vx_Zq Bundle.tN "SUPPRESSED_SENTINEL" Bundle.listD (fun q : Nat => s.heap.size ≤ q) s s.heap := vx_Zqof (hts _ (by decide +kernel)) (hts _ (by decide +kernel)) (hs _ (by decide +kernel)) zA_out
  have h7 : ∀ q ∈ zStrs, ∃ a : Nat, vk_R q.1 q.2.1 q.2.2 a s := by
    intro q hq
    have k1 : ∀ q ∈ zStrs, Cond.stringRef q.1 q.2.1 q.2.2 ∈ lw_tbl := by decide +kernel
    have k2 : ∀ q ∈ zStrs, (Cond.exactly (.string q.1 q.2.1) "java/lang/String").before args s = true := by
      intro q hq
      refine hs _ ?_
      revert q; decide +kernel
    exact zstr_of (hts _ (k1 q hq)) (k2 q hq)
  have h8 : ∀ q ∈ zNest, va_Nw (.methodLinkNest q.1 q.2.1 q.2.2 "HillLines") s := by
    intro q hq
    have k1 : ∀ q ∈ zNest, Cond.methodLinkNest q.1 q.2.1 q.2.2 "HillLines" ∈ lw_tbl := by decide +kernel
    exact va_Nw.of rfl (hts _ (k1 q hq))
  exact ⟨fun k => if k = 0 then t0 else if k = 1 then t1 else if k = 2 then 0 else if k = 3 then t3 else t4, h0, h1, trivial, h3, h4, ⟨h5, h6⟩, h7, h8⟩
theorem ty0_of {D : va_G} (hts : ∀ w ∈ lw_tbl, w.before args s = true) (hK : va_K D vwCl [] s) : ∃ cI cB : ClassId, va_K D vwCl (ty0 cI cB) s := by
  obtain ⟨cI, kI, xI, hI1, hI2, hI3⟩ := Cond.arrayClass_spec (hts (.arrayClass .int) (by decide +kernel))
  obtain ⟨cB, kB, xB, hB1, hB2, hB3⟩ := Cond.arrayClass_spec (hts (.arrayClass .boolean) (by decide +kernel))
  refine ⟨cI, cB, hK.1, fun k q h => ?_⟩
  match k, h with
  | 0, h => cases h; exact ⟨fun n z => ⟨fun k h => (by cases h), kI, hI2, xI, hI3⟩, hI1⟩
  | 1, h => cases h; exact ⟨fun n z => ⟨fun k h => (by cases h), kB, hB2, xB, hB3⟩, hB1⟩
  | k + 2, h => simp at h
end ZS
