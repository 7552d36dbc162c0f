/-! the mean, in doubles -/
def chkM (s : Nat) : Bool := match FP.Core.val64 (FP.dmul (dmean (s : Int)) D49) with | .fin _ _ _ => decide (0 < dcI (FP.dmul (dmean (s : Int)) D49) (FP.i2d (zI ((s : Int) - 1))) .l) && decide (dcI (FP.dmul (dmean (s : Int)) D49) (FP.i2d (zI ((s : Int) + 1))) .g < 0) | _ => false
theorem chkM_0 : allN (fun k => chkM (0 + k)) 245 = true := by decide +kernel
theorem chkM_1 : allN (fun k => chkM (245 + k)) 245 = true := by decide +kernel
theorem chkM_2 : allN (fun k => chkM (490 + k)) 245 = true := by decide +kernel
theorem chkM_3 : allN (fun k => chkM (735 + k)) 245 = true := by decide +kernel
theorem chkM_4 : allN (fun k => chkM (980 + k)) 245 = true := by decide +kernel
theorem chkM_5 : allN (fun k => chkM (1225 + k)) 245 = true := by decide +kernel
theorem chkM_6 : allN (fun k => chkM (1470 + k)) 245 = true := by decide +kernel
theorem chkM_7 : allN (fun k => chkM (1715 + k)) 245 = true := by decide +kernel
theorem chkM_8 : allN (fun k => chkM (1960 + k)) 245 = true := by decide +kernel
theorem chkM_9 : allN (fun k => chkM (2205 + k)) 245 = true := by decide +kernel
theorem chkM_10 : allN (fun k => chkM (2450 + k)) 245 = true := by decide +kernel
theorem chkM_11 : allN (fun k => chkM (2695 + k)) 245 = true := by decide +kernel
theorem chkM_12 : allN (fun k => chkM (2940 + k)) 245 = true := by decide +kernel
theorem chkM_13 : allN (fun k => chkM (3185 + k)) 245 = true := by decide +kernel
theorem chkM_14 : allN (fun k => chkM (3430 + k)) 245 = true := by decide +kernel
theorem chkM_15 : allN (fun k => chkM (3675 + k)) 245 = true := by decide +kernel
theorem chkM_16 : allN (fun k => chkM (3920 + k)) 245 = true := by decide +kernel
theorem chkM_17 : allN (fun k => chkM (4165 + k)) 245 = true := by decide +kernel
theorem chkM_18 : allN (fun k => chkM (4410 + k)) 245 = true := by decide +kernel
theorem chkM_19 : allN (fun k => chkM (4655 + k)) 245 = true := by decide +kernel
theorem chkM_at (n : Nat) (h : n < 4900) : chkM n = true := by
  have hj : n % 245 < 245 := Nat.mod_lt _ (by omega)
  have hi : n = 0 + n % 245 ∨ n = 245 + n % 245 ∨ n = 490 + n % 245 ∨ n = 735 + n % 245 ∨ n = 980 + n % 245 ∨ n = 1225 + n % 245 ∨ n = 1470 + n % 245 ∨ n = 1715 + n % 245 ∨ n = 1960 + n % 245 ∨ n = 2205 + n % 245 ∨ n = 2450 + n % 245 ∨ n = 2695 + n % 245 ∨ n = 2940 + n % 245 ∨ n = 3185 + n % 245 ∨ n = 3430 + n % 245 ∨ n = 3675 + n % 245 ∨ n = 3920 + n % 245 ∨ n = 4165 + n % 245 ∨ n = 4410 + n % 245 ∨ n = 4655 + n % 245 := by omega
  rcases hi with e | e | e | e | e | e | e | e | e | e | e | e | e | e | e | e | e | e | e | e
  · rw [e]; exact allN_at 245 chkM_0 (n % 245) hj
  · rw [e]; exact allN_at 245 chkM_1 (n % 245) hj
  · rw [e]; exact allN_at 245 chkM_2 (n % 245) hj
  · rw [e]; exact allN_at 245 chkM_3 (n % 245) hj
  · rw [e]; exact allN_at 245 chkM_4 (n % 245) hj
  · rw [e]; exact allN_at 245 chkM_5 (n % 245) hj
  · rw [e]; exact allN_at 245 chkM_6 (n % 245) hj
  · rw [e]; exact allN_at 245 chkM_7 (n % 245) hj
  · rw [e]; exact allN_at 245 chkM_8 (n % 245) hj
  · rw [e]; exact allN_at 245 chkM_9 (n % 245) hj
  · rw [e]; exact allN_at 245 chkM_10 (n % 245) hj
  · rw [e]; exact allN_at 245 chkM_11 (n % 245) hj
  · rw [e]; exact allN_at 245 chkM_12 (n % 245) hj
  · rw [e]; exact allN_at 245 chkM_13 (n % 245) hj
  · rw [e]; exact allN_at 245 chkM_14 (n % 245) hj
  · rw [e]; exact allN_at 245 chkM_15 (n % 245) hj
  · rw [e]; exact allN_at 245 chkM_16 (n % 245) hj
  · rw [e]; exact allN_at 245 chkM_17 (n % 245) hj
  · rw [e]; exact allN_at 245 chkM_18 (n % 245) hj
  · rw [e]; exact allN_at 245 chkM_19 (n % 245) hj
theorem q_mean2 {s : Int} (h : 0 ≤ s ∧ s < 4900) : vf_n64 (FP.dmul (dmean s) D49) ∧ 0 < dcI (FP.dmul (dmean s) D49) (FP.i2d (zI (s - 1))) .l ∧ dcI (FP.dmul (dmean s) D49) (FP.i2d (zI (s + 1))) .g < 0 := by
  obtain ⟨n, rfl⟩ := Int.eq_ofNat_of_zero_le h.1
  have hc := chkM_at n (by omega)
  unfold chkM at hc
  split at hc
  · next e =>
    rw [Bool.and_eq_true, decide_eq_true_iff, decide_eq_true_iff] at hc
    exact ⟨DV_n64 e, hc⟩
  · cases hc
