/-! heights: hills, means, turns, copies -/
theorem zI_n (n : Nat) : zI (n : Int) = nI n := Int32.ofInt_eq_ofNat
theorem zI_tn {a : Int} (h0 : 0 ≤ a) (h1 : a < 2147483648) : (zI a).toBitVec.toNat = a.toNat := by
  obtain ⟨n, rfl⟩ := Int.eq_ofNat_of_zero_le h0
  rw [zI_n, pk_tn (by omega)]; rfl
theorem zI_xor {a b : Int} (ha : 0 ≤ a ∧ a < 2147483648) (hb : 0 ≤ b ∧ b < 2147483648) : 0 ≤ (zI a ^^^ zI b).toInt := by
  have h : (zI a ^^^ zI b).toBitVec.toNat < 2 ^ 31 := by
    rw [Int32.toBitVec_xor, BitVec.toNat_xor, zI_tn ha.1 ha.2, zI_tn hb.1 hb.2]
    exact Nat.xor_lt_two_pow (by omega) (by omega)
  show 0 ≤ (zI a ^^^ zI b).toBitVec.toInt
  rw [BitVec.toInt_eq_toNat_of_lt (by omega)]
  omega
section ZX
variable {p : Program} {l : Launch} {e : Env} {R : Room} {s : State} {m : MethodId} {args : Array Value} {below : List Frame} {meth : Method} {c : Code} {H : Heap} {locs : List Loc} {cells slots : Nat} {Q : State → Prop}
variable {cc : ByteArray} {pc : Nat} {ls : Array Slot} {rest : List Value}
theorem z_ixor (hx : p.tables.exec = Jvm.exec) (hb : c.code = cc) {a b : Int} (h : (0 ≤ a ∧ a < 2147483648) ∧ 0 ≤ b ∧ b < 2147483648) (hdg : decode cc pc = .ok (.ixor, 1)) (k : ∀ x : Int, 0 ≤ x ∧ x < 2147483648 → W p l e R s m args below meth c H locs cells slots Q (F0 m (pc + 1) ls (.int (zI x) :: rest))) : W p l e R s m args below meth c H locs cells slots Q (F0 m pc ls (.int (zI b) :: .int (zI a) :: rest)) :=
  lv_ixor hx hb hdg (by rw [zI_of (zI a ^^^ zI b)]; exact k _ ⟨zI_xor h.1 h.2, (zI_rng _).2⟩)
end ZX
theorem zmix_b {f g : IA} {i a b : Int} (hg : ∀ k, 0 ≤ k → k < 49 → a ≤ g k ∧ g k ≤ b) (hf : ∀ k, a ≤ f k ∧ f k ≤ b) : ∀ k, 0 ≤ k → k < 49 → a ≤ zmix i f g k ∧ zmix i f g k ≤ b := fun k h1 h2 => by
  unfold zmix; split
  · exact hf k
  · exact hg k h1 h2
theorem S_diff_congr {h o h' o' : IA} (e1 : ∀ k, 0 ≤ k → k < 49 → h k = h' k) (e2 : ∀ k, 0 ≤ k → k < 49 → o k = o' k) : S_diff h o = S_diff h' o' := zC_congr (by omega) (fun k h1 h2 => by rw [e1 k h1 h2, e2 k h1 h2])
def S_left (p a k : Int) : Int := zabs a - (zabs (k / 7 - p / 7) + zabs (k % 7 - p % 7)) * ((zabs a + 2) / 3)
def S_heapv (h : IA) (p a k : Int) : Int := clip (h k + (if S_left p a k ≤ 0 then 0 else if a < 0 then -(S_left p a k) else S_left p a k))
theorem S_heapv_b {h : IA} {p a k : Int} : 0 ≤ S_heapv h p a k ∧ S_heapv h p a k ≤ 99 := clip_b _
theorem S_heapv_0 {h : IA} {p a k : Int} (hl : S_left p a k ≤ 0) (hb : 0 ≤ h k ∧ h k ≤ 99) : S_heapv h p a k = h k := by unfold S_heapv; rw [if_pos hl, clip_id (by omega)]; omega
theorem S_heapv_pos {h : IA} {p a k : Int} (hl : 0 < S_left p a k) (ha : 0 < a) : S_heapv h p a k = clip (h k + S_left p a k) := by unfold S_heapv; rw [if_neg (by omega), if_neg (by omega)]
theorem S_heapv_neg {h : IA} {p a k : Int} (hl : 0 < S_left p a k) (ha : a < 0) : S_heapv h p a k = clip (h k + -(S_left p a k)) := by unfold S_heapv; rw [if_neg (by omega), if_pos ha]
def S_heap (h : IA) (p a : Int) : IA := zmix 49 (fun k => S_heapv h p a k) h
theorem S_pointAt_b (r c : Int) : -1 ≤ S_pointAt r c ∧ S_pointAt r c < 49 := by unfold S_pointAt; split <;> omega
theorem S_pointAt_in {r c : Int} (hr : 0 ≤ r ∧ r < 7) (hc : 0 ≤ c ∧ c < 7) : S_pointAt r c = r * 7 + c := by unfold S_pointAt; rw [if_neg (by omega)]
theorem S_step_b (p s : Int) : -1 ≤ S_step p s ∧ S_step p s < 49 := by unfold S_step; split; exact S_pointAt_b _ _; omega
def S_mt (o : IA) (p : Int) : IA := fun s => if S_step p s = -1 then 0 else o (S_step p s)
def S_mc (p : Int) : IA := fun s => if S_step p s = -1 then 0 else 1
def S_mean (o : IA) (p : Int) : Int := (o p + zS (S_mt o p) 4) / (1 + zS (S_mc p) 4)
theorem S_mean_b {t n : Int} (ht : 0 ≤ t ∧ t ≤ 99 * n) (hn : 1 ≤ n) : 0 ≤ t / n ∧ t / n ≤ 99 := ⟨Int.ediv_nonneg ht.1 (by omega), Int.ediv_le_of_le_mul (by omega) (by rw [Int.mul_comm] at ht; omega)⟩
theorem S_mean_congr {o o' : IA} {p : Int} (hp : 0 ≤ p ∧ p < 49) (h : ∀ k, 0 ≤ k → k < 49 → o k = o' k) : S_mean o p = S_mean o' p := by
  unfold S_mean
  rw [h p hp.1 hp.2, zS_congr (f := S_mt o p) (g := S_mt o' p) 4 (by omega) (fun s h1 h2 => ?_)]
  unfold S_mt
  have hb := S_step_b p s
  split
  · rfl
  · exact h _ (by omega) hb.2
def S_smooth (h : IA) : IA := zmix 49 (fun k => clip (S_mean h k)) h
def S_turn (h : IA) : IA := zmix 49 (fun k => clip (h (S_pointAt (6 - k % 7) (k / 7)))) h
theorem zcpy_up {f g : IA} {sp dp n v i : Int} (hn : 0 ≤ n) (hi : i = dp + n) (hv : v = f (sp + n)) : zu (zcpy f g sp dp n) i v = zcpy f g sp dp (n + 1) := by
  funext k; unfold zu zcpy
  by_cases h : k = i
  · rw [if_pos h, if_pos (by omega), hv]; congr 1; omega
  · rw [if_neg h]
    by_cases h2 : dp ≤ k ∧ k < dp + n
    · rw [if_pos h2, if_pos (by omega)]
    · rw [if_neg h2, if_neg (by omega)]
theorem zcpy_0 (f g : IA) (sp dp : Int) : zcpy f g sp dp 0 = g := by funext k; unfold zcpy; rw [if_neg (by omega)]
theorem zcpy_b {f g : IA} {sp dp n a b N M : Int} (hf : ∀ k, 0 ≤ k → k < N → a ≤ f k ∧ f k ≤ b) (hg : ∀ k, 0 ≤ k → k < M → a ≤ g k ∧ g k ≤ b) (h1 : 0 ≤ sp) (h2 : sp + n ≤ N) : ∀ k, 0 ≤ k → k < M → a ≤ zcpy f g sp dp n k ∧ zcpy f g sp dp n k ≤ b := fun k h3 h4 => by
  unfold zcpy; split
  · exact hf _ (by omega) (by omega)
  · exact hg k h3 h4
theorem zfill_up {f : IA} {v i : Int} (hi : 0 ≤ i) : zu (zmix i (fun _ => v) f) i v = zmix (i + 1) (fun _ => v) f := zmix_up hi rfl
/-! a method of a class that has native stand-ins for others of its methods -/
theorem z_ofMF {l : Launch} {y : MethodName} {wl wl' : List Cond} {rm : Room} {D : va_G} {τ : Nat → Nat} {tys : List (ClassId × FieldType)} {av : List Value} {ws : va_W} {QQ : zQQ} {cc : ByteArray} {maxL : Nat} {ret : Option FieldType}
    (hy : plainFor y = true) (hw : wl = Cond.code y cc maxL ret :: wl') (hn : (lg_sl av).length ≤ maxL)
    (body : ∀ (p : Program) (e : Env) (s : State) (m : MethodId) (args : Array Value) (below : List Frame) (meth : Method) (c : Code), CallFix p m c cc maxL s args wl y.cls → meth.sig.returnType = ret → meth.locks = false → meth.name = y.name → va_K D vwCl tys s → va_P D vwCl ws s.heap →
      ∀ A : Nat → Prop, va_D A ws → GS τ A s s.heap → (∀ q, s.heap.size ≤ q → A q) → va_S A s.heap s.heap [] → ∀ ls : Array Slot, lv_has ls maxL (lv_args 0 av) → ∀ Q : State → Prop, Q = MQ below (QQ (zB D A) A) args s rm.cells rm.slots A →
      W p l e rm s m args below meth c s.heap [] 0 0 Q (F0 m 0 ls [])) : cM l y wl rm D τ tys av ws QQ := by
  intro sz
  refine MetFree.of_bodySF (code := cc) (maxLocals := maxL) (ret := ret) hy ?_ ?_
  · intro args s m h hn
    obtain ⟨meth, c, h1, h2, h3, h4, h5, h6, -, -⟩ := Cond.code_spec hn (atoms_spec (ws := wl) h _ (by rw [hw]; exact List.mem_cons_self))
    exact ⟨meth, c, h1, h2, h3, h4, h5, h6⟩
  · intro p e s m args below meth c s₁ B hml hP _
    have hh0 : s₁.heap = s.heap := by rw [B.state]; rfl
    obtain ⟨rfl, hsz, hP, hK, hD, hG⟩ := hP
    subst hsz
    have K := body p e s m _ below meth c ⟨B.exec, B.bytes, hml, findClass_of_methodNamed B.named, atoms_spec (ws := wl) B.pre⟩ B.returns B.notSynchronized (name_of_methodNamed B.named B.method).1 hK hP _ hD hG (fun q h => Or.inr h) va_S.rf _ (lv_entry av hn) _ rfl
    rw [← lg_entry_eq] at K
    obtain ⟨t, a1, o, b1, b2, b3⟩ := K s₁ hh0 (Stand.of_body B)
    exact ⟨t, o, a1, b1, b2, ⟨b3.1, b3.2⟩⟩
