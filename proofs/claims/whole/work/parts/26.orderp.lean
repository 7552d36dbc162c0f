/-! ORDERS, plainly -/
abbrev OS : Type := Int × Int × Int × Int × Int
theorem zb_T {P : Prop} (h : P) : true = true ↔ P := ⟨fun _ => h, fun _ => rfl⟩
theorem zb_F {P : Prop} (h : ¬ P) : false = true ↔ P := ⟨fun q => (by cases q), fun q => absurd q h⟩
def O_last (le : Int) : Int := if le = 115 then 99 else 60
def O_sec (le nu c : Int) : Prop := 48 ≤ c ∧ c ≤ 57 ∧ 0 < nu ∧ nu * 10 + (c - 48) ≤ O_last le
def O_fits (pl le nu c : Int) : Prop :=
  if pl = 0 then c = 115 ∨ c = 104 ∨ c = 100 ∨ c = 126
  else if pl = 1 ∨ pl = 2 then 48 ≤ c ∧ c < 55
  else if pl = 3 then c = (if le = 115 then 61 else 42)
  else if pl = 4 then (if le = 115 then 48 else 49) ≤ c ∧ c ≤ 57
  else if pl = 5 then c = 59 ∨ O_sec le nu c
  else c = 59
def O_step (pl le ro co nu c : Int) : OS :=
  if pl = 0 then (if c = 126 then 6 else 1, c, ro, co, nu)
  else if pl = 1 then (2, le, c - 48, co, nu)
  else if pl = 2 then (3, le, ro, c - 48, nu)
  else if pl = 3 then (4, le, ro, co, nu)
  else if pl = 4 then (5, le, ro, co, c - 48)
  else if c = 59 then (0, le, ro, co, nu)
  else (6, le, ro, co, nu * 10 + (c - 48))
noncomputable def O_runN (f : IA) (n : Int) : Nat → Int → OS → Int × OS
  | 0, i, s => (i, s)
  | k + 1, i, s => if i < n ∧ cb (O_fits s.1 s.2.1 s.2.2.2.2 (f i)) = true then O_runN f n k (i + 1) (O_step s.1 s.2.1 s.2.2.1 s.2.2.2.1 s.2.2.2.2 (f i)) else (i, s)
noncomputable def O_run (f : IA) (n i : Int) (s : OS) : Int × OS := O_runN f n (n - i).toNat i s
theorem O_run_up {f : IA} {n i pl le ro co nu : Int} (hi : i < n) (hf : O_fits pl le nu (f i)) : O_run f n i (pl, le, ro, co, nu) = O_run f n (i + 1) (O_step pl le ro co nu (f i)) := by
  unfold O_run; rw [show (n - i).toNat = (n - (i + 1)).toNat + 1 by omega]
  show (if i < n ∧ cb (O_fits pl le nu (f i)) = true then _ else _) = _
  rw [if_pos ⟨hi, cb_iff.mpr hf⟩]
theorem O_run_no {f : IA} {n i pl le ro co nu : Int} (hf : i < n → ¬ O_fits pl le nu (f i)) : O_run f n i (pl, le, ro, co, nu) = (i, pl, le, ro, co, nu) := by
  unfold O_run
  match h : (n - i).toNat with
  | 0 => rfl
  | k + 1 =>
    show (if i < n ∧ cb (O_fits pl le nu (f i)) = true then _ else _) = _
    rw [if_neg (fun q => hf q.1 (cb_iff.mp q.2))]
def OV (pl le ro co nu : Int) : Prop := (0 ≤ pl ∧ pl ≤ 6) ∧ (0 ≤ le ∧ le ≤ 126) ∧ (0 ≤ ro ∧ ro ≤ 6) ∧ (0 ≤ co ∧ co ≤ 6) ∧ (0 ≤ nu ∧ nu ≤ 99) ∧ (1 ≤ pl → le = 115 ∨ le = 104 ∨ le = 100 ∨ (le = 126 ∧ pl = 6)) ∧ (5 ≤ pl → le ≠ 115 → le ≠ 126 → 1 ≤ nu ∧ nu ≤ 60)
def OVs (s : OS) : Prop := OV s.1 s.2.1 s.2.2.1 s.2.2.2.1 s.2.2.2.2
theorem OV_0 {pl le ro co nu : Int} (h : OV pl le ro co nu) : OV 0 le ro co nu := by unfold OV at *; omega
theorem OV_step {pl le ro co nu c : Int} (h : OV pl le ro co nu) (hf : O_fits pl le nu c) : OVs (O_step pl le ro co nu c) := by
  unfold O_fits O_sec O_last at hf; unfold O_step
  (repeat' split) <;> (repeat' split at hf) <;> (simp only [OVs]; unfold OV at *; omega)
theorem O_run_le {f : IA} {n : Int} : ∀ (k : Nat) (i : Int) (s : OS), (n - i).toNat = k → i ≤ n → OVs s → i ≤ (O_runN f n k i s).1 ∧ (O_runN f n k i s).1 ≤ n ∧ OVs (O_runN f n k i s).2 := by
  intro k; induction k with
  | zero => intro i s h1 h2 hv; exact ⟨Int.le_refl _, h2, hv⟩
  | succ k ih =>
    intro i s h1 h2 hv
    show i ≤ (if _ then _ else _ : Int × OS).1 ∧ (if _ then _ else _ : Int × OS).1 ≤ n ∧ OVs (if _ then _ else _ : Int × OS).2
    split
    · next q =>
      have := ih (i + 1) _ (by omega) (by omega) (OV_step hv (cb_iff.mp q.2))
      exact ⟨by omega, this.2.1, this.2.2⟩
    · exact ⟨Int.le_refl _, h2, hv⟩
def O_rel (pl le ro co nu le' ro' co' nu' : Int) : Prop := (1 ≤ pl → le = le') ∧ (2 ≤ pl → le ≠ 126 → ro = ro') ∧ (3 ≤ pl → le ≠ 126 → co = co') ∧ (5 ≤ pl → le ≠ 126 → nu = nu')
def O_rels (s t : OS) : Prop := s.1 = t.1 ∧ O_rel s.1 s.2.1 s.2.2.1 s.2.2.2.1 s.2.2.2.2 t.2.1 t.2.2.1 t.2.2.2.1 t.2.2.2.2
theorem O_rel_fits {pl le ro co nu le' ro' co' nu' c : Int} (h : O_rel pl le ro co nu le' ro' co' nu') (hv : OV pl le ro co nu) : O_fits pl le nu c ↔ O_fits pl le' nu' c := by
  unfold O_rel OV at *; unfold O_fits O_sec O_last
  (repeat' split) <;> omega
theorem O_rel_step {pl le ro co nu le' ro' co' nu' c : Int} (h : O_rel pl le ro co nu le' ro' co' nu') (hv : OV pl le ro co nu) : O_rels (O_step pl le ro co nu c) (O_step pl le' ro' co' nu' c) := by
  obtain ⟨h1, h2, h3, h4⟩ := h
  unfold OV at hv
  unfold O_step
  have g : ∀ {a b c d e f g h i : Int}, (1 ≤ a → b = f) → (2 ≤ a → b ≠ 126 → c = g) → (3 ≤ a → b ≠ 126 → d = h) → (5 ≤ a → b ≠ 126 → e = i) → O_rels (a, b, c, d, e) (a, f, g, h, i) := fun a b c d => ⟨rfl, a, b, c, d⟩
  (repeat' split) <;> first | (exfalso; omega) | (refine g ?_ ?_ ?_ ?_ <;> intros <;> omega)
theorem O_run_rel {f : IA} {n : Int} : ∀ (k : Nat) (i : Int) (s t : OS), OVs s → O_rels s t → (O_runN f n k i s).1 = (O_runN f n k i t).1 ∧ O_rels (O_runN f n k i s).2 (O_runN f n k i t).2 := by
  intro k; induction k with
  | zero => intro i s t _ h; exact ⟨rfl, h⟩
  | succ k ih =>
    intro i s t hv h
    obtain ⟨pl, le, ro, co, nu⟩ := s; obtain ⟨pl', le', ro', co', nu'⟩ := t
    obtain ⟨h1, h2⟩ := h; simp only at h1 h2; subst h1
    have hfe : cb (O_fits pl le nu (f i)) = cb (O_fits pl le' nu' (f i)) := cb_congr (O_rel_fits h2 hv)
    show (if i < n ∧ cb (O_fits pl le nu (f i)) = true then O_runN f n k (i + 1) (O_step pl le ro co nu (f i)) else (i, pl, le, ro, co, nu)).1 = (if i < n ∧ cb (O_fits pl le' nu' (f i)) = true then O_runN f n k (i + 1) (O_step pl le' ro' co' nu' (f i)) else (i, pl, le', ro', co', nu')).1 ∧ O_rels (if i < n ∧ cb (O_fits pl le nu (f i)) = true then O_runN f n k (i + 1) (O_step pl le ro co nu (f i)) else (i, pl, le, ro, co, nu)).2 (if i < n ∧ cb (O_fits pl le' nu' (f i)) = true then O_runN f n k (i + 1) (O_step pl le' ro' co' nu' (f i)) else (i, pl, le', ro', co', nu')).2
    rw [← hfe]
    by_cases q : i < n ∧ cb (O_fits pl le nu (f i)) = true
    · rw [if_pos q, if_pos q]; exact ih _ _ _ (OV_step hv (cb_iff.mp q.2)) (O_rel_step h2 hv)
    · rw [if_neg q, if_neg q]; exact ⟨rfl, rfl, h2⟩
def O_carry (le ro co nu : Int) (h : IA) : IA :=
  if le = 115 then S_put h (ro * 7 + co) nu else if le = 104 then S_heap h (ro * 7 + co) nu else if le = 100 then S_heap h (ro * 7 + co) (-nu) else S_smooth h
def O_drawN (f : IA) : Nat → Int → OS → IA → Int → IA × Int
  | 0, _, s, h, d => (O_carry s.2.1 s.2.2.1 s.2.2.2.1 s.2.2.2.2 h, d + 1)
  | k + 1, i, s, h, d => if f i = 59 then O_drawN f k (i + 1) (O_step s.1 s.2.1 s.2.2.1 s.2.2.2.1 s.2.2.2.2 (f i)) (O_carry s.2.1 s.2.2.1 s.2.2.2.1 s.2.2.2.2 h) (d + 1) else O_drawN f k (i + 1) (O_step s.1 s.2.1 s.2.2.1 s.2.2.2.1 s.2.2.2.2 (f i)) h d
def O_draw (f : IA) (n i : Int) (s : OS) (h : IA) (d : Int) : IA × Int := O_drawN f (n - i).toNat i s h d
theorem O_draw_e {f : IA} {n i pl le ro co nu d : Int} {h : IA} (hi : n ≤ i) : O_draw f n i (pl, le, ro, co, nu) h d = (O_carry le ro co nu h, d + 1) := by
  unfold O_draw; rw [show (n - i).toNat = 0 by omega]; rfl
theorem O_draw_t {f : IA} {n i pl le ro co nu d : Int} {h : IA} (hi : i < n) (hf : f i = 59) : O_draw f n i (pl, le, ro, co, nu) h d = O_draw f n (i + 1) (O_step pl le ro co nu (f i)) (O_carry le ro co nu h) (d + 1) := by
  unfold O_draw; rw [show (n - i).toNat = (n - (i + 1)).toNat + 1 by omega]
  show (if f i = 59 then _ else _) = _; rw [if_pos hf]
theorem O_draw_f {f : IA} {n i pl le ro co nu d : Int} {h : IA} (hi : i < n) (hf : ¬ f i = 59) : O_draw f n i (pl, le, ro, co, nu) h d = O_draw f n (i + 1) (O_step pl le ro co nu (f i)) h d := by
  unfold O_draw; rw [show (n - i).toNat = (n - (i + 1)).toNat + 1 by omega]
  show (if f i = 59 then _ else _) = _; rw [if_neg hf]
theorem O_carry_rel {pl le ro co nu le' ro' co' nu' : Int} {h : IA} (hr : O_rel pl le ro co nu le' ro' co' nu') (hv : OV pl le ro co nu) (hp : 5 ≤ pl) : O_carry le ro co nu h = O_carry le' ro' co' nu' h := by
  unfold O_rel OV at *
  have e1 : le = le' := by omega
  subst e1
  by_cases q : le = 126
  · subst q; rfl
  · rw [hr.2.1 (by omega) q, hr.2.2.1 (by omega) q, hr.2.2.2 (by omega) q]
theorem O_fits_59 {pl le nu : Int} (h : O_fits pl le nu 59) : 5 ≤ pl ∨ pl < 0 := by
  unfold O_fits O_sec O_last at h
  (repeat' split at h) <;> omega
/-- two runs that differ in what is stale draw alike -/
theorem O_draw_rel {f : IA} {n : Int} {e2 : OS} (he : 5 ≤ e2.1) : ∀ (k : Nat) (i : Int) (s t : OS) (h : IA) (d : Int), (n - i).toNat = k → i ≤ n → OVs s → O_rels s t → O_run f n i s = (n, e2) → O_drawN f k i s h d = O_drawN f k i t h d := by
  intro k; induction k with
  | zero =>
    intro i s t h d hk hi hv hr hrun
    obtain ⟨pl, le, ro, co, nu⟩ := s; obtain ⟨pl', le', ro', co', nu'⟩ := t
    obtain ⟨h1, h2⟩ := hr; simp only at h1 h2; subst h1
    have : (i, pl, le, ro, co, nu) = (n, e2) := by rw [← hrun]; unfold O_run; rw [hk]; rfl
    have h9 : e2.1 = pl := by rw [← (Prod.mk.inj this).2]
    show (O_carry le ro co nu h, d + 1) = (O_carry le' ro' co' nu' h, d + 1)
    rw [O_carry_rel h2 hv (by omega)]
  | succ k ih =>
    intro i s t h d hk hi hv hr hrun
    obtain ⟨pl, le, ro, co, nu⟩ := s; obtain ⟨pl', le', ro', co', nu'⟩ := t
    obtain ⟨h1, h2⟩ := hr; simp only at h1 h2; subst h1
    have hfit : O_fits pl le nu (f i) := Classical.byContradiction (fun q => by
      rw [O_run_no (fun _ => q)] at hrun
      have := (Prod.mk.inj hrun).1; omega)
    rw [O_run_up (by omega) hfit] at hrun
    have hv' := OV_step hv hfit
    have hr' := @O_rel_step _ _ _ _ _ _ _ _ _ (f i) h2 hv
    show (if f i = 59 then O_drawN f k (i + 1) (O_step pl le ro co nu (f i)) (O_carry le ro co nu h) (d + 1) else O_drawN f k (i + 1) (O_step pl le ro co nu (f i)) h d) = (if f i = 59 then O_drawN f k (i + 1) (O_step pl le' ro' co' nu' (f i)) (O_carry le' ro' co' nu' h) (d + 1) else O_drawN f k (i + 1) (O_step pl le' ro' co' nu' (f i)) h d)
    by_cases q : f i = 59
    · rw [if_pos q, if_pos q]
      have := O_fits_59 (q ▸ hfit); have hv2 : 0 ≤ pl := hv.1.1
      rw [O_carry_rel h2 hv (by omega)]
      exact ih _ _ _ _ _ (by omega) (by omega) hv' hr' hrun
    · rw [if_neg q, if_neg q]
      exact ih _ _ _ _ _ (by omega) (by omega) hv' hr' hrun
theorem O_rel_0 {le ro co nu le' ro' co' nu' : Int} : O_rels (0, le, ro, co, nu) (0, le', ro', co', nu') := ⟨rfl, fun h => absurd h (by show ¬ (1 : Int) ≤ 0; omega), fun h => absurd h (by show ¬ (2 : Int) ≤ 0; omega), fun h => absurd h (by show ¬ (3 : Int) ≤ 0; omega), fun h => absurd h (by show ¬ (5 : Int) ≤ 0; omega)⟩
theorem z_osw {a k o d : Int} {r : List (Int × Int)} (h : ¬ a = k) : Op.lookupswitch.offset ((k, o) :: r) d a = Op.lookupswitch.offset r d a := by
  rw [Op.lookupswitch.offset_cons, if_neg (fun q => h q.symm)]
section ZSW
variable {p : Program} {l : Launch} {e : Env} {R : Room} {s : State} {m : MethodId} {args : Array Value} {below : List Frame} {meth : Method} {c : Code} {H : Heap} {locs : List Loc} {cells slots : Nat} {Q : State → Prop}
variable {cc : ByteArray} {pc : Nat} {ls : Array Slot} {rest : List Value}
theorem z_tabIn (hx : p.tables.exec = Jvm.exec) (hb : c.code = cc) {a : Int} (ha : z32 a) {dflt lo hi : Int} {offs : Array Int} {len : Nat} {off : Int} {tgt : Nat} (hdg : decode cc pc = .ok (.tableswitch dflt lo hi offs, len)) (h : lo ≤ a ∧ a ≤ hi) (ho : offs[(a - lo).toNat]? = some off) (ht : (pc : Int) + off = (tgt : Int))
    (k : W p l e R s m args below meth c H locs cells slots Q (F0 m tgt ls rest)) : W p l e R s m args below meth c H locs cells slots Q (F0 m pc ls (.int (zI a) :: rest)) :=
  lv_tableIn hx hb hdg (by rw [zI_toInt ha]; omega) (by rw [zI_toInt ha]; omega) (by rw [zI_toInt ha]; exact ho) ht k
theorem z_tabOut (hx : p.tables.exec = Jvm.exec) (hb : c.code = cc) {a : Int} (ha : z32 a) {dflt lo hi : Int} {offs : Array Int} {len : Nat} {tgt : Nat} (hdg : decode cc pc = .ok (.tableswitch dflt lo hi offs, len)) (h : a < lo ∨ hi < a) (ht : (pc : Int) + dflt = (tgt : Int))
    (k : W p l e R s m args below meth c H locs cells slots Q (F0 m tgt ls rest)) : W p l e R s m args below meth c H locs cells slots Q (F0 m pc ls (.int (zI a) :: rest)) :=
  lv_tableOut hx hb hdg (by rw [zI_toInt ha]; exact h) ht k
theorem z_look (hx : p.tables.exec = Jvm.exec) (hb : c.code = cc) {a : Int} (ha : z32 a) {dflt : Int} {ps : Array (Int × Int)} {len : Nat} {off : Int} {tgt : Nat} (hdg : decode cc pc = .ok (.lookupswitch dflt ps, len)) (hp : (ps.toList.zip (ps.toList.drop 1)).all (fun (a, next) => a.1 < next.1) = true) (ho : Op.lookupswitch.offset ps.toList dflt a = off) (ht : (pc : Int) + off = (tgt : Int))
    (k : W p l e R s m args below meth c H locs cells slots Q (F0 m tgt ls rest)) : W p l e R s m args below meth c H locs cells slots Q (F0 m pc ls (.int (zI a) :: rest)) :=
  lv_lookup hx hb hdg hp (by rw [zI_toInt ha]; exact ho) ht k
end ZSW
theorem O_run_fit {f : IA} {n i pl le ro co nu : Int} {e : OS} (hi : i < n) (h : O_run f n i (pl, le, ro, co, nu) = (n, e)) : O_fits pl le nu (f i) := Classical.byContradiction (fun q => by
  rw [O_run_no (fun _ => q)] at h
  have := (Prod.mk.inj h).1; omega)
theorem S_put_b {h : IA} {p v : Int} (hh : ∀ k, 0 ≤ k → k < 49 → 0 ≤ h k ∧ h k ≤ 99) : ∀ k, 0 ≤ k → k < 49 → 0 ≤ S_put h p v k ∧ S_put h p v k ≤ 99 := by
  intro k a b
  by_cases hp : 0 ≤ p ∧ p < 49
  · rw [S_put_in hp]; unfold zu; split; exact clip_b v; exact hh k a b
  · unfold S_put; rw [if_neg hp]; exact hh k a b
