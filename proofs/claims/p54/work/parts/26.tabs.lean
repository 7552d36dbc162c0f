theorem zb_T {P : Prop} (h : P) : true = true ↔ P := ⟨fun _ => h, fun _ => rfl⟩
theorem zb_F {P : Prop} (h : ¬ P) : false = true ↔ P := ⟨fun q => (by cases q), fun q => absurd q h⟩
theorem z_osw {a k o d : Int} {r : List (Int × Int)} (h : ¬ a = k) : Op.lookupswitch.offset ((k, o) :: r) d a = Op.lookupswitch.offset r d a := by
  rw [Op.lookupswitch.offset_cons, if_neg (fun q => h q.symm)]
section ZSW
variable {p : Program} {l : Launch} {e : Env} {R : Room} {s : State} {m : MethodId} {args : Array Value} {below : List Frame} {meth : Method} {c : Code} {H : Heap} {locs : List Loc} {cells slots : Nat} {Q : State → Prop}
variable {cc : ByteArray} {pc : Nat} {ls : Array Slot} {rest : List Value}
theorem z_tabIn (hx : p.tables.exec = Jvm.exec) (hb : c.code = cc) {a : Int} (ha : z32 a) {dflt lo hi : Int} {offs : Array Int} {len : Nat} {off : Int} {tgt : Nat} (hdg : decode cc pc = .ok (.tableswitch dflt lo hi offs, len)) (h : lo ≤ a ∧ a ≤ hi) (ho : offs[(a - lo).toNat]? = some off) (ht : (pc : Int) + off = (tgt : Int))
    (k : W p l e R s m args below meth c H locs cells slots Q (F0 m tgt ls rest)) : W p l e R s m args below meth c H locs cells slots Q (F0 m pc ls (.int (zI a) :: rest)) :=
  lv_tableIn hx hb hdg (by rw [zI_toInt ha]; omega) (by rw [zI_toInt ha]; omega) (by rw [zI_toInt ha]; exact ho) ht k
theorem z_tabOut (hx : p.tables.exec = Jvm.exec) (hb : c.code = cc) {a : Int} (ha : z32 a) {dflt lo hi : Int} {offs : Array Int} {len : Nat} {tgt : Nat} (hdg : decode cc pc = .ok (.tableswitch dflt lo hi offs, len)) (h : a < lo ∨ hi < a) (ht : (pc : Int) + dflt = (tgt : Int))
    (k : W p l e R s m args below meth c H locs cells slots Q (F0 m tgt ls rest)) : W p l e R s m args below meth c H locs cells slots Q (F0 m pc ls (.int (zI a) :: rest)) :=
  lv_tableOut hx hb hdg (by rw [zI_toInt ha]; exact h) ht k
theorem z_look (hx : p.tables.exec = Jvm.exec) (hb : c.code = cc) {a : Int} (ha : z32 a) {dflt : Int} {ps : Array (Int × Int)} {len : Nat} {off : Int} {tgt : Nat} (hdg : decode cc pc = .ok (.lookupswitch dflt ps, len)) (hp : (ps.toList.zip (ps.toList.drop 1)).all (fun (a, next) => a.1 < next.1) = true) (ho : Op.lookupswitch.offset ps.toList dflt a = off) (ht : (pc : Int) + off = (tgt : Int))
    (k : W p l e R s m args below meth c H locs cells slots Q (F0 m tgt ls rest)) : W p l e R s m args below meth c H locs cells slots Q (F0 m pc ls (.int (zI a) :: rest)) :=
  lv_lookup hx hb hdg hp (by rw [zI_toInt ha]; exact ho) ht k
end ZSW
