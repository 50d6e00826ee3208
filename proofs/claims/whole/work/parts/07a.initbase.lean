/-! what the constructors take besides: array classes by their names, nest mates' links -/
theorem cls_eq {D : va_G} {Y : Y4} {s : State} {cA : ClassId} {ty : FieldType} (k : Nat) (h : va_K D vwCl (TY Y ++ [(cA, ty)]) s) {cY : ClassId} (hk : (TY Y)[k]? = some (cY, ty)) (hp : ∀ C, ty ≠ .object C) : cA = cY := by
  have h1 := (h.2 4 (cA, ty) rfl).2
  have hk2 : (TY Y ++ [(cA, ty)])[k]? = some (cY, ty) := by
    rw [List.getElem?_append_left (List.getElem?_eq_some_iff.mp hk).1]; exact hk
  have h2 := (h.2 k (cY, ty) hk2).2
  cases ty with
  | object C => exact absurd rfl (hp C)
  | _ => exact Option.some.inj (h1.symm.trans h2)
theorem cls_eqO {D : va_G} {Y : Y4} {s : State} {cA : ClassId} {C : String} (k : Nat) (h : va_K D vwCl (TY Y ++ [(cA, .object C)]) s) {cY : ClassId} (hk : (TY Y)[k]? = some (cY, .object C)) : cA = cY := by
  obtain ⟨_, _, _, _, _, h1⟩ := (h.2 4 (cA, .object C) rfl).2
  have hk2 : (TY Y ++ [(cA, .object C)])[k]? = some (cY, .object C) := by
    rw [List.getElem?_append_left (List.getElem?_eq_some_iff.mp hk).1]; exact hk
  obtain ⟨_, _, _, _, _, h2⟩ := (h.2 k (cY, .object C) hk2).2
  exact Option.some.inj (h1.symm.trans h2)
def sAO : SP := fun _ U => va_AO "StreamRemuxer$Level" U
theorem sAO_fr : Fr sAO := ⟨fun _ u U hv _ h => va_AO.moved (u := u) (by rw [hv]; exact Vm.Alike.refl u.vm) h, fun _ _ s U _ _ h _ _ _ hW => va_AO.moved hW.alike h⟩
def sNest (own : String) (idx : Nat) (y : MethodName) (host : String) : SP := fun _ U => va_Nw (.methodLinkNest own idx y host) U
theorem sNest_fr (own : String) (idx : Nat) (y : MethodName) (host : String) : Fr (sNest own idx y host) := ⟨fun _ u U hv _ h => va_Nw.same rfl (hv.symm) h, fun _ _ s U _ _ h _ _ _ hW => va_Nw.warmM hW h⟩
abbrev nw_X9_26 : SP := sNest RX9 26 yX4_init "StreamRemuxer"
abbrev nw_X9_36 : SP := sNest RX9 36 yX7_init "StreamRemuxer"
abbrev nw_X9_43 : SP := sNest RX9 43 yX6_init "StreamRemuxer"
abbrev nw_X9_50 : SP := sNest RX9 50 yX2_init "StreamRemuxer"
abbrev nw_X1_23 : SP := sNest RX1 23 yX3_init "StreamRemuxer"
section
variable {p : Program} {l : Launch} {e : Env} {R : Room} {s : State} {m : MethodId} {args : Array Value} {below : List Frame} {meth : Method} {c : Code} {H : Heap} {locs : List Loc} {cells slots : Nat} {Q : State → Prop} {cc : ByteArray} {pc : Nat} {ls : Array Slot} {rest : List Value} {D : va_G} {Y : Y4} {A : Nat → Prop} {ws : va_W} {H0 : Heap}
theorem xnewa (k : Nat) (hexec : p.tables.exec = Jvm.exec) (hb : c.code = cc) {atype : ArrayType} {ty : FieldType} (harr : (Cond.arrayClass ty).before args s = true) (hty : newarray.typeOf atype = ty) (hK : va_K D vwCl (TY Y) s) (hP : va_P D vwCl ws H) (hD : va_D A ws) (hS : va_S A H0 H locs) (hA : ∀ q, H0.size ≤ q → A q)
    {n : Int32} {N' : Nat} {a0 : vp_A} (ha : ∀ cA : ClassId, vp_cell cA a0 = arrV cA N' (fun _ => defaultValue ty)) (hn : ¬ n < 0) (hN : n.toNatClampNeg = N') (hbytes : N' * componentBytes ty ≤ 536870912) (hcells : cells + 1 ≤ R.cells) (hslots : slots + N' ≤ R.slots) {cY : ClassId} (hk : (TY Y)[k]? = some (cY, ty)) (hp : ∀ C, ty ≠ .object C) (hdg : decode cc pc = .ok (.newarray atype, 2))
    (kk : ∀ (q : Nat) (H1 : Heap), va_P D vwCl (ws ++ [(q, .inl (cY, a0))]) H1 → va_D A (ws ++ [(q, .inl (cY, a0))]) → va_S A H0 H1 locs →
      W p l e R s m args below meth c H1 locs (cells + 1) (slots + N') Q (F0 m (pc + 2) ls (.ref q :: rest))) : W p l e R s m args below meth c H locs cells slots Q (F0 m pc ls (.int n :: rest)) := by
  subst hty
  refine va_newa hexec hb harr rfl hK hP hD hS hA ha hn hN hbytes hcells hslots hdg (fun q cA H1 hK1 hP1 hD1 hS1 => ?_)
  have e1 := cls_eq k hK1 hk hp
  subst e1
  exact kk q H1 hP1 hD1 hS1
theorem xnewq (hexec : p.tables.exec = Jvm.exec) (hb : c.code = cc) {own : String} {index : Nat} (hown : s.vm.findClass own = some m.cls) (hclink : (Cond.classLink own index "StreamRemuxer$Level").before args s = true) (hover : va_AO "StreamRemuxer$Level" s) (hK : va_K D vwCl (TY Y) s) (hP : va_P D vwCl ws H) (hD : va_D A ws) (hS : va_S A H0 H locs) (hA : ∀ q, H0.size ≤ q → A q)
    {n : Int32} {N' : Nat} (hn : ¬ n < 0) (hN : n.toNatClampNeg = N') (hbytes : N' * 4 ≤ 536870912) (hcells : cells + 1 ≤ R.cells) (hslots : slots + N' ≤ R.slots) (hdg : decode cc pc = .ok (.anewarray index, 3))
    (kk : ∀ (q : Nat) (H1 : Heap), va_P D vwCl (ws ++ [(q, .inl (Y.2.2.2, N', .inr (.inr (.inr (.inr (fun _ => none))))))]) H1 → va_D A (ws ++ [(q, .inl (Y.2.2.2, N', .inr (.inr (.inr (.inr (fun _ => none))))))]) → va_S A H0 H1 locs →
      W p l e R s m args below meth c H1 locs (cells + 1) (slots + N') Q (F0 m (pc + 3) ls (.ref q :: rest))) : W p l e R s m args below meth c H locs cells slots Q (F0 m pc ls (.int n :: rest)) := by
  refine va_newq hexec hb hown hclink hover hK hP hD hS hA hn hN hbytes hcells hslots hdg (fun q cA H1 hK1 hP1 hD1 hS1 => ?_)
  have e1 := cls_eqO 3 hK1 (cY := Y.2.2.2) rfl
  subst e1
  exact kk q H1 hP1 hD1 hS1
end
