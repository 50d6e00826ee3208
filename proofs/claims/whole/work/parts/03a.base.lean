/-! the base of the walks: a world of cells before and behind a method, the functional pictures' own steps, statics -/
abbrev Y4 : Type := ClassId × ClassId × ClassId × ClassId
abbrev TY (Y : Y4) : List (ClassId × FieldType) := [(Y.1, .byte), (Y.2.1, .int), (Y.2.2.1, .long), (Y.2.2.2, .object "StreamRemuxer$Level")]
def CX (p : Program) (s : State) (m : MethodId) (meth : Method) (c : Code) (args : Array Value) (cc : ByteArray) (nL : Nat) (ret : Option FieldType) (ws : List Cond) (own : String) : Prop :=
  p.tables.exec = Jvm.exec ∧ c.code = cc ∧ c.maxLocals = nL ∧ meth.sig.returnType = ret ∧ (∀ w ∈ ws, w.before args s = true) ∧ s.vm.findClass own = some m.cls ∧ meth.locks = false
def PRE (D : va_G) (Y : Y4) (ws : va_W) (sz : Nat) (U : State) : Prop := U.heap.size = sz ∧ va_P D vwCl ws U.heap ∧ va_K D vwCl (TY Y) U ∧ va_D (fun _ => True) ws
def PST (D : va_G) (Y : Y4) (A : Nat → Prop) (ws : va_W) (t : State) : Prop := va_P D vwCl ws t.heap ∧ va_K D vwCl (TY Y) t ∧ va_D A ws
theorem pre_blind (D : va_G) (Y : Y4) (ws : va_W) (sz : Nat) (av : List Value) : FrameBlind (va_Pc av (PRE D Y ws sz)) := fun a U g mk q => by
  obtain ⟨q0, q1, qP, qK, qD⟩ := q
  exact ⟨q0, q1, qP, va_K.moved (u := U) (U := U.calling g mk a) (Vm.Alike.refl U.vm) qK, qD⟩
theorem pre_mk {D : va_G} {Y : Y4} {ws : va_W} {s : State} {H : Heap} {A : Nat → Prop} (hK : va_K D vwCl (TY Y) s) (hP : va_P D vwCl ws H) (hD : va_D A ws) (U : State) (hU : U.heap = H) (hW : s.WarmedH U.vm) : PRE D Y ws H.size U :=
  ⟨by rw [hU], by rw [hU]; exact hP, va_K.moved hW.alike hK, hD.weaken (fun _ _ _ _ => trivial)⟩
theorem pres_0 {D : va_G} {Y : Y4} {ws : va_W} {s : State} {H : Heap} {A : Nat → Prop} {As : List Value} (hK : va_K D vwCl (TY Y) s) (hP : va_P D vwCl ws H) (hD : va_D A ws) : PreS s H (va_Pc As (PRE D Y ws H.size)) As :=
  ⟨pre_blind D Y ws H.size As, fun U hU hW => ⟨rfl, pre_mk hK hP hD U hU hW⟩⟩
theorem prev_0 {D : va_G} {Y : Y4} {ws : va_W} {s : State} {H : Heap} {A : Nat → Prop} {As : List Value} {b q0 ci : Nat} {q : vw_C} {fs : List Value} (hc : vwCl[ci]? = some q) (he : ws[q0]? = some (b, .inr (ci, fs))) (hK : va_K D vwCl (TY Y) s) (hP : va_P D vwCl ws H) (hD : va_D A ws) : PreV s H q.1 b (va_Pc (.ref b :: As) (PRE D Y ws H.size)) As :=
  ⟨pre_blind D Y ws H.size (.ref b :: As), va_recv hK hP hc he, fun U hU hW => ⟨rfl, pre_mk hK hP hD U hU hW⟩⟩
-- what stands outside the world: static arrays, a string; each is kept by a frame
abbrev SP : Type := (Nat → Prop) → State → Prop
def Fr (X : SP) : Prop := (∀ (A : Nat → Prop) (u U : State), U.vm = u.vm → U.heap = u.heap → X A u → X A U) ∧ ∀ (A B : Nat → Prop) (s U : State) (H : Heap) (locs : List Loc), X A s → va_S A s.heap H locs → (∀ q, B q → A q) → U.heap = H → s.WarmedH U.vm → X B U
def ST (l : List SP) (A : Nat → Prop) (U : State) : Prop := ∀ X ∈ l, Fr X ∧ X A U
def sArr (C n d : String) (ty : FieldType) (t N : Nat) (f : Nat → Value) : SP := fun A U => va_Z C n d (.ref t) A U U.heap ∧ va_T ty t N f A U U.heap
theorem sArr_fr (C n d : String) (ty : FieldType) (t N : Nat) (f : Nat → Value) : Fr (sArr C n d ty t N f) := by
  refine ⟨fun A u U hv hh h => ?_, fun A B s U H locs h hS hF hU hW => ?_⟩
  · have al : u.vm.Alike U.vm := by rw [hv]; exact Vm.Alike.refl u.vm
    exact ⟨by rw [hh]; exact h.1.moved al, by rw [hh]; exact h.2.moved al⟩
  · exact ⟨by rw [hU]; exact ((h.1.kept hS.2.1).narrow hF).moved hW.alike, by rw [hU]; exact ((h.2.kept hS.2.1).narrow hF).moved hW.alike⟩
def PREX (D : va_G) (Y : Y4) (ws : va_W) (sz : Nat) (l : List SP) (U : State) : Prop := PRE D Y ws sz U ∧ ST l (va_A ws sz) U
theorem st_in {l l' : List SP} (is : List Nat) (h : is.filterMap (fun i => l[i]?) = l') : ∀ q ∈ l', q ∈ l := fun q hq => by
  rw [← h] at hq
  obtain ⟨i, -, hi⟩ := List.mem_filterMap.mp hq
  exact List.mem_of_getElem? hi
theorem ST.sub {l l' : List SP} {A : Nat → Prop} {U : State} (h : ST l A U) (hs : ∀ q ∈ l', q ∈ l) : ST l' A U := fun q hq => h q (hs q hq)
theorem ST.go {l : List SP} {A B : Nat → Prop} {s : State} {H : Heap} {locs : List Loc} (h : ST l A s) (hS : va_S A s.heap H locs) (hF : ∀ q, B q → A q) (U : State) (hU : U.heap = H) (hW : s.WarmedH U.vm) : ST l B U := fun X hq =>
  ⟨(h X hq).1, (h X hq).1.2 A B s U H locs (h X hq).2 hS hF hU hW⟩
theorem prex_blind (D : va_G) (Y : Y4) (ws : va_W) (sz : Nat) (l : List SP) (av : List Value) : FrameBlind (va_Pc av (PREX D Y ws sz l)) := fun a U g mk q => by
  obtain ⟨q0, ⟨q1, qP, qK, qD⟩, qX⟩ := q
  exact ⟨q0, ⟨q1, qP, va_K.moved (u := U) (U := U.calling g mk a) (Vm.Alike.refl U.vm) qK, qD⟩, fun X hX => ⟨(qX X hX).1, (qX X hX).1.1 _ U (U.calling g mk a) rfl rfl (qX X hX).2⟩⟩
theorem pres_x {D : va_G} {Y : Y4} {ws : va_W} {s : State} {H : Heap} {A A0 : Nat → Prop} {l l' : List SP} {locs : List Loc} {As : List Value} (hK : va_K D vwCl (TY Y) s) (hP : va_P D vwCl ws H) (hD : va_D A ws) (hX : ST l A0 s) (hs : ∀ q ∈ l', q ∈ l) (hS : va_S A0 s.heap H locs) (hF : ∀ q, va_A ws H.size q → A0 q) : PreS s H (va_Pc As (PREX D Y ws H.size l')) As :=
  ⟨prex_blind D Y ws H.size l' As, fun U hU hW => ⟨rfl, pre_mk hK hP hD U hU hW, (hX.sub hs).go hS hF U hU hW⟩⟩
theorem prev_x {D : va_G} {Y : Y4} {ws : va_W} {s : State} {H : Heap} {A A0 : Nat → Prop} {l l' : List SP} {locs : List Loc} {As : List Value} {b q0 ci : Nat} {q : vw_C} {fs : List Value} (hc : vwCl[ci]? = some q) (he : ws[q0]? = some (b, .inr (ci, fs))) (hK : va_K D vwCl (TY Y) s) (hP : va_P D vwCl ws H) (hD : va_D A ws) (hX : ST l A0 s) (hs : ∀ q ∈ l', q ∈ l) (hS : va_S A0 s.heap H locs) (hF : ∀ q, va_A ws H.size q → A0 q) : PreV s H q.1 b (va_Pc (.ref b :: As) (PREX D Y ws H.size l')) As :=
  ⟨prex_blind D Y ws H.size l' (.ref b :: As), va_recv hK hP hc he, fun U hU hW => ⟨rfl, pre_mk hK hP hD U hU hW, (hX.sub hs).go hS hF U hU hW⟩⟩
-- objects, by their classes
abbrev oX1 (a : Nat) (x0 : Int32) (x1 : Int32) (x2 : Int32) (x3 : Int32) (x4 : Value) (x5 : Value) (x6 : Int32) (x7 : Value) (x8 : Value) (x9 : Int64) (x10 : Int64) (x11 : Int64) (x12 : Int32) : Nat × va_E := (a, .inr (0, [.int x0, .int x1, .int x2, .int x3, x4, x5, .int x6, x7, x8, .long x9, .long x10, .long x11, .int x12]))
abbrev oX2 (a : Nat) (x0 : Value) (x1 : Value) (x2 : Value) (x3 : Int32) (x4 : Int32) (x5 : Int32) : Nat × va_E := (a, .inr (1, [x0, x1, x2, .int x3, .int x4, .int x5]))
abbrev oX3 (a : Nat) (x0 : Int32) (x1 : Int32) (x2 : Int32) (x3 : Int32) (x4 : Int32) : Nat × va_E := (a, .inr (2, [.int x0, .int x1, .int x2, .int x3, .int x4]))
abbrev oX4 (a : Nat) (x0 : Value) (x1 : Value) (x2 : Value) (x3 : Int32) : Nat × va_E := (a, .inr (3, [x0, x1, x2, .int x3]))
abbrev oX6 (a : Nat) (x0 : Int32) (x1 : Int32) (x2 : Int32) (x3 : Value) (x4 : Int32) (x5 : Value) (x6 : Int32) (x7 : Int32) (x8 : Int32) (x9 : Int64) : Nat × va_E := (a, .inr (4, [.int x0, .int x1, .int x2, x3, .int x4, x5, .int x6, .int x7, .int x8, .long x9]))
abbrev oX7 (a : Nat) (x0 : Value) (x1 : Value) (x2 : Value) (x3 : Int32) (x4 : Int32) (x5 : Int32) (x6 : Int32) (x7 : Int32) (x8 : Int32) (x9 : Int32) : Nat × va_E := (a, .inr (5, [x0, x1, x2, .int x3, .int x4, .int x5, .int x6, .int x7, .int x8, .int x9]))
abbrev oX8 (a : Nat) (x0 : Value) (x1 : Int32) (x2 : Int32) (x3 : Int32) : Nat × va_E := (a, .inr (6, [x0, .int x1, .int x2, .int x3]))
abbrev oX9 (a : Nat) (x0 : Value) (x1 : Value) (x2 : Value) (x3 : Value) (x4 : Value) (x5 : Value) (x6 : Value) (x7 : Value) (x8 : Value) (x9 : Int32) (x10 : Int32) (x11 : Int32) (x12 : Int32) (x13 : Int32) : Nat × va_E := (a, .inr (7, [x0, x1, x2, x3, x4, x5, x6, x7, x8, .int x9, .int x10, .int x11, .int x12, .int x13]))
abbrev oX10 (a : Nat) (x0 : Value) (x1 : Value) (x2 : Value) (x3 : Int32) (x4 : Int32) (x5 : Int32) (x6 : Int32) (x7 : Value) (x8 : Value) (x9 : Value) (x10 : Value) (x11 : Value) (x12 : Value) (x13 : Int32) (x14 : Int32) (x15 : Int32) (x16 : Int32) (x17 : Int32) (x18 : Int32) (x19 : Int32) (x20 : Int32) (x21 : Int32) (x22 : Int32) (x23 : Int32) (x24 : Int32) (x25 : Int32) (x26 : Int32) (x27 : Int32) (x28 : Int32) (x29 : Int32) (x30 : Int32) (x31 : Int64) (x32 : Int32) (x33 : Int64) (x34 : Int32) (x35 : Int32) (x36 : Int32) (x37 : Int32) (x38 : Int32) (x39 : Int32) (x40 : Int32) (x41 : Value) (x42 : Value) (x43 : Value) (x44 : Value) (x45 : Value) : Nat × va_E := (a, .inr (8, [x0, x1, x2, .int x3, .int x4, .int x5, .int x6, x7, x8, x9, x10, x11, x12, .int x13, .int x14, .int x15, .int x16, .int x17, .int x18, .int x19, .int x20, .int x21, .int x22, .int x23, .int x24, .int x25, .int x26, .int x27, .int x28, .int x29, .int x30, .long x31, .int x32, .long x33, .int x34, .int x35, .int x36, .int x37, .int x38, .int x39, .int x40, x41, x42, x43, x44, x45]))
abbrev aB (Y : Y4) (a n : Nat) (f : Nat → Int32) : Nat × va_E := (a, .inl (Y.1, n, .inl f))
abbrev aI (Y : Y4) (a n : Nat) (f : Nat → Int32) : Nat × va_E := (a, .inl (Y.2.1, n, .inl f))
abbrev aJ (Y : Y4) (a n : Nat) (f : Nat → Int64) : Nat × va_E := (a, .inl (Y.2.2.1, n, .inr (.inl f)))
abbrev aV (Y : Y4) (a n : Nat) (f : Nat → Option Nat) : Nat × va_E := (a, .inl (Y.2.2.2, n, .inr (.inr (.inr (.inr f)))))
-- a world: its cells are there, and apart
def WD (D : va_G) (A : Nat → Prop) (ws : va_W) (H : Heap) : Prop := va_P D vwCl ws H ∧ va_D A ws
theorem fm_of {ws ws' : va_W} : ∀ (is : List Nat), is.map (fun i => ws[i]?) = ws'.map some → is.filterMap (fun i => ws[i]?) = ws' := by
  intro is
  induction is generalizing ws' with
  | nil => intro h; cases ws' with
    | nil => rfl
    | cons a t => cases h
  | cons i is ih => intro h; cases ws' with
    | nil => cases h
    | cons a t =>
      simp only [List.map_cons, List.cons.injEq] at h
      rw [List.filterMap_cons_some h.1, ih h.2]
theorem fm_to {ws : va_W} : ∀ (is : List Nat), is.all (fun i => decide (i < ws.length)) = true → is.map (fun i => ws[i]?) = (is.filterMap (fun i => ws[i]?)).map some := by
  intro is
  induction is with
  | nil => intro _; rfl
  | cons i is ih => intro h
                    rw [List.all_cons, Bool.and_eq_true] at h
                    have hi : i < ws.length := of_decide_eq_true h.1
                    have e1 : ws[i]? = some ws[i] := List.getElem?_eq_getElem hi
                    rw [List.filterMap_cons_some e1, List.map_cons, List.map_cons, ih h.2, e1]
theorem WD.sub {D : va_G} {A : Nat → Prop} {ws ws' : va_W} {H : Heap} (h : WD D A ws H) (is : List Nat) (hs : is.map (fun i => ws[i]?) = ws'.map some) (hn : va_nd is = true) : WD D A ws' H := ⟨h.1.sub is (fm_of is hs), h.2.sub is hn hs⟩
theorem WD.pst {D : va_G} {Y : Y4} {A : Nat → Prop} {ws : va_W} {s t : State} {H : Heap} (h : WD D A ws H) (hK : va_K D vwCl (TY Y) s) (ht : t.heap = H) (hW : s.WarmedH t.vm) : PST D Y A ws t := ⟨by rw [ht]; exact h.1, va_K.moved hW.alike hK, h.2⟩
theorem prev_w {D : va_G} {Y : Y4} {ws wc : va_W} {s : State} {H : Heap} {A : Nat → Prop} {As : List Value} {b ci : Nat} {q : vw_C} {fs : List Value} (hc : vwCl[ci]? = some q) (he : wc[0]? = some (b, .inr (ci, fs))) (hK : va_K D vwCl (TY Y) s) (wd : WD D A ws H) (is : List Nat) (hs : is.map (fun i => ws[i]?) = wc.map some) (hn : va_nd is = true) : PreV s H q.1 b (va_Pc (.ref b :: As) (PRE D Y wc H.size)) As := prev_0 hc he hK (wd.sub is hs hn).1 (wd.sub is hs hn).2
theorem pres_w {D : va_G} {Y : Y4} {ws wc : va_W} {s : State} {H : Heap} {A : Nat → Prop} {As : List Value} (hK : va_K D vwCl (TY Y) s) (wd : WD D A ws H) (is : List Nat) (hs : is.map (fun i => ws[i]?) = wc.map some) (hn : va_nd is = true) : PreS s H (va_Pc As (PRE D Y wc H.size)) As := pres_0 hK (wd.sub is hs hn).1 (wd.sub is hs hn).2
theorem prev_wx {D : va_G} {Y : Y4} {ws wc : va_W} {s : State} {H : Heap} {A : Nat → Prop} {l l' : List SP} {locs : List Loc} {As : List Value} {b ci : Nat} {q : vw_C} {fs : List Value} (hc : vwCl[ci]? = some q) (he : wc[0]? = some (b, .inr (ci, fs))) (hK : va_K D vwCl (TY Y) s) (wd : WD D A ws H) (is : List Nat) (hs : is.map (fun i => ws[i]?) = wc.map some) (hn : va_nd is = true) (hA : ∀ q, s.heap.size ≤ q → A q) (hX : ST l A s) (hl : ∀ q ∈ l', q ∈ l) (hS : va_S A s.heap H locs) : PreV s H q.1 b (va_Pc (.ref b :: As) (PREX D Y wc H.size l')) As := prev_x (q0 := 0) hc he hK (wd.sub is hs hn).1 (wd.sub is hs hn).2 hX hl hS (va_free wd.2 hS hA is hs)
theorem pres_wx {D : va_G} {Y : Y4} {ws wc : va_W} {s : State} {H : Heap} {A : Nat → Prop} {l l' : List SP} {locs : List Loc} {As : List Value} (hK : va_K D vwCl (TY Y) s) (wd : WD D A ws H) (is : List Nat) (hs : is.map (fun i => ws[i]?) = wc.map some) (hn : va_nd is = true) (hA : ∀ q, s.heap.size ≤ q → A q) (hX : ST l A s) (hl : ∀ q ∈ l', q ∈ l) (hS : va_S A s.heap H locs) : PreS s H (va_Pc As (PREX D Y wc H.size l')) As := pres_x hK (wd.sub is hs hn).1 (wd.sub is hs hn).2 hX hl hS (va_free wd.2 hS hA is hs)
section
variable {p : Program} {l : Launch} {e : Env} {R : Room} {s : State} {m : MethodId} {args : Array Value} {below : List Frame} {meth : Method} {c : Code} {H : Heap} {locs : List Loc} {cells slots : Nat} {Q : State → Prop} {pc : Nat} {ls : Array Slot} {rest st0 : List Value} {D : va_G} {Y : Y4} {A : Nat → Prop} {ws wc w1 : va_W} {a : Array Value}
theorem xj_v (hr : va_Run p l e R s m args below meth c H locs cells slots 0 0 (F0 m pc ls st0) rest (va_Qv (fun _ : Unit => True) (fun _ t => PST D Y (va_A wc H.size) w1 t) (va_A wc H.size) a) (va_A wc H.size)) (wd : WD D A ws H) (hS : va_S A s.heap H locs) (hA : ∀ q, s.heap.size ≤ q → A q) (isC isR : List Nat) (hC : isC.map (fun i => ws[i]?) = wc.map some) (hR : isR.all (fun i => decide (i < ws.length)) = true) (hn : va_nd isR = true) (hdis : ∀ i ∈ isR, i ∉ isC) (kk : ∀ (H1 : Heap) (locs1 : List Loc), WD D A (isR.filterMap (fun i => ws[i]?) ++ w1) H1 → va_S A s.heap H1 locs1 → W p l e R s m args below meth c H1 locs1 cells slots Q (F0 m (pc + 3) ls rest)) : W p l e R s m args below meth c H locs cells slots Q (F0 m pc ls st0) := by
  have hF := va_free wd.2 hS hA isC hC
  refine va_callv hr hS (fun q _ h => hF q h) hF (fun u t H1 locs1 ht hvm hw hB hz1 hk1 hS1 => ?_)
  obtain ⟨hP1, hK1, hD1⟩ := hB
  rw [ht] at hP1
  exact kk H1 locs1 (va_join wd.1 wd.2 isC isR hC (fm_to isR hR) hn hdis hk1 hF hP1 hD1) hS1
theorem xj_i {r0 : Int32} (hr : va_Run p l e R s m args below meth c H locs cells slots 0 0 (F0 m pc ls st0) rest (va_Qi (fun r (_ : Unit) => r = r0) (fun _ t => PST D Y (va_A wc H.size) w1 t) (va_A wc H.size) a) (va_A wc H.size)) (wd : WD D A ws H) (hS : va_S A s.heap H locs) (hA : ∀ q, s.heap.size ≤ q → A q) (isC isR : List Nat) (hC : isC.map (fun i => ws[i]?) = wc.map some) (hR : isR.all (fun i => decide (i < ws.length)) = true) (hn : va_nd isR = true) (hdis : ∀ i ∈ isR, i ∉ isC) (kk : ∀ (H1 : Heap) (locs1 : List Loc), WD D A (isR.filterMap (fun i => ws[i]?) ++ w1) H1 → va_S A s.heap H1 locs1 → W p l e R s m args below meth c H1 locs1 cells slots Q (F0 m (pc + 3) ls (.int r0 :: rest))) : W p l e R s m args below meth c H locs cells slots Q (F0 m pc ls st0) := by
  have hF := va_free wd.2 hS hA isC hC
  refine va_calli hr hS (fun q _ h => hF q h) hF (fun r u t H1 locs1 ht hvm hw hB hz1 hk1 hS1 => ?_)
  obtain ⟨hP1, hK1, hD1⟩ := hB
  rw [ht] at hP1
  subst hw
  exact kk H1 locs1 (va_join wd.1 wd.2 isC isR hC (fm_to isR hR) hn hdis hk1 hF hP1 hD1) hS1
theorem xj_l {r0 : Int64} (hr : va_Run p l e R s m args below meth c H locs cells slots 0 0 (F0 m pc ls st0) rest (va_Ql (fun r (_ : Unit) => r = r0) (fun _ t => PST D Y (va_A wc H.size) w1 t) (va_A wc H.size) a) (va_A wc H.size)) (wd : WD D A ws H) (hS : va_S A s.heap H locs) (hA : ∀ q, s.heap.size ≤ q → A q) (isC isR : List Nat) (hC : isC.map (fun i => ws[i]?) = wc.map some) (hR : isR.all (fun i => decide (i < ws.length)) = true) (hn : va_nd isR = true) (hdis : ∀ i ∈ isR, i ∉ isC) (kk : ∀ (H1 : Heap) (locs1 : List Loc), WD D A (isR.filterMap (fun i => ws[i]?) ++ w1) H1 → va_S A s.heap H1 locs1 → W p l e R s m args below meth c H1 locs1 cells slots Q (F0 m (pc + 3) ls (.long r0 :: rest))) : W p l e R s m args below meth c H locs cells slots Q (F0 m pc ls st0) := by
  have hF := va_free wd.2 hS hA isC hC
  refine va_calll hr hS (fun q _ h => hF q h) hF (fun r u t H1 locs1 ht hvm hw hB hz1 hk1 hS1 => ?_)
  obtain ⟨hP1, hK1, hD1⟩ := hB
  rw [ht] at hP1
  subst hw
  exact kk H1 locs1 (va_join wd.1 wd.2 isC isR hC (fm_to isR hR) hn hdis hk1 hF hP1 hD1) hS1
end
-- the functional pictures: a name, a guard, a bind
def nm {α β : Type} (e : α) (k : α → Option β) : Option β := k e
theorem nm_at {α β : Type} {e x : α} {k : α → Option β} {y : β} (h : nm e k = some y) (ex : x = e) : k x = some y := by subst ex; exact h
theorem ob {α β : Type} {x : Option α} {k : α → Option β} {y : β} (h : x.bind k = some y) : ∃ o, x = some o ∧ k o = some y := by
  cases x with
  | none => cases h
  | some o => exact ⟨o, rfl, h⟩
theorem ip {c : Prop} [Decidable c] {β : Type} {a b : Option β} {y : β} (h : (if c then a else b) = some y) (hc : c) : a = some y := by rw [if_pos hc] at h; exact h
theorem ie {c : Prop} [Decidable c] {β : Type} {a b : Option β} {y : β} (h : (if c then a else b) = some y) (hc : ¬ c) : b = some y := by rw [if_neg hc] at h; exact h
theorem gd {b : Bool} {β : Type} {a : Option β} {y : β} (h : (if b = true then a else none) = some y) : b = true ∧ a = some y := by
  by_cases hb : b = true
  · rw [if_pos hb] at h; exact ⟨hb, h⟩
  · rw [if_neg hb] at h; cases h
theorem gn {c : Prop} [Decidable c] {β : Type} {a : Option β} {y : β} (h : (if c then none else a) = some y) : ¬ c ∧ a = some y := by
  by_cases hb : c
  · rw [if_pos hb] at h; cases h
  · rw [if_neg hb] at h; exact ⟨hb, h⟩
def gin (i : Int32) (n : Nat) : Bool := decide (¬ (i < 0 ∨ n ≤ i.toNatClampNeg))
theorem gin_in {i : Int32} {n : Nat} (h : gin i n = true) : vp_in i n := (of_decide_eq_true h : ¬ (i < 0 ∨ n ≤ i.toNatClampNeg))
def isb (v : Int32) : Bool := decide (v = 0 ∨ v = 1)
theorem isb_nar {v : Int32} (h : isb v = true) : narrow .boolean (.int v) = .int v := by
  rcases of_decide_eq_true h with h | h <;> rw [h] <;> rfl
theorem isb_fit {v : Int32} (h : isb v = true) : fits .boolean (.int v) = true := by
  rcases of_decide_eq_true h with h | h <;> rw [h] <;> rfl
def gcp (n : Int32) (n0 n1 : Nat) : Bool := decide (¬ n < 0 ∧ n.toNatClampNeg ≤ n0 ∧ n.toNatClampNeg ≤ n1)
def ushr32 (x y : Int32) : Int32 := (x.toUInt32 >>> (y.toUInt32 &&& Int32.toUInt32 31)).toInt32
def ushr64 (x : Int64) (y : Int32) : Int64 := (x.toUInt64 >>> (y.toInt64.toUInt64 &&& Int64.toUInt64 63)).toInt64
def shl64 (x : Int64) (y : Int32) : Int64 := x <<< (y.toInt64 &&& 63)
def shr64 (x : Int64) (y : Int32) : Int64 := x >>> (y.toInt64 &&& 63)
def lvc (L : Nat → Nat) : Nat → Option Nat := fun i => if i < 5 then some (L i) else none
theorem lt5 {j : Nat} (h : j < 5) : j = 0 ∨ j = 1 ∨ j = 2 ∨ j = 3 ∨ j = 4 := by omega
theorem gin_lt {i : Int32} {n : Nat} (h : gin i n = true) : i.toNatClampNeg < n := by
  have h : ¬ (i < 0 ∨ n ≤ i.toNatClampNeg) := of_decide_eq_true h
  exact Nat.not_le.mp (fun q => h (Or.inr q))
section
variable {p : Program} {l : Launch} {e : Env} {R : Room} {s : State} {m : MethodId} {args : Array Value} {below : List Frame} {meth : Method} {c : Code} {H : Heap} {locs : List Loc} {cells slots : Nat} {Q : State → Prop} {cc : ByteArray} {pc tgt : Nat} {ls : Array Slot} {rest : List Value} {x y : Int64} {off : Int}
theorem lgc_lt {x y : Int64} : lg_cmp x y < 0 ↔ x < y := lg_cmp_lt x y
theorem lgc_gt {x y : Int64} : 0 < lg_cmp x y ↔ y < x := lg_cmp_gt x y
theorem lgc_eq {x y : Int64} : lg_cmp x y = 0 ↔ x = y := lg_cmp_eq x y
theorem lgc_ge {x y : Int64} : 0 ≤ lg_cmp x y ↔ y ≤ x := lg_cmp_ge x y
theorem lgc_le {x y : Int64} : lg_cmp x y ≤ 0 ↔ x ≤ y := lg_cmp_le x y
theorem xl_lt (hexec : p.tables.exec = Jvm.exec) (hb : c.code = cc) (h1 : decode cc pc = .ok (.lcmp, 1)) (h2 : decode cc (pc + 1) = .ok (.ifCond .lt off, 3)) (ht : ((pc + 1 : Nat) : Int) + off = (tgt : Int)) (kt : x < y → W p l e R s m args below meth c H locs cells slots Q (F0 m tgt ls rest)) (kf : ¬ x < y → W p l e R s m args below meth c H locs cells slots Q (F0 m (pc + 1 + 3) ls rest)) : W p l e R s m args below meth c H locs cells slots Q (F0 m pc ls (.long y :: .long x :: rest)) :=
  W.lcmp hexec hb h1 (lv_if_lt hexec hb h2 ht (fun q => kt (lgc_lt.mp q)) (fun q => kf (fun h => q (lgc_lt.mpr h))))
theorem xl_ge (hexec : p.tables.exec = Jvm.exec) (hb : c.code = cc) (h1 : decode cc pc = .ok (.lcmp, 1)) (h2 : decode cc (pc + 1) = .ok (.ifCond .ge off, 3)) (ht : ((pc + 1 : Nat) : Int) + off = (tgt : Int)) (kt : y ≤ x → W p l e R s m args below meth c H locs cells slots Q (F0 m tgt ls rest)) (kf : ¬ y ≤ x → W p l e R s m args below meth c H locs cells slots Q (F0 m (pc + 1 + 3) ls rest)) : W p l e R s m args below meth c H locs cells slots Q (F0 m pc ls (.long y :: .long x :: rest)) :=
  W.lcmp hexec hb h1 (lv_if_ge hexec hb h2 ht (fun q => kt (lgc_ge.mp q)) (fun q => kf (fun h => q (lgc_ge.mpr h))))
theorem xl_gt (hexec : p.tables.exec = Jvm.exec) (hb : c.code = cc) (h1 : decode cc pc = .ok (.lcmp, 1)) (h2 : decode cc (pc + 1) = .ok (.ifCond .gt off, 3)) (ht : ((pc + 1 : Nat) : Int) + off = (tgt : Int)) (kt : y < x → W p l e R s m args below meth c H locs cells slots Q (F0 m tgt ls rest)) (kf : ¬ y < x → W p l e R s m args below meth c H locs cells slots Q (F0 m (pc + 1 + 3) ls rest)) : W p l e R s m args below meth c H locs cells slots Q (F0 m pc ls (.long y :: .long x :: rest)) :=
  W.lcmp hexec hb h1 (lv_if_gt hexec hb h2 ht (fun q => kt (lgc_gt.mp q)) (fun q => kf (fun h => q (lgc_gt.mpr h))))
theorem xl_le (hexec : p.tables.exec = Jvm.exec) (hb : c.code = cc) (h1 : decode cc pc = .ok (.lcmp, 1)) (h2 : decode cc (pc + 1) = .ok (.ifCond .le off, 3)) (ht : ((pc + 1 : Nat) : Int) + off = (tgt : Int)) (kt : x ≤ y → W p l e R s m args below meth c H locs cells slots Q (F0 m tgt ls rest)) (kf : ¬ x ≤ y → W p l e R s m args below meth c H locs cells slots Q (F0 m (pc + 1 + 3) ls rest)) : W p l e R s m args below meth c H locs cells slots Q (F0 m pc ls (.long y :: .long x :: rest)) :=
  W.lcmp hexec hb h1 (lv_if_le hexec hb h2 ht (fun q => kt (lgc_le.mp q)) (fun q => kf (fun h => q (lgc_le.mpr h))))
theorem xl_eq (hexec : p.tables.exec = Jvm.exec) (hb : c.code = cc) (h1 : decode cc pc = .ok (.lcmp, 1)) (h2 : decode cc (pc + 1) = .ok (.ifCond .eq off, 3)) (ht : ((pc + 1 : Nat) : Int) + off = (tgt : Int)) (kt : x = y → W p l e R s m args below meth c H locs cells slots Q (F0 m tgt ls rest)) (kf : ¬ x = y → W p l e R s m args below meth c H locs cells slots Q (F0 m (pc + 1 + 3) ls rest)) : W p l e R s m args below meth c H locs cells slots Q (F0 m pc ls (.long y :: .long x :: rest)) :=
  W.lcmp hexec hb h1 (lv_if_eq hexec hb h2 ht (fun q => kt (lgc_eq.mp q)) (fun q => kf (fun h => q (lgc_eq.mpr h))))
theorem xl_ne (hexec : p.tables.exec = Jvm.exec) (hb : c.code = cc) (h1 : decode cc pc = .ok (.lcmp, 1)) (h2 : decode cc (pc + 1) = .ok (.ifCond .ne off, 3)) (ht : ((pc + 1 : Nat) : Int) + off = (tgt : Int)) (kt : ¬ x = y → W p l e R s m args below meth c H locs cells slots Q (F0 m tgt ls rest)) (kf : x = y → W p l e R s m args below meth c H locs cells slots Q (F0 m (pc + 1 + 3) ls rest)) : W p l e R s m args below meth c H locs cells slots Q (F0 m pc ls (.long y :: .long x :: rest)) :=
  W.lcmp hexec hb h1 (lv_if_ne hexec hb h2 ht (fun q => kt (fun h => q (lgc_eq.mpr h))) (fun q => kf (lgc_eq.mp q)))
theorem xcopyi {D : va_G} {cl : List vw_C} {tys : List (ClassId × FieldType)} {ws : va_W} {A : Nat → Prop} {H0 : Heap} {a : Nat} (hexec : p.tables.exec = Jvm.exec) (hb : c.code = cc) (hml : c.maxLocals = ls.size) {own : String} {index : Nat} (hown : s.vm.findClass own = some m.cls) (hlink : (Cond.methodLink own index arraycopyName).before args s = true) (hnat : (Cond.native arraycopyName).before args s = true) (hstat : (Cond.static arraycopyName).before args s = true) (hini : (Cond.initialized "java/lang/System").before args s = true)
    (hK : va_K D cl tys s) (hP : va_P D cl ws H) (hD : va_D A ws) (hS : va_S A H0 H locs) (q0 q1 t0 t1 : Nat) {a0 : Nat} {c0 c1 : ClassId} {n0 n1 : Nat} {f g : Nat → Int32} (ha0 : ws[q0]? = some (a0, .inl (c0, n0, .inl f))) (ha1 : ws[q1]? = some (a, .inl (c1, n1, .inl g))) (ht0 : tys[t0]? = some (c0, .int)) (ht1 : tys[t1]? = some (c1, .int))
    {n : Int32} (hg : gcp n n0 n1 = true) (hframes : 1 ≤ R.frames) (hlocals : (rest.map fun v => v.category).sum + (nativeFrameWords "java/lang/System" "arraycopy" 5 + 11) ≤ R.locals) (hdg : decode cc pc = .ok (.invokestatic index, 3))
    (kk : ∀ (H1 : Heap) (locs1 : List Loc), va_P D cl (ws.set q1 (a, .inl (c1, n1, .inl (va_cpy f g 0 0 n.toNatClampNeg)))) H1 → va_D A (ws.set q1 (a, .inl (c1, n1, .inl (va_cpy f g 0 0 n.toNatClampNeg)))) → va_S A H0 H1 locs1 → W p l e R s m args below meth c H1 locs1 cells slots Q (F0 m (pc + 3) ls rest)) : W p l e R s m args below meth c H locs cells slots Q (F0 m pc ls (.int n :: .int 0 :: .ref a :: .int 0 :: .ref a0 :: rest)) := by
  obtain ⟨h3, h4, h5⟩ := of_decide_eq_true hg
  exact va_copyi hexec hb hml hown hlink hnat hstat hini hK hP hD hS q0 q1 t0 t1 ha0 ha1 ht0 ht1 rfl (by decide) (by decide) h3 (by rw [show (0 : Int32).toNatClampNeg = 0 from rfl]; omega) (by rw [show (0 : Int32).toNatClampNeg = 0 from rfl]; omega) (fun _ _ => rfl) hframes hlocals hdg kk
theorem xlev {D : va_G} {cl : List vw_C} {tys : List (ClassId × FieldType)} {ws : va_W} {a : Nat} (hexec : p.tables.exec = Jvm.exec) (hb : c.code = cc) (hK : va_K D cl tys s) (hP : va_P D cl ws H) (q0 t0 : Nat) {cA : ClassId} {C : String} {L : Nat → Nat} (ha : ws[q0]? = some (a, .inl (cA, 5, .inr (.inr (.inr (.inr (lvc L))))))) (ht : tys[t0]? = some (cA, .object C)) {i : Int32} (hg : gin i 5 = true) {j : Nat} (ej : j = i.toNatClampNeg) (hdg : decode cc pc = .ok (.aaload, 1)) (kk : W p l e R s m args below meth c H locs cells slots Q (F0 m (pc + 1) ls (.ref (L j) :: rest))) : W p l e R s m args below meth c H locs cells slots Q (F0 m pc ls (.int i :: .ref a :: rest)) := by
  refine va_aldq hexec hb hK hP q0 t0 ha ht (gin_in hg) hdg ?_
  have e1 : va_rf (lvc L i.toNatClampNeg) = .ref (L j) := by
    subst ej
    unfold lvc
    rw [if_pos (gin_lt hg)]
    rfl
  rw [e1]
  exact kk
end
