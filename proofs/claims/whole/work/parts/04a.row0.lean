theorem mX0_highestSize_0 : Cond.constantLong RX0 7 (2) ∈ wsX0_highestSize := List.mem_cons_of_mem _ u_370
set_option maxHeartbeats 4000000 in
set_option maxRecDepth 100000 in
theorem wX0_highestSize {p : Program} {l : Launch} {e : Env} {s : State} {m : MethodId} {args : Array Value} {below : List Frame} {meth : Method} {c : Code} {A : Nat → Prop} (D : va_G) (Y : Y4) (C : CX p s m meth c args cX0_highestSize 1 (some .long) wsX0_highestSize RX0) (hA : ∀ q : Nat, s.heap.size ≤ q → A q) (hK : va_K D vwCl (TY Y) s) (F : Nat) (p0 : Int32) (res : Int64) (hf : fX0_highestSize F p0 = some res) {H : Heap} {locs : List Loc} {ls : Array Slot} (wd : WD D A [] H) (hS : va_S A s.heap H locs) (hl : lv_has ls 1 [(0, .int p0)]) : W p l e { frames := 0, cells := 0, slots := 0, locals := 0 } s m args below meth c H locs 0 0 (MQ below (va_Ql (fun r (_ : Unit) => r = res) (fun _ t => PST D Y A [] t) A) args s 0 0 A) (F0 m 0 ls []) := by
  obtain ⟨hx, hb, hml, hr, hts, hown, hlocks⟩ := id C
  unfold fX0_highestSize at hf
  refine lv_lconst (v := 1) hx hb dX0_highestSize_0 (by decide) ?_
  refine lv_bipush (v := 7) hx hb dX0_highestSize_1 (by decide) ?_
  refine lv_iload_n hx hb dX0_highestSize_3 rfl (lv_at hl 0 rfl) ?_
  refine lv_imul hx hb dX0_highestSize_4 ?_
  refine lv_lshl (v := (shl64 1 ((7 : Int32) * p0))) hx hb dX0_highestSize_5 rfl ?_
  refine lv_ldc2 hx hb hown (hts _ mX0_highestSize_0) dX0_highestSize_6 ?_
  refine lv_lsub hx hb dX0_highestSize_9 ?_
  obtain rfl := Option.some.inj hf
  exact W.lret (v := ((shl64 1 ((7 : Int32) * p0)) - 2)) hx hb hr (fun t ht hW => ⟨⟨_, (), rfl, rfl, WD.pst wd hK ht hW⟩, hS.F ht⟩) hS.2.2 dX0_highestSize_10
set_option maxHeartbeats 4000000 in
set_option maxRecDepth 100000 in
theorem kX0_highestSize (l : Launch) (D : va_G) (Y : Y4) (F : Nat) (sz : Nat) (p0 : Int32) (res : Int64) (hf : fX0_highestSize F p0 = some res) : Met l yX0_highestSize wsX0_highestSize ({ frames := 0, cells := 0, slots := 0, locals := 0 }) (va_Pc [.int p0] (PRE D Y [] sz)) (va_Ql (fun r (_ : Unit) => r = res) (fun _ t => PST D Y (va_A [] sz) [] t) (va_A [] sz)) 0 0 (va_A [] sz) := by
  refine Met.ofW (cc := cX0_highestSize) (maxL := 1) (ret := (some .long)) (by decide) rfl ?_
  intro p e s m args below meth c s₁ B hml hv
  obtain ⟨rfl, rfl, hP, hK, hD0⟩ := hv
  have hl := lv_entry ([.int p0]) (n := 1) (Nat.le_of_ble_eq_true rfl)
  rw [lg_entry_eq]
  exact wX0_highestSize D Y ⟨B.exec, B.bytes, hml, B.returns, atoms_spec (ws := wsX0_highestSize) B.pre, findClass_of_methodNamed B.named, B.notSynchronized⟩ (fun q h => Or.inr h) hK F p0 res hf ⟨hP, hD0.self⟩ va_S.rf hl

set_option maxHeartbeats 4000000 in
set_option maxRecDepth 100000 in
theorem wX0_differenceShift {p : Program} {l : Launch} {e : Env} {s : State} {m : MethodId} {args : Array Value} {below : List Frame} {meth : Method} {c : Code} {A : Nat → Prop} (D : va_G) (Y : Y4) (C : CX p s m meth c args cX0_differenceShift 1 (some .long) wsX0_differenceShift RX0) (hA : ∀ q : Nat, s.heap.size ≤ q → A q) (hK : va_K D vwCl (TY Y) s) (F : Nat) (p0 : Int32) (res : Int64) (hf : fX0_differenceShift F p0 = some res) {H : Heap} {locs : List Loc} {ls : Array Slot} (wd : WD D A [] H) (hS : va_S A s.heap H locs) (hl : lv_has ls 1 [(0, .int p0)]) : W p l e { frames := 0, cells := 0, slots := 0, locals := 0 } s m args below meth c H locs 0 0 (MQ below (va_Ql (fun r (_ : Unit) => r = res) (fun _ t => PST D Y A [] t) A) args s 0 0 A) (F0 m 0 ls []) := by
  obtain ⟨hx, hb, hml, hr, hts, hown, hlocks⟩ := id C
  unfold fX0_differenceShift at hf
  refine lv_lconst (v := 1) hx hb dX0_differenceShift_0 (by decide) ?_
  refine lv_bipush (v := 7) hx hb dX0_differenceShift_1 (by decide) ?_
  refine lv_iload_n hx hb dX0_differenceShift_3 rfl (lv_at hl 0 rfl) ?_
  refine lv_imul hx hb dX0_differenceShift_4 ?_
  refine lv_iconst (v := 1) hx hb dX0_differenceShift_5 (by decide) ?_
  refine lv_isub hx hb dX0_differenceShift_6 ?_
  refine lv_lshl (v := (shl64 1 (((7 : Int32) * p0) - 1))) hx hb dX0_differenceShift_7 rfl ?_
  refine lv_lconst (v := 1) hx hb dX0_differenceShift_8 (by decide) ?_
  refine lv_lsub hx hb dX0_differenceShift_9 ?_
  obtain rfl := Option.some.inj hf
  exact W.lret (v := ((shl64 1 (((7 : Int32) * p0) - 1)) - 1)) hx hb hr (fun t ht hW => ⟨⟨_, (), rfl, rfl, WD.pst wd hK ht hW⟩, hS.F ht⟩) hS.2.2 dX0_differenceShift_10
set_option maxHeartbeats 4000000 in
set_option maxRecDepth 100000 in
theorem kX0_differenceShift (l : Launch) (D : va_G) (Y : Y4) (F : Nat) (sz : Nat) (p0 : Int32) (res : Int64) (hf : fX0_differenceShift F p0 = some res) : Met l yX0_differenceShift wsX0_differenceShift ({ frames := 0, cells := 0, slots := 0, locals := 0 }) (va_Pc [.int p0] (PRE D Y [] sz)) (va_Ql (fun r (_ : Unit) => r = res) (fun _ t => PST D Y (va_A [] sz) [] t) (va_A [] sz)) 0 0 (va_A [] sz) := by
  refine Met.ofW (cc := cX0_differenceShift) (maxL := 1) (ret := (some .long)) (by decide) rfl ?_
  intro p e s m args below meth c s₁ B hml hv
  obtain ⟨rfl, rfl, hP, hK, hD0⟩ := hv
  have hl := lv_entry ([.int p0]) (n := 1) (Nat.le_of_ble_eq_true rfl)
  rw [lg_entry_eq]
  exact wX0_differenceShift D Y ⟨B.exec, B.bytes, hml, B.returns, atoms_spec (ws := wsX0_differenceShift) B.pre, findClass_of_methodNamed B.named, B.notSynchronized⟩ (fun q h => Or.inr h) hK F p0 res hf ⟨hP, hD0.self⟩ va_S.rf hl
theorem mX8_at_0 : Cond.fieldLink RX8 25 "StreamRemuxer$Row" "length" "I" ∈ wsX8_at := List.mem_cons_of_mem _ u_120
theorem mX8_at_1 : Cond.fieldLink RX8 21 "StreamRemuxer$Row" "words" "[I" ∈ wsX8_at := List.mem_cons_of_mem _ u_52
theorem iX8_at_X8 : ∀ w ∈ wsX80, w ∈ wsX8_at := fun w h => List.mem_cons_of_mem _ (inlX8 w h)
set_option maxHeartbeats 4000000 in
set_option maxRecDepth 100000 in
theorem wX8_at {p : Program} {l : Launch} {e : Env} {s : State} {m : MethodId} {args : Array Value} {below : List Frame} {meth : Method} {c : Code} {A : Nat → Prop} (D : va_G) (Y : Y4) (C : CX p s m meth c args cX8_at 2 (some .int) wsX8_at RX8) (hA : ∀ q : Nat, s.heap.size ≤ q → A q) (hK : va_K D vwCl (TY Y) s) (F : Nat) (a_h : Nat) (a_hw : Nat) (h_most : Int32) (h_length : Int32) (h_overfull : Int32) (hw_n : Nat) (c_hw : (Nat → Int32)) (p1 : Int32) (res : Int32) (hf : fX8_at F h_length hw_n c_hw p1 = some res) {H : Heap} {locs : List Loc} {ls : Array Slot} (wd : WD D A [oX8 a_h (.ref a_hw) h_most h_length h_overfull, aI Y a_hw hw_n c_hw] H) (hS : va_S A s.heap H locs) (hl : lv_has ls 2 [(0, .ref a_h), (1, .int p1)]) : W p l e { frames := 0, cells := 0, slots := 0, locals := 0 } s m args below meth c H locs 0 0 (MQ below (va_Qi (fun r (_ : Unit) => r = res) (fun _ t => PST D Y A [oX8 a_h (.ref a_hw) h_most h_length h_overfull, aI Y a_hw hw_n c_hw] t) A) args s 0 0 A) (F0 m 0 ls []) := by
  obtain ⟨hx, hb, hml, hr, hts, hown, hlocks⟩ := id C
  unfold fX8_at at hf
  refine lv_iload_n hx hb dX8_at_0 rfl (lv_at hl 1 rfl) ?_
  refine lv_if_lt (tgt := 12) hx hb dX8_at_1 (by decide) (fun q1 => ?_) (fun q1 => ?_)
  · have hf := ip hf q1
    refine lv_iconst (v := (-1)) hx hb dX8_at_12 (by decide) ?_
    obtain rfl := Option.some.inj hf
    exact W.iret (v := (-1)) hx hb hr (fun t ht hW => ⟨⟨_, (), rfl, rfl, WD.pst wd hK ht hW⟩, hS.F ht⟩) hS.2.2 dX8_at_13
  · have hf := ie hf q1
    refine lv_iload_n hx hb dX8_at_4 rfl (lv_at hl 1 rfl) ?_
    refine lv_aload_n hx hb dX8_at_5 rfl (lv_at hl 0 rfl) ?_
    refine va_get (D := D) (ci := 6) (v := .int h_length) (C := RX8) (T := TX8) (N := 4) hx hb hts iX8_at_X8 hown hK wd.1 0 rfl rfl 2 (by decide) (hts _ mX8_at_0) (fun _ h9 => h9) rfl dX8_at_6 ?_
    refine lv_icmp_lt (tgt := 14) hx hb dX8_at_9 (by decide) (fun q2 => ?_) (fun q2 => ?_)
    · have hf := ip hf q2
      refine lv_aload_n hx hb dX8_at_14 rfl (lv_at hl 0 rfl) ?_
      refine va_get (D := D) (ci := 6) (v := .ref a_hw) (C := RX8) (T := TX8) (N := 4) hx hb hts iX8_at_X8 hown hK wd.1 0 rfl rfl 0 (by decide) (hts _ mX8_at_1) (fun _ h9 => h9) rfl dX8_at_15 ?_
      refine lv_iload_n hx hb dX8_at_18 rfl (lv_at hl 1 rfl) ?_
      refine lv_iconst (v := 2) hx hb dX8_at_19 (by decide) ?_
      refine lv_ishr hx hb dX8_at_20 ?_
      refine lv_topi (fun x3 ex3 => ?_)
      have hf := nm_at hf ex3
      obtain ⟨hg4, hf⟩ := gd hf
      refine va_iald hx hb hK wd.1 1 1 rfl rfl (gin_in hg4) dX8_at_21 ?_
      refine lv_bipush (v := 8) hx hb dX8_at_22 (by decide) ?_
      refine lv_iload_n hx hb dX8_at_24 rfl (lv_at hl 1 rfl) ?_
      refine lv_iconst (v := 3) hx hb dX8_at_25 (by decide) ?_
      refine lv_iand hx hb dX8_at_26 ?_
      refine lv_imul hx hb dX8_at_27 ?_
      refine lv_iushr (v := (ushr32 (c_hw x3.toNatClampNeg) ((8 : Int32) * (p1 &&& 3)))) hx hb dX8_at_28 rfl ?_
      refine lv_sipush (v := 255) hx hb dX8_at_29 (by decide) ?_
      refine lv_iand hx hb dX8_at_32 ?_
      obtain rfl := Option.some.inj hf
      exact W.iret (v := ((ushr32 (c_hw x3.toNatClampNeg) ((8 : Int32) * (p1 &&& 3))) &&& 255)) hx hb hr (fun t ht hW => ⟨⟨_, (), rfl, rfl, WD.pst wd hK ht hW⟩, hS.F ht⟩) hS.2.2 dX8_at_33
    · have hf := ie hf q2
      refine lv_iconst (v := (-1)) hx hb dX8_at_12 (by decide) ?_
      obtain rfl := Option.some.inj hf
      exact W.iret (v := (-1)) hx hb hr (fun t ht hW => ⟨⟨_, (), rfl, rfl, WD.pst wd hK ht hW⟩, hS.F ht⟩) hS.2.2 dX8_at_13
set_option maxHeartbeats 4000000 in
set_option maxRecDepth 100000 in
theorem kX8_at (l : Launch) (D : va_G) (Y : Y4) (F : Nat) (a_h : Nat) (a_hw : Nat) (sz : Nat) (h_most : Int32) (h_length : Int32) (h_overfull : Int32) (hw_n : Nat) (c_hw : (Nat → Int32)) (p1 : Int32) (res : Int32) (hf : fX8_at F h_length hw_n c_hw p1 = some res) : Met l yX8_at wsX8_at ({ frames := 0, cells := 0, slots := 0, locals := 0 }) (va_Pc [.ref a_h, .int p1] (PRE D Y [oX8 a_h (.ref a_hw) h_most h_length h_overfull, aI Y a_hw hw_n c_hw] sz)) (va_Qi (fun r (_ : Unit) => r = res) (fun _ t => PST D Y (va_A [oX8 a_h (.ref a_hw) h_most h_length h_overfull, aI Y a_hw hw_n c_hw] sz) [oX8 a_h (.ref a_hw) h_most h_length h_overfull, aI Y a_hw hw_n c_hw] t) (va_A [oX8 a_h (.ref a_hw) h_most h_length h_overfull, aI Y a_hw hw_n c_hw] sz)) 0 0 (va_A [oX8 a_h (.ref a_hw) h_most h_length h_overfull, aI Y a_hw hw_n c_hw] sz) := by
  refine Met.ofW (cc := cX8_at) (maxL := 2) (ret := (some .int)) (by decide) rfl ?_
  intro p e s m args below meth c s₁ B hml hv
  obtain ⟨rfl, rfl, hP, hK, hD0⟩ := hv
  have hl := lv_entry ([.ref a_h, .int p1]) (n := 2) (Nat.le_of_ble_eq_true rfl)
  rw [lg_entry_eq]
  exact wX8_at D Y ⟨B.exec, B.bytes, hml, B.returns, atoms_spec (ws := wsX8_at) B.pre, findClass_of_methodNamed B.named, B.notSynchronized⟩ (fun q h => Or.inr h) hK F a_h a_hw h_most h_length h_overfull hw_n c_hw p1 res hf ⟨hP, hD0.self⟩ va_S.rf hl

set_option maxHeartbeats 4000000 in
set_option maxRecDepth 100000 in
theorem wX8_highFirst_b5 {p : Program} {l : Launch} {e : Env} {s : State} {m : MethodId} {args : Array Value} {below : List Frame} {meth : Method} {c : Code} {A : Nat → Prop} (D : va_G) (Y : Y4) (C : CX p s m meth c args cX8_highFirst 6 (some .long) wsX8_highFirst RX8) (hA : ∀ q : Nat, s.heap.size ≤ q → A q) (hK : va_K D vwCl (TY Y) s) (F : Nat) (a_h : Nat) (a_hw : Nat) (h_most : Int32) (h_length : Int32) (h_overfull : Int32) (hw_n : Nat) (c_hw : (Nat → Int32)) (p1 : Int32) (p2 : Int32) (res : Int64) : ∀ (n : Nat) (b5_l_5 : Int32) (b5_l_3 : Int64), fX8_highFirst_b5 F h_length hw_n c_hw p1 p2 n b5_l_5 b5_l_3 = some res → ∀ {H : Heap} {locs : List Loc} {ls : Array Slot}, WD D A [oX8 a_h (.ref a_hw) h_most h_length h_overfull, aI Y a_hw hw_n c_hw] H → va_S A s.heap H locs → lv_has ls 6 [(0, .ref a_h), (1, .int p1), (2, .int p2), (3, .long b5_l_3), (5, .int b5_l_5)] → W p l e { frames := 1, cells := 0, slots := 0, locals := 21 } s m args below meth c H locs 0 0 (MQ below (va_Ql (fun r (_ : Unit) => r = res) (fun _ t => PST D Y A [oX8 a_h (.ref a_hw) h_most h_length h_overfull, aI Y a_hw hw_n c_hw] t) A) args s 0 0 A) (F0 m 5 ls []) := by
  obtain ⟨hx, hb, hml, hr, hts, hown, hlocks⟩ := id C
  intro n
  induction n with
  | zero => intro b5_l_5 b5_l_3 hf; exact absurd hf (by simp [fX8_highFirst_b5])
  | succ n ih =>
    intro b5_l_5 b5_l_3 hf H locs ls wd hS hl
    unfold fX8_highFirst_b5 at hf
    refine lv_iload hx hb dX8_highFirst_5 (lv_at hl 4 rfl) ?_
    refine lv_iload_n hx hb dX8_highFirst_7 rfl (lv_at hl 2 rfl) ?_
    refine lv_icmp_ge (tgt := 36) hx hb dX8_highFirst_8 (by decide) (fun q1 => ?_) (fun q1 => ?_)
    · have hf := ip hf q1
      refine lv_lload_n hx hb dX8_highFirst_36 rfl (lv_at hl 3 rfl) ?_
      obtain rfl := Option.some.inj hf
      exact W.lret (v := b5_l_3) hx hb hr (fun t ht hW => ⟨⟨_, (), rfl, rfl, WD.pst wd hK ht hW⟩, hS.F ht⟩) hS.2.2 dX8_highFirst_37
    · have hf := ie hf q1
      refine lv_lload_n hx hb dX8_highFirst_11 rfl (lv_at hl 3 rfl) ?_
      refine lv_bipush (v := 8) hx hb dX8_highFirst_12 (by decide) ?_
      refine lv_lshl (v := (shl64 b5_l_3 8)) hx hb dX8_highFirst_14 rfl ?_
      refine lv_aload_n hx hb dX8_highFirst_15 rfl (lv_at hl 0 rfl) ?_
      refine lv_iload_n hx hb dX8_highFirst_16 rfl (lv_at hl 1 rfl) ?_
      refine lv_iload hx hb dX8_highFirst_17 (lv_at hl 4 rfl) ?_
      refine lv_iadd hx hb dX8_highFirst_19 ?_
      obtain ⟨o2, ho2, hf⟩ := ob hf
      refine xj_i (va_runV (As := [.int (p1 + b5_l_5)]) (rest := [.long (shl64 b5_l_3 8)]) ⟨hx, hb, hml, hown, hts⟩ (kX8_at l D Y F a_h a_hw H.size h_most h_length h_overfull hw_n c_hw (p1 + b5_l_5) o2 ho2) (cwV 1 hts gX8_highFirst_X8_at rfl rfl rfl (by decide +kernel) ⟨Nat.le_of_ble_eq_true rfl, Nat.le_of_ble_eq_true rfl⟩) (prev_w (ci := 6) rfl rfl hK wd [0, 1] rfl (by decide)) rfl rfl hl.1 rfl (lv_room (Nat.le_of_ble_eq_true rfl)) dX8_highFirst_20 ⟨Nat.zero_le _, Nat.zero_le _⟩) wd hS hA [0, 1] [] rfl rfl (by decide) (by decide) (fun H locs wd hS => ?_)
      have wd : WD D A [oX8 a_h (.ref a_hw) h_most h_length h_overfull, aI Y a_hw hw_n c_hw] H := wd
      refine lv_sipush (v := 255) hx hb dX8_highFirst_23 (by decide) ?_
      refine lv_iand hx hb dX8_highFirst_26 ?_
      refine lv_i2l (v := ((o2 &&& 255).toInt64)) hx hb dX8_highFirst_27 rfl ?_
      refine lv_lor hx hb dX8_highFirst_28 ?_
      refine lv_topl (fun x3 ex3 => ?_)
      have hf := nm_at hf ex3
      refine lv_lstore_n (lv' := [(3, .long x3), (0, .ref a_h), (1, .int p1), (2, .int p2), (5, .int b5_l_5)]) hx hb dX8_highFirst_29 rfl hl (by decide) rfl (fun ls hl => ?_)
      obtain ⟨x4, ex4⟩ : ∃ y : Int32, y = b5_l_5 + 1 := ⟨_, rfl⟩
      have hf := nm_at hf ex4
      refine lv_iinc (v := x4) (lv' := [(5, .int x4), (3, .long x3), (0, .ref a_h), (1, .int p1), (2, .int p2)]) hx hb dX8_highFirst_30 hl (k := 4) rfl (by rw [ex4]; rfl) (by decide) rfl (fun ls hl => ?_)
      refine lv_goto (tgt := 5) hx hb dX8_highFirst_33 (by decide) ?_
      exact ih x4 x3 hf wd hS (lv_sub hl [2, 3, 4, 1, 0] rfl)

set_option maxHeartbeats 4000000 in
set_option maxRecDepth 100000 in
theorem wX8_highFirst {p : Program} {l : Launch} {e : Env} {s : State} {m : MethodId} {args : Array Value} {below : List Frame} {meth : Method} {c : Code} {A : Nat → Prop} (D : va_G) (Y : Y4) (C : CX p s m meth c args cX8_highFirst 6 (some .long) wsX8_highFirst RX8) (hA : ∀ q : Nat, s.heap.size ≤ q → A q) (hK : va_K D vwCl (TY Y) s) (F : Nat) (a_h : Nat) (a_hw : Nat) (h_most : Int32) (h_length : Int32) (h_overfull : Int32) (hw_n : Nat) (c_hw : (Nat → Int32)) (p1 : Int32) (p2 : Int32) (res : Int64) (hf : fX8_highFirst F h_length hw_n c_hw p1 p2 = some res) {H : Heap} {locs : List Loc} {ls : Array Slot} (wd : WD D A [oX8 a_h (.ref a_hw) h_most h_length h_overfull, aI Y a_hw hw_n c_hw] H) (hS : va_S A s.heap H locs) (hl : lv_has ls 6 [(0, .ref a_h), (1, .int p1), (2, .int p2)]) : W p l e { frames := 1, cells := 0, slots := 0, locals := 21 } s m args below meth c H locs 0 0 (MQ below (va_Ql (fun r (_ : Unit) => r = res) (fun _ t => PST D Y A [oX8 a_h (.ref a_hw) h_most h_length h_overfull, aI Y a_hw hw_n c_hw] t) A) args s 0 0 A) (F0 m 0 ls []) := by
  obtain ⟨hx, hb, hml, hr, hts, hown, hlocks⟩ := id C
  unfold fX8_highFirst at hf
  refine lv_lconst (v := 0) hx hb dX8_highFirst_0 (by decide) ?_
  refine lv_lstore_n (lv' := [(3, .long 0), (0, .ref a_h), (1, .int p1), (2, .int p2)]) hx hb dX8_highFirst_1 rfl hl (by decide) rfl (fun ls hl => ?_)
  refine lv_iconst (v := 0) hx hb dX8_highFirst_2 (by decide) ?_
  refine lv_istore (lv' := [(5, .int 0), (3, .long 0), (0, .ref a_h), (1, .int p1), (2, .int p2)]) hx hb dX8_highFirst_3 hl (by decide) rfl (fun ls hl => ?_)
  exact wX8_highFirst_b5 D Y C hA hK F a_h a_hw h_most h_length h_overfull hw_n c_hw p1 p2 _ F 0 0 hf wd hS (lv_sub hl [2, 3, 4, 1, 0] rfl)
set_option maxHeartbeats 4000000 in
set_option maxRecDepth 100000 in
theorem kX8_highFirst (l : Launch) (D : va_G) (Y : Y4) (F : Nat) (a_h : Nat) (a_hw : Nat) (sz : Nat) (h_most : Int32) (h_length : Int32) (h_overfull : Int32) (hw_n : Nat) (c_hw : (Nat → Int32)) (p1 : Int32) (p2 : Int32) (res : Int64) (hf : fX8_highFirst F h_length hw_n c_hw p1 p2 = some res) : Met l yX8_highFirst wsX8_highFirst ({ frames := 1, cells := 0, slots := 0, locals := 21 }) (va_Pc [.ref a_h, .int p1, .int p2] (PRE D Y [oX8 a_h (.ref a_hw) h_most h_length h_overfull, aI Y a_hw hw_n c_hw] sz)) (va_Ql (fun r (_ : Unit) => r = res) (fun _ t => PST D Y (va_A [oX8 a_h (.ref a_hw) h_most h_length h_overfull, aI Y a_hw hw_n c_hw] sz) [oX8 a_h (.ref a_hw) h_most h_length h_overfull, aI Y a_hw hw_n c_hw] t) (va_A [oX8 a_h (.ref a_hw) h_most h_length h_overfull, aI Y a_hw hw_n c_hw] sz)) 0 0 (va_A [oX8 a_h (.ref a_hw) h_most h_length h_overfull, aI Y a_hw hw_n c_hw] sz) := by
  refine Met.ofW (cc := cX8_highFirst) (maxL := 6) (ret := (some .long)) (by decide) rfl ?_
  intro p e s m args below meth c s₁ B hml hv
  obtain ⟨rfl, rfl, hP, hK, hD0⟩ := hv
  have hl := lv_entry ([.ref a_h, .int p1, .int p2]) (n := 6) (Nat.le_of_ble_eq_true rfl)
  rw [lg_entry_eq]
  exact wX8_highFirst D Y ⟨B.exec, B.bytes, hml, B.returns, atoms_spec (ws := wsX8_highFirst) B.pre, findClass_of_methodNamed B.named, B.notSynchronized⟩ (fun q h => Or.inr h) hK F a_h a_hw h_most h_length h_overfull hw_n c_hw p1 p2 res hf ⟨hP, hD0.self⟩ va_S.rf hl
theorem mX8_change_0 : Cond.fieldLink RX8 25 "StreamRemuxer$Row" "length" "I" ∈ wsX8_change := List.mem_cons_of_mem _ u_120
theorem mX8_change_1 : Cond.fieldLink RX8 21 "StreamRemuxer$Row" "words" "[I" ∈ wsX8_change := List.mem_cons_of_mem _ u_52
theorem iX8_change_X8 : ∀ w ∈ wsX80, w ∈ wsX8_change := fun w h => List.mem_cons_of_mem _ (inlX8 w h)
set_option maxHeartbeats 4000000 in
set_option maxRecDepth 100000 in
theorem wX8_change {p : Program} {l : Launch} {e : Env} {s : State} {m : MethodId} {args : Array Value} {below : List Frame} {meth : Method} {c : Code} {A : Nat → Prop} (D : va_G) (Y : Y4) (C : CX p s m meth c args cX8_change 4 (some .boolean) wsX8_change RX8) (hA : ∀ q : Nat, s.heap.size ≤ q → A q) (hK : va_K D vwCl (TY Y) s) (F : Nat) (a_h : Nat) (a_hw : Nat) (h_most : Int32) (h_length : Int32) (h_overfull : Int32) (hw_n : Nat) (c_hw : (Nat → Int32)) (p1 : Int32) (p2 : Int32) (res : Int32 × (Nat → Int32)) (hf : fX8_change F h_length hw_n c_hw p1 p2 = some res) {H : Heap} {locs : List Loc} {ls : Array Slot} (wd : WD D A [oX8 a_h (.ref a_hw) h_most h_length h_overfull, aI Y a_hw hw_n c_hw] H) (hS : va_S A s.heap H locs) (hl : lv_has ls 4 [(0, .ref a_h), (1, .int p1), (2, .int p2)]) : W p l e { frames := 0, cells := 0, slots := 0, locals := 0 } s m args below meth c H locs 0 0 (MQ below (va_Qi (fun r (_ : Unit) => r = res.1) (fun _ t => PST D Y A [oX8 a_h (.ref a_hw) h_most h_length h_overfull, aI Y a_hw hw_n res.2] t) A) args s 0 0 A) (F0 m 0 ls []) := by
  obtain ⟨hx, hb, hml, hr, hts, hown, hlocks⟩ := id C
  unfold fX8_change at hf
  refine lv_iload_n hx hb dX8_change_0 rfl (lv_at hl 1 rfl) ?_
  refine lv_if_lt (tgt := 12) hx hb dX8_change_1 (by decide) (fun q1 => ?_) (fun q1 => ?_)
  · have hf := ip hf q1
    refine lv_iconst (v := 0) hx hb dX8_change_12 (by decide) ?_
    obtain rfl := Option.some.inj hf
    exact W.zret (v := 0) hx hb hr rfl (fun t ht hW => ⟨⟨_, (), rfl, rfl, WD.pst wd hK ht hW⟩, hS.F ht⟩) hS.2.2 dX8_change_13
  · have hf := ie hf q1
    refine lv_iload_n hx hb dX8_change_4 rfl (lv_at hl 1 rfl) ?_
    refine lv_aload_n hx hb dX8_change_5 rfl (lv_at hl 0 rfl) ?_
    refine va_get (D := D) (ci := 6) (v := .int h_length) (C := RX8) (T := TX8) (N := 4) hx hb hts iX8_change_X8 hown hK wd.1 0 rfl rfl 2 (by decide) (hts _ mX8_change_0) (fun _ h9 => h9) rfl dX8_change_6 ?_
    refine lv_icmp_lt (tgt := 14) hx hb dX8_change_9 (by decide) (fun q2 => ?_) (fun q2 => ?_)
    · have hf := ip hf q2
      refine lv_bipush (v := 8) hx hb dX8_change_14 (by decide) ?_
      refine lv_iload_n hx hb dX8_change_16 rfl (lv_at hl 1 rfl) ?_
      refine lv_iconst (v := 3) hx hb dX8_change_17 (by decide) ?_
      refine lv_iand hx hb dX8_change_18 ?_
      refine lv_imul hx hb dX8_change_19 ?_
      refine lv_topi (fun x3 ex3 => ?_)
      have hf := nm_at hf ex3
      refine lv_istore_n (lv' := [(3, .int x3), (0, .ref a_h), (1, .int p1), (2, .int p2)]) hx hb dX8_change_20 rfl hl (by decide) rfl (fun ls hl => ?_)
      refine lv_aload_n hx hb dX8_change_21 rfl (lv_at hl 1 rfl) ?_
      refine va_get (D := D) (ci := 6) (v := .ref a_hw) (C := RX8) (T := TX8) (N := 4) hx hb hts iX8_change_X8 hown hK wd.1 0 rfl rfl 0 (by decide) (hts _ mX8_change_1) (fun _ h9 => h9) rfl dX8_change_22 ?_
      refine lv_iload_n hx hb dX8_change_25 rfl (lv_at hl 2 rfl) ?_
      refine lv_iconst (v := 2) hx hb dX8_change_26 (by decide) ?_
      refine lv_ishr hx hb dX8_change_27 ?_
      refine lv_aload_n hx hb dX8_change_28 rfl (lv_at hl 1 rfl) ?_
      refine va_get (D := D) (ci := 6) (v := .ref a_hw) (C := RX8) (T := TX8) (N := 4) hx hb hts iX8_change_X8 hown hK wd.1 0 rfl rfl 0 (by decide) (hts _ mX8_change_1) (fun _ h9 => h9) rfl dX8_change_29 ?_
      refine lv_iload_n hx hb dX8_change_32 rfl (lv_at hl 2 rfl) ?_
      refine lv_iconst (v := 2) hx hb dX8_change_33 (by decide) ?_
      refine lv_ishr hx hb dX8_change_34 ?_
      refine lv_topi (fun x4 ex4 => ?_)
      have hf := nm_at hf ex4
      obtain ⟨hg5, hf⟩ := gd hf
      refine va_iald hx hb hK wd.1 1 1 rfl rfl (gin_in hg5) dX8_change_35 ?_
      refine lv_sipush (v := 255) hx hb dX8_change_36 (by decide) ?_
      refine lv_iload_n hx hb dX8_change_39 rfl (lv_at hl 0 rfl) ?_
      refine lv_ishl hx hb dX8_change_40 ?_
      refine lv_iconst (v := (-1)) hx hb dX8_change_41 (by decide) ?_
      refine lv_ixor hx hb dX8_change_42 ?_
      refine lv_iand hx hb dX8_change_43 ?_
      refine lv_iload_n hx hb dX8_change_44 rfl (lv_at hl 3 rfl) ?_
      refine lv_sipush (v := 255) hx hb dX8_change_45 (by decide) ?_
      refine lv_iand hx hb dX8_change_48 ?_
      refine lv_iload_n hx hb dX8_change_49 rfl (lv_at hl 0 rfl) ?_
      refine lv_ishl hx hb dX8_change_50 ?_
      refine lv_ior hx hb dX8_change_51 ?_
      obtain ⟨hg6, hf⟩ := gd hf
      refine va_iast hx hb hK wd.1 wd.2 hS 1 1 rfl rfl (gin_in hg6) dX8_change_52 (fun H locs hP hD hS => ?_)
      obtain ⟨z7, ez7⟩ : ∃ y : (Nat → Int32), y = upd c_hw (p1 >>> ((2 : Int32) &&& 31)).toNatClampNeg (((c_hw x4.toNatClampNeg) &&& (((255 : Int32) <<< (x3 &&& 31)) ^^^ (-1))) ||| ((p2 &&& 255) <<< (x3 &&& 31))) := ⟨_, rfl⟩
      have hf := nm_at hf ez7
      have wd : WD D A [oX8 a_h (.ref a_hw) h_most h_length h_overfull, aI Y a_hw hw_n z7] H := by rw [ez7]; exact ⟨hP, hD⟩
      clear hP hD
      refine lv_iconst (v := 1) hx hb dX8_change_53 (by decide) ?_
      obtain rfl := Option.some.inj hf
      exact W.zret (v := 1) hx hb hr rfl (fun t ht hW => ⟨⟨_, (), rfl, rfl, WD.pst wd hK ht hW⟩, hS.F ht⟩) hS.2.2 dX8_change_54
    · have hf := ie hf q2
      refine lv_iconst (v := 0) hx hb dX8_change_12 (by decide) ?_
      obtain rfl := Option.some.inj hf
      exact W.zret (v := 0) hx hb hr rfl (fun t ht hW => ⟨⟨_, (), rfl, rfl, WD.pst wd hK ht hW⟩, hS.F ht⟩) hS.2.2 dX8_change_13
set_option maxHeartbeats 4000000 in
set_option maxRecDepth 100000 in
theorem kX8_change (l : Launch) (D : va_G) (Y : Y4) (F : Nat) (a_h : Nat) (a_hw : Nat) (sz : Nat) (h_most : Int32) (h_length : Int32) (h_overfull : Int32) (hw_n : Nat) (c_hw : (Nat → Int32)) (p1 : Int32) (p2 : Int32) (res : Int32 × (Nat → Int32)) (hf : fX8_change F h_length hw_n c_hw p1 p2 = some res) : Met l yX8_change wsX8_change ({ frames := 0, cells := 0, slots := 0, locals := 0 }) (va_Pc [.ref a_h, .int p1, .int p2] (PRE D Y [oX8 a_h (.ref a_hw) h_most h_length h_overfull, aI Y a_hw hw_n c_hw] sz)) (va_Qi (fun r (_ : Unit) => r = res.1) (fun _ t => PST D Y (va_A [oX8 a_h (.ref a_hw) h_most h_length h_overfull, aI Y a_hw hw_n c_hw] sz) [oX8 a_h (.ref a_hw) h_most h_length h_overfull, aI Y a_hw hw_n res.2] t) (va_A [oX8 a_h (.ref a_hw) h_most h_length h_overfull, aI Y a_hw hw_n c_hw] sz)) 0 0 (va_A [oX8 a_h (.ref a_hw) h_most h_length h_overfull, aI Y a_hw hw_n c_hw] sz) := by
  refine Met.ofW (cc := cX8_change) (maxL := 4) (ret := (some .boolean)) (by decide) rfl ?_
  intro p e s m args below meth c s₁ B hml hv
  obtain ⟨rfl, rfl, hP, hK, hD0⟩ := hv
  have hl := lv_entry ([.ref a_h, .int p1, .int p2]) (n := 4) (Nat.le_of_ble_eq_true rfl)
  rw [lg_entry_eq]
  exact wX8_change D Y ⟨B.exec, B.bytes, hml, B.returns, atoms_spec (ws := wsX8_change) B.pre, findClass_of_methodNamed B.named, B.notSynchronized⟩ (fun q h => Or.inr h) hK F a_h a_hw h_most h_length h_overfull hw_n c_hw p1 p2 res hf ⟨hP, hD0.self⟩ va_S.rf hl
theorem mX8_add_0 : Cond.fieldLink RX8 25 "StreamRemuxer$Row" "length" "I" ∈ wsX8_add := List.mem_cons_of_mem _ u_120
theorem mX8_add_1 : Cond.fieldLink RX8 15 "StreamRemuxer$Row" "most" "I" ∈ wsX8_add := List.mem_cons_of_mem _ u_50
theorem mX8_add_2 : Cond.fieldLink RX8 28 "StreamRemuxer$Row" "overfull" "Z" ∈ wsX8_add := List.mem_cons_of_mem _ u_121
theorem iX8_add_X8 : ∀ w ∈ wsX80, w ∈ wsX8_add := fun w h => List.mem_cons_of_mem _ (inlX8 w h)
set_option maxHeartbeats 4000000 in
set_option maxRecDepth 100000 in
theorem wX8_add {p : Program} {l : Launch} {e : Env} {s : State} {m : MethodId} {args : Array Value} {below : List Frame} {meth : Method} {c : Code} {A : Nat → Prop} (D : va_G) (Y : Y4) (C : CX p s m meth c args cX8_add 2 none wsX8_add RX8) (hA : ∀ q : Nat, s.heap.size ≤ q → A q) (hK : va_K D vwCl (TY Y) s) (F : Nat) (a_h : Nat) (a_hw : Nat) (h_most : Int32) (h_length : Int32) (h_overfull : Int32) (hw_n : Nat) (c_hw : (Nat → Int32)) (p1 : Int32) (res : Int32 × Int32 × (Nat → Int32)) (hf : fX8_add F h_most h_length h_overfull hw_n c_hw p1 = some res) {H : Heap} {locs : List Loc} {ls : Array Slot} (wd : WD D A [oX8 a_h (.ref a_hw) h_most h_length h_overfull, aI Y a_hw hw_n c_hw] H) (hS : va_S A s.heap H locs) (hl : lv_has ls 2 [(0, .ref a_h), (1, .int p1)]) : W p l e { frames := 1, cells := 0, slots := 0, locals := 23 } s m args below meth c H locs 0 0 (MQ below (va_Qv (fun _ : Unit => True) (fun _ t => PST D Y A [oX8 a_h (.ref a_hw) h_most res.1 res.2.1, aI Y a_hw hw_n res.2.2] t) A) args s 0 0 A) (F0 m 0 ls []) := by
  obtain ⟨hx, hb, hml, hr, hts, hown, hlocks⟩ := id C
  unfold fX8_add at hf
  refine lv_aload_n hx hb dX8_add_0 rfl (lv_at hl 0 rfl) ?_
  refine va_get (D := D) (ci := 6) (v := .int h_length) (C := RX8) (T := TX8) (N := 4) hx hb hts iX8_add_X8 hown hK wd.1 0 rfl rfl 2 (by decide) (hts _ mX8_add_0) (fun _ h9 => h9) rfl dX8_add_1 ?_
  refine lv_aload_n hx hb dX8_add_4 rfl (lv_at hl 0 rfl) ?_
  refine va_get (D := D) (ci := 6) (v := .int h_most) (C := RX8) (T := TX8) (N := 4) hx hb hts iX8_add_X8 hown hK wd.1 0 rfl rfl 1 (by decide) (hts _ mX8_add_1) (fun _ h9 => h9) rfl dX8_add_5 ?_
  refine lv_icmp_lt (tgt := 17) hx hb dX8_add_8 (by decide) (fun q1 => ?_) (fun q1 => ?_)
  · have hf := ip hf q1
    refine lv_aload_n hx hb dX8_add_17 rfl (lv_at hl 0 rfl) ?_
    refine lv_dup hx hb dX8_add_18 rfl ?_
    refine va_get (D := D) (ci := 6) (v := .int h_length) (C := RX8) (T := TX8) (N := 4) hx hb hts iX8_add_X8 hown hK wd.1 0 rfl rfl 2 (by decide) (hts _ mX8_add_0) (fun _ h9 => h9) rfl dX8_add_19 ?_
    refine lv_iconst (v := 1) hx hb dX8_add_22 (by decide) ?_
    refine lv_iadd hx hb dX8_add_23 ?_
    refine lv_topi (fun x2 ex2 => ?_)
    have hf := nm_at hf ex2
    refine va_put (D := D) (ci := 6) (v := .int x2) (ty := .int) (C := RX8) (T := TX8) (N := 4) hx hb hts iX8_add_X8 tyX8 tyX8_ok nmX8 hown hK wd.1 wd.2 hS 0 rfl rfl 2 (by decide) (hts _ mX8_add_0) (fun _ h9 => h9) rfl (by decide +kernel) rfl rfl (Nat.le_of_ble_eq_true rfl) dX8_add_24 (fun H locs hP hD hS => ?_)
    have wd : WD D A [oX8 a_h (.ref a_hw) h_most x2 h_overfull, aI Y a_hw hw_n c_hw] H := ⟨hP, hD⟩
    clear hP hD
    refine lv_aload_n hx hb dX8_add_27 rfl (lv_at hl 0 rfl) ?_
    refine lv_aload_n hx hb dX8_add_28 rfl (lv_at hl 0 rfl) ?_
    refine va_get (D := D) (ci := 6) (v := .int x2) (C := RX8) (T := TX8) (N := 4) hx hb hts iX8_add_X8 hown hK wd.1 0 rfl rfl 2 (by decide) (hts _ mX8_add_0) (fun _ h9 => h9) rfl dX8_add_29 ?_
    refine lv_iconst (v := 1) hx hb dX8_add_32 (by decide) ?_
    refine lv_isub hx hb dX8_add_33 ?_
    refine lv_iload_n hx hb dX8_add_34 rfl (lv_at hl 1 rfl) ?_
    obtain ⟨o3, ho3, hf⟩ := ob hf
    refine xj_i (va_runV (As := [.int (x2 - 1), .int p1]) (rest := []) ⟨hx, hb, hml, hown, hts⟩ (kX8_change l D Y F a_h a_hw H.size h_most x2 h_overfull hw_n c_hw (x2 - 1) p1 o3 ho3) (cwV 2 hts gX8_add_X8_change rfl rfl rfl (by decide +kernel) ⟨Nat.le_of_ble_eq_true rfl, Nat.le_of_ble_eq_true rfl⟩) (prev_w (ci := 6) rfl rfl hK wd [0, 1] rfl (by decide)) rfl rfl hl.1 rfl (lv_room (Nat.le_of_ble_eq_true rfl)) dX8_add_35 ⟨Nat.zero_le _, Nat.zero_le _⟩) wd hS hA [0, 1] [] rfl rfl (by decide) (by decide) (fun H locs wd hS => ?_)
    have wd : WD D A [oX8 a_h (.ref a_hw) h_most x2 h_overfull, aI Y a_hw hw_n o3.2] H := wd
    refine lv_pop hx hb dX8_add_38 rfl ?_
    obtain rfl := Option.some.inj hf
    exact W.vret hx hb hr (fun t ht hW => ⟨⟨(), rfl, trivial, WD.pst wd hK ht hW⟩, hS.F ht⟩) hS.2.2 dX8_add_39
  · have hf := ie hf q1
    refine lv_aload_n hx hb dX8_add_11 rfl (lv_at hl 0 rfl) ?_
    refine lv_iconst (v := 1) hx hb dX8_add_12 (by decide) ?_
    refine va_put (D := D) (ci := 6) (v := .int 1) (ty := .boolean) (C := RX8) (T := TX8) (N := 4) hx hb hts iX8_add_X8 tyX8 tyX8_ok nmX8 hown hK wd.1 wd.2 hS 0 rfl rfl 3 (by decide) (hts _ mX8_add_2) (fun _ h9 => h9) rfl (by decide +kernel) rfl rfl (Nat.le_of_ble_eq_true rfl) dX8_add_13 (fun H locs hP hD hS => ?_)
    have wd : WD D A [oX8 a_h (.ref a_hw) h_most h_length 1, aI Y a_hw hw_n c_hw] H := ⟨hP, hD⟩
    clear hP hD
    obtain rfl := Option.some.inj hf
    exact W.vret hx hb hr (fun t ht hW => ⟨⟨(), rfl, trivial, WD.pst wd hK ht hW⟩, hS.F ht⟩) hS.2.2 dX8_add_16
set_option maxHeartbeats 4000000 in
set_option maxRecDepth 100000 in
theorem kX8_add (l : Launch) (D : va_G) (Y : Y4) (F : Nat) (a_h : Nat) (a_hw : Nat) (sz : Nat) (h_most : Int32) (h_length : Int32) (h_overfull : Int32) (hw_n : Nat) (c_hw : (Nat → Int32)) (p1 : Int32) (res : Int32 × Int32 × (Nat → Int32)) (hf : fX8_add F h_most h_length h_overfull hw_n c_hw p1 = some res) : Met l yX8_add wsX8_add ({ frames := 1, cells := 0, slots := 0, locals := 23 }) (va_Pc [.ref a_h, .int p1] (PRE D Y [oX8 a_h (.ref a_hw) h_most h_length h_overfull, aI Y a_hw hw_n c_hw] sz)) (va_Qv (fun _ : Unit => True) (fun _ t => PST D Y (va_A [oX8 a_h (.ref a_hw) h_most h_length h_overfull, aI Y a_hw hw_n c_hw] sz) [oX8 a_h (.ref a_hw) h_most res.1 res.2.1, aI Y a_hw hw_n res.2.2] t) (va_A [oX8 a_h (.ref a_hw) h_most h_length h_overfull, aI Y a_hw hw_n c_hw] sz)) 0 0 (va_A [oX8 a_h (.ref a_hw) h_most h_length h_overfull, aI Y a_hw hw_n c_hw] sz) := by
  refine Met.ofW (cc := cX8_add) (maxL := 2) (ret := none) (by decide) rfl ?_
  intro p e s m args below meth c s₁ B hml hv
  obtain ⟨rfl, rfl, hP, hK, hD0⟩ := hv
  have hl := lv_entry ([.ref a_h, .int p1]) (n := 2) (Nat.le_of_ble_eq_true rfl)
  rw [lg_entry_eq]
  exact wX8_add D Y ⟨B.exec, B.bytes, hml, B.returns, atoms_spec (ws := wsX8_add) B.pre, findClass_of_methodNamed B.named, B.notSynchronized⟩ (fun q h => Or.inr h) hK F a_h a_hw h_most h_length h_overfull hw_n c_hw p1 res hf ⟨hP, hD0.self⟩ va_S.rf hl

set_option maxHeartbeats 4000000 in
set_option maxRecDepth 100000 in
theorem wX8_addPart_b3 {p : Program} {l : Launch} {e : Env} {s : State} {m : MethodId} {args : Array Value} {below : List Frame} {meth : Method} {c : Code} {A : Nat → Prop} (D : va_G) (Y : Y4) (C : CX p s m meth c args cX8_addPart 5 none wsX8_addPart RX8) (hA : ∀ q : Nat, s.heap.size ≤ q → A q) (hK : va_K D vwCl (TY Y) s) (F : Nat) (a_h : Nat) (a_hw : Nat) (a_q : Nat) (a_qw : Nat) (h_most : Int32) (h_length : Int32) (h_overfull : Int32) (hw_n : Nat) (c_hw : (Nat → Int32)) (q_most : Int32) (q_length : Int32) (q_overfull : Int32) (qw_n : Nat) (c_qw : (Nat → Int32)) (p2 : Int32) (p3 : Int32) (res : Int32 × Int32 × (Nat → Int32)) : ∀ (n : Nat) (b3_l_4 : Int32) (b3_f_h_2 : Int32) (b3_f_h_3 : Int32) (b3_c_hw : (Nat → Int32)), fX8_addPart_b3 F h_most hw_n q_length qw_n c_qw p2 p3 n b3_l_4 b3_f_h_2 b3_f_h_3 b3_c_hw = some res → ∀ {H : Heap} {locs : List Loc} {ls : Array Slot}, WD D A [oX8 a_h (.ref a_hw) h_most b3_f_h_2 b3_f_h_3, aI Y a_hw hw_n b3_c_hw, oX8 a_q (.ref a_qw) q_most q_length q_overfull, aI Y a_qw qw_n c_qw] H → va_S A s.heap H locs → lv_has ls 5 [(0, .ref a_h), (1, .ref a_q), (2, .int p2), (3, .int p3), (4, .int b3_l_4)] → W p l e { frames := 2, cells := 0, slots := 0, locals := 44 } s m args below meth c H locs 0 0 (MQ below (va_Qv (fun _ : Unit => True) (fun _ t => PST D Y A [oX8 a_h (.ref a_hw) h_most res.1 res.2.1, aI Y a_hw hw_n res.2.2, oX8 a_q (.ref a_qw) q_most q_length q_overfull, aI Y a_qw qw_n c_qw] t) A) args s 0 0 A) (F0 m 3 ls []) := by
  obtain ⟨hx, hb, hml, hr, hts, hown, hlocks⟩ := id C
  intro n
  induction n with
  | zero => intro b3_l_4 b3_f_h_2 b3_f_h_3 b3_c_hw hf; exact absurd hf (by simp [fX8_addPart_b3])
  | succ n ih =>
    intro b3_l_4 b3_f_h_2 b3_f_h_3 b3_c_hw hf H locs ls wd hS hl
    unfold fX8_addPart_b3 at hf
    refine lv_iload hx hb dX8_addPart_3 (lv_at hl 4 rfl) ?_
    refine lv_iload_n hx hb dX8_addPart_5 rfl (lv_at hl 3 rfl) ?_
    refine lv_icmp_ge (tgt := 27) hx hb dX8_addPart_6 (by decide) (fun q1 => ?_) (fun q1 => ?_)
    · have hf := ip hf q1
      obtain rfl := Option.some.inj hf
      exact W.vret hx hb hr (fun t ht hW => ⟨⟨(), rfl, trivial, WD.pst wd hK ht hW⟩, hS.F ht⟩) hS.2.2 dX8_addPart_27
    · have hf := ie hf q1
      refine lv_aload_n hx hb dX8_addPart_9 rfl (lv_at hl 0 rfl) ?_
      refine lv_aload_n hx hb dX8_addPart_10 rfl (lv_at hl 1 rfl) ?_
      refine lv_iload_n hx hb dX8_addPart_11 rfl (lv_at hl 2 rfl) ?_
      refine lv_iload hx hb dX8_addPart_12 (lv_at hl 4 rfl) ?_
      refine lv_iadd hx hb dX8_addPart_14 ?_
      obtain ⟨o2, ho2, hf⟩ := ob hf
      refine xj_i (va_runV (As := [.int (p2 + b3_l_4)]) (rest := [.ref a_h]) ⟨hx, hb, hml, hown, hts⟩ (kX8_at l D Y F a_q a_qw H.size q_most q_length q_overfull qw_n c_qw (p2 + b3_l_4) o2 ho2) (cwV 1 hts gX8_addPart_X8_at rfl rfl rfl (by decide +kernel) ⟨Nat.le_of_ble_eq_true rfl, Nat.le_of_ble_eq_true rfl⟩) (prev_w (ci := 6) rfl rfl hK wd [2, 3] rfl (by decide)) rfl rfl hl.1 rfl (lv_room (Nat.le_of_ble_eq_true rfl)) dX8_addPart_15 ⟨Nat.zero_le _, Nat.zero_le _⟩) wd hS hA [2, 3] [0, 1] rfl rfl (by decide) (by decide) (fun H locs wd hS => ?_)
      have wd : WD D A [oX8 a_h (.ref a_hw) h_most b3_f_h_2 b3_f_h_3, aI Y a_hw hw_n b3_c_hw, oX8 a_q (.ref a_qw) q_most q_length q_overfull, aI Y a_qw qw_n c_qw] H := wd
      obtain ⟨o3, ho3, hf⟩ := ob hf
      refine xj_v (va_runV (As := [.int o2]) (rest := []) ⟨hx, hb, hml, hown, hts⟩ (kX8_add l D Y F a_h a_hw H.size h_most b3_f_h_2 b3_f_h_3 hw_n b3_c_hw o2 o3 ho3) (cwV 1 hts gX8_addPart_X8_add rfl rfl rfl (by decide +kernel) ⟨Nat.le_of_ble_eq_true rfl, Nat.le_of_ble_eq_true rfl⟩) (prev_w (ci := 6) rfl rfl hK wd [0, 1] rfl (by decide)) rfl rfl hl.1 rfl (lv_room (Nat.le_of_ble_eq_true rfl)) dX8_addPart_18 ⟨Nat.zero_le _, Nat.zero_le _⟩) wd hS hA [0, 1] [2, 3] rfl rfl (by decide) (by decide) (fun H locs wd hS => ?_)
      have wd : WD D A [oX8 a_q (.ref a_qw) q_most q_length q_overfull, aI Y a_qw qw_n c_qw, oX8 a_h (.ref a_hw) h_most o3.1 o3.2.1, aI Y a_hw hw_n o3.2.2] H := wd
      obtain ⟨x4, ex4⟩ : ∃ y : Int32, y = b3_l_4 + 1 := ⟨_, rfl⟩
      have hf := nm_at hf ex4
      refine lv_iinc (v := x4) (lv' := [(4, .int x4), (0, .ref a_h), (1, .ref a_q), (2, .int p2), (3, .int p3)]) hx hb dX8_addPart_21 hl (k := 4) rfl (by rw [ex4]; rfl) (by decide) rfl (fun ls hl => ?_)
      refine lv_goto (tgt := 3) hx hb dX8_addPart_24 (by decide) ?_
      exact ih x4 o3.1 o3.2.1 o3.2.2 hf (wd.sub [2, 3, 0, 1] rfl (by decide)) hS (lv_sub hl [1, 2, 3, 4, 0] rfl)

set_option maxHeartbeats 4000000 in
set_option maxRecDepth 100000 in
theorem wX8_addPart {p : Program} {l : Launch} {e : Env} {s : State} {m : MethodId} {args : Array Value} {below : List Frame} {meth : Method} {c : Code} {A : Nat → Prop} (D : va_G) (Y : Y4) (C : CX p s m meth c args cX8_addPart 5 none wsX8_addPart RX8) (hA : ∀ q : Nat, s.heap.size ≤ q → A q) (hK : va_K D vwCl (TY Y) s) (F : Nat) (a_h : Nat) (a_hw : Nat) (a_q : Nat) (a_qw : Nat) (h_most : Int32) (h_length : Int32) (h_overfull : Int32) (hw_n : Nat) (c_hw : (Nat → Int32)) (q_most : Int32) (q_length : Int32) (q_overfull : Int32) (qw_n : Nat) (c_qw : (Nat → Int32)) (p2 : Int32) (p3 : Int32) (res : Int32 × Int32 × (Nat → Int32)) (hf : fX8_addPart F h_most h_length h_overfull hw_n c_hw q_length qw_n c_qw p2 p3 = some res) {H : Heap} {locs : List Loc} {ls : Array Slot} (wd : WD D A [oX8 a_h (.ref a_hw) h_most h_length h_overfull, aI Y a_hw hw_n c_hw, oX8 a_q (.ref a_qw) q_most q_length q_overfull, aI Y a_qw qw_n c_qw] H) (hS : va_S A s.heap H locs) (hl : lv_has ls 5 [(0, .ref a_h), (1, .ref a_q), (2, .int p2), (3, .int p3)]) : W p l e { frames := 2, cells := 0, slots := 0, locals := 44 } s m args below meth c H locs 0 0 (MQ below (va_Qv (fun _ : Unit => True) (fun _ t => PST D Y A [oX8 a_h (.ref a_hw) h_most res.1 res.2.1, aI Y a_hw hw_n res.2.2, oX8 a_q (.ref a_qw) q_most q_length q_overfull, aI Y a_qw qw_n c_qw] t) A) args s 0 0 A) (F0 m 0 ls []) := by
  obtain ⟨hx, hb, hml, hr, hts, hown, hlocks⟩ := id C
  unfold fX8_addPart at hf
  refine lv_iconst (v := 0) hx hb dX8_addPart_0 (by decide) ?_
  refine lv_istore (lv' := [(4, .int 0), (0, .ref a_h), (1, .ref a_q), (2, .int p2), (3, .int p3)]) hx hb dX8_addPart_1 hl (by decide) rfl (fun ls hl => ?_)
  exact wX8_addPart_b3 D Y C hA hK F a_h a_hw a_q a_qw h_most h_length h_overfull hw_n c_hw q_most q_length q_overfull qw_n c_qw p2 p3 _ F 0 h_length h_overfull c_hw hf wd hS (lv_sub hl [1, 2, 3, 4, 0] rfl)
set_option maxHeartbeats 4000000 in
set_option maxRecDepth 100000 in
theorem kX8_addPart (l : Launch) (D : va_G) (Y : Y4) (F : Nat) (a_h : Nat) (a_hw : Nat) (a_q : Nat) (a_qw : Nat) (sz : Nat) (h_most : Int32) (h_length : Int32) (h_overfull : Int32) (hw_n : Nat) (c_hw : (Nat → Int32)) (q_most : Int32) (q_length : Int32) (q_overfull : Int32) (qw_n : Nat) (c_qw : (Nat → Int32)) (p2 : Int32) (p3 : Int32) (res : Int32 × Int32 × (Nat → Int32)) (hf : fX8_addPart F h_most h_length h_overfull hw_n c_hw q_length qw_n c_qw p2 p3 = some res) : Met l yX8_addPart wsX8_addPart ({ frames := 2, cells := 0, slots := 0, locals := 44 }) (va_Pc [.ref a_h, .ref a_q, .int p2, .int p3] (PRE D Y [oX8 a_h (.ref a_hw) h_most h_length h_overfull, aI Y a_hw hw_n c_hw, oX8 a_q (.ref a_qw) q_most q_length q_overfull, aI Y a_qw qw_n c_qw] sz)) (va_Qv (fun _ : Unit => True) (fun _ t => PST D Y (va_A [oX8 a_h (.ref a_hw) h_most h_length h_overfull, aI Y a_hw hw_n c_hw, oX8 a_q (.ref a_qw) q_most q_length q_overfull, aI Y a_qw qw_n c_qw] sz) [oX8 a_h (.ref a_hw) h_most res.1 res.2.1, aI Y a_hw hw_n res.2.2, oX8 a_q (.ref a_qw) q_most q_length q_overfull, aI Y a_qw qw_n c_qw] t) (va_A [oX8 a_h (.ref a_hw) h_most h_length h_overfull, aI Y a_hw hw_n c_hw, oX8 a_q (.ref a_qw) q_most q_length q_overfull, aI Y a_qw qw_n c_qw] sz)) 0 0 (va_A [oX8 a_h (.ref a_hw) h_most h_length h_overfull, aI Y a_hw hw_n c_hw, oX8 a_q (.ref a_qw) q_most q_length q_overfull, aI Y a_qw qw_n c_qw] sz) := by
  refine Met.ofW (cc := cX8_addPart) (maxL := 5) (ret := none) (by decide) rfl ?_
  intro p e s m args below meth c s₁ B hml hv
  obtain ⟨rfl, rfl, hP, hK, hD0⟩ := hv
  have hl := lv_entry ([.ref a_h, .ref a_q, .int p2, .int p3]) (n := 5) (Nat.le_of_ble_eq_true rfl)
  rw [lg_entry_eq]
  exact wX8_addPart D Y ⟨B.exec, B.bytes, hml, B.returns, atoms_spec (ws := wsX8_addPart) B.pre, findClass_of_methodNamed B.named, B.notSynchronized⟩ (fun q h => Or.inr h) hK F a_h a_hw a_q a_qw h_most h_length h_overfull hw_n c_hw q_most q_length q_overfull qw_n c_qw p2 p3 res hf ⟨hP, hD0.self⟩ va_S.rf hl

set_option maxHeartbeats 4000000 in
set_option maxRecDepth 100000 in
theorem wX8_addEach_b2 {p : Program} {l : Launch} {e : Env} {s : State} {m : MethodId} {args : Array Value} {below : List Frame} {meth : Method} {c : Code} {A : Nat → Prop} (D : va_G) (Y : Y4) (C : CX p s m meth c args cX8_addEach 3 none wsX8_addEach RX8) (hA : ∀ q : Nat, s.heap.size ≤ q → A q) (hK : va_K D vwCl (TY Y) s) (F : Nat) (a_h : Nat) (a_hw : Nat) (a_q : Nat) (h_most : Int32) (h_length : Int32) (h_overfull : Int32) (hw_n : Nat) (c_hw : (Nat → Int32)) (q_n : Nat) (c_q : (Nat → Int32)) (e_C : String) (e_N : String) (e_D : String) (hX : ST [sArr e_C e_N e_D .int a_q q_n (fun j => .int (c_q j))] A s) (res : Int32 × Int32 × (Nat → Int32)) : ∀ (n : Nat) (b2_l_2 : Int32) (b2_f_h_2 : Int32) (b2_f_h_3 : Int32) (b2_c_hw : (Nat → Int32)), fX8_addEach_b2 F h_most hw_n q_n c_q n b2_l_2 b2_f_h_2 b2_f_h_3 b2_c_hw = some res → ∀ {H : Heap} {locs : List Loc} {ls : Array Slot}, WD D A [oX8 a_h (.ref a_hw) h_most b2_f_h_2 b2_f_h_3, aI Y a_hw hw_n b2_c_hw] H → va_S A s.heap H locs → lv_has ls 3 [(0, .ref a_h), (1, .ref a_q), (2, .int b2_l_2)] → W p l e { frames := 2, cells := 0, slots := 0, locals := 44 } s m args below meth c H locs 0 0 (MQ below (va_Qv (fun _ : Unit => True) (fun _ t => PST D Y A [oX8 a_h (.ref a_hw) h_most res.1 res.2.1, aI Y a_hw hw_n res.2.2] t) A) args s 0 0 A) (F0 m 2 ls []) := by
  obtain ⟨hx, hb, hml, hr, hts, hown, hlocks⟩ := id C
  obtain ⟨hZ_q, hT_q⟩ := (hX _ (List.mem_of_getElem? (i := 0) rfl)).2
  intro n
  induction n with
  | zero => intro b2_l_2 b2_f_h_2 b2_f_h_3 b2_c_hw hf; exact absurd hf (by simp [fX8_addEach_b2])
  | succ n ih =>
    intro b2_l_2 b2_f_h_2 b2_f_h_3 b2_c_hw hf H locs ls wd hS hl
    unfold fX8_addEach_b2 at hf
    refine lv_iload_n hx hb dX8_addEach_2 rfl (lv_at hl 2 rfl) ?_
    refine lv_aload_n hx hb dX8_addEach_3 rfl (lv_at hl 1 rfl) ?_
    refine va_tlen hx hb hT_q hS (v := (nI q_n)) rfl dX8_addEach_4 ?_
    refine lv_icmp_ge (tgt := 21) hx hb dX8_addEach_5 (by decide) (fun q1 => ?_) (fun q1 => ?_)
    · have hf := ip hf q1
      obtain rfl := Option.some.inj hf
      exact W.vret hx hb hr (fun t ht hW => ⟨⟨(), rfl, trivial, WD.pst wd hK ht hW⟩, hS.F ht⟩) hS.2.2 dX8_addEach_21
    · have hf := ie hf q1
      refine lv_aload_n hx hb dX8_addEach_8 rfl (lv_at hl 0 rfl) ?_
      refine lv_aload_n hx hb dX8_addEach_9 rfl (lv_at hl 1 rfl) ?_
      refine lv_iload_n hx hb dX8_addEach_10 rfl (lv_at hl 2 rfl) ?_
      obtain ⟨hg2, hf⟩ := gd hf
      refine va_ti hx hb hT_q hS (gin_in hg2) (v := .int (c_q b2_l_2.toNatClampNeg)) rfl dX8_addEach_11 ?_
      obtain ⟨o3, ho3, hf⟩ := ob hf
      refine xj_v (va_runV (As := [.int (c_q b2_l_2.toNatClampNeg)]) (rest := []) ⟨hx, hb, hml, hown, hts⟩ (kX8_add l D Y F a_h a_hw H.size h_most b2_f_h_2 b2_f_h_3 hw_n b2_c_hw (c_q b2_l_2.toNatClampNeg) o3 ho3) (cwV 1 hts gX8_addEach_X8_add rfl rfl rfl (by decide +kernel) ⟨Nat.le_of_ble_eq_true rfl, Nat.le_of_ble_eq_true rfl⟩) (prev_w (ci := 6) rfl rfl hK wd [0, 1] rfl (by decide)) rfl rfl hl.1 rfl (lv_room (Nat.le_of_ble_eq_true rfl)) dX8_addEach_12 ⟨Nat.zero_le _, Nat.zero_le _⟩) wd hS hA [0, 1] [] rfl rfl (by decide) (by decide) (fun H locs wd hS => ?_)
      have wd : WD D A [oX8 a_h (.ref a_hw) h_most o3.1 o3.2.1, aI Y a_hw hw_n o3.2.2] H := wd
      obtain ⟨x4, ex4⟩ : ∃ y : Int32, y = b2_l_2 + 1 := ⟨_, rfl⟩
      have hf := nm_at hf ex4
      refine lv_iinc (v := x4) (lv' := [(2, .int x4), (0, .ref a_h), (1, .ref a_q)]) hx hb dX8_addEach_15 hl (k := 2) rfl (by rw [ex4]; rfl) (by decide) rfl (fun ls hl => ?_)
      refine lv_goto (tgt := 2) hx hb dX8_addEach_18 (by decide) ?_
      exact ih x4 o3.1 o3.2.1 o3.2.2 hf wd hS (lv_sub hl [1, 2, 0] rfl)

set_option maxHeartbeats 4000000 in
set_option maxRecDepth 100000 in
theorem wX8_addEach {p : Program} {l : Launch} {e : Env} {s : State} {m : MethodId} {args : Array Value} {below : List Frame} {meth : Method} {c : Code} {A : Nat → Prop} (D : va_G) (Y : Y4) (C : CX p s m meth c args cX8_addEach 3 none wsX8_addEach RX8) (hA : ∀ q : Nat, s.heap.size ≤ q → A q) (hK : va_K D vwCl (TY Y) s) (F : Nat) (a_h : Nat) (a_hw : Nat) (a_q : Nat) (h_most : Int32) (h_length : Int32) (h_overfull : Int32) (hw_n : Nat) (c_hw : (Nat → Int32)) (q_n : Nat) (c_q : (Nat → Int32)) (e_C : String) (e_N : String) (e_D : String) (hX : ST [sArr e_C e_N e_D .int a_q q_n (fun j => .int (c_q j))] A s) (res : Int32 × Int32 × (Nat → Int32)) (hf : fX8_addEach F h_most h_length h_overfull hw_n c_hw q_n c_q = some res) {H : Heap} {locs : List Loc} {ls : Array Slot} (wd : WD D A [oX8 a_h (.ref a_hw) h_most h_length h_overfull, aI Y a_hw hw_n c_hw] H) (hS : va_S A s.heap H locs) (hl : lv_has ls 3 [(0, .ref a_h), (1, .ref a_q)]) : W p l e { frames := 2, cells := 0, slots := 0, locals := 44 } s m args below meth c H locs 0 0 (MQ below (va_Qv (fun _ : Unit => True) (fun _ t => PST D Y A [oX8 a_h (.ref a_hw) h_most res.1 res.2.1, aI Y a_hw hw_n res.2.2] t) A) args s 0 0 A) (F0 m 0 ls []) := by
  obtain ⟨hx, hb, hml, hr, hts, hown, hlocks⟩ := id C
  obtain ⟨hZ_q, hT_q⟩ := (hX _ (List.mem_of_getElem? (i := 0) rfl)).2
  unfold fX8_addEach at hf
  refine lv_iconst (v := 0) hx hb dX8_addEach_0 (by decide) ?_
  refine lv_istore_n (lv' := [(2, .int 0), (0, .ref a_h), (1, .ref a_q)]) hx hb dX8_addEach_1 rfl hl (by decide) rfl (fun ls hl => ?_)
  exact wX8_addEach_b2 D Y C hA hK F a_h a_hw a_q h_most h_length h_overfull hw_n c_hw q_n c_q e_C e_N e_D hX _ F 0 h_length h_overfull c_hw hf wd hS (lv_sub hl [1, 2, 0] rfl)
set_option maxHeartbeats 4000000 in
set_option maxRecDepth 100000 in
theorem kX8_addEach (l : Launch) (D : va_G) (Y : Y4) (F : Nat) (a_h : Nat) (a_hw : Nat) (a_q : Nat) (sz : Nat) (h_most : Int32) (h_length : Int32) (h_overfull : Int32) (hw_n : Nat) (c_hw : (Nat → Int32)) (q_n : Nat) (c_q : (Nat → Int32)) (e_C : String) (e_N : String) (e_D : String) (res : Int32 × Int32 × (Nat → Int32)) (hf : fX8_addEach F h_most h_length h_overfull hw_n c_hw q_n c_q = some res) : Met l yX8_addEach wsX8_addEach ({ frames := 2, cells := 0, slots := 0, locals := 44 }) (va_Pc [.ref a_h, .ref a_q] (PREX D Y [oX8 a_h (.ref a_hw) h_most h_length h_overfull, aI Y a_hw hw_n c_hw] sz [sArr e_C e_N e_D .int a_q q_n (fun j => .int (c_q j))])) (va_Qv (fun _ : Unit => True) (fun _ t => PST D Y (va_A [oX8 a_h (.ref a_hw) h_most h_length h_overfull, aI Y a_hw hw_n c_hw] sz) [oX8 a_h (.ref a_hw) h_most res.1 res.2.1, aI Y a_hw hw_n res.2.2] t) (va_A [oX8 a_h (.ref a_hw) h_most h_length h_overfull, aI Y a_hw hw_n c_hw] sz)) 0 0 (va_A [oX8 a_h (.ref a_hw) h_most h_length h_overfull, aI Y a_hw hw_n c_hw] sz) := by
  refine Met.ofW (cc := cX8_addEach) (maxL := 3) (ret := none) (by decide) rfl ?_
  intro p e s m args below meth c s₁ B hml hv
  obtain ⟨rfl, ⟨rfl, hP, hK, hD0⟩, hX⟩ := hv
  have hl := lv_entry ([.ref a_h, .ref a_q]) (n := 3) (Nat.le_of_ble_eq_true rfl)
  rw [lg_entry_eq]
  exact wX8_addEach D Y ⟨B.exec, B.bytes, hml, B.returns, atoms_spec (ws := wsX8_addEach) B.pre, findClass_of_methodNamed B.named, B.notSynchronized⟩ (fun q h => Or.inr h) hK F a_h a_hw a_q h_most h_length h_overfull hw_n c_hw q_n c_q e_C e_N e_D hX res hf ⟨hP, hD0.self⟩ va_S.rf hl

set_option maxHeartbeats 4000000 in
set_option maxRecDepth 100000 in
theorem wX8_addHighFirst_b5 {p : Program} {l : Launch} {e : Env} {s : State} {m : MethodId} {args : Array Value} {below : List Frame} {meth : Method} {c : Code} {A : Nat → Prop} (D : va_G) (Y : Y4) (C : CX p s m meth c args cX8_addHighFirst 5 none wsX8_addHighFirst RX8) (hA : ∀ q : Nat, s.heap.size ≤ q → A q) (hK : va_K D vwCl (TY Y) s) (F : Nat) (a_h : Nat) (a_hw : Nat) (h_most : Int32) (h_length : Int32) (h_overfull : Int32) (hw_n : Nat) (c_hw : (Nat → Int32)) (p1 : Int64) (p3 : Int32) (res : Int32 × Int32 × (Nat → Int32)) : ∀ (n : Nat) (b5_l_4 : Int32) (b5_f_h_2 : Int32) (b5_f_h_3 : Int32) (b5_c_hw : (Nat → Int32)), fX8_addHighFirst_b5 F h_most hw_n p1 n b5_l_4 b5_f_h_2 b5_f_h_3 b5_c_hw = some res → ∀ {H : Heap} {locs : List Loc} {ls : Array Slot}, WD D A [oX8 a_h (.ref a_hw) h_most b5_f_h_2 b5_f_h_3, aI Y a_hw hw_n b5_c_hw] H → va_S A s.heap H locs → lv_has ls 5 [(0, .ref a_h), (1, .long p1), (4, .int b5_l_4)] → W p l e { frames := 2, cells := 0, slots := 0, locals := 44 } s m args below meth c H locs 0 0 (MQ below (va_Qv (fun _ : Unit => True) (fun _ t => PST D Y A [oX8 a_h (.ref a_hw) h_most res.1 res.2.1, aI Y a_hw hw_n res.2.2] t) A) args s 0 0 A) (F0 m 5 ls []) := by
  obtain ⟨hx, hb, hml, hr, hts, hown, hlocks⟩ := id C
  intro n
  induction n with
  | zero => intro b5_l_4 b5_f_h_2 b5_f_h_3 b5_c_hw hf; exact absurd hf (by simp [fX8_addHighFirst_b5])
  | succ n ih =>
    intro b5_l_4 b5_f_h_2 b5_f_h_3 b5_c_hw hf H locs ls wd hS hl
    unfold fX8_addHighFirst_b5 at hf
    refine lv_iload hx hb dX8_addHighFirst_5 (lv_at hl 2 rfl) ?_
    refine lv_if_lt (tgt := 28) hx hb dX8_addHighFirst_7 (by decide) (fun q1 => ?_) (fun q1 => ?_)
    · have hf := ip hf q1
      obtain rfl := Option.some.inj hf
      exact W.vret hx hb hr (fun t ht hW => ⟨⟨(), rfl, trivial, WD.pst wd hK ht hW⟩, hS.F ht⟩) hS.2.2 dX8_addHighFirst_28
    · have hf := ie hf q1
      refine lv_aload_n hx hb dX8_addHighFirst_10 rfl (lv_at hl 0 rfl) ?_
      refine lv_lload_n hx hb dX8_addHighFirst_11 rfl (lv_at hl 1 rfl) ?_
      refine lv_bipush (v := 8) hx hb dX8_addHighFirst_12 (by decide) ?_
      refine lv_iload hx hb dX8_addHighFirst_14 (lv_at hl 2 rfl) ?_
      refine lv_imul hx hb dX8_addHighFirst_16 ?_
      refine lv_lushr (v := (ushr64 p1 ((8 : Int32) * b5_l_4))) hx hb dX8_addHighFirst_17 rfl ?_
      refine lv_l2i (v := ((ushr64 p1 ((8 : Int32) * b5_l_4)).toInt32)) hx hb dX8_addHighFirst_18 rfl ?_
      obtain ⟨o2, ho2, hf⟩ := ob hf
      refine xj_v (va_runV (As := [.int ((ushr64 p1 ((8 : Int32) * b5_l_4)).toInt32)]) (rest := []) ⟨hx, hb, hml, hown, hts⟩ (kX8_add l D Y F a_h a_hw H.size h_most b5_f_h_2 b5_f_h_3 hw_n b5_c_hw ((ushr64 p1 ((8 : Int32) * b5_l_4)).toInt32) o2 ho2) (cwV 1 hts gX8_addHighFirst_X8_add rfl rfl rfl (by decide +kernel) ⟨Nat.le_of_ble_eq_true rfl, Nat.le_of_ble_eq_true rfl⟩) (prev_w (ci := 6) rfl rfl hK wd [0, 1] rfl (by decide)) rfl rfl hl.1 rfl (lv_room (Nat.le_of_ble_eq_true rfl)) dX8_addHighFirst_19 ⟨Nat.zero_le _, Nat.zero_le _⟩) wd hS hA [0, 1] [] rfl rfl (by decide) (by decide) (fun H locs wd hS => ?_)
      have wd : WD D A [oX8 a_h (.ref a_hw) h_most o2.1 o2.2.1, aI Y a_hw hw_n o2.2.2] H := wd
      obtain ⟨x3, ex3⟩ : ∃ y : Int32, y = b5_l_4 + (-1) := ⟨_, rfl⟩
      have hf := nm_at hf ex3
      refine lv_iinc (v := x3) (lv' := [(4, .int x3), (0, .ref a_h), (1, .long p1)]) hx hb dX8_addHighFirst_22 hl (k := 2) rfl (by rw [ex3]; rfl) (by decide) rfl (fun ls hl => ?_)
      refine lv_goto (tgt := 5) hx hb dX8_addHighFirst_25 (by decide) ?_
      exact ih x3 o2.1 o2.2.1 o2.2.2 hf wd hS (lv_sub hl [1, 2, 0] rfl)

set_option maxHeartbeats 4000000 in
set_option maxRecDepth 100000 in
theorem wX8_addHighFirst {p : Program} {l : Launch} {e : Env} {s : State} {m : MethodId} {args : Array Value} {below : List Frame} {meth : Method} {c : Code} {A : Nat → Prop} (D : va_G) (Y : Y4) (C : CX p s m meth c args cX8_addHighFirst 5 none wsX8_addHighFirst RX8) (hA : ∀ q : Nat, s.heap.size ≤ q → A q) (hK : va_K D vwCl (TY Y) s) (F : Nat) (a_h : Nat) (a_hw : Nat) (h_most : Int32) (h_length : Int32) (h_overfull : Int32) (hw_n : Nat) (c_hw : (Nat → Int32)) (p1 : Int64) (p3 : Int32) (res : Int32 × Int32 × (Nat → Int32)) (hf : fX8_addHighFirst F h_most h_length h_overfull hw_n c_hw p1 p3 = some res) {H : Heap} {locs : List Loc} {ls : Array Slot} (wd : WD D A [oX8 a_h (.ref a_hw) h_most h_length h_overfull, aI Y a_hw hw_n c_hw] H) (hS : va_S A s.heap H locs) (hl : lv_has ls 5 [(0, .ref a_h), (1, .long p1), (3, .int p3)]) : W p l e { frames := 2, cells := 0, slots := 0, locals := 44 } s m args below meth c H locs 0 0 (MQ below (va_Qv (fun _ : Unit => True) (fun _ t => PST D Y A [oX8 a_h (.ref a_hw) h_most res.1 res.2.1, aI Y a_hw hw_n res.2.2] t) A) args s 0 0 A) (F0 m 0 ls []) := by
  obtain ⟨hx, hb, hml, hr, hts, hown, hlocks⟩ := id C
  unfold fX8_addHighFirst at hf
  refine lv_iload_n hx hb dX8_addHighFirst_0 rfl (lv_at hl 2 rfl) ?_
  refine lv_iconst (v := 1) hx hb dX8_addHighFirst_1 (by decide) ?_
  refine lv_isub hx hb dX8_addHighFirst_2 ?_
  refine lv_topi (fun x1 ex1 => ?_)
  have hf := nm_at hf ex1
  refine lv_istore (lv' := [(4, .int x1), (0, .ref a_h), (1, .long p1), (3, .int p3)]) hx hb dX8_addHighFirst_3 hl (by decide) rfl (fun ls hl => ?_)
  exact wX8_addHighFirst_b5 D Y C hA hK F a_h a_hw h_most h_length h_overfull hw_n c_hw p1 p3 _ F x1 h_length h_overfull c_hw hf wd hS (lv_sub hl [1, 2, 0] rfl)
set_option maxHeartbeats 4000000 in
set_option maxRecDepth 100000 in
theorem kX8_addHighFirst (l : Launch) (D : va_G) (Y : Y4) (F : Nat) (a_h : Nat) (a_hw : Nat) (sz : Nat) (h_most : Int32) (h_length : Int32) (h_overfull : Int32) (hw_n : Nat) (c_hw : (Nat → Int32)) (p1 : Int64) (p3 : Int32) (res : Int32 × Int32 × (Nat → Int32)) (hf : fX8_addHighFirst F h_most h_length h_overfull hw_n c_hw p1 p3 = some res) : Met l yX8_addHighFirst wsX8_addHighFirst ({ frames := 2, cells := 0, slots := 0, locals := 44 }) (va_Pc [.ref a_h, .long p1, .int p3] (PRE D Y [oX8 a_h (.ref a_hw) h_most h_length h_overfull, aI Y a_hw hw_n c_hw] sz)) (va_Qv (fun _ : Unit => True) (fun _ t => PST D Y (va_A [oX8 a_h (.ref a_hw) h_most h_length h_overfull, aI Y a_hw hw_n c_hw] sz) [oX8 a_h (.ref a_hw) h_most res.1 res.2.1, aI Y a_hw hw_n res.2.2] t) (va_A [oX8 a_h (.ref a_hw) h_most h_length h_overfull, aI Y a_hw hw_n c_hw] sz)) 0 0 (va_A [oX8 a_h (.ref a_hw) h_most h_length h_overfull, aI Y a_hw hw_n c_hw] sz) := by
  refine Met.ofW (cc := cX8_addHighFirst) (maxL := 5) (ret := none) (by decide) rfl ?_
  intro p e s m args below meth c s₁ B hml hv
  obtain ⟨rfl, rfl, hP, hK, hD0⟩ := hv
  have hl := lv_entry ([.ref a_h, .long p1, .int p3]) (n := 5) (Nat.le_of_ble_eq_true rfl)
  rw [lg_entry_eq]
  exact wX8_addHighFirst D Y ⟨B.exec, B.bytes, hml, B.returns, atoms_spec (ws := wsX8_addHighFirst) B.pre, findClass_of_methodNamed B.named, B.notSynchronized⟩ (fun q h => Or.inr h) hK F a_h a_hw h_most h_length h_overfull hw_n c_hw p1 p3 res hf ⟨hP, hD0.self⟩ va_S.rf hl
theorem mX8_empty_0 : Cond.fieldLink RX8 25 "StreamRemuxer$Row" "length" "I" ∈ wsX8_empty := List.mem_cons_of_mem _ u_120
theorem mX8_empty_1 : Cond.fieldLink RX8 28 "StreamRemuxer$Row" "overfull" "Z" ∈ wsX8_empty := List.mem_cons_of_mem _ u_121
theorem iX8_empty_X8 : ∀ w ∈ wsX80, w ∈ wsX8_empty := fun w h => List.mem_cons_of_mem _ (inlX8 w h)
set_option maxHeartbeats 4000000 in
set_option maxRecDepth 100000 in
theorem wX8_empty {p : Program} {l : Launch} {e : Env} {s : State} {m : MethodId} {args : Array Value} {below : List Frame} {meth : Method} {c : Code} {A : Nat → Prop} (D : va_G) (Y : Y4) (C : CX p s m meth c args cX8_empty 1 none wsX8_empty RX8) (hA : ∀ q : Nat, s.heap.size ≤ q → A q) (hK : va_K D vwCl (TY Y) s) (F : Nat) (a_h : Nat) (a_hw : Nat) (h_most : Int32) (h_length : Int32) (h_overfull : Int32) (res : Int32 × Int32) (hf : fX8_empty F = some res) {H : Heap} {locs : List Loc} {ls : Array Slot} (wd : WD D A [oX8 a_h (.ref a_hw) h_most h_length h_overfull] H) (hS : va_S A s.heap H locs) (hl : lv_has ls 1 [(0, .ref a_h)]) : W p l e { frames := 0, cells := 0, slots := 0, locals := 0 } s m args below meth c H locs 0 0 (MQ below (va_Qv (fun _ : Unit => True) (fun _ t => PST D Y A [oX8 a_h (.ref a_hw) h_most res.1 res.2] t) A) args s 0 0 A) (F0 m 0 ls []) := by
  obtain ⟨hx, hb, hml, hr, hts, hown, hlocks⟩ := id C
  unfold fX8_empty at hf
  refine lv_aload_n hx hb dX8_empty_0 rfl (lv_at hl 0 rfl) ?_
  refine lv_iconst (v := 0) hx hb dX8_empty_1 (by decide) ?_
  refine va_put (D := D) (ci := 6) (v := .int 0) (ty := .int) (C := RX8) (T := TX8) (N := 4) hx hb hts iX8_empty_X8 tyX8 tyX8_ok nmX8 hown hK wd.1 wd.2 hS 0 rfl rfl 2 (by decide) (hts _ mX8_empty_0) (fun _ h9 => h9) rfl (by decide +kernel) rfl rfl (Nat.le_of_ble_eq_true rfl) dX8_empty_2 (fun H locs hP hD hS => ?_)
  have wd : WD D A [oX8 a_h (.ref a_hw) h_most 0 h_overfull] H := ⟨hP, hD⟩
  clear hP hD
  refine lv_aload_n hx hb dX8_empty_5 rfl (lv_at hl 0 rfl) ?_
  refine lv_iconst (v := 0) hx hb dX8_empty_6 (by decide) ?_
  refine va_put (D := D) (ci := 6) (v := .int 0) (ty := .boolean) (C := RX8) (T := TX8) (N := 4) hx hb hts iX8_empty_X8 tyX8 tyX8_ok nmX8 hown hK wd.1 wd.2 hS 0 rfl rfl 3 (by decide) (hts _ mX8_empty_1) (fun _ h9 => h9) rfl (by decide +kernel) rfl rfl (Nat.le_of_ble_eq_true rfl) dX8_empty_7 (fun H locs hP hD hS => ?_)
  have wd : WD D A [oX8 a_h (.ref a_hw) h_most 0 0] H := ⟨hP, hD⟩
  clear hP hD
  obtain rfl := Option.some.inj hf
  exact W.vret hx hb hr (fun t ht hW => ⟨⟨(), rfl, trivial, WD.pst wd hK ht hW⟩, hS.F ht⟩) hS.2.2 dX8_empty_10
set_option maxHeartbeats 4000000 in
set_option maxRecDepth 100000 in
theorem kX8_empty (l : Launch) (D : va_G) (Y : Y4) (F : Nat) (a_h : Nat) (a_hw : Nat) (sz : Nat) (h_most : Int32) (h_length : Int32) (h_overfull : Int32) (res : Int32 × Int32) (hf : fX8_empty F = some res) : Met l yX8_empty wsX8_empty ({ frames := 0, cells := 0, slots := 0, locals := 0 }) (va_Pc [.ref a_h] (PRE D Y [oX8 a_h (.ref a_hw) h_most h_length h_overfull] sz)) (va_Qv (fun _ : Unit => True) (fun _ t => PST D Y (va_A [oX8 a_h (.ref a_hw) h_most h_length h_overfull] sz) [oX8 a_h (.ref a_hw) h_most res.1 res.2] t) (va_A [oX8 a_h (.ref a_hw) h_most h_length h_overfull] sz)) 0 0 (va_A [oX8 a_h (.ref a_hw) h_most h_length h_overfull] sz) := by
  refine Met.ofW (cc := cX8_empty) (maxL := 1) (ret := none) (by decide) rfl ?_
  intro p e s m args below meth c s₁ B hml hv
  obtain ⟨rfl, rfl, hP, hK, hD0⟩ := hv
  have hl := lv_entry ([.ref a_h]) (n := 1) (Nat.le_of_ble_eq_true rfl)
  rw [lg_entry_eq]
  exact wX8_empty D Y ⟨B.exec, B.bytes, hml, B.returns, atoms_spec (ws := wsX8_empty) B.pre, findClass_of_methodNamed B.named, B.notSynchronized⟩ (fun q h => Or.inr h) hK F a_h a_hw h_most h_length h_overfull res hf ⟨hP, hD0.self⟩ va_S.rf hl

set_option maxHeartbeats 4000000 in
set_option maxRecDepth 100000 in
theorem wX8_lowFirst_b7 {p : Program} {l : Launch} {e : Env} {s : State} {m : MethodId} {args : Array Value} {below : List Frame} {meth : Method} {c : Code} {A : Nat → Prop} (D : va_G) (Y : Y4) (C : CX p s m meth c args cX8_lowFirst 6 (some .long) wsX8_lowFirst RX8) (hA : ∀ q : Nat, s.heap.size ≤ q → A q) (hK : va_K D vwCl (TY Y) s) (F : Nat) (a_h : Nat) (a_hw : Nat) (h_most : Int32) (h_length : Int32) (h_overfull : Int32) (hw_n : Nat) (c_hw : (Nat → Int32)) (p1 : Int32) (p2 : Int32) (res : Int64) : ∀ (n : Nat) (b7_l_5 : Int32) (b7_l_3 : Int64), fX8_lowFirst_b7 F h_length hw_n c_hw p1 n b7_l_5 b7_l_3 = some res → ∀ {H : Heap} {locs : List Loc} {ls : Array Slot}, WD D A [oX8 a_h (.ref a_hw) h_most h_length h_overfull, aI Y a_hw hw_n c_hw] H → va_S A s.heap H locs → lv_has ls 6 [(0, .ref a_h), (1, .int p1), (3, .long b7_l_3), (5, .int b7_l_5)] → W p l e { frames := 1, cells := 0, slots := 0, locals := 21 } s m args below meth c H locs 0 0 (MQ below (va_Ql (fun r (_ : Unit) => r = res) (fun _ t => PST D Y A [oX8 a_h (.ref a_hw) h_most h_length h_overfull, aI Y a_hw hw_n c_hw] t) A) args s 0 0 A) (F0 m 7 ls []) := by
  obtain ⟨hx, hb, hml, hr, hts, hown, hlocks⟩ := id C
  intro n
  induction n with
  | zero => intro b7_l_5 b7_l_3 hf; exact absurd hf (by simp [fX8_lowFirst_b7])
  | succ n ih =>
    intro b7_l_5 b7_l_3 hf H locs ls wd hS hl
    unfold fX8_lowFirst_b7 at hf
    refine lv_iload hx hb dX8_lowFirst_7 (lv_at hl 3 rfl) ?_
    refine lv_if_lt (tgt := 37) hx hb dX8_lowFirst_9 (by decide) (fun q1 => ?_) (fun q1 => ?_)
    · have hf := ip hf q1
      refine lv_lload_n hx hb dX8_lowFirst_37 rfl (lv_at hl 2 rfl) ?_
      obtain rfl := Option.some.inj hf
      exact W.lret (v := b7_l_3) hx hb hr (fun t ht hW => ⟨⟨_, (), rfl, rfl, WD.pst wd hK ht hW⟩, hS.F ht⟩) hS.2.2 dX8_lowFirst_38
    · have hf := ie hf q1
      refine lv_lload_n hx hb dX8_lowFirst_12 rfl (lv_at hl 2 rfl) ?_
      refine lv_bipush (v := 8) hx hb dX8_lowFirst_13 (by decide) ?_
      refine lv_lshl (v := (shl64 b7_l_3 8)) hx hb dX8_lowFirst_15 rfl ?_
      refine lv_aload_n hx hb dX8_lowFirst_16 rfl (lv_at hl 0 rfl) ?_
      refine lv_iload_n hx hb dX8_lowFirst_17 rfl (lv_at hl 1 rfl) ?_
      refine lv_iload hx hb dX8_lowFirst_18 (lv_at hl 3 rfl) ?_
      refine lv_iadd hx hb dX8_lowFirst_20 ?_
      obtain ⟨o2, ho2, hf⟩ := ob hf
      refine xj_i (va_runV (As := [.int (p1 + b7_l_5)]) (rest := [.long (shl64 b7_l_3 8)]) ⟨hx, hb, hml, hown, hts⟩ (kX8_at l D Y F a_h a_hw H.size h_most h_length h_overfull hw_n c_hw (p1 + b7_l_5) o2 ho2) (cwV 1 hts gX8_lowFirst_X8_at rfl rfl rfl (by decide +kernel) ⟨Nat.le_of_ble_eq_true rfl, Nat.le_of_ble_eq_true rfl⟩) (prev_w (ci := 6) rfl rfl hK wd [0, 1] rfl (by decide)) rfl rfl hl.1 rfl (lv_room (Nat.le_of_ble_eq_true rfl)) dX8_lowFirst_21 ⟨Nat.zero_le _, Nat.zero_le _⟩) wd hS hA [0, 1] [] rfl rfl (by decide) (by decide) (fun H locs wd hS => ?_)
      have wd : WD D A [oX8 a_h (.ref a_hw) h_most h_length h_overfull, aI Y a_hw hw_n c_hw] H := wd
      refine lv_sipush (v := 255) hx hb dX8_lowFirst_24 (by decide) ?_
      refine lv_iand hx hb dX8_lowFirst_27 ?_
      refine lv_i2l (v := ((o2 &&& 255).toInt64)) hx hb dX8_lowFirst_28 rfl ?_
      refine lv_lor hx hb dX8_lowFirst_29 ?_
      refine lv_topl (fun x3 ex3 => ?_)
      have hf := nm_at hf ex3
      refine lv_lstore_n (lv' := [(3, .long x3), (0, .ref a_h), (1, .int p1), (5, .int b7_l_5)]) hx hb dX8_lowFirst_30 rfl hl (by decide) rfl (fun ls hl => ?_)
      obtain ⟨x4, ex4⟩ : ∃ y : Int32, y = b7_l_5 + (-1) := ⟨_, rfl⟩
      have hf := nm_at hf ex4
      refine lv_iinc (v := x4) (lv' := [(5, .int x4), (3, .long x3), (0, .ref a_h), (1, .int p1)]) hx hb dX8_lowFirst_31 hl (k := 3) rfl (by rw [ex4]; rfl) (by decide) rfl (fun ls hl => ?_)
      refine lv_goto (tgt := 7) hx hb dX8_lowFirst_34 (by decide) ?_
      exact ih x4 x3 hf wd hS (lv_sub hl [2, 3, 1, 0] rfl)

set_option maxHeartbeats 4000000 in
set_option maxRecDepth 100000 in
theorem wX8_lowFirst {p : Program} {l : Launch} {e : Env} {s : State} {m : MethodId} {args : Array Value} {below : List Frame} {meth : Method} {c : Code} {A : Nat → Prop} (D : va_G) (Y : Y4) (C : CX p s m meth c args cX8_lowFirst 6 (some .long) wsX8_lowFirst RX8) (hA : ∀ q : Nat, s.heap.size ≤ q → A q) (hK : va_K D vwCl (TY Y) s) (F : Nat) (a_h : Nat) (a_hw : Nat) (h_most : Int32) (h_length : Int32) (h_overfull : Int32) (hw_n : Nat) (c_hw : (Nat → Int32)) (p1 : Int32) (p2 : Int32) (res : Int64) (hf : fX8_lowFirst F h_length hw_n c_hw p1 p2 = some res) {H : Heap} {locs : List Loc} {ls : Array Slot} (wd : WD D A [oX8 a_h (.ref a_hw) h_most h_length h_overfull, aI Y a_hw hw_n c_hw] H) (hS : va_S A s.heap H locs) (hl : lv_has ls 6 [(0, .ref a_h), (1, .int p1), (2, .int p2)]) : W p l e { frames := 1, cells := 0, slots := 0, locals := 21 } s m args below meth c H locs 0 0 (MQ below (va_Ql (fun r (_ : Unit) => r = res) (fun _ t => PST D Y A [oX8 a_h (.ref a_hw) h_most h_length h_overfull, aI Y a_hw hw_n c_hw] t) A) args s 0 0 A) (F0 m 0 ls []) := by
  obtain ⟨hx, hb, hml, hr, hts, hown, hlocks⟩ := id C
  unfold fX8_lowFirst at hf
  refine lv_lconst (v := 0) hx hb dX8_lowFirst_0 (by decide) ?_
  refine lv_lstore_n (lv' := [(3, .long 0), (0, .ref a_h), (1, .int p1), (2, .int p2)]) hx hb dX8_lowFirst_1 rfl hl (by decide) rfl (fun ls hl => ?_)
  refine lv_iload_n hx hb dX8_lowFirst_2 rfl (lv_at hl 3 rfl) ?_
  refine lv_iconst (v := 1) hx hb dX8_lowFirst_3 (by decide) ?_
  refine lv_isub hx hb dX8_lowFirst_4 ?_
  refine lv_topi (fun x1 ex1 => ?_)
  have hf := nm_at hf ex1
  refine lv_istore (lv' := [(5, .int x1), (3, .long 0), (0, .ref a_h), (1, .int p1), (2, .int p2)]) hx hb dX8_lowFirst_5 hl (by decide) rfl (fun ls hl => ?_)
  exact wX8_lowFirst_b7 D Y C hA hK F a_h a_hw h_most h_length h_overfull hw_n c_hw p1 p2 _ F x1 0 hf wd hS (lv_sub hl [2, 3, 1, 0] rfl)
set_option maxHeartbeats 4000000 in
set_option maxRecDepth 100000 in
theorem kX8_lowFirst (l : Launch) (D : va_G) (Y : Y4) (F : Nat) (a_h : Nat) (a_hw : Nat) (sz : Nat) (h_most : Int32) (h_length : Int32) (h_overfull : Int32) (hw_n : Nat) (c_hw : (Nat → Int32)) (p1 : Int32) (p2 : Int32) (res : Int64) (hf : fX8_lowFirst F h_length hw_n c_hw p1 p2 = some res) : Met l yX8_lowFirst wsX8_lowFirst ({ frames := 1, cells := 0, slots := 0, locals := 21 }) (va_Pc [.ref a_h, .int p1, .int p2] (PRE D Y [oX8 a_h (.ref a_hw) h_most h_length h_overfull, aI Y a_hw hw_n c_hw] sz)) (va_Ql (fun r (_ : Unit) => r = res) (fun _ t => PST D Y (va_A [oX8 a_h (.ref a_hw) h_most h_length h_overfull, aI Y a_hw hw_n c_hw] sz) [oX8 a_h (.ref a_hw) h_most h_length h_overfull, aI Y a_hw hw_n c_hw] t) (va_A [oX8 a_h (.ref a_hw) h_most h_length h_overfull, aI Y a_hw hw_n c_hw] sz)) 0 0 (va_A [oX8 a_h (.ref a_hw) h_most h_length h_overfull, aI Y a_hw hw_n c_hw] sz) := by
  refine Met.ofW (cc := cX8_lowFirst) (maxL := 6) (ret := (some .long)) (by decide) rfl ?_
  intro p e s m args below meth c s₁ B hml hv
  obtain ⟨rfl, rfl, hP, hK, hD0⟩ := hv
  have hl := lv_entry ([.ref a_h, .int p1, .int p2]) (n := 6) (Nat.le_of_ble_eq_true rfl)
  rw [lg_entry_eq]
  exact wX8_lowFirst D Y ⟨B.exec, B.bytes, hml, B.returns, atoms_spec (ws := wsX8_lowFirst) B.pre, findClass_of_methodNamed B.named, B.notSynchronized⟩ (fun q h => Or.inr h) hK F a_h a_hw h_most h_length h_overfull hw_n c_hw p1 p2 res hf ⟨hP, hD0.self⟩ va_S.rf hl

set_option maxHeartbeats 4000000 in
set_option maxRecDepth 100000 in
theorem wX8_addLowFirst_b3 {p : Program} {l : Launch} {e : Env} {s : State} {m : MethodId} {args : Array Value} {below : List Frame} {meth : Method} {c : Code} {A : Nat → Prop} (D : va_G) (Y : Y4) (C : CX p s m meth c args cX8_addLowFirst 5 none wsX8_addLowFirst RX8) (hA : ∀ q : Nat, s.heap.size ≤ q → A q) (hK : va_K D vwCl (TY Y) s) (F : Nat) (a_h : Nat) (a_hw : Nat) (h_most : Int32) (h_length : Int32) (h_overfull : Int32) (hw_n : Nat) (c_hw : (Nat → Int32)) (p1 : Int64) (p3 : Int32) (res : Int32 × Int32 × (Nat → Int32)) : ∀ (n : Nat) (b3_l_4 : Int32) (b3_f_h_2 : Int32) (b3_f_h_3 : Int32) (b3_c_hw : (Nat → Int32)), fX8_addLowFirst_b3 F h_most hw_n p1 p3 n b3_l_4 b3_f_h_2 b3_f_h_3 b3_c_hw = some res → ∀ {H : Heap} {locs : List Loc} {ls : Array Slot}, WD D A [oX8 a_h (.ref a_hw) h_most b3_f_h_2 b3_f_h_3, aI Y a_hw hw_n b3_c_hw] H → va_S A s.heap H locs → lv_has ls 5 [(0, .ref a_h), (1, .long p1), (3, .int p3), (4, .int b3_l_4)] → W p l e { frames := 2, cells := 0, slots := 0, locals := 44 } s m args below meth c H locs 0 0 (MQ below (va_Qv (fun _ : Unit => True) (fun _ t => PST D Y A [oX8 a_h (.ref a_hw) h_most res.1 res.2.1, aI Y a_hw hw_n res.2.2] t) A) args s 0 0 A) (F0 m 3 ls []) := by
  obtain ⟨hx, hb, hml, hr, hts, hown, hlocks⟩ := id C
  intro n
  induction n with
  | zero => intro b3_l_4 b3_f_h_2 b3_f_h_3 b3_c_hw hf; exact absurd hf (by simp [fX8_addLowFirst_b3])
  | succ n ih =>
    intro b3_l_4 b3_f_h_2 b3_f_h_3 b3_c_hw hf H locs ls wd hS hl
    unfold fX8_addLowFirst_b3 at hf
    refine lv_iload hx hb dX8_addLowFirst_3 (lv_at hl 3 rfl) ?_
    refine lv_iload_n hx hb dX8_addLowFirst_5 rfl (lv_at hl 2 rfl) ?_
    refine lv_icmp_ge (tgt := 27) hx hb dX8_addLowFirst_6 (by decide) (fun q1 => ?_) (fun q1 => ?_)
    · have hf := ip hf q1
      obtain rfl := Option.some.inj hf
      exact W.vret hx hb hr (fun t ht hW => ⟨⟨(), rfl, trivial, WD.pst wd hK ht hW⟩, hS.F ht⟩) hS.2.2 dX8_addLowFirst_27
    · have hf := ie hf q1
      refine lv_aload_n hx hb dX8_addLowFirst_9 rfl (lv_at hl 0 rfl) ?_
      refine lv_lload_n hx hb dX8_addLowFirst_10 rfl (lv_at hl 1 rfl) ?_
      refine lv_bipush (v := 8) hx hb dX8_addLowFirst_11 (by decide) ?_
      refine lv_iload hx hb dX8_addLowFirst_13 (lv_at hl 3 rfl) ?_
      refine lv_imul hx hb dX8_addLowFirst_15 ?_
      refine lv_lushr (v := (ushr64 p1 ((8 : Int32) * b3_l_4))) hx hb dX8_addLowFirst_16 rfl ?_
      refine lv_l2i (v := ((ushr64 p1 ((8 : Int32) * b3_l_4)).toInt32)) hx hb dX8_addLowFirst_17 rfl ?_
      obtain ⟨o2, ho2, hf⟩ := ob hf
      refine xj_v (va_runV (As := [.int ((ushr64 p1 ((8 : Int32) * b3_l_4)).toInt32)]) (rest := []) ⟨hx, hb, hml, hown, hts⟩ (kX8_add l D Y F a_h a_hw H.size h_most b3_f_h_2 b3_f_h_3 hw_n b3_c_hw ((ushr64 p1 ((8 : Int32) * b3_l_4)).toInt32) o2 ho2) (cwV 1 hts gX8_addLowFirst_X8_add rfl rfl rfl (by decide +kernel) ⟨Nat.le_of_ble_eq_true rfl, Nat.le_of_ble_eq_true rfl⟩) (prev_w (ci := 6) rfl rfl hK wd [0, 1] rfl (by decide)) rfl rfl hl.1 rfl (lv_room (Nat.le_of_ble_eq_true rfl)) dX8_addLowFirst_18 ⟨Nat.zero_le _, Nat.zero_le _⟩) wd hS hA [0, 1] [] rfl rfl (by decide) (by decide) (fun H locs wd hS => ?_)
      have wd : WD D A [oX8 a_h (.ref a_hw) h_most o2.1 o2.2.1, aI Y a_hw hw_n o2.2.2] H := wd
      obtain ⟨x3, ex3⟩ : ∃ y : Int32, y = b3_l_4 + 1 := ⟨_, rfl⟩
      have hf := nm_at hf ex3
      refine lv_iinc (v := x3) (lv' := [(4, .int x3), (0, .ref a_h), (1, .long p1), (3, .int p3)]) hx hb dX8_addLowFirst_21 hl (k := 3) rfl (by rw [ex3]; rfl) (by decide) rfl (fun ls hl => ?_)
      refine lv_goto (tgt := 3) hx hb dX8_addLowFirst_24 (by decide) ?_
      exact ih x3 o2.1 o2.2.1 o2.2.2 hf wd hS (lv_sub hl [1, 2, 3, 0] rfl)

set_option maxHeartbeats 4000000 in
set_option maxRecDepth 100000 in
theorem wX8_addLowFirst {p : Program} {l : Launch} {e : Env} {s : State} {m : MethodId} {args : Array Value} {below : List Frame} {meth : Method} {c : Code} {A : Nat → Prop} (D : va_G) (Y : Y4) (C : CX p s m meth c args cX8_addLowFirst 5 none wsX8_addLowFirst RX8) (hA : ∀ q : Nat, s.heap.size ≤ q → A q) (hK : va_K D vwCl (TY Y) s) (F : Nat) (a_h : Nat) (a_hw : Nat) (h_most : Int32) (h_length : Int32) (h_overfull : Int32) (hw_n : Nat) (c_hw : (Nat → Int32)) (p1 : Int64) (p3 : Int32) (res : Int32 × Int32 × (Nat → Int32)) (hf : fX8_addLowFirst F h_most h_length h_overfull hw_n c_hw p1 p3 = some res) {H : Heap} {locs : List Loc} {ls : Array Slot} (wd : WD D A [oX8 a_h (.ref a_hw) h_most h_length h_overfull, aI Y a_hw hw_n c_hw] H) (hS : va_S A s.heap H locs) (hl : lv_has ls 5 [(0, .ref a_h), (1, .long p1), (3, .int p3)]) : W p l e { frames := 2, cells := 0, slots := 0, locals := 44 } s m args below meth c H locs 0 0 (MQ below (va_Qv (fun _ : Unit => True) (fun _ t => PST D Y A [oX8 a_h (.ref a_hw) h_most res.1 res.2.1, aI Y a_hw hw_n res.2.2] t) A) args s 0 0 A) (F0 m 0 ls []) := by
  obtain ⟨hx, hb, hml, hr, hts, hown, hlocks⟩ := id C
  unfold fX8_addLowFirst at hf
  refine lv_iconst (v := 0) hx hb dX8_addLowFirst_0 (by decide) ?_
  refine lv_istore (lv' := [(4, .int 0), (0, .ref a_h), (1, .long p1), (3, .int p3)]) hx hb dX8_addLowFirst_1 hl (by decide) rfl (fun ls hl => ?_)
  exact wX8_addLowFirst_b3 D Y C hA hK F a_h a_hw h_most h_length h_overfull hw_n c_hw p1 p3 _ F 0 h_length h_overfull c_hw hf wd hS (lv_sub hl [1, 2, 3, 0] rfl)
set_option maxHeartbeats 4000000 in
set_option maxRecDepth 100000 in
theorem kX8_addLowFirst (l : Launch) (D : va_G) (Y : Y4) (F : Nat) (a_h : Nat) (a_hw : Nat) (sz : Nat) (h_most : Int32) (h_length : Int32) (h_overfull : Int32) (hw_n : Nat) (c_hw : (Nat → Int32)) (p1 : Int64) (p3 : Int32) (res : Int32 × Int32 × (Nat → Int32)) (hf : fX8_addLowFirst F h_most h_length h_overfull hw_n c_hw p1 p3 = some res) : Met l yX8_addLowFirst wsX8_addLowFirst ({ frames := 2, cells := 0, slots := 0, locals := 44 }) (va_Pc [.ref a_h, .long p1, .int p3] (PRE D Y [oX8 a_h (.ref a_hw) h_most h_length h_overfull, aI Y a_hw hw_n c_hw] sz)) (va_Qv (fun _ : Unit => True) (fun _ t => PST D Y (va_A [oX8 a_h (.ref a_hw) h_most h_length h_overfull, aI Y a_hw hw_n c_hw] sz) [oX8 a_h (.ref a_hw) h_most res.1 res.2.1, aI Y a_hw hw_n res.2.2] t) (va_A [oX8 a_h (.ref a_hw) h_most h_length h_overfull, aI Y a_hw hw_n c_hw] sz)) 0 0 (va_A [oX8 a_h (.ref a_hw) h_most h_length h_overfull, aI Y a_hw hw_n c_hw] sz) := by
  refine Met.ofW (cc := cX8_addLowFirst) (maxL := 5) (ret := none) (by decide) rfl ?_
  intro p e s m args below meth c s₁ B hml hv
  obtain ⟨rfl, rfl, hP, hK, hD0⟩ := hv
  have hl := lv_entry ([.ref a_h, .long p1, .int p3]) (n := 5) (Nat.le_of_ble_eq_true rfl)
  rw [lg_entry_eq]
  exact wX8_addLowFirst D Y ⟨B.exec, B.bytes, hml, B.returns, atoms_spec (ws := wsX8_addLowFirst) B.pre, findClass_of_methodNamed B.named, B.notSynchronized⟩ (fun q h => Or.inr h) hK F a_h a_hw h_most h_length h_overfull hw_n c_hw p1 p3 res hf ⟨hP, hD0.self⟩ va_S.rf hl
theorem mX8_becomeLike_0 : Cond.fieldLink RX8 21 "StreamRemuxer$Row" "words" "[I" ∈ wsX8_becomeLike := List.mem_cons_of_mem _ u_52
theorem mX8_becomeLike_1 : Cond.methodLink RX8 44 Lib.Math.min.name ∈ wsX8_becomeLike := List.mem_cons_of_mem _ u_866
theorem mX8_becomeLike_2 : Cond.static Lib.Math.min.name ∈ wsX8_becomeLike := List.mem_cons_of_mem _ u_867
theorem mX8_becomeLike_3 : Cond.initialized "java/lang/Math" ∈ wsX8_becomeLike := List.mem_cons_of_mem _ u_48
theorem mX8_becomeLike_4 : Cond.code Lib.Math.min.name Lib.Math.min.code 2 (some .int) ∈ wsX8_becomeLike := List.mem_cons_of_mem _ u_868
theorem mX8_becomeLike_5 : Cond.methodLink RX8 47 arraycopyName ∈ wsX8_becomeLike := List.mem_cons_of_mem _ u_869
theorem mX8_becomeLike_6 : Cond.native arraycopyName ∈ wsX8_becomeLike := List.mem_cons_of_mem _ u_870
theorem mX8_becomeLike_7 : Cond.static arraycopyName ∈ wsX8_becomeLike := List.mem_cons_of_mem _ u_871
theorem mX8_becomeLike_8 : Cond.initialized "java/lang/System" ∈ wsX8_becomeLike := List.mem_cons_of_mem _ u_872
theorem mX8_becomeLike_9 : Cond.fieldLink RX8 25 "StreamRemuxer$Row" "length" "I" ∈ wsX8_becomeLike := List.mem_cons_of_mem _ u_120
theorem mX8_becomeLike_10 : Cond.fieldLink RX8 15 "StreamRemuxer$Row" "most" "I" ∈ wsX8_becomeLike := List.mem_cons_of_mem _ u_50
theorem mX8_becomeLike_11 : Cond.fieldLink RX8 28 "StreamRemuxer$Row" "overfull" "Z" ∈ wsX8_becomeLike := List.mem_cons_of_mem _ u_121
theorem iX8_becomeLike_X8 : ∀ w ∈ wsX80, w ∈ wsX8_becomeLike := fun w h => List.mem_cons_of_mem _ (inlX8 w h)
set_option maxHeartbeats 4000000 in
set_option maxRecDepth 100000 in
theorem wX8_becomeLike_b58 {p : Program} {l : Launch} {e : Env} {s : State} {m : MethodId} {args : Array Value} {below : List Frame} {meth : Method} {c : Code} {A : Nat → Prop} (D : va_G) (Y : Y4) (C : CX p s m meth c args cX8_becomeLike 2 none wsX8_becomeLike RX8) (hA : ∀ q : Nat, s.heap.size ≤ q → A q) (hK : va_K D vwCl (TY Y) s) (F : Nat) (a_h : Nat) (a_hw : Nat) (a_q : Nat) (a_qw : Nat) (h_most : Int32) (h_length : Int32) (h_overfull : Int32) (hw_n : Nat) (c_hw : (Nat → Int32)) (q_most : Int32) (q_length : Int32) (q_overfull : Int32) (qw_n : Nat) (c_qw : (Nat → Int32)) (res : Int32 × Int32 × (Nat → Int32)) (b58_s_0 : Int32) (b58_f_h_2 : Int32) (b58_c_hw : (Nat → Int32)) (hf : fX8_becomeLike_b58 F b58_s_0 b58_f_h_2 b58_c_hw = some res) {H : Heap} {locs : List Loc} {ls : Array Slot} (wd : WD D A [oX8 a_h (.ref a_hw) h_most b58_f_h_2 h_overfull, aI Y a_hw hw_n b58_c_hw, oX8 a_q (.ref a_qw) q_most q_length q_overfull, aI Y a_qw qw_n c_qw] H) (hS : va_S A s.heap H locs) (hl : lv_has ls 2 []) : W p l e { frames := 1, cells := 0, slots := 0, locals := 60 } s m args below meth c H locs 0 0 (MQ below (va_Qv (fun _ : Unit => True) (fun _ t => PST D Y A [oX8 a_h (.ref a_hw) h_most res.1 res.2.1, aI Y a_hw hw_n res.2.2, oX8 a_q (.ref a_qw) q_most q_length q_overfull, aI Y a_qw qw_n c_qw] t) A) args s 0 0 A) (F0 m 58 ls [.int b58_s_0, .ref a_h]) := by
  obtain ⟨hx, hb, hml, hr, hts, hown, hlocks⟩ := id C
  unfold fX8_becomeLike_b58 at hf
  obtain ⟨hz1, hf⟩ := gd hf
  refine va_put (D := D) (ci := 6) (v := .int b58_s_0) (ty := .boolean) (C := RX8) (T := TX8) (N := 4) hx hb hts iX8_becomeLike_X8 tyX8 tyX8_ok nmX8 hown hK wd.1 wd.2 hS 0 rfl rfl 3 (by decide) (hts _ mX8_becomeLike_11) (fun _ h9 => h9) rfl (by decide +kernel) (isb_nar hz1) (isb_fit hz1) (Nat.le_of_ble_eq_true rfl) dX8_becomeLike_58 (fun H locs hP hD hS => ?_)
  have wd : WD D A [oX8 a_h (.ref a_hw) h_most b58_f_h_2 b58_s_0, aI Y a_hw hw_n b58_c_hw, oX8 a_q (.ref a_qw) q_most q_length q_overfull, aI Y a_qw qw_n c_qw] H := ⟨hP, hD⟩
  clear hP hD
  obtain rfl := Option.some.inj hf
  exact W.vret hx hb hr (fun t ht hW => ⟨⟨(), rfl, trivial, WD.pst wd hK ht hW⟩, hS.F ht⟩) hS.2.2 dX8_becomeLike_61

set_option maxHeartbeats 4000000 in
set_option maxRecDepth 100000 in
theorem wX8_becomeLike {p : Program} {l : Launch} {e : Env} {s : State} {m : MethodId} {args : Array Value} {below : List Frame} {meth : Method} {c : Code} {A : Nat → Prop} (D : va_G) (Y : Y4) (C : CX p s m meth c args cX8_becomeLike 2 none wsX8_becomeLike RX8) (hA : ∀ q : Nat, s.heap.size ≤ q → A q) (hK : va_K D vwCl (TY Y) s) (F : Nat) (a_h : Nat) (a_hw : Nat) (a_q : Nat) (a_qw : Nat) (h_most : Int32) (h_length : Int32) (h_overfull : Int32) (hw_n : Nat) (c_hw : (Nat → Int32)) (q_most : Int32) (q_length : Int32) (q_overfull : Int32) (qw_n : Nat) (c_qw : (Nat → Int32)) (res : Int32 × Int32 × (Nat → Int32)) (hf : fX8_becomeLike F h_most hw_n c_hw q_length qw_n c_qw = some res) {H : Heap} {locs : List Loc} {ls : Array Slot} (wd : WD D A [oX8 a_h (.ref a_hw) h_most h_length h_overfull, aI Y a_hw hw_n c_hw, oX8 a_q (.ref a_qw) q_most q_length q_overfull, aI Y a_qw qw_n c_qw] H) (hS : va_S A s.heap H locs) (hl : lv_has ls 2 [(0, .ref a_h), (1, .ref a_q)]) : W p l e { frames := 1, cells := 0, slots := 0, locals := 60 } s m args below meth c H locs 0 0 (MQ below (va_Qv (fun _ : Unit => True) (fun _ t => PST D Y A [oX8 a_h (.ref a_hw) h_most res.1 res.2.1, aI Y a_hw hw_n res.2.2, oX8 a_q (.ref a_qw) q_most q_length q_overfull, aI Y a_qw qw_n c_qw] t) A) args s 0 0 A) (F0 m 0 ls []) := by
  obtain ⟨hx, hb, hml, hr, hts, hown, hlocks⟩ := id C
  unfold fX8_becomeLike at hf
  refine lv_aload_n hx hb dX8_becomeLike_0 rfl (lv_at hl 1 rfl) ?_
  refine va_get (D := D) (ci := 6) (v := .ref a_qw) (C := RX8) (T := TX8) (N := 4) hx hb hts iX8_becomeLike_X8 hown hK wd.1 2 rfl rfl 0 (by decide) (hts _ mX8_becomeLike_0) (fun _ h9 => h9) rfl dX8_becomeLike_1 ?_
  refine lv_iconst (v := 0) hx hb dX8_becomeLike_4 (by decide) ?_
  refine lv_aload_n hx hb dX8_becomeLike_5 rfl (lv_at hl 0 rfl) ?_
  refine va_get (D := D) (ci := 6) (v := .ref a_hw) (C := RX8) (T := TX8) (N := 4) hx hb hts iX8_becomeLike_X8 hown hK wd.1 0 rfl rfl 0 (by decide) (hts _ mX8_becomeLike_0) (fun _ h9 => h9) rfl dX8_becomeLike_6 ?_
  refine lv_iconst (v := 0) hx hb dX8_becomeLike_9 (by decide) ?_
  refine lv_aload_n hx hb dX8_becomeLike_10 rfl (lv_at hl 1 rfl) ?_
  refine va_get (D := D) (ci := 6) (v := .ref a_qw) (C := RX8) (T := TX8) (N := 4) hx hb hts iX8_becomeLike_X8 hown hK wd.1 2 rfl rfl 0 (by decide) (hts _ mX8_becomeLike_0) (fun _ h9 => h9) rfl dX8_becomeLike_11 ?_
  refine va_alen hx hb hK wd.1 3 1 rfl rfl (v := (nI qw_n)) rfl dX8_becomeLike_14 ?_
  refine lv_aload_n hx hb dX8_becomeLike_15 rfl (lv_at hl 0 rfl) ?_
  refine va_get (D := D) (ci := 6) (v := .ref a_hw) (C := RX8) (T := TX8) (N := 4) hx hb hts iX8_becomeLike_X8 hown hK wd.1 0 rfl rfl 0 (by decide) (hts _ mX8_becomeLike_0) (fun _ h9 => h9) rfl dX8_becomeLike_16 ?_
  refine va_alen hx hb hK wd.1 1 1 rfl rfl (v := (nI hw_n)) rfl dX8_becomeLike_19 ?_
  refine va_mmin hx hb (by rw [hml]; exact hl.1.symm) hown (hts _ mX8_becomeLike_1) (hts _ mX8_becomeLike_2) (hts _ mX8_becomeLike_3) (hts _ mX8_becomeLike_4) (Nat.le_of_ble_eq_true rfl) (Nat.le_of_ble_eq_true rfl) (Nat.zero_le _) (Nat.zero_le _) dX8_becomeLike_20 ?_
  obtain ⟨hg1, hf⟩ := gd hf
  refine xcopyi hx hb (by rw [hml]; exact hl.1.symm) hown (hts _ mX8_becomeLike_5) (hts _ mX8_becomeLike_6) (hts _ mX8_becomeLike_7) (hts _ mX8_becomeLike_8) hK wd.1 wd.2 hS 3 1 1 1 rfl rfl rfl rfl hg1 (by decide) (by decide) dX8_becomeLike_23 (fun H locs hP hD hS => ?_)
  obtain ⟨z2, ez2⟩ : ∃ y : Nat → Int32, y = va_cpy c_qw c_hw 0 0 (if (nI hw_n) < (nI qw_n) then (nI hw_n) else (nI qw_n)).toNatClampNeg := ⟨_, rfl⟩
  have hf := nm_at hf ez2
  have wd : WD D A [oX8 a_h (.ref a_hw) h_most h_length h_overfull, aI Y a_hw hw_n z2, oX8 a_q (.ref a_qw) q_most q_length q_overfull, aI Y a_qw qw_n c_qw] H := by rw [ez2]; exact ⟨hP, hD⟩
  clear hP hD
  refine lv_aload_n hx hb dX8_becomeLike_26 rfl (lv_at hl 0 rfl) ?_
  refine lv_aload_n hx hb dX8_becomeLike_27 rfl (lv_at hl 1 rfl) ?_
  refine va_get (D := D) (ci := 6) (v := .int q_length) (C := RX8) (T := TX8) (N := 4) hx hb hts iX8_becomeLike_X8 hown hK wd.1 2 rfl rfl 2 (by decide) (hts _ mX8_becomeLike_9) (fun _ h9 => h9) rfl dX8_becomeLike_28 ?_
  refine lv_aload_n hx hb dX8_becomeLike_31 rfl (lv_at hl 0 rfl) ?_
  refine va_get (D := D) (ci := 6) (v := .int h_most) (C := RX8) (T := TX8) (N := 4) hx hb hts iX8_becomeLike_X8 hown hK wd.1 0 rfl rfl 1 (by decide) (hts _ mX8_becomeLike_10) (fun _ h9 => h9) rfl dX8_becomeLike_32 ?_
  refine va_mmin hx hb (by rw [hml]; exact hl.1.symm) hown (hts _ mX8_becomeLike_1) (hts _ mX8_becomeLike_2) (hts _ mX8_becomeLike_3) (hts _ mX8_becomeLike_4) (Nat.le_of_ble_eq_true rfl) (Nat.le_of_ble_eq_true rfl) (Nat.zero_le _) (Nat.zero_le _) dX8_becomeLike_35 ?_
  refine lv_topi (fun x3 ex3 => ?_)
  have hf := nm_at hf ex3
  refine va_put (D := D) (ci := 6) (v := .int x3) (ty := .int) (C := RX8) (T := TX8) (N := 4) hx hb hts iX8_becomeLike_X8 tyX8 tyX8_ok nmX8 hown hK wd.1 wd.2 hS 0 rfl rfl 2 (by decide) (hts _ mX8_becomeLike_9) (fun _ h9 => h9) rfl (by decide +kernel) rfl rfl (Nat.le_of_ble_eq_true rfl) dX8_becomeLike_38 (fun H locs hP hD hS => ?_)
  have wd : WD D A [oX8 a_h (.ref a_hw) h_most x3 h_overfull, aI Y a_hw hw_n z2, oX8 a_q (.ref a_qw) q_most q_length q_overfull, aI Y a_qw qw_n c_qw] H := ⟨hP, hD⟩
  clear hP hD
  refine lv_aload_n hx hb dX8_becomeLike_41 rfl (lv_at hl 0 rfl) ?_
  refine lv_aload_n hx hb dX8_becomeLike_42 rfl (lv_at hl 1 rfl) ?_
  refine va_get (D := D) (ci := 6) (v := .int q_length) (C := RX8) (T := TX8) (N := 4) hx hb hts iX8_becomeLike_X8 hown hK wd.1 2 rfl rfl 2 (by decide) (hts _ mX8_becomeLike_9) (fun _ h9 => h9) rfl dX8_becomeLike_43 ?_
  refine lv_aload_n hx hb dX8_becomeLike_46 rfl (lv_at hl 0 rfl) ?_
  refine va_get (D := D) (ci := 6) (v := .int h_most) (C := RX8) (T := TX8) (N := 4) hx hb hts iX8_becomeLike_X8 hown hK wd.1 0 rfl rfl 1 (by decide) (hts _ mX8_becomeLike_10) (fun _ h9 => h9) rfl dX8_becomeLike_47 ?_
  refine lv_icmp_le (tgt := 57) hx hb dX8_becomeLike_50 (by decide) (fun q4 => ?_) (fun q4 => ?_)
  · have hf := ip hf q4
    refine lv_iconst (v := 0) hx hb dX8_becomeLike_57 (by decide) ?_
    exact wX8_becomeLike_b58 D Y C hA hK F a_h a_hw a_q a_qw h_most h_length h_overfull hw_n c_hw q_most q_length q_overfull qw_n c_qw _ 0 x3 z2 hf wd hS (lv_sub hl [] rfl)
  · have hf := ie hf q4
    refine lv_iconst (v := 1) hx hb dX8_becomeLike_53 (by decide) ?_
    refine lv_goto (tgt := 58) hx hb dX8_becomeLike_54 (by decide) ?_
    exact wX8_becomeLike_b58 D Y C hA hK F a_h a_hw a_q a_qw h_most h_length h_overfull hw_n c_hw q_most q_length q_overfull qw_n c_qw _ 1 x3 z2 hf wd hS (lv_sub hl [] rfl)
set_option maxHeartbeats 4000000 in
set_option maxRecDepth 100000 in
theorem kX8_becomeLike (l : Launch) (D : va_G) (Y : Y4) (F : Nat) (a_h : Nat) (a_hw : Nat) (a_q : Nat) (a_qw : Nat) (sz : Nat) (h_most : Int32) (h_length : Int32) (h_overfull : Int32) (hw_n : Nat) (c_hw : (Nat → Int32)) (q_most : Int32) (q_length : Int32) (q_overfull : Int32) (qw_n : Nat) (c_qw : (Nat → Int32)) (res : Int32 × Int32 × (Nat → Int32)) (hf : fX8_becomeLike F h_most hw_n c_hw q_length qw_n c_qw = some res) : Met l yX8_becomeLike wsX8_becomeLike ({ frames := 1, cells := 0, slots := 0, locals := 60 }) (va_Pc [.ref a_h, .ref a_q] (PRE D Y [oX8 a_h (.ref a_hw) h_most h_length h_overfull, aI Y a_hw hw_n c_hw, oX8 a_q (.ref a_qw) q_most q_length q_overfull, aI Y a_qw qw_n c_qw] sz)) (va_Qv (fun _ : Unit => True) (fun _ t => PST D Y (va_A [oX8 a_h (.ref a_hw) h_most h_length h_overfull, aI Y a_hw hw_n c_hw, oX8 a_q (.ref a_qw) q_most q_length q_overfull, aI Y a_qw qw_n c_qw] sz) [oX8 a_h (.ref a_hw) h_most res.1 res.2.1, aI Y a_hw hw_n res.2.2, oX8 a_q (.ref a_qw) q_most q_length q_overfull, aI Y a_qw qw_n c_qw] t) (va_A [oX8 a_h (.ref a_hw) h_most h_length h_overfull, aI Y a_hw hw_n c_hw, oX8 a_q (.ref a_qw) q_most q_length q_overfull, aI Y a_qw qw_n c_qw] sz)) 0 0 (va_A [oX8 a_h (.ref a_hw) h_most h_length h_overfull, aI Y a_hw hw_n c_hw, oX8 a_q (.ref a_qw) q_most q_length q_overfull, aI Y a_qw qw_n c_qw] sz) := by
  refine Met.ofW (cc := cX8_becomeLike) (maxL := 2) (ret := none) (by decide) rfl ?_
  intro p e s m args below meth c s₁ B hml hv
  obtain ⟨rfl, rfl, hP, hK, hD0⟩ := hv
  have hl := lv_entry ([.ref a_h, .ref a_q]) (n := 2) (Nat.le_of_ble_eq_true rfl)
  rw [lg_entry_eq]
  exact wX8_becomeLike D Y ⟨B.exec, B.bytes, hml, B.returns, atoms_spec (ws := wsX8_becomeLike) B.pre, findClass_of_methodNamed B.named, B.notSynchronized⟩ (fun q h => Or.inr h) hK F a_h a_hw a_q a_qw h_most h_length h_overfull hw_n c_hw q_most q_length q_overfull qw_n c_qw res hf ⟨hP, hD0.self⟩ va_S.rf hl
