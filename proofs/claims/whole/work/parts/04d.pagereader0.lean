theorem mX6_numberAt_0 : Cond.fieldLink RX6 9 "StreamRemuxer$PageReader" "file" "LStreamRemuxer$Row;" ∈ wsX6_numberAt := List.mem_cons_of_mem _ u_448
theorem iX6_numberAt_X6 : ∀ w ∈ wsX60, w ∈ wsX6_numberAt := fun w h => List.mem_cons_of_mem _ (inlX6 w h)
set_option maxHeartbeats 4000000 in
set_option maxRecDepth 100000 in
theorem wX6_numberAt {p : Program} {l : Launch} {e : Env} {s : State} {m : MethodId} {args : Array Value} {below : List Frame} {meth : Method} {c : Code} {A : Nat → Prop} (D : va_G) (Y : Y4) (C : CX p s m meth c args cX6_numberAt 2 (some .int) wsX6_numberAt RX6) (hA : ∀ q : Nat, s.heap.size ≤ q → A q) (hK : va_K D vwCl (TY Y) s) (F : Nat) (a_h : Nat) (a_f : Nat) (a_fw : Nat) (a_p : Nat) (h_fault : Int32) (h_place : Int32) (h_pageCount : Int32) (h_limit : Int32) (h_packetIsOpen : Int32) (h_lastWasRead : Int32) (h_serial : Int32) (h_latestTime : Int64) (f_most : Int32) (f_length : Int32) (f_overfull : Int32) (fw_n : Nat) (c_fw : (Nat → Int32)) (p1 : Int32) (res : Int32) (hf : fX6_numberAt F f_length fw_n c_fw p1 = some res) {H : Heap} {locs : List Loc} {ls : Array Slot} (wd : WD D A [oX6 a_h h_fault h_place h_pageCount (.ref a_f) h_limit (.ref a_p) h_packetIsOpen h_lastWasRead h_serial h_latestTime, oX8 a_f (.ref a_fw) f_most f_length f_overfull, aI Y a_fw fw_n c_fw] H) (hS : va_S A s.heap H locs) (hl : lv_has ls 2 [(0, .ref a_h), (1, .int p1)]) : W p l e { frames := 2, cells := 0, slots := 0, locals := 46 } s m args below meth c H locs 0 0 (MQ below (va_Qi (fun r (_ : Unit) => r = res) (fun _ t => PST D Y A [oX6 a_h h_fault h_place h_pageCount (.ref a_f) h_limit (.ref a_p) h_packetIsOpen h_lastWasRead h_serial h_latestTime, oX8 a_f (.ref a_fw) f_most f_length f_overfull, aI Y a_fw fw_n c_fw] t) A) args s 0 0 A) (F0 m 0 ls []) := by
  obtain ⟨hx, hb, hml, hr, hts, hown, hlocks⟩ := id C
  unfold fX6_numberAt at hf
  refine lv_aload_n hx hb dX6_numberAt_0 rfl (lv_at hl 0 rfl) ?_
  refine va_get (D := D) (ci := 4) (v := .ref a_f) (C := RX6) (T := TX6) (N := 10) hx hb hts iX6_numberAt_X6 hown hK wd.1 0 rfl rfl 3 (by decide) (hts _ mX6_numberAt_0) (fun _ h9 => h9) rfl dX6_numberAt_1 ?_
  refine lv_iload_n hx hb dX6_numberAt_4 rfl (lv_at hl 1 rfl) ?_
  refine lv_iconst (v := 4) hx hb dX6_numberAt_5 (by decide) ?_
  obtain ⟨o1, ho1, hf⟩ := ob hf
  refine xj_l (va_runV (As := [.int p1, .int 4]) (rest := []) ⟨hx, hb, hml, hown, hts⟩ (kX8_lowFirst l D Y F a_f a_fw H.size f_most f_length f_overfull fw_n c_fw p1 4 o1 ho1) (cwV 2 hts gX6_numberAt_X8_lowFirst rfl rfl rfl (by decide +kernel) ⟨Nat.le_of_ble_eq_true rfl, Nat.le_of_ble_eq_true rfl⟩) (prev_w (ci := 6) rfl rfl hK wd [1, 2] rfl (by decide)) rfl rfl hl.1 rfl (lv_room (Nat.le_of_ble_eq_true rfl)) dX6_numberAt_6 ⟨Nat.zero_le _, Nat.zero_le _⟩) wd hS hA [1, 2] [0] rfl rfl (by decide) (by decide) (fun H locs wd hS => ?_)
  have wd : WD D A [oX6 a_h h_fault h_place h_pageCount (.ref a_f) h_limit (.ref a_p) h_packetIsOpen h_lastWasRead h_serial h_latestTime, oX8 a_f (.ref a_fw) f_most f_length f_overfull, aI Y a_fw fw_n c_fw] H := wd
  refine lv_l2i (v := (o1.toInt32)) hx hb dX6_numberAt_9 rfl ?_
  obtain rfl := Option.some.inj hf
  exact W.iret (v := (o1.toInt32)) hx hb hr (fun t ht hW => ⟨⟨_, (), rfl, rfl, WD.pst wd hK ht hW⟩, hS.F ht⟩) hS.2.2 dX6_numberAt_10
set_option maxHeartbeats 4000000 in
set_option maxRecDepth 100000 in
theorem kX6_numberAt (l : Launch) (D : va_G) (Y : Y4) (F : Nat) (a_h : Nat) (a_f : Nat) (a_fw : Nat) (a_p : Nat) (sz : Nat) (h_fault : Int32) (h_place : Int32) (h_pageCount : Int32) (h_limit : Int32) (h_packetIsOpen : Int32) (h_lastWasRead : Int32) (h_serial : Int32) (h_latestTime : Int64) (f_most : Int32) (f_length : Int32) (f_overfull : Int32) (fw_n : Nat) (c_fw : (Nat → Int32)) (p1 : Int32) (res : Int32) (hf : fX6_numberAt F f_length fw_n c_fw p1 = some res) : Met l yX6_numberAt wsX6_numberAt ({ frames := 2, cells := 0, slots := 0, locals := 46 }) (va_Pc [.ref a_h, .int p1] (PRE D Y [oX6 a_h h_fault h_place h_pageCount (.ref a_f) h_limit (.ref a_p) h_packetIsOpen h_lastWasRead h_serial h_latestTime, oX8 a_f (.ref a_fw) f_most f_length f_overfull, aI Y a_fw fw_n c_fw] sz)) (va_Qi (fun r (_ : Unit) => r = res) (fun _ t => PST D Y (va_A [oX6 a_h h_fault h_place h_pageCount (.ref a_f) h_limit (.ref a_p) h_packetIsOpen h_lastWasRead h_serial h_latestTime, oX8 a_f (.ref a_fw) f_most f_length f_overfull, aI Y a_fw fw_n c_fw] sz) [oX6 a_h h_fault h_place h_pageCount (.ref a_f) h_limit (.ref a_p) h_packetIsOpen h_lastWasRead h_serial h_latestTime, oX8 a_f (.ref a_fw) f_most f_length f_overfull, aI Y a_fw fw_n c_fw] t) (va_A [oX6 a_h h_fault h_place h_pageCount (.ref a_f) h_limit (.ref a_p) h_packetIsOpen h_lastWasRead h_serial h_latestTime, oX8 a_f (.ref a_fw) f_most f_length f_overfull, aI Y a_fw fw_n c_fw] sz)) 0 0 (va_A [oX6 a_h h_fault h_place h_pageCount (.ref a_f) h_limit (.ref a_p) h_packetIsOpen h_lastWasRead h_serial h_latestTime, oX8 a_f (.ref a_fw) f_most f_length f_overfull, aI Y a_fw fw_n c_fw] sz) := by
  refine Met.ofW (cc := cX6_numberAt) (maxL := 2) (ret := (some .int)) (by decide) rfl ?_
  intro p e s m args below meth c s₁ B hml hv
  obtain ⟨rfl, rfl, hP, hK, hD0⟩ := hv
  have hl := lv_entry ([.ref a_h, .int p1]) (n := 2) (Nat.le_of_ble_eq_true rfl)
  rw [lg_entry_eq]
  exact wX6_numberAt D Y ⟨B.exec, B.bytes, hml, B.returns, atoms_spec (ws := wsX6_numberAt) B.pre, findClass_of_methodNamed B.named, B.notSynchronized⟩ (fun q h => Or.inr h) hK F a_h a_f a_fw a_p h_fault h_place h_pageCount h_limit h_packetIsOpen h_lastWasRead h_serial h_latestTime f_most f_length f_overfull fw_n c_fw p1 res hf ⟨hP, hD0.self⟩ va_S.rf hl
theorem mX6_isOutOfOrder_0 : Cond.fieldLink RX6 30 "StreamRemuxer$PageReader" "lastWasRead" "Z" ∈ wsX6_isOutOfOrder := List.mem_cons_of_mem _ u_453
theorem mX6_isOutOfOrder_1 : Cond.fieldLink RX6 23 "StreamRemuxer$PageReader" "pageCount" "I" ∈ wsX6_isOutOfOrder := List.mem_cons_of_mem _ u_451
theorem mX6_isOutOfOrder_2 : Cond.fieldLink RX6 95 "StreamRemuxer$PageReader" "serial" "I" ∈ wsX6_isOutOfOrder := List.mem_cons_of_mem _ u_486
theorem iX6_isOutOfOrder_X6 : ∀ w ∈ wsX60, w ∈ wsX6_isOutOfOrder := fun w h => List.mem_cons_of_mem _ (inlX6 w h)
set_option maxHeartbeats 4000000 in
set_option maxRecDepth 100000 in
theorem wX6_isOutOfOrder_b81 {p : Program} {l : Launch} {e : Env} {s : State} {m : MethodId} {args : Array Value} {below : List Frame} {meth : Method} {c : Code} {A : Nat → Prop} (D : va_G) (Y : Y4) (C : CX p s m meth c args cX6_isOutOfOrder 4 (some .boolean) wsX6_isOutOfOrder RX6) (hA : ∀ q : Nat, s.heap.size ≤ q → A q) (hK : va_K D vwCl (TY Y) s) (F : Nat) (a_h : Nat) (a_f : Nat) (a_fw : Nat) (a_p : Nat) (h_fault : Int32) (h_place : Int32) (h_pageCount : Int32) (h_limit : Int32) (h_packetIsOpen : Int32) (h_lastWasRead : Int32) (h_serial : Int32) (h_latestTime : Int64) (f_most : Int32) (f_length : Int32) (f_overfull : Int32) (fw_n : Nat) (c_fw : (Nat → Int32)) (p1 : Int32) (p2 : Int32) (res : Int32) (b81_s_0 : Int32) (hf : fX6_isOutOfOrder_b81 F b81_s_0 = some res) {H : Heap} {locs : List Loc} {ls : Array Slot} (wd : WD D A [oX6 a_h h_fault h_place h_pageCount (.ref a_f) h_limit (.ref a_p) h_packetIsOpen h_lastWasRead h_serial h_latestTime, oX8 a_f (.ref a_fw) f_most f_length f_overfull, aI Y a_fw fw_n c_fw] H) (hS : va_S A s.heap H locs) (hl : lv_has ls 4 []) : W p l e { frames := 3, cells := 0, slots := 0, locals := 67 } s m args below meth c H locs 0 0 (MQ below (va_Qi (fun r (_ : Unit) => r = res) (fun _ t => PST D Y A [oX6 a_h h_fault h_place h_pageCount (.ref a_f) h_limit (.ref a_p) h_packetIsOpen h_lastWasRead h_serial h_latestTime, oX8 a_f (.ref a_fw) f_most f_length f_overfull, aI Y a_fw fw_n c_fw] t) A) args s 0 0 A) (F0 m 81 ls [.int b81_s_0]) := by
  obtain ⟨hx, hb, hml, hr, hts, hown, hlocks⟩ := id C
  unfold fX6_isOutOfOrder_b81 at hf
  obtain ⟨hz1, hf⟩ := gd hf
  obtain rfl := Option.some.inj hf
  exact W.zret (v := b81_s_0) hx hb hr (isb_nar hz1) (fun t ht hW => ⟨⟨_, (), rfl, rfl, WD.pst wd hK ht hW⟩, hS.F ht⟩) hS.2.2 dX6_isOutOfOrder_81

set_option maxHeartbeats 4000000 in
set_option maxRecDepth 100000 in
theorem wX6_isOutOfOrder_b32 {p : Program} {l : Launch} {e : Env} {s : State} {m : MethodId} {args : Array Value} {below : List Frame} {meth : Method} {c : Code} {A : Nat → Prop} (D : va_G) (Y : Y4) (C : CX p s m meth c args cX6_isOutOfOrder 4 (some .boolean) wsX6_isOutOfOrder RX6) (hA : ∀ q : Nat, s.heap.size ≤ q → A q) (hK : va_K D vwCl (TY Y) s) (F : Nat) (a_h : Nat) (a_f : Nat) (a_fw : Nat) (a_p : Nat) (h_fault : Int32) (h_place : Int32) (h_pageCount : Int32) (h_limit : Int32) (h_packetIsOpen : Int32) (h_lastWasRead : Int32) (h_serial : Int32) (h_latestTime : Int64) (f_most : Int32) (f_length : Int32) (f_overfull : Int32) (fw_n : Nat) (c_fw : (Nat → Int32)) (p1 : Int32) (p2 : Int32) (res : Int32) (b32_s_0 : Int32) (b32_s_1 : Int32) (hf : fX6_isOutOfOrder_b32 F h_pageCount h_serial f_length fw_n c_fw p1 b32_s_0 b32_s_1 = some res) {H : Heap} {locs : List Loc} {ls : Array Slot} (wd : WD D A [oX6 a_h h_fault h_place h_pageCount (.ref a_f) h_limit (.ref a_p) h_packetIsOpen h_lastWasRead h_serial h_latestTime, oX8 a_f (.ref a_fw) f_most f_length f_overfull, aI Y a_fw fw_n c_fw] H) (hS : va_S A s.heap H locs) (hl : lv_has ls 4 [(0, .ref a_h), (1, .int p1)]) : W p l e { frames := 3, cells := 0, slots := 0, locals := 67 } s m args below meth c H locs 0 0 (MQ below (va_Qi (fun r (_ : Unit) => r = res) (fun _ t => PST D Y A [oX6 a_h h_fault h_place h_pageCount (.ref a_f) h_limit (.ref a_p) h_packetIsOpen h_lastWasRead h_serial h_latestTime, oX8 a_f (.ref a_fw) f_most f_length f_overfull, aI Y a_fw fw_n c_fw] t) A) args s 0 0 A) (F0 m 32 ls [.int b32_s_0, .int b32_s_1]) := by
  obtain ⟨hx, hb, hml, hr, hts, hown, hlocks⟩ := id C
  unfold fX6_isOutOfOrder_b32 at hf
  refine lv_icmp_eq (tgt := 37) hx hb dX6_isOutOfOrder_32 (by decide) (fun q1 => ?_) (fun q1 => ?_)
  · have hf := ip hf q1
    refine lv_aload_n hx hb dX6_isOutOfOrder_37 rfl (lv_at hl 0 rfl) ?_
    refine lv_iload_n hx hb dX6_isOutOfOrder_38 rfl (lv_at hl 1 rfl) ?_
    refine lv_bipush (v := 18) hx hb dX6_isOutOfOrder_39 (by decide) ?_
    refine lv_iadd hx hb dX6_isOutOfOrder_41 ?_
    obtain ⟨o2, ho2, hf⟩ := ob hf
    refine xj_i (va_runV (As := [.int (p1 + 18)]) (rest := []) ⟨hx, hb, hml, hown, hts⟩ (kX6_numberAt l D Y F a_h a_f a_fw a_p H.size h_fault h_place h_pageCount h_limit h_packetIsOpen h_lastWasRead h_serial h_latestTime f_most f_length f_overfull fw_n c_fw (p1 + 18) o2 ho2) (cwV 1 hts gX6_isOutOfOrder_X6_numberAt rfl rfl rfl (by decide +kernel) ⟨Nat.le_of_ble_eq_true rfl, Nat.le_of_ble_eq_true rfl⟩) (prev_w (ci := 4) rfl rfl hK wd [0, 1, 2] rfl (by decide)) rfl rfl hl.1 rfl (lv_room (Nat.le_of_ble_eq_true rfl)) dX6_isOutOfOrder_42 ⟨Nat.zero_le _, Nat.zero_le _⟩) wd hS hA [0, 1, 2] [] rfl rfl (by decide) (by decide) (fun H locs wd hS => ?_)
    have wd : WD D A [oX6 a_h h_fault h_place h_pageCount (.ref a_f) h_limit (.ref a_p) h_packetIsOpen h_lastWasRead h_serial h_latestTime, oX8 a_f (.ref a_fw) f_most f_length f_overfull, aI Y a_fw fw_n c_fw] H := wd
    refine lv_aload_n hx hb dX6_isOutOfOrder_45 rfl (lv_at hl 0 rfl) ?_
    refine va_get (D := D) (ci := 4) (v := .int h_pageCount) (C := RX6) (T := TX6) (N := 10) hx hb hts iX6_isOutOfOrder_X6 hown hK wd.1 0 rfl rfl 2 (by decide) (hts _ mX6_isOutOfOrder_1) (fun _ h9 => h9) rfl dX6_isOutOfOrder_46 ?_
    refine lv_icmp_eq (tgt := 54) hx hb dX6_isOutOfOrder_49 (by decide) (fun q3 => ?_) (fun q3 => ?_)
    · have hf := ip hf q3
      refine lv_aload_n hx hb dX6_isOutOfOrder_54 rfl (lv_at hl 0 rfl) ?_
      refine va_get (D := D) (ci := 4) (v := .int h_pageCount) (C := RX6) (T := TX6) (N := 10) hx hb hts iX6_isOutOfOrder_X6 hown hK wd.1 0 rfl rfl 2 (by decide) (hts _ mX6_isOutOfOrder_1) (fun _ h9 => h9) rfl dX6_isOutOfOrder_55 ?_
      refine lv_if_le (tgt := 80) hx hb dX6_isOutOfOrder_58 (by decide) (fun q4 => ?_) (fun q4 => ?_)
      · have hf := ip hf q4
        refine lv_iconst (v := 0) hx hb dX6_isOutOfOrder_80 (by decide) ?_
        exact wX6_isOutOfOrder_b81 D Y C hA hK F a_h a_f a_fw a_p h_fault h_place h_pageCount h_limit h_packetIsOpen h_lastWasRead h_serial h_latestTime f_most f_length f_overfull fw_n c_fw p1 p2 _ 0 hf wd hS (lv_sub hl [] rfl)
      · have hf := ie hf q4
        refine lv_aload_n hx hb dX6_isOutOfOrder_61 rfl (lv_at hl 0 rfl) ?_
        refine lv_iload_n hx hb dX6_isOutOfOrder_62 rfl (lv_at hl 1 rfl) ?_
        refine lv_bipush (v := 14) hx hb dX6_isOutOfOrder_63 (by decide) ?_
        refine lv_iadd hx hb dX6_isOutOfOrder_65 ?_
        obtain ⟨o5, ho5, hf⟩ := ob hf
        refine xj_i (va_runV (As := [.int (p1 + 14)]) (rest := []) ⟨hx, hb, hml, hown, hts⟩ (kX6_numberAt l D Y F a_h a_f a_fw a_p H.size h_fault h_place h_pageCount h_limit h_packetIsOpen h_lastWasRead h_serial h_latestTime f_most f_length f_overfull fw_n c_fw (p1 + 14) o5 ho5) (cwV 1 hts gX6_isOutOfOrder_X6_numberAt rfl rfl rfl (by decide +kernel) ⟨Nat.le_of_ble_eq_true rfl, Nat.le_of_ble_eq_true rfl⟩) (prev_w (ci := 4) rfl rfl hK wd [0, 1, 2] rfl (by decide)) rfl rfl hl.1 rfl (lv_room (Nat.le_of_ble_eq_true rfl)) dX6_isOutOfOrder_66 ⟨Nat.zero_le _, Nat.zero_le _⟩) wd hS hA [0, 1, 2] [] rfl rfl (by decide) (by decide) (fun H locs wd hS => ?_)
        have wd : WD D A [oX6 a_h h_fault h_place h_pageCount (.ref a_f) h_limit (.ref a_p) h_packetIsOpen h_lastWasRead h_serial h_latestTime, oX8 a_f (.ref a_fw) f_most f_length f_overfull, aI Y a_fw fw_n c_fw] H := wd
        refine lv_aload_n hx hb dX6_isOutOfOrder_69 rfl (lv_at hl 0 rfl) ?_
        refine va_get (D := D) (ci := 4) (v := .int h_serial) (C := RX6) (T := TX6) (N := 10) hx hb hts iX6_isOutOfOrder_X6 hown hK wd.1 0 rfl rfl 8 (by decide) (hts _ mX6_isOutOfOrder_2) (fun _ h9 => h9) rfl dX6_isOutOfOrder_70 ?_
        refine lv_icmp_eq (tgt := 80) hx hb dX6_isOutOfOrder_73 (by decide) (fun q6 => ?_) (fun q6 => ?_)
        · have hf := ip hf q6
          refine lv_iconst (v := 0) hx hb dX6_isOutOfOrder_80 (by decide) ?_
          exact wX6_isOutOfOrder_b81 D Y C hA hK F a_h a_f a_fw a_p h_fault h_place h_pageCount h_limit h_packetIsOpen h_lastWasRead h_serial h_latestTime f_most f_length f_overfull fw_n c_fw p1 p2 _ 0 hf wd hS (lv_sub hl [] rfl)
        · have hf := ie hf q6
          refine lv_iconst (v := 1) hx hb dX6_isOutOfOrder_76 (by decide) ?_
          refine lv_goto (tgt := 81) hx hb dX6_isOutOfOrder_77 (by decide) ?_
          exact wX6_isOutOfOrder_b81 D Y C hA hK F a_h a_f a_fw a_p h_fault h_place h_pageCount h_limit h_packetIsOpen h_lastWasRead h_serial h_latestTime f_most f_length f_overfull fw_n c_fw p1 p2 _ 1 hf wd hS (lv_sub hl [] rfl)
    · have hf := ie hf q3
      refine lv_iconst (v := 1) hx hb dX6_isOutOfOrder_52 (by decide) ?_
      obtain rfl := Option.some.inj hf
      exact W.zret (v := 1) hx hb hr rfl (fun t ht hW => ⟨⟨_, (), rfl, rfl, WD.pst wd hK ht hW⟩, hS.F ht⟩) hS.2.2 dX6_isOutOfOrder_53
  · have hf := ie hf q1
    refine lv_iconst (v := 1) hx hb dX6_isOutOfOrder_35 (by decide) ?_
    obtain rfl := Option.some.inj hf
    exact W.zret (v := 1) hx hb hr rfl (fun t ht hW => ⟨⟨_, (), rfl, rfl, WD.pst wd hK ht hW⟩, hS.F ht⟩) hS.2.2 dX6_isOutOfOrder_36

set_option maxHeartbeats 4000000 in
set_option maxRecDepth 100000 in
theorem wX6_isOutOfOrder_b11 {p : Program} {l : Launch} {e : Env} {s : State} {m : MethodId} {args : Array Value} {below : List Frame} {meth : Method} {c : Code} {A : Nat → Prop} (D : va_G) (Y : Y4) (C : CX p s m meth c args cX6_isOutOfOrder 4 (some .boolean) wsX6_isOutOfOrder RX6) (hA : ∀ q : Nat, s.heap.size ≤ q → A q) (hK : va_K D vwCl (TY Y) s) (F : Nat) (a_h : Nat) (a_f : Nat) (a_fw : Nat) (a_p : Nat) (h_fault : Int32) (h_place : Int32) (h_pageCount : Int32) (h_limit : Int32) (h_packetIsOpen : Int32) (h_lastWasRead : Int32) (h_serial : Int32) (h_latestTime : Int64) (f_most : Int32) (f_length : Int32) (f_overfull : Int32) (fw_n : Nat) (c_fw : (Nat → Int32)) (p1 : Int32) (p2 : Int32) (res : Int32) (b11_s_0 : Int32) (hf : fX6_isOutOfOrder_b11 F h_pageCount h_lastWasRead h_serial f_length fw_n c_fw p1 b11_s_0 = some res) {H : Heap} {locs : List Loc} {ls : Array Slot} (wd : WD D A [oX6 a_h h_fault h_place h_pageCount (.ref a_f) h_limit (.ref a_p) h_packetIsOpen h_lastWasRead h_serial h_latestTime, oX8 a_f (.ref a_fw) f_most f_length f_overfull, aI Y a_fw fw_n c_fw] H) (hS : va_S A s.heap H locs) (hl : lv_has ls 4 [(0, .ref a_h), (1, .int p1)]) : W p l e { frames := 3, cells := 0, slots := 0, locals := 67 } s m args below meth c H locs 0 0 (MQ below (va_Qi (fun r (_ : Unit) => r = res) (fun _ t => PST D Y A [oX6 a_h h_fault h_place h_pageCount (.ref a_f) h_limit (.ref a_p) h_packetIsOpen h_lastWasRead h_serial h_latestTime, oX8 a_f (.ref a_fw) f_most f_length f_overfull, aI Y a_fw fw_n c_fw] t) A) args s 0 0 A) (F0 m 11 ls [.int b11_s_0]) := by
  obtain ⟨hx, hb, hml, hr, hts, hown, hlocks⟩ := id C
  unfold fX6_isOutOfOrder_b11 at hf
  refine lv_istore_n (lv' := [(3, .int b11_s_0), (0, .ref a_h), (1, .int p1)]) hx hb dX6_isOutOfOrder_11 rfl hl (by decide) rfl (fun ls hl => ?_)
  refine lv_aload_n hx hb dX6_isOutOfOrder_12 rfl (lv_at hl 1 rfl) ?_
  refine va_get (D := D) (ci := 4) (v := .int h_lastWasRead) (C := RX6) (T := TX6) (N := 10) hx hb hts iX6_isOutOfOrder_X6 hown hK wd.1 0 rfl rfl 7 (by decide) (hts _ mX6_isOutOfOrder_0) (fun _ h9 => h9) rfl dX6_isOutOfOrder_13 ?_
  refine lv_if_ne (tgt := 35) hx hb dX6_isOutOfOrder_16 (by decide) (fun q1 => ?_) (fun q1 => ?_)
  · have hf := ie hf q1
    refine lv_iconst (v := 1) hx hb dX6_isOutOfOrder_35 (by decide) ?_
    obtain rfl := Option.some.inj hf
    exact W.zret (v := 1) hx hb hr rfl (fun t ht hW => ⟨⟨_, (), rfl, rfl, WD.pst wd hK ht hW⟩, hS.F ht⟩) hS.2.2 dX6_isOutOfOrder_36
  · have hf := ip hf q1
    refine lv_iload_n hx hb dX6_isOutOfOrder_19 rfl (lv_at hl 0 rfl) ?_
    refine lv_aload_n hx hb dX6_isOutOfOrder_20 rfl (lv_at hl 1 rfl) ?_
    refine va_get (D := D) (ci := 4) (v := .int h_pageCount) (C := RX6) (T := TX6) (N := 10) hx hb hts iX6_isOutOfOrder_X6 hown hK wd.1 0 rfl rfl 2 (by decide) (hts _ mX6_isOutOfOrder_1) (fun _ h9 => h9) rfl dX6_isOutOfOrder_21 ?_
    refine lv_if_ne (tgt := 31) hx hb dX6_isOutOfOrder_24 (by decide) (fun q2 => ?_) (fun q2 => ?_)
    · have hf := ie hf q2
      refine lv_iconst (v := 0) hx hb dX6_isOutOfOrder_31 (by decide) ?_
      exact wX6_isOutOfOrder_b32 D Y C hA hK F a_h a_f a_fw a_p h_fault h_place h_pageCount h_limit h_packetIsOpen h_lastWasRead h_serial h_latestTime f_most f_length f_overfull fw_n c_fw p1 p2 _ 0 b11_s_0 hf wd hS (lv_sub hl [1, 2] rfl)
    · have hf := ip hf q2
      refine lv_iconst (v := 1) hx hb dX6_isOutOfOrder_27 (by decide) ?_
      refine lv_goto (tgt := 32) hx hb dX6_isOutOfOrder_28 (by decide) ?_
      exact wX6_isOutOfOrder_b32 D Y C hA hK F a_h a_f a_fw a_p h_fault h_place h_pageCount h_limit h_packetIsOpen h_lastWasRead h_serial h_latestTime f_most f_length f_overfull fw_n c_fw p1 p2 _ 1 b11_s_0 hf wd hS (lv_sub hl [1, 2] rfl)

set_option maxHeartbeats 4000000 in
set_option maxRecDepth 100000 in
theorem wX6_isOutOfOrder {p : Program} {l : Launch} {e : Env} {s : State} {m : MethodId} {args : Array Value} {below : List Frame} {meth : Method} {c : Code} {A : Nat → Prop} (D : va_G) (Y : Y4) (C : CX p s m meth c args cX6_isOutOfOrder 4 (some .boolean) wsX6_isOutOfOrder RX6) (hA : ∀ q : Nat, s.heap.size ≤ q → A q) (hK : va_K D vwCl (TY Y) s) (F : Nat) (a_h : Nat) (a_f : Nat) (a_fw : Nat) (a_p : Nat) (h_fault : Int32) (h_place : Int32) (h_pageCount : Int32) (h_limit : Int32) (h_packetIsOpen : Int32) (h_lastWasRead : Int32) (h_serial : Int32) (h_latestTime : Int64) (f_most : Int32) (f_length : Int32) (f_overfull : Int32) (fw_n : Nat) (c_fw : (Nat → Int32)) (p1 : Int32) (p2 : Int32) (res : Int32) (hf : fX6_isOutOfOrder F h_pageCount h_lastWasRead h_serial f_length fw_n c_fw p1 p2 = some res) {H : Heap} {locs : List Loc} {ls : Array Slot} (wd : WD D A [oX6 a_h h_fault h_place h_pageCount (.ref a_f) h_limit (.ref a_p) h_packetIsOpen h_lastWasRead h_serial h_latestTime, oX8 a_f (.ref a_fw) f_most f_length f_overfull, aI Y a_fw fw_n c_fw] H) (hS : va_S A s.heap H locs) (hl : lv_has ls 4 [(0, .ref a_h), (1, .int p1), (2, .int p2)]) : W p l e { frames := 3, cells := 0, slots := 0, locals := 67 } s m args below meth c H locs 0 0 (MQ below (va_Qi (fun r (_ : Unit) => r = res) (fun _ t => PST D Y A [oX6 a_h h_fault h_place h_pageCount (.ref a_f) h_limit (.ref a_p) h_packetIsOpen h_lastWasRead h_serial h_latestTime, oX8 a_f (.ref a_fw) f_most f_length f_overfull, aI Y a_fw fw_n c_fw] t) A) args s 0 0 A) (F0 m 0 ls []) := by
  obtain ⟨hx, hb, hml, hr, hts, hown, hlocks⟩ := id C
  unfold fX6_isOutOfOrder at hf
  refine lv_iload_n hx hb dX6_isOutOfOrder_0 rfl (lv_at hl 2 rfl) ?_
  refine lv_iconst (v := 2) hx hb dX6_isOutOfOrder_1 (by decide) ?_
  refine lv_iand hx hb dX6_isOutOfOrder_2 ?_
  refine lv_if_eq (tgt := 10) hx hb dX6_isOutOfOrder_3 (by decide) (fun q1 => ?_) (fun q1 => ?_)
  · have hf := ip hf q1
    refine lv_iconst (v := 0) hx hb dX6_isOutOfOrder_10 (by decide) ?_
    exact wX6_isOutOfOrder_b11 D Y C hA hK F a_h a_f a_fw a_p h_fault h_place h_pageCount h_limit h_packetIsOpen h_lastWasRead h_serial h_latestTime f_most f_length f_overfull fw_n c_fw p1 p2 _ 0 hf wd hS (lv_sub hl [0, 1] rfl)
  · have hf := ie hf q1
    refine lv_iconst (v := 1) hx hb dX6_isOutOfOrder_6 (by decide) ?_
    refine lv_goto (tgt := 11) hx hb dX6_isOutOfOrder_7 (by decide) ?_
    exact wX6_isOutOfOrder_b11 D Y C hA hK F a_h a_f a_fw a_p h_fault h_place h_pageCount h_limit h_packetIsOpen h_lastWasRead h_serial h_latestTime f_most f_length f_overfull fw_n c_fw p1 p2 _ 1 hf wd hS (lv_sub hl [0, 1] rfl)
set_option maxHeartbeats 4000000 in
set_option maxRecDepth 100000 in
theorem kX6_isOutOfOrder (l : Launch) (D : va_G) (Y : Y4) (F : Nat) (a_h : Nat) (a_f : Nat) (a_fw : Nat) (a_p : Nat) (sz : Nat) (h_fault : Int32) (h_place : Int32) (h_pageCount : Int32) (h_limit : Int32) (h_packetIsOpen : Int32) (h_lastWasRead : Int32) (h_serial : Int32) (h_latestTime : Int64) (f_most : Int32) (f_length : Int32) (f_overfull : Int32) (fw_n : Nat) (c_fw : (Nat → Int32)) (p1 : Int32) (p2 : Int32) (res : Int32) (hf : fX6_isOutOfOrder F h_pageCount h_lastWasRead h_serial f_length fw_n c_fw p1 p2 = some res) : Met l yX6_isOutOfOrder wsX6_isOutOfOrder ({ frames := 3, cells := 0, slots := 0, locals := 67 }) (va_Pc [.ref a_h, .int p1, .int p2] (PRE D Y [oX6 a_h h_fault h_place h_pageCount (.ref a_f) h_limit (.ref a_p) h_packetIsOpen h_lastWasRead h_serial h_latestTime, oX8 a_f (.ref a_fw) f_most f_length f_overfull, aI Y a_fw fw_n c_fw] sz)) (va_Qi (fun r (_ : Unit) => r = res) (fun _ t => PST D Y (va_A [oX6 a_h h_fault h_place h_pageCount (.ref a_f) h_limit (.ref a_p) h_packetIsOpen h_lastWasRead h_serial h_latestTime, oX8 a_f (.ref a_fw) f_most f_length f_overfull, aI Y a_fw fw_n c_fw] sz) [oX6 a_h h_fault h_place h_pageCount (.ref a_f) h_limit (.ref a_p) h_packetIsOpen h_lastWasRead h_serial h_latestTime, oX8 a_f (.ref a_fw) f_most f_length f_overfull, aI Y a_fw fw_n c_fw] t) (va_A [oX6 a_h h_fault h_place h_pageCount (.ref a_f) h_limit (.ref a_p) h_packetIsOpen h_lastWasRead h_serial h_latestTime, oX8 a_f (.ref a_fw) f_most f_length f_overfull, aI Y a_fw fw_n c_fw] sz)) 0 0 (va_A [oX6 a_h h_fault h_place h_pageCount (.ref a_f) h_limit (.ref a_p) h_packetIsOpen h_lastWasRead h_serial h_latestTime, oX8 a_f (.ref a_fw) f_most f_length f_overfull, aI Y a_fw fw_n c_fw] sz) := by
  refine Met.ofW (cc := cX6_isOutOfOrder) (maxL := 4) (ret := (some .boolean)) (by decide) rfl ?_
  intro p e s m args below meth c s₁ B hml hv
  obtain ⟨rfl, rfl, hP, hK, hD0⟩ := hv
  have hl := lv_entry ([.ref a_h, .int p1, .int p2]) (n := 4) (Nat.le_of_ble_eq_true rfl)
  rw [lg_entry_eq]
  exact wX6_isOutOfOrder D Y ⟨B.exec, B.bytes, hml, B.returns, atoms_spec (ws := wsX6_isOutOfOrder) B.pre, findClass_of_methodNamed B.named, B.notSynchronized⟩ (fun q h => Or.inr h) hK F a_h a_f a_fw a_p h_fault h_place h_pageCount h_limit h_packetIsOpen h_lastWasRead h_serial h_latestTime f_most f_length f_overfull fw_n c_fw p1 p2 res hf ⟨hP, hD0.self⟩ va_S.rf hl
theorem mX6_packetsEnding_0 : Cond.fieldLink RX6 9 "StreamRemuxer$PageReader" "file" "LStreamRemuxer$Row;" ∈ wsX6_packetsEnding := List.mem_cons_of_mem _ u_448
theorem iX6_packetsEnding_X6 : ∀ w ∈ wsX60, w ∈ wsX6_packetsEnding := fun w h => List.mem_cons_of_mem _ (inlX6 w h)
set_option maxHeartbeats 4000000 in
set_option maxRecDepth 100000 in
theorem wX6_packetsEnding_b46 {p : Program} {l : Launch} {e : Env} {s : State} {m : MethodId} {args : Array Value} {below : List Frame} {meth : Method} {c : Code} {A : Nat → Prop} (D : va_G) (Y : Y4) (C : CX p s m meth c args cX6_packetsEnding 5 (some .int) wsX6_packetsEnding RX6) (hA : ∀ q : Nat, s.heap.size ≤ q → A q) (hK : va_K D vwCl (TY Y) s) (F : Nat) (a_h : Nat) (a_f : Nat) (a_fw : Nat) (a_p : Nat) (h_fault : Int32) (h_place : Int32) (h_pageCount : Int32) (h_limit : Int32) (h_packetIsOpen : Int32) (h_lastWasRead : Int32) (h_serial : Int32) (h_latestTime : Int64) (f_most : Int32) (f_length : Int32) (f_overfull : Int32) (fw_n : Nat) (c_fw : (Nat → Int32)) (p1 : Int32) (res : Int32) (rc17 : Int32 → Int32 → Int32 → Option (Int32)) (hrc17 : ∀ (b17_l_4 : Int32) (b17_l_3 : Int32) (b17_l_2 : Int32), rc17 b17_l_4 b17_l_3 b17_l_2 = some res → ∀ {H : Heap} {locs : List Loc} {ls : Array Slot}, WD D A [oX6 a_h h_fault h_place h_pageCount (.ref a_f) h_limit (.ref a_p) h_packetIsOpen h_lastWasRead h_serial h_latestTime, oX8 a_f (.ref a_fw) f_most f_length f_overfull, aI Y a_fw fw_n c_fw] H → va_S A s.heap H locs → lv_has ls 5 [(0, .ref a_h), (1, .int p1), (2, .int b17_l_2), (3, .int b17_l_3), (4, .int b17_l_4)] → W p l e { frames := 1, cells := 0, slots := 0, locals := 21 } s m args below meth c H locs 0 0 (MQ below (va_Qi (fun r (_ : Unit) => r = res) (fun _ t => PST D Y A [oX6 a_h h_fault h_place h_pageCount (.ref a_f) h_limit (.ref a_p) h_packetIsOpen h_lastWasRead h_serial h_latestTime, oX8 a_f (.ref a_fw) f_most f_length f_overfull, aI Y a_fw fw_n c_fw] t) A) args s 0 0 A) (F0 m 17 ls [])) (b46_l_2 : Int32) (b46_l_3 : Int32) (b46_l_4 : Int32) (hf : fX6_packetsEnding_b46 F rc17 b46_l_2 b46_l_3 b46_l_4 = some res) {H : Heap} {locs : List Loc} {ls : Array Slot} (wd : WD D A [oX6 a_h h_fault h_place h_pageCount (.ref a_f) h_limit (.ref a_p) h_packetIsOpen h_lastWasRead h_serial h_latestTime, oX8 a_f (.ref a_fw) f_most f_length f_overfull, aI Y a_fw fw_n c_fw] H) (hS : va_S A s.heap H locs) (hl : lv_has ls 5 [(0, .ref a_h), (1, .int p1), (2, .int b46_l_2), (3, .int b46_l_3), (4, .int b46_l_4)]) : W p l e { frames := 1, cells := 0, slots := 0, locals := 21 } s m args below meth c H locs 0 0 (MQ below (va_Qi (fun r (_ : Unit) => r = res) (fun _ t => PST D Y A [oX6 a_h h_fault h_place h_pageCount (.ref a_f) h_limit (.ref a_p) h_packetIsOpen h_lastWasRead h_serial h_latestTime, oX8 a_f (.ref a_fw) f_most f_length f_overfull, aI Y a_fw fw_n c_fw] t) A) args s 0 0 A) (F0 m 46 ls []) := by
  obtain ⟨hx, hb, hml, hr, hts, hown, hlocks⟩ := id C
  unfold fX6_packetsEnding_b46 at hf
  obtain ⟨x1, ex1⟩ : ∃ y : Int32, y = b46_l_4 + 1 := ⟨_, rfl⟩
  have hf := nm_at hf ex1
  refine lv_iinc (v := x1) (lv' := [(4, .int x1), (0, .ref a_h), (1, .int p1), (2, .int b46_l_2), (3, .int b46_l_3)]) hx hb dX6_packetsEnding_46 hl (k := 4) rfl (by rw [ex1]; rfl) (by decide) rfl (fun ls hl => ?_)
  refine lv_goto (tgt := 17) hx hb dX6_packetsEnding_49 (by decide) ?_
  exact hrc17 x1 b46_l_3 b46_l_2 hf wd hS (lv_sub hl [1, 2, 3, 4, 0] rfl)

set_option maxHeartbeats 4000000 in
set_option maxRecDepth 100000 in
theorem wX6_packetsEnding_b17 {p : Program} {l : Launch} {e : Env} {s : State} {m : MethodId} {args : Array Value} {below : List Frame} {meth : Method} {c : Code} {A : Nat → Prop} (D : va_G) (Y : Y4) (C : CX p s m meth c args cX6_packetsEnding 5 (some .int) wsX6_packetsEnding RX6) (hA : ∀ q : Nat, s.heap.size ≤ q → A q) (hK : va_K D vwCl (TY Y) s) (F : Nat) (a_h : Nat) (a_f : Nat) (a_fw : Nat) (a_p : Nat) (h_fault : Int32) (h_place : Int32) (h_pageCount : Int32) (h_limit : Int32) (h_packetIsOpen : Int32) (h_lastWasRead : Int32) (h_serial : Int32) (h_latestTime : Int64) (f_most : Int32) (f_length : Int32) (f_overfull : Int32) (fw_n : Nat) (c_fw : (Nat → Int32)) (p1 : Int32) (res : Int32) : ∀ (n : Nat) (b17_l_4 : Int32) (b17_l_3 : Int32) (b17_l_2 : Int32), fX6_packetsEnding_b17 F f_length fw_n c_fw p1 n b17_l_4 b17_l_3 b17_l_2 = some res → ∀ {H : Heap} {locs : List Loc} {ls : Array Slot}, WD D A [oX6 a_h h_fault h_place h_pageCount (.ref a_f) h_limit (.ref a_p) h_packetIsOpen h_lastWasRead h_serial h_latestTime, oX8 a_f (.ref a_fw) f_most f_length f_overfull, aI Y a_fw fw_n c_fw] H → va_S A s.heap H locs → lv_has ls 5 [(0, .ref a_h), (1, .int p1), (2, .int b17_l_2), (3, .int b17_l_3), (4, .int b17_l_4)] → W p l e { frames := 1, cells := 0, slots := 0, locals := 21 } s m args below meth c H locs 0 0 (MQ below (va_Qi (fun r (_ : Unit) => r = res) (fun _ t => PST D Y A [oX6 a_h h_fault h_place h_pageCount (.ref a_f) h_limit (.ref a_p) h_packetIsOpen h_lastWasRead h_serial h_latestTime, oX8 a_f (.ref a_fw) f_most f_length f_overfull, aI Y a_fw fw_n c_fw] t) A) args s 0 0 A) (F0 m 17 ls []) := by
  obtain ⟨hx, hb, hml, hr, hts, hown, hlocks⟩ := id C
  intro n
  induction n with
  | zero => intro b17_l_4 b17_l_3 b17_l_2 hf; exact absurd hf (by simp [fX6_packetsEnding_b17])
  | succ n ih =>
    intro b17_l_4 b17_l_3 b17_l_2 hf H locs ls wd hS hl
    unfold fX6_packetsEnding_b17 at hf
    refine lv_iload hx hb dX6_packetsEnding_17 (lv_at hl 4 rfl) ?_
    refine lv_iload_n hx hb dX6_packetsEnding_19 rfl (lv_at hl 2 rfl) ?_
    refine lv_icmp_ge (tgt := 52) hx hb dX6_packetsEnding_20 (by decide) (fun q1 => ?_) (fun q1 => ?_)
    · have hf := ip hf q1
      refine lv_iload_n hx hb dX6_packetsEnding_52 rfl (lv_at hl 3 rfl) ?_
      obtain rfl := Option.some.inj hf
      exact W.iret (v := b17_l_3) hx hb hr (fun t ht hW => ⟨⟨_, (), rfl, rfl, WD.pst wd hK ht hW⟩, hS.F ht⟩) hS.2.2 dX6_packetsEnding_53
    · have hf := ie hf q1
      refine lv_aload_n hx hb dX6_packetsEnding_23 rfl (lv_at hl 0 rfl) ?_
      refine va_get (D := D) (ci := 4) (v := .ref a_f) (C := RX6) (T := TX6) (N := 10) hx hb hts iX6_packetsEnding_X6 hown hK wd.1 0 rfl rfl 3 (by decide) (hts _ mX6_packetsEnding_0) (fun _ h9 => h9) rfl dX6_packetsEnding_24 ?_
      refine lv_iload_n hx hb dX6_packetsEnding_27 rfl (lv_at hl 1 rfl) ?_
      refine lv_bipush (v := 27) hx hb dX6_packetsEnding_28 (by decide) ?_
      refine lv_iadd hx hb dX6_packetsEnding_30 ?_
      refine lv_iload hx hb dX6_packetsEnding_31 (lv_at hl 4 rfl) ?_
      refine lv_iadd hx hb dX6_packetsEnding_33 ?_
      obtain ⟨o2, ho2, hf⟩ := ob hf
      refine xj_i (va_runV (As := [.int ((p1 + 27) + b17_l_4)]) (rest := []) ⟨hx, hb, hml, hown, hts⟩ (kX8_at l D Y F a_f a_fw H.size f_most f_length f_overfull fw_n c_fw ((p1 + 27) + b17_l_4) o2 ho2) (cwV 1 hts gX6_packetsEnding_X8_at rfl rfl rfl (by decide +kernel) ⟨Nat.le_of_ble_eq_true rfl, Nat.le_of_ble_eq_true rfl⟩) (prev_w (ci := 6) rfl rfl hK wd [1, 2] rfl (by decide)) rfl rfl hl.1 rfl (lv_room (Nat.le_of_ble_eq_true rfl)) dX6_packetsEnding_34 ⟨Nat.zero_le _, Nat.zero_le _⟩) wd hS hA [1, 2] [0] rfl rfl (by decide) (by decide) (fun H locs wd hS => ?_)
      have wd : WD D A [oX6 a_h h_fault h_place h_pageCount (.ref a_f) h_limit (.ref a_p) h_packetIsOpen h_lastWasRead h_serial h_latestTime, oX8 a_f (.ref a_fw) f_most f_length f_overfull, aI Y a_fw fw_n c_fw] H := wd
      refine lv_sipush (v := 255) hx hb dX6_packetsEnding_37 (by decide) ?_
      refine lv_icmp_ge (tgt := 46) hx hb dX6_packetsEnding_40 (by decide) (fun q3 => ?_) (fun q3 => ?_)
      · have hf := ip hf q3
        exact wX6_packetsEnding_b46 D Y C hA hK F a_h a_f a_fw a_p h_fault h_place h_pageCount h_limit h_packetIsOpen h_lastWasRead h_serial h_latestTime f_most f_length f_overfull fw_n c_fw p1 _ (fX6_packetsEnding_b17 F f_length fw_n c_fw p1 n) ih b17_l_2 b17_l_3 b17_l_4 hf wd hS (lv_sub hl [0, 1, 2, 3, 4] rfl)
      · have hf := ie hf q3
        obtain ⟨x4, ex4⟩ : ∃ y : Int32, y = b17_l_3 + 1 := ⟨_, rfl⟩
        have hf := nm_at hf ex4
        refine lv_iinc (v := x4) (lv' := [(3, .int x4), (0, .ref a_h), (1, .int p1), (2, .int b17_l_2), (4, .int b17_l_4)]) hx hb dX6_packetsEnding_43 hl (k := 3) rfl (by rw [ex4]; rfl) (by decide) rfl (fun ls hl => ?_)
        exact wX6_packetsEnding_b46 D Y C hA hK F a_h a_f a_fw a_p h_fault h_place h_pageCount h_limit h_packetIsOpen h_lastWasRead h_serial h_latestTime f_most f_length f_overfull fw_n c_fw p1 _ (fX6_packetsEnding_b17 F f_length fw_n c_fw p1 n) ih b17_l_2 x4 b17_l_4 hf wd hS (lv_sub hl [1, 2, 3, 0, 4] rfl)

set_option maxHeartbeats 4000000 in
set_option maxRecDepth 100000 in
theorem wX6_packetsEnding {p : Program} {l : Launch} {e : Env} {s : State} {m : MethodId} {args : Array Value} {below : List Frame} {meth : Method} {c : Code} {A : Nat → Prop} (D : va_G) (Y : Y4) (C : CX p s m meth c args cX6_packetsEnding 5 (some .int) wsX6_packetsEnding RX6) (hA : ∀ q : Nat, s.heap.size ≤ q → A q) (hK : va_K D vwCl (TY Y) s) (F : Nat) (a_h : Nat) (a_f : Nat) (a_fw : Nat) (a_p : Nat) (h_fault : Int32) (h_place : Int32) (h_pageCount : Int32) (h_limit : Int32) (h_packetIsOpen : Int32) (h_lastWasRead : Int32) (h_serial : Int32) (h_latestTime : Int64) (f_most : Int32) (f_length : Int32) (f_overfull : Int32) (fw_n : Nat) (c_fw : (Nat → Int32)) (p1 : Int32) (res : Int32) (hf : fX6_packetsEnding F f_length fw_n c_fw p1 = some res) {H : Heap} {locs : List Loc} {ls : Array Slot} (wd : WD D A [oX6 a_h h_fault h_place h_pageCount (.ref a_f) h_limit (.ref a_p) h_packetIsOpen h_lastWasRead h_serial h_latestTime, oX8 a_f (.ref a_fw) f_most f_length f_overfull, aI Y a_fw fw_n c_fw] H) (hS : va_S A s.heap H locs) (hl : lv_has ls 5 [(0, .ref a_h), (1, .int p1)]) : W p l e { frames := 1, cells := 0, slots := 0, locals := 21 } s m args below meth c H locs 0 0 (MQ below (va_Qi (fun r (_ : Unit) => r = res) (fun _ t => PST D Y A [oX6 a_h h_fault h_place h_pageCount (.ref a_f) h_limit (.ref a_p) h_packetIsOpen h_lastWasRead h_serial h_latestTime, oX8 a_f (.ref a_fw) f_most f_length f_overfull, aI Y a_fw fw_n c_fw] t) A) args s 0 0 A) (F0 m 0 ls []) := by
  obtain ⟨hx, hb, hml, hr, hts, hown, hlocks⟩ := id C
  unfold fX6_packetsEnding at hf
  refine lv_aload_n hx hb dX6_packetsEnding_0 rfl (lv_at hl 0 rfl) ?_
  refine va_get (D := D) (ci := 4) (v := .ref a_f) (C := RX6) (T := TX6) (N := 10) hx hb hts iX6_packetsEnding_X6 hown hK wd.1 0 rfl rfl 3 (by decide) (hts _ mX6_packetsEnding_0) (fun _ h9 => h9) rfl dX6_packetsEnding_1 ?_
  refine lv_iload_n hx hb dX6_packetsEnding_4 rfl (lv_at hl 1 rfl) ?_
  refine lv_bipush (v := 26) hx hb dX6_packetsEnding_5 (by decide) ?_
  refine lv_iadd hx hb dX6_packetsEnding_7 ?_
  obtain ⟨o1, ho1, hf⟩ := ob hf
  refine xj_i (va_runV (As := [.int (p1 + 26)]) (rest := []) ⟨hx, hb, hml, hown, hts⟩ (kX8_at l D Y F a_f a_fw H.size f_most f_length f_overfull fw_n c_fw (p1 + 26) o1 ho1) (cwV 1 hts gX6_packetsEnding_X8_at rfl rfl rfl (by decide +kernel) ⟨Nat.le_of_ble_eq_true rfl, Nat.le_of_ble_eq_true rfl⟩) (prev_w (ci := 6) rfl rfl hK wd [1, 2] rfl (by decide)) rfl rfl hl.1 rfl (lv_room (Nat.le_of_ble_eq_true rfl)) dX6_packetsEnding_8 ⟨Nat.zero_le _, Nat.zero_le _⟩) wd hS hA [1, 2] [0] rfl rfl (by decide) (by decide) (fun H locs wd hS => ?_)
  have wd : WD D A [oX6 a_h h_fault h_place h_pageCount (.ref a_f) h_limit (.ref a_p) h_packetIsOpen h_lastWasRead h_serial h_latestTime, oX8 a_f (.ref a_fw) f_most f_length f_overfull, aI Y a_fw fw_n c_fw] H := wd
  refine lv_istore_n (lv' := [(2, .int o1), (0, .ref a_h), (1, .int p1)]) hx hb dX6_packetsEnding_11 rfl hl (by decide) rfl (fun ls hl => ?_)
  refine lv_iconst (v := 0) hx hb dX6_packetsEnding_12 (by decide) ?_
  refine lv_istore_n (lv' := [(3, .int 0), (2, .int o1), (0, .ref a_h), (1, .int p1)]) hx hb dX6_packetsEnding_13 rfl hl (by decide) rfl (fun ls hl => ?_)
  refine lv_iconst (v := 0) hx hb dX6_packetsEnding_14 (by decide) ?_
  refine lv_istore (lv' := [(4, .int 0), (3, .int 0), (2, .int o1), (0, .ref a_h), (1, .int p1)]) hx hb dX6_packetsEnding_15 hl (by decide) rfl (fun ls hl => ?_)
  exact wX6_packetsEnding_b17 D Y C hA hK F a_h a_f a_fw a_p h_fault h_place h_pageCount h_limit h_packetIsOpen h_lastWasRead h_serial h_latestTime f_most f_length f_overfull fw_n c_fw p1 _ F 0 0 o1 hf wd hS (lv_sub hl [3, 4, 2, 1, 0] rfl)
set_option maxHeartbeats 4000000 in
set_option maxRecDepth 100000 in
theorem kX6_packetsEnding (l : Launch) (D : va_G) (Y : Y4) (F : Nat) (a_h : Nat) (a_f : Nat) (a_fw : Nat) (a_p : Nat) (sz : Nat) (h_fault : Int32) (h_place : Int32) (h_pageCount : Int32) (h_limit : Int32) (h_packetIsOpen : Int32) (h_lastWasRead : Int32) (h_serial : Int32) (h_latestTime : Int64) (f_most : Int32) (f_length : Int32) (f_overfull : Int32) (fw_n : Nat) (c_fw : (Nat → Int32)) (p1 : Int32) (res : Int32) (hf : fX6_packetsEnding F f_length fw_n c_fw p1 = some res) : Met l yX6_packetsEnding wsX6_packetsEnding ({ frames := 1, cells := 0, slots := 0, locals := 21 }) (va_Pc [.ref a_h, .int p1] (PRE D Y [oX6 a_h h_fault h_place h_pageCount (.ref a_f) h_limit (.ref a_p) h_packetIsOpen h_lastWasRead h_serial h_latestTime, oX8 a_f (.ref a_fw) f_most f_length f_overfull, aI Y a_fw fw_n c_fw] sz)) (va_Qi (fun r (_ : Unit) => r = res) (fun _ t => PST D Y (va_A [oX6 a_h h_fault h_place h_pageCount (.ref a_f) h_limit (.ref a_p) h_packetIsOpen h_lastWasRead h_serial h_latestTime, oX8 a_f (.ref a_fw) f_most f_length f_overfull, aI Y a_fw fw_n c_fw] sz) [oX6 a_h h_fault h_place h_pageCount (.ref a_f) h_limit (.ref a_p) h_packetIsOpen h_lastWasRead h_serial h_latestTime, oX8 a_f (.ref a_fw) f_most f_length f_overfull, aI Y a_fw fw_n c_fw] t) (va_A [oX6 a_h h_fault h_place h_pageCount (.ref a_f) h_limit (.ref a_p) h_packetIsOpen h_lastWasRead h_serial h_latestTime, oX8 a_f (.ref a_fw) f_most f_length f_overfull, aI Y a_fw fw_n c_fw] sz)) 0 0 (va_A [oX6 a_h h_fault h_place h_pageCount (.ref a_f) h_limit (.ref a_p) h_packetIsOpen h_lastWasRead h_serial h_latestTime, oX8 a_f (.ref a_fw) f_most f_length f_overfull, aI Y a_fw fw_n c_fw] sz) := by
  refine Met.ofW (cc := cX6_packetsEnding) (maxL := 5) (ret := (some .int)) (by decide) rfl ?_
  intro p e s m args below meth c s₁ B hml hv
  obtain ⟨rfl, rfl, hP, hK, hD0⟩ := hv
  have hl := lv_entry ([.ref a_h, .int p1]) (n := 5) (Nat.le_of_ble_eq_true rfl)
  rw [lg_entry_eq]
  exact wX6_packetsEnding D Y ⟨B.exec, B.bytes, hml, B.returns, atoms_spec (ws := wsX6_packetsEnding) B.pre, findClass_of_methodNamed B.named, B.notSynchronized⟩ (fun q h => Or.inr h) hK F a_h a_f a_fw a_p h_fault h_place h_pageCount h_limit h_packetIsOpen h_lastWasRead h_serial h_latestTime f_most f_length f_overfull fw_n c_fw p1 res hf ⟨hP, hD0.self⟩ va_S.rf hl
theorem mX6_isTimeWrong_0 : Cond.fieldLink RX6 33 "StreamRemuxer$PageReader" "latestTime" "J" ∈ wsX6_isTimeWrong := List.mem_cons_of_mem _ u_454
theorem mX6_isTimeWrong_1 : Cond.constantLong RX6 100 (1099511627775) ∈ wsX6_isTimeWrong := List.mem_cons_of_mem _ u_496
theorem mX6_isTimeWrong_2 : Cond.constantLong RX6 98 (-1) ∈ wsX6_isTimeWrong := List.mem_cons_of_mem _ u_495
theorem iX6_isTimeWrong_X6 : ∀ w ∈ wsX60, w ∈ wsX6_isTimeWrong := fun w h => List.mem_cons_of_mem _ (inlX6 w h)
set_option maxHeartbeats 4000000 in
set_option maxRecDepth 100000 in
theorem wX6_isTimeWrong_b17 {p : Program} {l : Launch} {e : Env} {s : State} {m : MethodId} {args : Array Value} {below : List Frame} {meth : Method} {c : Code} {A : Nat → Prop} (D : va_G) (Y : Y4) (C : CX p s m meth c args cX6_isTimeWrong 4 (some .boolean) wsX6_isTimeWrong RX6) (hA : ∀ q : Nat, s.heap.size ≤ q → A q) (hK : va_K D vwCl (TY Y) s) (F : Nat) (a_h : Nat) (a_f : Nat) (a_p : Nat) (h_fault : Int32) (h_place : Int32) (h_pageCount : Int32) (h_limit : Int32) (h_packetIsOpen : Int32) (h_lastWasRead : Int32) (h_serial : Int32) (h_latestTime : Int64) (p1 : Int64) (p3 : Int32) (res : Int32) (b17_s_0 : Int32) (hf : fX6_isTimeWrong_b17 F b17_s_0 = some res) {H : Heap} {locs : List Loc} {ls : Array Slot} (wd : WD D A [oX6 a_h h_fault h_place h_pageCount (.ref a_f) h_limit (.ref a_p) h_packetIsOpen h_lastWasRead h_serial h_latestTime] H) (hS : va_S A s.heap H locs) (hl : lv_has ls 4 []) : W p l e { frames := 0, cells := 0, slots := 0, locals := 0 } s m args below meth c H locs 0 0 (MQ below (va_Qi (fun r (_ : Unit) => r = res) (fun _ t => PST D Y A [oX6 a_h h_fault h_place h_pageCount (.ref a_f) h_limit (.ref a_p) h_packetIsOpen h_lastWasRead h_serial h_latestTime] t) A) args s 0 0 A) (F0 m 17 ls [.int b17_s_0]) := by
  obtain ⟨hx, hb, hml, hr, hts, hown, hlocks⟩ := id C
  unfold fX6_isTimeWrong_b17 at hf
  obtain ⟨hz1, hf⟩ := gd hf
  obtain rfl := Option.some.inj hf
  exact W.zret (v := b17_s_0) hx hb hr (isb_nar hz1) (fun t ht hW => ⟨⟨_, (), rfl, rfl, WD.pst wd hK ht hW⟩, hS.F ht⟩) hS.2.2 dX6_isTimeWrong_17

set_option maxHeartbeats 4000000 in
set_option maxRecDepth 100000 in
theorem wX6_isTimeWrong_b40 {p : Program} {l : Launch} {e : Env} {s : State} {m : MethodId} {args : Array Value} {below : List Frame} {meth : Method} {c : Code} {A : Nat → Prop} (D : va_G) (Y : Y4) (C : CX p s m meth c args cX6_isTimeWrong 4 (some .boolean) wsX6_isTimeWrong RX6) (hA : ∀ q : Nat, s.heap.size ≤ q → A q) (hK : va_K D vwCl (TY Y) s) (F : Nat) (a_h : Nat) (a_f : Nat) (a_p : Nat) (h_fault : Int32) (h_place : Int32) (h_pageCount : Int32) (h_limit : Int32) (h_packetIsOpen : Int32) (h_lastWasRead : Int32) (h_serial : Int32) (h_latestTime : Int64) (p1 : Int64) (p3 : Int32) (res : Int32) (b40_s_0 : Int32) (hf : fX6_isTimeWrong_b40 F b40_s_0 = some res) {H : Heap} {locs : List Loc} {ls : Array Slot} (wd : WD D A [oX6 a_h h_fault h_place h_pageCount (.ref a_f) h_limit (.ref a_p) h_packetIsOpen h_lastWasRead h_serial h_latestTime] H) (hS : va_S A s.heap H locs) (hl : lv_has ls 4 []) : W p l e { frames := 0, cells := 0, slots := 0, locals := 0 } s m args below meth c H locs 0 0 (MQ below (va_Qi (fun r (_ : Unit) => r = res) (fun _ t => PST D Y A [oX6 a_h h_fault h_place h_pageCount (.ref a_f) h_limit (.ref a_p) h_packetIsOpen h_lastWasRead h_serial h_latestTime] t) A) args s 0 0 A) (F0 m 40 ls [.int b40_s_0]) := by
  obtain ⟨hx, hb, hml, hr, hts, hown, hlocks⟩ := id C
  unfold fX6_isTimeWrong_b40 at hf
  obtain ⟨hz1, hf⟩ := gd hf
  obtain rfl := Option.some.inj hf
  exact W.zret (v := b40_s_0) hx hb hr (isb_nar hz1) (fun t ht hW => ⟨⟨_, (), rfl, rfl, WD.pst wd hK ht hW⟩, hS.F ht⟩) hS.2.2 dX6_isTimeWrong_40

set_option maxHeartbeats 4000000 in
set_option maxRecDepth 100000 in
theorem wX6_isTimeWrong_b35 {p : Program} {l : Launch} {e : Env} {s : State} {m : MethodId} {args : Array Value} {below : List Frame} {meth : Method} {c : Code} {A : Nat → Prop} (D : va_G) (Y : Y4) (C : CX p s m meth c args cX6_isTimeWrong 4 (some .boolean) wsX6_isTimeWrong RX6) (hA : ∀ q : Nat, s.heap.size ≤ q → A q) (hK : va_K D vwCl (TY Y) s) (F : Nat) (a_h : Nat) (a_f : Nat) (a_p : Nat) (h_fault : Int32) (h_place : Int32) (h_pageCount : Int32) (h_limit : Int32) (h_packetIsOpen : Int32) (h_lastWasRead : Int32) (h_serial : Int32) (h_latestTime : Int64) (p1 : Int64) (p3 : Int32) (res : Int32) (hf : fX6_isTimeWrong_b35 F = some res) {H : Heap} {locs : List Loc} {ls : Array Slot} (wd : WD D A [oX6 a_h h_fault h_place h_pageCount (.ref a_f) h_limit (.ref a_p) h_packetIsOpen h_lastWasRead h_serial h_latestTime] H) (hS : va_S A s.heap H locs) (hl : lv_has ls 4 []) : W p l e { frames := 0, cells := 0, slots := 0, locals := 0 } s m args below meth c H locs 0 0 (MQ below (va_Qi (fun r (_ : Unit) => r = res) (fun _ t => PST D Y A [oX6 a_h h_fault h_place h_pageCount (.ref a_f) h_limit (.ref a_p) h_packetIsOpen h_lastWasRead h_serial h_latestTime] t) A) args s 0 0 A) (F0 m 35 ls []) := by
  obtain ⟨hx, hb, hml, hr, hts, hown, hlocks⟩ := id C
  unfold fX6_isTimeWrong_b35 at hf
  refine lv_iconst (v := 1) hx hb dX6_isTimeWrong_35 (by decide) ?_
  refine lv_goto (tgt := 40) hx hb dX6_isTimeWrong_36 (by decide) ?_
  exact wX6_isTimeWrong_b40 D Y C hA hK F a_h a_f a_p h_fault h_place h_pageCount h_limit h_packetIsOpen h_lastWasRead h_serial h_latestTime p1 p3 _ 1 hf wd hS (lv_sub hl [] rfl)

set_option maxHeartbeats 4000000 in
set_option maxRecDepth 100000 in
theorem wX6_isTimeWrong {p : Program} {l : Launch} {e : Env} {s : State} {m : MethodId} {args : Array Value} {below : List Frame} {meth : Method} {c : Code} {A : Nat → Prop} (D : va_G) (Y : Y4) (C : CX p s m meth c args cX6_isTimeWrong 4 (some .boolean) wsX6_isTimeWrong RX6) (hA : ∀ q : Nat, s.heap.size ≤ q → A q) (hK : va_K D vwCl (TY Y) s) (F : Nat) (a_h : Nat) (a_f : Nat) (a_p : Nat) (h_fault : Int32) (h_place : Int32) (h_pageCount : Int32) (h_limit : Int32) (h_packetIsOpen : Int32) (h_lastWasRead : Int32) (h_serial : Int32) (h_latestTime : Int64) (p1 : Int64) (p3 : Int32) (res : Int32) (hf : fX6_isTimeWrong F h_latestTime p1 p3 = some res) {H : Heap} {locs : List Loc} {ls : Array Slot} (wd : WD D A [oX6 a_h h_fault h_place h_pageCount (.ref a_f) h_limit (.ref a_p) h_packetIsOpen h_lastWasRead h_serial h_latestTime] H) (hS : va_S A s.heap H locs) (hl : lv_has ls 4 [(0, .ref a_h), (1, .long p1), (3, .int p3)]) : W p l e { frames := 0, cells := 0, slots := 0, locals := 0 } s m args below meth c H locs 0 0 (MQ below (va_Qi (fun r (_ : Unit) => r = res) (fun _ t => PST D Y A [oX6 a_h h_fault h_place h_pageCount (.ref a_f) h_limit (.ref a_p) h_packetIsOpen h_lastWasRead h_serial h_latestTime] t) A) args s 0 0 A) (F0 m 0 ls []) := by
  obtain ⟨hx, hb, hml, hr, hts, hown, hlocks⟩ := id C
  unfold fX6_isTimeWrong at hf
  refine lv_iload_n hx hb dX6_isTimeWrong_0 rfl (lv_at hl 2 rfl) ?_
  refine lv_if_ne (tgt := 18) hx hb dX6_isTimeWrong_1 (by decide) (fun q1 => ?_) (fun q1 => ?_)
  · have hf := ie hf q1
    refine lv_lload_n hx hb dX6_isTimeWrong_18 rfl (lv_at hl 1 rfl) ?_
    refine lv_aload_n hx hb dX6_isTimeWrong_19 rfl (lv_at hl 0 rfl) ?_
    refine va_get (D := D) (ci := 4) (v := .long h_latestTime) (C := RX6) (T := TX6) (N := 10) hx hb hts iX6_isTimeWrong_X6 hown hK wd.1 0 rfl rfl 9 (by decide) (hts _ mX6_isTimeWrong_0) (fun _ h9 => h9) rfl dX6_isTimeWrong_20 ?_
    refine xl_lt (tgt := 35) hx hb dX6_isTimeWrong_23 dX6_isTimeWrong_24 (by decide) (fun q2 => ?_) (fun q2 => ?_)
    · have hf := ip hf q2
      exact wX6_isTimeWrong_b35 D Y C hA hK F a_h a_f a_p h_fault h_place h_pageCount h_limit h_packetIsOpen h_lastWasRead h_serial h_latestTime p1 p3 _ hf wd hS (lv_sub hl [] rfl)
    · have hf := ie hf q2
      refine lv_lload_n hx hb dX6_isTimeWrong_27 rfl (lv_at hl 1 rfl) ?_
      refine lv_ldc2 hx hb hown (hts _ mX6_isTimeWrong_1) dX6_isTimeWrong_28 ?_
      refine xl_le (tgt := 39) hx hb dX6_isTimeWrong_31 dX6_isTimeWrong_32 (by decide) (fun q3 => ?_) (fun q3 => ?_)
      · have hf := ip hf q3
        refine lv_iconst (v := 0) hx hb dX6_isTimeWrong_39 (by decide) ?_
        exact wX6_isTimeWrong_b40 D Y C hA hK F a_h a_f a_p h_fault h_place h_pageCount h_limit h_packetIsOpen h_lastWasRead h_serial h_latestTime p1 p3 _ 0 hf wd hS (lv_sub hl [] rfl)
      · have hf := ie hf q3
        exact wX6_isTimeWrong_b35 D Y C hA hK F a_h a_f a_p h_fault h_place h_pageCount h_limit h_packetIsOpen h_lastWasRead h_serial h_latestTime p1 p3 _ hf wd hS (lv_sub hl [] rfl)
  · have hf := ip hf q1
    refine lv_lload_n hx hb dX6_isTimeWrong_4 rfl (lv_at hl 1 rfl) ?_
    refine lv_ldc2 hx hb hown (hts _ mX6_isTimeWrong_2) dX6_isTimeWrong_5 ?_
    refine xl_eq (tgt := 16) hx hb dX6_isTimeWrong_8 dX6_isTimeWrong_9 (by decide) (fun q4 => ?_) (fun q4 => ?_)
    · have hf := ip hf q4
      refine lv_iconst (v := 0) hx hb dX6_isTimeWrong_16 (by decide) ?_
      exact wX6_isTimeWrong_b17 D Y C hA hK F a_h a_f a_p h_fault h_place h_pageCount h_limit h_packetIsOpen h_lastWasRead h_serial h_latestTime p1 p3 _ 0 hf wd hS (lv_sub hl [] rfl)
    · have hf := ie hf q4
      refine lv_iconst (v := 1) hx hb dX6_isTimeWrong_12 (by decide) ?_
      refine lv_goto (tgt := 17) hx hb dX6_isTimeWrong_13 (by decide) ?_
      exact wX6_isTimeWrong_b17 D Y C hA hK F a_h a_f a_p h_fault h_place h_pageCount h_limit h_packetIsOpen h_lastWasRead h_serial h_latestTime p1 p3 _ 1 hf wd hS (lv_sub hl [] rfl)
set_option maxHeartbeats 4000000 in
set_option maxRecDepth 100000 in
theorem kX6_isTimeWrong (l : Launch) (D : va_G) (Y : Y4) (F : Nat) (a_h : Nat) (a_f : Nat) (a_p : Nat) (sz : Nat) (h_fault : Int32) (h_place : Int32) (h_pageCount : Int32) (h_limit : Int32) (h_packetIsOpen : Int32) (h_lastWasRead : Int32) (h_serial : Int32) (h_latestTime : Int64) (p1 : Int64) (p3 : Int32) (res : Int32) (hf : fX6_isTimeWrong F h_latestTime p1 p3 = some res) : Met l yX6_isTimeWrong wsX6_isTimeWrong ({ frames := 0, cells := 0, slots := 0, locals := 0 }) (va_Pc [.ref a_h, .long p1, .int p3] (PRE D Y [oX6 a_h h_fault h_place h_pageCount (.ref a_f) h_limit (.ref a_p) h_packetIsOpen h_lastWasRead h_serial h_latestTime] sz)) (va_Qi (fun r (_ : Unit) => r = res) (fun _ t => PST D Y (va_A [oX6 a_h h_fault h_place h_pageCount (.ref a_f) h_limit (.ref a_p) h_packetIsOpen h_lastWasRead h_serial h_latestTime] sz) [oX6 a_h h_fault h_place h_pageCount (.ref a_f) h_limit (.ref a_p) h_packetIsOpen h_lastWasRead h_serial h_latestTime] t) (va_A [oX6 a_h h_fault h_place h_pageCount (.ref a_f) h_limit (.ref a_p) h_packetIsOpen h_lastWasRead h_serial h_latestTime] sz)) 0 0 (va_A [oX6 a_h h_fault h_place h_pageCount (.ref a_f) h_limit (.ref a_p) h_packetIsOpen h_lastWasRead h_serial h_latestTime] sz) := by
  refine Met.ofW (cc := cX6_isTimeWrong) (maxL := 4) (ret := (some .boolean)) (by decide) rfl ?_
  intro p e s m args below meth c s₁ B hml hv
  obtain ⟨rfl, rfl, hP, hK, hD0⟩ := hv
  have hl := lv_entry ([.ref a_h, .long p1, .int p3]) (n := 4) (Nat.le_of_ble_eq_true rfl)
  rw [lg_entry_eq]
  exact wX6_isTimeWrong D Y ⟨B.exec, B.bytes, hml, B.returns, atoms_spec (ws := wsX6_isTimeWrong) B.pre, findClass_of_methodNamed B.named, B.notSynchronized⟩ (fun q h => Or.inr h) hK F a_h a_f a_p h_fault h_place h_pageCount h_limit h_packetIsOpen h_lastWasRead h_serial h_latestTime p1 p3 res hf ⟨hP, hD0.self⟩ va_S.rf hl
theorem mX6_faultOf_0 : Cond.fieldLink RX6 15 "StreamRemuxer$PageReader" "limit" "I" ∈ wsX6_faultOf := List.mem_cons_of_mem _ u_449
theorem mX6_faultOf_1 : Cond.fieldLink RX6 9 "StreamRemuxer$PageReader" "file" "LStreamRemuxer$Row;" ∈ wsX6_faultOf := List.mem_cons_of_mem _ u_448
theorem mX6_faultOf_2 : Cond.fieldLink RX6 26 "StreamRemuxer$PageReader" "packetIsOpen" "Z" ∈ wsX6_faultOf := List.mem_cons_of_mem _ u_452
theorem mX6_faultOf_3 : Cond.fieldLink RX6 19 "StreamRemuxer$PageReader" "target" "LStreamRemuxer$PacketList;" ∈ wsX6_faultOf := List.mem_cons_of_mem _ u_450
theorem iX6_faultOf_X6 : ∀ w ∈ wsX60, w ∈ wsX6_faultOf := fun w h => List.mem_cons_of_mem _ (inlX6 w h)
set_option maxHeartbeats 4000000 in
set_option maxRecDepth 100000 in
theorem wX6_faultOf_b204 {p : Program} {l : Launch} {e : Env} {s : State} {m : MethodId} {args : Array Value} {below : List Frame} {meth : Method} {c : Code} {A : Nat → Prop} (D : va_G) (Y : Y4) (C : CX p s m meth c args cX6_faultOf 6 (some .int) wsX6_faultOf RX6) (hA : ∀ q : Nat, s.heap.size ≤ q → A q) (hK : va_K D vwCl (TY Y) s) (F : Nat) (a_h : Nat) (a_f : Nat) (a_fw : Nat) (a_p : Nat) (a_pb : Nat) (a_pe : Nat) (a_pt : Nat) (a_pbw : Nat) (a_sF : Nat) (h_fault : Int32) (h_place : Int32) (h_pageCount : Int32) (h_limit : Int32) (h_packetIsOpen : Int32) (h_lastWasRead : Int32) (h_serial : Int32) (h_latestTime : Int64) (f_most : Int32) (f_length : Int32) (f_overfull : Int32) (fw_n : Nat) (c_fw : (Nat → Int32)) (p_packets : Int32) (pb_most : Int32) (pb_length : Int32) (pb_overfull : Int32) (p1 : Int32) (hX : ST [e_sF a_sF] A s) (res : Int32) (b204_s_0 : Int32) (hf : fX6_faultOf_b204 F b204_s_0 = some res) {H : Heap} {locs : List Loc} {ls : Array Slot} (wd : WD D A [oX6 a_h h_fault h_place h_pageCount (.ref a_f) h_limit (.ref a_p) h_packetIsOpen h_lastWasRead h_serial h_latestTime, oX8 a_f (.ref a_fw) f_most f_length f_overfull, aI Y a_fw fw_n c_fw, oX4 a_p (.ref a_pb) (.ref a_pe) (.ref a_pt) p_packets, oX8 a_pb (.ref a_pbw) pb_most pb_length pb_overfull] H) (hS : va_S A s.heap H locs) (hl : lv_has ls 6 []) : W p l e { frames := 4, cells := 0, slots := 0, locals := 90 } s m args below meth c H locs 0 0 (MQ below (va_Qi (fun r (_ : Unit) => r = res) (fun _ t => PST D Y A [oX6 a_h h_fault h_place h_pageCount (.ref a_f) h_limit (.ref a_p) h_packetIsOpen h_lastWasRead h_serial h_latestTime, oX8 a_f (.ref a_fw) f_most f_length f_overfull, aI Y a_fw fw_n c_fw, oX4 a_p (.ref a_pb) (.ref a_pe) (.ref a_pt) p_packets, oX8 a_pb (.ref a_pbw) pb_most pb_length pb_overfull] t) A) args s 0 0 A) (F0 m 204 ls [.int b204_s_0]) := by
  obtain ⟨hx, hb, hml, hr, hts, hown, hlocks⟩ := id C
  obtain ⟨hZ_sF, hT_sF⟩ := (hX _ (List.mem_of_getElem? (i := 0) rfl)).2
  unfold fX6_faultOf_b204 at hf
  obtain rfl := Option.some.inj hf
  exact W.iret (v := b204_s_0) hx hb hr (fun t ht hW => ⟨⟨_, (), rfl, rfl, WD.pst wd hK ht hW⟩, hS.F ht⟩) hS.2.2 dX6_faultOf_204

set_option maxHeartbeats 4000000 in
set_option maxRecDepth 100000 in
theorem wX6_faultOf_b122 {p : Program} {l : Launch} {e : Env} {s : State} {m : MethodId} {args : Array Value} {below : List Frame} {meth : Method} {c : Code} {A : Nat → Prop} (D : va_G) (Y : Y4) (C : CX p s m meth c args cX6_faultOf 6 (some .int) wsX6_faultOf RX6) (hA : ∀ q : Nat, s.heap.size ≤ q → A q) (hK : va_K D vwCl (TY Y) s) (F : Nat) (a_h : Nat) (a_f : Nat) (a_fw : Nat) (a_p : Nat) (a_pb : Nat) (a_pe : Nat) (a_pt : Nat) (a_pbw : Nat) (a_sF : Nat) (h_fault : Int32) (h_place : Int32) (h_pageCount : Int32) (h_limit : Int32) (h_packetIsOpen : Int32) (h_lastWasRead : Int32) (h_serial : Int32) (h_latestTime : Int64) (f_most : Int32) (f_length : Int32) (f_overfull : Int32) (fw_n : Nat) (c_fw : (Nat → Int32)) (p_packets : Int32) (pb_most : Int32) (pb_length : Int32) (pb_overfull : Int32) (p1 : Int32) (hX : ST [e_sF a_sF] A s) (res : Int32) (b122_l_3 : Int32) (b122_s_0 : Int32) (hf : fX6_faultOf_b122 F h_packetIsOpen h_latestTime f_length fw_n c_fw p_packets pb_length p1 b122_l_3 b122_s_0 = some res) {H : Heap} {locs : List Loc} {ls : Array Slot} (wd : WD D A [oX6 a_h h_fault h_place h_pageCount (.ref a_f) h_limit (.ref a_p) h_packetIsOpen h_lastWasRead h_serial h_latestTime, oX8 a_f (.ref a_fw) f_most f_length f_overfull, aI Y a_fw fw_n c_fw, oX4 a_p (.ref a_pb) (.ref a_pe) (.ref a_pt) p_packets, oX8 a_pb (.ref a_pbw) pb_most pb_length pb_overfull] H) (hS : va_S A s.heap H locs) (hl : lv_has ls 6 [(0, .ref a_h), (1, .int p1), (3, .int b122_l_3)]) : W p l e { frames := 4, cells := 0, slots := 0, locals := 90 } s m args below meth c H locs 0 0 (MQ below (va_Qi (fun r (_ : Unit) => r = res) (fun _ t => PST D Y A [oX6 a_h h_fault h_place h_pageCount (.ref a_f) h_limit (.ref a_p) h_packetIsOpen h_lastWasRead h_serial h_latestTime, oX8 a_f (.ref a_fw) f_most f_length f_overfull, aI Y a_fw fw_n c_fw, oX4 a_p (.ref a_pb) (.ref a_pe) (.ref a_pt) p_packets, oX8 a_pb (.ref a_pbw) pb_most pb_length pb_overfull] t) A) args s 0 0 A) (F0 m 122 ls [.int b122_s_0]) := by
  obtain ⟨hx, hb, hml, hr, hts, hown, hlocks⟩ := id C
  obtain ⟨hZ_sF, hT_sF⟩ := (hX _ (List.mem_of_getElem? (i := 0) rfl)).2
  unfold fX6_faultOf_b122 at hf
  refine lv_aload_n hx hb dX6_faultOf_122 rfl (lv_at hl 0 rfl) ?_
  refine va_get (D := D) (ci := 4) (v := .int h_packetIsOpen) (C := RX6) (T := TX6) (N := 10) hx hb hts iX6_faultOf_X6 hown hK wd.1 0 rfl rfl 6 (by decide) (hts _ mX6_faultOf_2) (fun _ h9 => h9) rfl dX6_faultOf_123 ?_
  refine lv_icmp_eq (tgt := 132) hx hb dX6_faultOf_126 (by decide) (fun q1 => ?_) (fun q1 => ?_)
  · have hf := ip hf q1
    refine lv_aload_n hx hb dX6_faultOf_132 rfl (lv_at hl 0 rfl) ?_
    refine lv_iload_n hx hb dX6_faultOf_133 rfl (lv_at hl 1 rfl) ?_
    obtain ⟨o2, ho2, hf⟩ := ob hf
    refine xj_i (va_runV (As := [.int p1]) (rest := []) ⟨hx, hb, hml, hown, hts⟩ (kX6_packetsEnding l D Y F a_h a_f a_fw a_p H.size h_fault h_place h_pageCount h_limit h_packetIsOpen h_lastWasRead h_serial h_latestTime f_most f_length f_overfull fw_n c_fw p1 o2 ho2) (cwV 1 hts gX6_faultOf_X6_packetsEnding rfl rfl rfl (by decide +kernel) ⟨Nat.le_of_ble_eq_true rfl, Nat.le_of_ble_eq_true rfl⟩) (prev_w (ci := 4) rfl rfl hK wd [0, 1, 2] rfl (by decide)) rfl rfl hl.1 rfl (lv_room (Nat.le_of_ble_eq_true rfl)) dX6_faultOf_134 ⟨Nat.zero_le _, Nat.zero_le _⟩) wd hS hA [0, 1, 2] [3, 4] rfl rfl (by decide) (by decide) (fun H locs wd hS => ?_)
    have wd : WD D A [oX4 a_p (.ref a_pb) (.ref a_pe) (.ref a_pt) p_packets, oX8 a_pb (.ref a_pbw) pb_most pb_length pb_overfull, oX6 a_h h_fault h_place h_pageCount (.ref a_f) h_limit (.ref a_p) h_packetIsOpen h_lastWasRead h_serial h_latestTime, oX8 a_f (.ref a_fw) f_most f_length f_overfull, aI Y a_fw fw_n c_fw] H := wd
    refine lv_istore (lv' := [(4, .int o2), (0, .ref a_h), (1, .int p1), (3, .int b122_l_3)]) hx hb dX6_faultOf_137 hl (by decide) rfl (fun ls hl => ?_)
    refine lv_aload_n hx hb dX6_faultOf_139 rfl (lv_at hl 1 rfl) ?_
    refine lv_aload_n hx hb dX6_faultOf_140 rfl (lv_at hl 1 rfl) ?_
    refine va_get (D := D) (ci := 4) (v := .ref a_f) (C := RX6) (T := TX6) (N := 10) hx hb hts iX6_faultOf_X6 hown hK wd.1 2 rfl rfl 3 (by decide) (hts _ mX6_faultOf_1) (fun _ h9 => h9) rfl dX6_faultOf_141 ?_
    refine lv_iload_n hx hb dX6_faultOf_144 rfl (lv_at hl 2 rfl) ?_
    refine lv_bipush (v := 6) hx hb dX6_faultOf_145 (by decide) ?_
    refine lv_iadd hx hb dX6_faultOf_147 ?_
    refine lv_bipush (v := 8) hx hb dX6_faultOf_148 (by decide) ?_
    obtain ⟨o3, ho3, hf⟩ := ob hf
    refine xj_l (va_runV (As := [.int (p1 + 6), .int 8]) (rest := [.ref a_h]) ⟨hx, hb, hml, hown, hts⟩ (kX8_lowFirst l D Y F a_f a_fw H.size f_most f_length f_overfull fw_n c_fw (p1 + 6) 8 o3 ho3) (cwV 2 hts gX6_faultOf_X8_lowFirst rfl rfl rfl (by decide +kernel) ⟨Nat.le_of_ble_eq_true rfl, Nat.le_of_ble_eq_true rfl⟩) (prev_w (ci := 6) rfl rfl hK wd [3, 4] rfl (by decide)) rfl rfl hl.1 rfl (lv_room (Nat.le_of_ble_eq_true rfl)) dX6_faultOf_150 ⟨Nat.zero_le _, Nat.zero_le _⟩) wd hS hA [3, 4] [0, 1, 2] rfl rfl (by decide) (by decide) (fun H locs wd hS => ?_)
    have wd : WD D A [oX4 a_p (.ref a_pb) (.ref a_pe) (.ref a_pt) p_packets, oX8 a_pb (.ref a_pbw) pb_most pb_length pb_overfull, oX6 a_h h_fault h_place h_pageCount (.ref a_f) h_limit (.ref a_p) h_packetIsOpen h_lastWasRead h_serial h_latestTime, oX8 a_f (.ref a_fw) f_most f_length f_overfull, aI Y a_fw fw_n c_fw] H := wd
    refine lv_iload hx hb dX6_faultOf_153 (lv_at hl 0 rfl) ?_
    obtain ⟨o4, ho4, hf⟩ := ob hf
    refine xj_i (va_runV (As := [.long o3, .int o2]) (rest := []) ⟨hx, hb, hml, hown, hts⟩ (kX6_isTimeWrong l D Y F a_h a_f a_p H.size h_fault h_place h_pageCount h_limit h_packetIsOpen h_lastWasRead h_serial h_latestTime o3 o2 o4 ho4) (cwV 2 hts gX6_faultOf_X6_isTimeWrong rfl rfl rfl (by decide +kernel) ⟨Nat.le_of_ble_eq_true rfl, Nat.le_of_ble_eq_true rfl⟩) (prev_w (ci := 4) rfl rfl hK wd [2] rfl (by decide)) rfl rfl hl.1 rfl (lv_room (Nat.le_of_ble_eq_true rfl)) dX6_faultOf_155 ⟨Nat.zero_le _, Nat.zero_le _⟩) wd hS hA [2] [0, 1, 3, 4] rfl rfl (by decide) (by decide) (fun H locs wd hS => ?_)
    have wd : WD D A [oX4 a_p (.ref a_pb) (.ref a_pe) (.ref a_pt) p_packets, oX8 a_pb (.ref a_pbw) pb_most pb_length pb_overfull, oX8 a_f (.ref a_fw) f_most f_length f_overfull, aI Y a_fw fw_n c_fw, oX6 a_h h_fault h_place h_pageCount (.ref a_f) h_limit (.ref a_p) h_packetIsOpen h_lastWasRead h_serial h_latestTime] H := wd
    refine lv_if_eq (tgt := 164) hx hb dX6_faultOf_158 (by decide) (fun q5 => ?_) (fun q5 => ?_)
    · have hf := ip hf q5
      refine lv_iload_n hx hb dX6_faultOf_164 rfl (lv_at hl 2 rfl) ?_
      refine lv_bipush (v := 27) hx hb dX6_faultOf_165 (by decide) ?_
      refine lv_iadd hx hb dX6_faultOf_167 ?_
      refine lv_aload_n hx hb dX6_faultOf_168 rfl (lv_at hl 1 rfl) ?_
      refine va_get (D := D) (ci := 4) (v := .ref a_f) (C := RX6) (T := TX6) (N := 10) hx hb hts iX6_faultOf_X6 hown hK wd.1 4 rfl rfl 3 (by decide) (hts _ mX6_faultOf_1) (fun _ h9 => h9) rfl dX6_faultOf_169 ?_
      refine lv_iload_n hx hb dX6_faultOf_172 rfl (lv_at hl 2 rfl) ?_
      refine lv_bipush (v := 26) hx hb dX6_faultOf_173 (by decide) ?_
      refine lv_iadd hx hb dX6_faultOf_175 ?_
      obtain ⟨o6, ho6, hf⟩ := ob hf
      refine xj_i (va_runV (As := [.int (p1 + 26)]) (rest := [.int (p1 + 27)]) ⟨hx, hb, hml, hown, hts⟩ (kX8_at l D Y F a_f a_fw H.size f_most f_length f_overfull fw_n c_fw (p1 + 26) o6 ho6) (cwV 1 hts gX6_faultOf_X8_at rfl rfl rfl (by decide +kernel) ⟨Nat.le_of_ble_eq_true rfl, Nat.le_of_ble_eq_true rfl⟩) (prev_w (ci := 6) rfl rfl hK wd [2, 3] rfl (by decide)) rfl rfl hl.1 rfl (lv_room (Nat.le_of_ble_eq_true rfl)) dX6_faultOf_176 ⟨Nat.zero_le _, Nat.zero_le _⟩) wd hS hA [2, 3] [0, 1, 4] rfl rfl (by decide) (by decide) (fun H locs wd hS => ?_)
      have wd : WD D A [oX4 a_p (.ref a_pb) (.ref a_pe) (.ref a_pt) p_packets, oX8 a_pb (.ref a_pbw) pb_most pb_length pb_overfull, oX6 a_h h_fault h_place h_pageCount (.ref a_f) h_limit (.ref a_p) h_packetIsOpen h_lastWasRead h_serial h_latestTime, oX8 a_f (.ref a_fw) f_most f_length f_overfull, aI Y a_fw fw_n c_fw] H := wd
      refine lv_iadd hx hb dX6_faultOf_179 ?_
      refine lv_topi (fun x7 ex7 => ?_)
      have hf := nm_at hf ex7
      refine lv_istore (lv' := [(5, .int x7), (4, .int o2), (0, .ref a_h), (1, .int p1), (3, .int b122_l_3)]) hx hb dX6_faultOf_180 hl (by decide) rfl (fun ls hl => ?_)
      refine lv_aload_n hx hb dX6_faultOf_182 rfl (lv_at hl 2 rfl) ?_
      refine va_get (D := D) (ci := 4) (v := .ref a_p) (C := RX6) (T := TX6) (N := 10) hx hb hts iX6_faultOf_X6 hown hK wd.1 2 rfl rfl 5 (by decide) (hts _ mX6_faultOf_3) (fun _ h9 => h9) rfl dX6_faultOf_183 ?_
      refine lv_iload hx hb dX6_faultOf_186 (lv_at hl 1 rfl) ?_
      refine lv_iload_n hx hb dX6_faultOf_188 rfl (lv_at hl 4 rfl) ?_
      refine lv_iload hx hb dX6_faultOf_189 (lv_at hl 0 rfl) ?_
      refine lv_isub hx hb dX6_faultOf_191 ?_
      obtain ⟨o8, ho8, hf⟩ := ob hf
      refine xj_i (va_runV (As := [.int o2, .int (b122_l_3 - x7)]) (rest := []) ⟨hx, hb, hml, hown, hts⟩ (kX4_hasRoom l D Y F a_p a_pb a_pe a_pt a_pbw H.size p_packets pb_most pb_length pb_overfull o2 (b122_l_3 - x7) o8 ho8) (cwV 2 hts gX6_faultOf_X4_hasRoom rfl rfl rfl (by decide +kernel) ⟨Nat.le_of_ble_eq_true rfl, Nat.le_of_ble_eq_true rfl⟩) (prev_w (ci := 3) rfl rfl hK wd [0, 1] rfl (by decide)) rfl rfl hl.1 rfl (lv_room (Nat.le_of_ble_eq_true rfl)) dX6_faultOf_192 ⟨Nat.zero_le _, Nat.zero_le _⟩) wd hS hA [0, 1] [2, 3, 4] rfl rfl (by decide) (by decide) (fun H locs wd hS => ?_)
      have wd : WD D A [oX6 a_h h_fault h_place h_pageCount (.ref a_f) h_limit (.ref a_p) h_packetIsOpen h_lastWasRead h_serial h_latestTime, oX8 a_f (.ref a_fw) f_most f_length f_overfull, aI Y a_fw fw_n c_fw, oX4 a_p (.ref a_pb) (.ref a_pe) (.ref a_pt) p_packets, oX8 a_pb (.ref a_pbw) pb_most pb_length pb_overfull] H := wd
      refine lv_if_eq (tgt := 202) hx hb dX6_faultOf_195 (by decide) (fun q9 => ?_) (fun q9 => ?_)
      · have hf := ip hf q9
        refine lv_bipush (v := 8) hx hb dX6_faultOf_202 (by decide) ?_
        exact wX6_faultOf_b204 D Y C hA hK F a_h a_f a_fw a_p a_pb a_pe a_pt a_pbw a_sF h_fault h_place h_pageCount h_limit h_packetIsOpen h_lastWasRead h_serial h_latestTime f_most f_length f_overfull fw_n c_fw p_packets pb_most pb_length pb_overfull p1 hX _ 8 hf wd hS (lv_sub hl [] rfl)
      · have hf := ie hf q9
        refine lv_iconst (v := 0) hx hb dX6_faultOf_198 (by decide) ?_
        refine lv_goto (tgt := 204) hx hb dX6_faultOf_199 (by decide) ?_
        exact wX6_faultOf_b204 D Y C hA hK F a_h a_f a_fw a_p a_pb a_pe a_pt a_pbw a_sF h_fault h_place h_pageCount h_limit h_packetIsOpen h_lastWasRead h_serial h_latestTime f_most f_length f_overfull fw_n c_fw p_packets pb_most pb_length pb_overfull p1 hX _ 0 hf wd hS (lv_sub hl [] rfl)
    · have hf := ie hf q5
      refine lv_bipush (v := 7) hx hb dX6_faultOf_161 (by decide) ?_
      obtain rfl := Option.some.inj hf
      exact W.iret (v := 7) hx hb hr (fun t ht hW => ⟨⟨_, (), rfl, rfl, WD.pst (wd.sub [4, 2, 3, 0, 1] rfl (by decide)) hK ht hW⟩, hS.F ht⟩) hS.2.2 dX6_faultOf_163
  · have hf := ie hf q1
    refine lv_bipush (v := 6) hx hb dX6_faultOf_129 (by decide) ?_
    obtain rfl := Option.some.inj hf
    exact W.iret (v := 6) hx hb hr (fun t ht hW => ⟨⟨_, (), rfl, rfl, WD.pst wd hK ht hW⟩, hS.F ht⟩) hS.2.2 dX6_faultOf_131

set_option maxHeartbeats 4000000 in
set_option maxRecDepth 100000 in
theorem wX6_faultOf {p : Program} {l : Launch} {e : Env} {s : State} {m : MethodId} {args : Array Value} {below : List Frame} {meth : Method} {c : Code} {A : Nat → Prop} (D : va_G) (Y : Y4) (C : CX p s m meth c args cX6_faultOf 6 (some .int) wsX6_faultOf RX6) (hA : ∀ q : Nat, s.heap.size ≤ q → A q) (hK : va_K D vwCl (TY Y) s) (F : Nat) (a_h : Nat) (a_f : Nat) (a_fw : Nat) (a_p : Nat) (a_pb : Nat) (a_pe : Nat) (a_pt : Nat) (a_pbw : Nat) (a_sF : Nat) (h_fault : Int32) (h_place : Int32) (h_pageCount : Int32) (h_limit : Int32) (h_packetIsOpen : Int32) (h_lastWasRead : Int32) (h_serial : Int32) (h_latestTime : Int64) (f_most : Int32) (f_length : Int32) (f_overfull : Int32) (fw_n : Nat) (c_fw : (Nat → Int32)) (p_packets : Int32) (pb_most : Int32) (pb_length : Int32) (pb_overfull : Int32) (p1 : Int32) (hX : ST [e_sF a_sF] A s) (res : Int32) (hf : fX6_faultOf F h_pageCount h_limit h_packetIsOpen h_lastWasRead h_serial h_latestTime f_length fw_n c_fw p_packets pb_length p1 = some res) {H : Heap} {locs : List Loc} {ls : Array Slot} (wd : WD D A [oX6 a_h h_fault h_place h_pageCount (.ref a_f) h_limit (.ref a_p) h_packetIsOpen h_lastWasRead h_serial h_latestTime, oX8 a_f (.ref a_fw) f_most f_length f_overfull, aI Y a_fw fw_n c_fw, oX4 a_p (.ref a_pb) (.ref a_pe) (.ref a_pt) p_packets, oX8 a_pb (.ref a_pbw) pb_most pb_length pb_overfull] H) (hS : va_S A s.heap H locs) (hl : lv_has ls 6 [(0, .ref a_h), (1, .int p1)]) : W p l e { frames := 4, cells := 0, slots := 0, locals := 90 } s m args below meth c H locs 0 0 (MQ below (va_Qi (fun r (_ : Unit) => r = res) (fun _ t => PST D Y A [oX6 a_h h_fault h_place h_pageCount (.ref a_f) h_limit (.ref a_p) h_packetIsOpen h_lastWasRead h_serial h_latestTime, oX8 a_f (.ref a_fw) f_most f_length f_overfull, aI Y a_fw fw_n c_fw, oX4 a_p (.ref a_pb) (.ref a_pe) (.ref a_pt) p_packets, oX8 a_pb (.ref a_pbw) pb_most pb_length pb_overfull] t) A) args s 0 0 A) (F0 m 0 ls []) := by
  obtain ⟨hx, hb, hml, hr, hts, hown, hlocks⟩ := id C
  obtain ⟨hZ_sF, hT_sF⟩ := (hX _ (List.mem_of_getElem? (i := 0) rfl)).2
  unfold fX6_faultOf at hf
  refine lv_aload_n hx hb dX6_faultOf_0 rfl (lv_at hl 0 rfl) ?_
  refine va_get (D := D) (ci := 4) (v := .int h_limit) (C := RX6) (T := TX6) (N := 10) hx hb hts iX6_faultOf_X6 hown hK wd.1 0 rfl rfl 4 (by decide) (hts _ mX6_faultOf_0) (fun _ h9 => h9) rfl dX6_faultOf_1 ?_
  refine lv_iload_n hx hb dX6_faultOf_4 rfl (lv_at hl 1 rfl) ?_
  refine lv_isub hx hb dX6_faultOf_5 ?_
  refine lv_bipush (v := 27) hx hb dX6_faultOf_6 (by decide) ?_
  refine lv_icmp_ge (tgt := 13) hx hb dX6_faultOf_8 (by decide) (fun q1 => ?_) (fun q1 => ?_)
  · have hf := ip hf q1
    refine lv_aload_n hx hb dX6_faultOf_13 rfl (lv_at hl 0 rfl) ?_
    refine va_get (D := D) (ci := 4) (v := .ref a_f) (C := RX6) (T := TX6) (N := 10) hx hb hts iX6_faultOf_X6 hown hK wd.1 0 rfl rfl 3 (by decide) (hts _ mX6_faultOf_1) (fun _ h9 => h9) rfl dX6_faultOf_14 ?_
    refine lv_iload_n hx hb dX6_faultOf_17 rfl (lv_at hl 1 rfl) ?_
    obtain ⟨o2, ho2, hf⟩ := ob hf
    refine xj_i (va_runS (As := [.ref a_f, .int p1]) (rest := []) ⟨hx, hb, hml, hown, hts⟩ (kX5_isMarked l D Y F a_f a_fw H.size f_most f_length f_overfull fw_n c_fw p1 o2 ho2) (va_cwS 2 hts gX6_faultOf_X5_isMarked rfl rfl rfl (by decide +kernel) ⟨Nat.le_of_ble_eq_true rfl, Nat.le_of_ble_eq_true rfl⟩) (pres_w hK wd [1, 2] rfl (by decide)) rfl rfl hl.1 rfl (lv_room (Nat.le_of_ble_eq_true rfl)) dX6_faultOf_18 ⟨Nat.zero_le _, Nat.zero_le _⟩) wd hS hA [1, 2] [0, 3, 4] rfl rfl (by decide) (by decide) (fun H locs wd hS => ?_)
    have wd : WD D A [oX6 a_h h_fault h_place h_pageCount (.ref a_f) h_limit (.ref a_p) h_packetIsOpen h_lastWasRead h_serial h_latestTime, oX4 a_p (.ref a_pb) (.ref a_pe) (.ref a_pt) p_packets, oX8 a_pb (.ref a_pbw) pb_most pb_length pb_overfull, oX8 a_f (.ref a_fw) f_most f_length f_overfull, aI Y a_fw fw_n c_fw] H := wd
    refine lv_if_ne (tgt := 26) hx hb dX6_faultOf_21 (by decide) (fun q3 => ?_) (fun q3 => ?_)
    · have hf := ie hf q3
      refine lv_aload_n hx hb dX6_faultOf_26 rfl (lv_at hl 0 rfl) ?_
      refine va_get (D := D) (ci := 4) (v := .ref a_f) (C := RX6) (T := TX6) (N := 10) hx hb hts iX6_faultOf_X6 hown hK wd.1 0 rfl rfl 3 (by decide) (hts _ mX6_faultOf_1) (fun _ h9 => h9) rfl dX6_faultOf_27 ?_
      refine lv_iload_n hx hb dX6_faultOf_30 rfl (lv_at hl 1 rfl) ?_
      refine lv_iconst (v := 5) hx hb dX6_faultOf_31 (by decide) ?_
      refine lv_iadd hx hb dX6_faultOf_32 ?_
      obtain ⟨o4, ho4, hf⟩ := ob hf
      refine xj_i (va_runV (As := [.int (p1 + 5)]) (rest := []) ⟨hx, hb, hml, hown, hts⟩ (kX8_at l D Y F a_f a_fw H.size f_most f_length f_overfull fw_n c_fw (p1 + 5) o4 ho4) (cwV 1 hts gX6_faultOf_X8_at rfl rfl rfl (by decide +kernel) ⟨Nat.le_of_ble_eq_true rfl, Nat.le_of_ble_eq_true rfl⟩) (prev_w (ci := 6) rfl rfl hK wd [3, 4] rfl (by decide)) rfl rfl hl.1 rfl (lv_room (Nat.le_of_ble_eq_true rfl)) dX6_faultOf_33 ⟨Nat.zero_le _, Nat.zero_le _⟩) wd hS hA [3, 4] [0, 1, 2] rfl rfl (by decide) (by decide) (fun H locs wd hS => ?_)
      have wd : WD D A [oX6 a_h h_fault h_place h_pageCount (.ref a_f) h_limit (.ref a_p) h_packetIsOpen h_lastWasRead h_serial h_latestTime, oX4 a_p (.ref a_pb) (.ref a_pe) (.ref a_pt) p_packets, oX8 a_pb (.ref a_pbw) pb_most pb_length pb_overfull, oX8 a_f (.ref a_fw) f_most f_length f_overfull, aI Y a_fw fw_n c_fw] H := wd
      refine lv_istore_n (lv' := [(2, .int o4), (0, .ref a_h), (1, .int p1)]) hx hb dX6_faultOf_36 rfl hl (by decide) rfl (fun ls hl => ?_)
      refine lv_aload_n hx hb dX6_faultOf_37 rfl (lv_at hl 1 rfl) ?_
      refine va_get (D := D) (ci := 4) (v := .ref a_f) (C := RX6) (T := TX6) (N := 10) hx hb hts iX6_faultOf_X6 hown hK wd.1 0 rfl rfl 3 (by decide) (hts _ mX6_faultOf_1) (fun _ h9 => h9) rfl dX6_faultOf_38 ?_
      refine lv_iload_n hx hb dX6_faultOf_41 rfl (lv_at hl 2 rfl) ?_
      refine lv_iconst (v := 4) hx hb dX6_faultOf_42 (by decide) ?_
      refine lv_iadd hx hb dX6_faultOf_43 ?_
      obtain ⟨o5, ho5, hf⟩ := ob hf
      refine xj_i (va_runV (As := [.int (p1 + 4)]) (rest := []) ⟨hx, hb, hml, hown, hts⟩ (kX8_at l D Y F a_f a_fw H.size f_most f_length f_overfull fw_n c_fw (p1 + 4) o5 ho5) (cwV 1 hts gX6_faultOf_X8_at rfl rfl rfl (by decide +kernel) ⟨Nat.le_of_ble_eq_true rfl, Nat.le_of_ble_eq_true rfl⟩) (prev_w (ci := 6) rfl rfl hK wd [3, 4] rfl (by decide)) rfl rfl hl.1 rfl (lv_room (Nat.le_of_ble_eq_true rfl)) dX6_faultOf_44 ⟨Nat.zero_le _, Nat.zero_le _⟩) wd hS hA [3, 4] [0, 1, 2] rfl rfl (by decide) (by decide) (fun H locs wd hS => ?_)
      have wd : WD D A [oX6 a_h h_fault h_place h_pageCount (.ref a_f) h_limit (.ref a_p) h_packetIsOpen h_lastWasRead h_serial h_latestTime, oX4 a_p (.ref a_pb) (.ref a_pe) (.ref a_pt) p_packets, oX8 a_pb (.ref a_pbw) pb_most pb_length pb_overfull, oX8 a_f (.ref a_fw) f_most f_length f_overfull, aI Y a_fw fw_n c_fw] H := wd
      refine lv_if_ne (tgt := 56) hx hb dX6_faultOf_47 (by decide) (fun q6 => ?_) (fun q6 => ?_)
      · have hf := ie hf q6
        refine lv_iconst (v := 3) hx hb dX6_faultOf_56 (by decide) ?_
        obtain rfl := Option.some.inj hf
        exact W.iret (v := 3) hx hb hr (fun t ht hW => ⟨⟨_, (), rfl, rfl, WD.pst (wd.sub [0, 3, 4, 1, 2] rfl (by decide)) hK ht hW⟩, hS.F ht⟩) hS.2.2 dX6_faultOf_57
      · have hf := ip hf q6
        refine lv_iload_n hx hb dX6_faultOf_50 rfl (lv_at hl 0 rfl) ?_
        refine lv_bipush (v := 7) hx hb dX6_faultOf_51 (by decide) ?_
        refine lv_icmp_le (tgt := 58) hx hb dX6_faultOf_53 (by decide) (fun q7 => ?_) (fun q7 => ?_)
        · have hf := ip hf q7
          refine lv_aload_n hx hb dX6_faultOf_58 rfl (lv_at hl 1 rfl) ?_
          refine va_get (D := D) (ci := 4) (v := .ref a_f) (C := RX6) (T := TX6) (N := 10) hx hb hts iX6_faultOf_X6 hown hK wd.1 0 rfl rfl 3 (by decide) (hts _ mX6_faultOf_1) (fun _ h9 => h9) rfl dX6_faultOf_59 ?_
          refine lv_iload_n hx hb dX6_faultOf_62 rfl (lv_at hl 2 rfl) ?_
          refine lv_aload_n hx hb dX6_faultOf_63 rfl (lv_at hl 1 rfl) ?_
          refine va_get (D := D) (ci := 4) (v := .int h_limit) (C := RX6) (T := TX6) (N := 10) hx hb hts iX6_faultOf_X6 hown hK wd.1 0 rfl rfl 4 (by decide) (hts _ mX6_faultOf_0) (fun _ h9 => h9) rfl dX6_faultOf_64 ?_
          obtain ⟨o8, ho8, hf⟩ := ob hf
          refine xj_i (va_runS (As := [.ref a_f, .int p1, .int h_limit]) (rest := []) ⟨hx, hb, hml, hown, hts⟩ (kX5_endOf l D Y F a_f a_fw H.size f_most f_length f_overfull fw_n c_fw p1 h_limit o8 ho8) (va_cwS 3 hts gX6_faultOf_X5_endOf rfl rfl rfl (by decide +kernel) ⟨Nat.le_of_ble_eq_true rfl, Nat.le_of_ble_eq_true rfl⟩) (pres_w hK wd [3, 4] rfl (by decide)) rfl rfl hl.1 rfl (lv_room (Nat.le_of_ble_eq_true rfl)) dX6_faultOf_67 ⟨Nat.zero_le _, Nat.zero_le _⟩) wd hS hA [3, 4] [0, 1, 2] rfl rfl (by decide) (by decide) (fun H locs wd hS => ?_)
          have wd : WD D A [oX6 a_h h_fault h_place h_pageCount (.ref a_f) h_limit (.ref a_p) h_packetIsOpen h_lastWasRead h_serial h_latestTime, oX4 a_p (.ref a_pb) (.ref a_pe) (.ref a_pt) p_packets, oX8 a_pb (.ref a_pbw) pb_most pb_length pb_overfull, oX8 a_f (.ref a_fw) f_most f_length f_overfull, aI Y a_fw fw_n c_fw] H := wd
          refine lv_istore_n (lv' := [(3, .int o8), (2, .int o4), (0, .ref a_h), (1, .int p1)]) hx hb dX6_faultOf_70 rfl hl (by decide) rfl (fun ls hl => ?_)
          refine lv_iload_n hx hb dX6_faultOf_71 rfl (lv_at hl 0 rfl) ?_
          refine lv_iconst (v := (-1)) hx hb dX6_faultOf_72 (by decide) ?_
          refine lv_icmp_ne (tgt := 78) hx hb dX6_faultOf_73 (by decide) (fun q9 => ?_) (fun q9 => ?_)
          · have hf := ie hf q9
            refine lv_aload_n hx hb dX6_faultOf_78 rfl (lv_at hl 2 rfl) ?_
            refine va_get (D := D) (ci := 4) (v := .ref a_f) (C := RX6) (T := TX6) (N := 10) hx hb hts iX6_faultOf_X6 hown hK wd.1 0 rfl rfl 3 (by decide) (hts _ mX6_faultOf_1) (fun _ h9 => h9) rfl dX6_faultOf_79 ?_
            refine lv_iload_n hx hb dX6_faultOf_82 rfl (lv_at hl 3 rfl) ?_
            refine lv_iload_n hx hb dX6_faultOf_83 rfl (lv_at hl 0 rfl) ?_
            obtain ⟨o10, ho10, hf⟩ := ob hf
            refine xj_i (va_runS (As := [.ref a_f, .int p1, .int o8]) (rest := []) ⟨hx, hb, hml, hown, hts⟩ (kX5_sumOf l D Y F a_f a_fw a_sF H.size f_most f_length f_overfull fw_n c_fw p1 o8 o10 ho10) (va_cwS 3 hts gX6_faultOf_X5_sumOf rfl rfl rfl (by decide +kernel) ⟨Nat.le_of_ble_eq_true rfl, Nat.le_of_ble_eq_true rfl⟩) (pres_wx hK wd [3, 4] rfl (by decide) hA hX (fun q hq => hq) hS) rfl rfl hl.1 rfl (lv_room (Nat.le_of_ble_eq_true rfl)) dX6_faultOf_84 ⟨Nat.zero_le _, Nat.zero_le _⟩) wd hS hA [3, 4] [0, 1, 2] rfl rfl (by decide) (by decide) (fun H locs wd hS => ?_)
            have wd : WD D A [oX6 a_h h_fault h_place h_pageCount (.ref a_f) h_limit (.ref a_p) h_packetIsOpen h_lastWasRead h_serial h_latestTime, oX4 a_p (.ref a_pb) (.ref a_pe) (.ref a_pt) p_packets, oX8 a_pb (.ref a_pbw) pb_most pb_length pb_overfull, oX8 a_f (.ref a_fw) f_most f_length f_overfull, aI Y a_fw fw_n c_fw] H := wd
            refine lv_aload_n hx hb dX6_faultOf_87 rfl (lv_at hl 2 rfl) ?_
            refine lv_iload_n hx hb dX6_faultOf_88 rfl (lv_at hl 3 rfl) ?_
            refine lv_bipush (v := 22) hx hb dX6_faultOf_89 (by decide) ?_
            refine lv_iadd hx hb dX6_faultOf_91 ?_
            obtain ⟨o11, ho11, hf⟩ := ob hf
            refine xj_i (va_runV (As := [.int (p1 + 22)]) (rest := [.int o10]) ⟨hx, hb, hml, hown, hts⟩ (kX6_numberAt l D Y F a_h a_f a_fw a_p H.size h_fault h_place h_pageCount h_limit h_packetIsOpen h_lastWasRead h_serial h_latestTime f_most f_length f_overfull fw_n c_fw (p1 + 22) o11 ho11) (cwV 1 hts gX6_faultOf_X6_numberAt rfl rfl rfl (by decide +kernel) ⟨Nat.le_of_ble_eq_true rfl, Nat.le_of_ble_eq_true rfl⟩) (prev_w (ci := 4) rfl rfl hK wd [0, 3, 4] rfl (by decide)) rfl rfl hl.1 rfl (lv_room (Nat.le_of_ble_eq_true rfl)) dX6_faultOf_92 ⟨Nat.zero_le _, Nat.zero_le _⟩) wd hS hA [0, 3, 4] [1, 2] rfl rfl (by decide) (by decide) (fun H locs wd hS => ?_)
            have wd : WD D A [oX4 a_p (.ref a_pb) (.ref a_pe) (.ref a_pt) p_packets, oX8 a_pb (.ref a_pbw) pb_most pb_length pb_overfull, oX6 a_h h_fault h_place h_pageCount (.ref a_f) h_limit (.ref a_p) h_packetIsOpen h_lastWasRead h_serial h_latestTime, oX8 a_f (.ref a_fw) f_most f_length f_overfull, aI Y a_fw fw_n c_fw] H := wd
            refine lv_icmp_eq (tgt := 100) hx hb dX6_faultOf_95 (by decide) (fun q12 => ?_) (fun q12 => ?_)
            · have hf := ip hf q12
              refine lv_aload_n hx hb dX6_faultOf_100 rfl (lv_at hl 2 rfl) ?_
              refine lv_iload_n hx hb dX6_faultOf_101 rfl (lv_at hl 3 rfl) ?_
              refine lv_iload_n hx hb dX6_faultOf_102 rfl (lv_at hl 1 rfl) ?_
              obtain ⟨o13, ho13, hf⟩ := ob hf
              refine xj_i (va_runV (As := [.int p1, .int o4]) (rest := []) ⟨hx, hb, hml, hown, hts⟩ (kX6_isOutOfOrder l D Y F a_h a_f a_fw a_p H.size h_fault h_place h_pageCount h_limit h_packetIsOpen h_lastWasRead h_serial h_latestTime f_most f_length f_overfull fw_n c_fw p1 o4 o13 ho13) (cwV 2 hts gX6_faultOf_X6_isOutOfOrder rfl rfl rfl (by decide +kernel) ⟨Nat.le_of_ble_eq_true rfl, Nat.le_of_ble_eq_true rfl⟩) (prev_w (ci := 4) rfl rfl hK wd [2, 3, 4] rfl (by decide)) rfl rfl hl.1 rfl (lv_room (Nat.le_of_ble_eq_true rfl)) dX6_faultOf_103 ⟨Nat.zero_le _, Nat.zero_le _⟩) wd hS hA [2, 3, 4] [0, 1] rfl rfl (by decide) (by decide) (fun H locs wd hS => ?_)
              have wd : WD D A [oX4 a_p (.ref a_pb) (.ref a_pe) (.ref a_pt) p_packets, oX8 a_pb (.ref a_pbw) pb_most pb_length pb_overfull, oX6 a_h h_fault h_place h_pageCount (.ref a_f) h_limit (.ref a_p) h_packetIsOpen h_lastWasRead h_serial h_latestTime, oX8 a_f (.ref a_fw) f_most f_length f_overfull, aI Y a_fw fw_n c_fw] H := wd
              refine lv_if_eq (tgt := 111) hx hb dX6_faultOf_106 (by decide) (fun q14 => ?_) (fun q14 => ?_)
              · have hf := ip hf q14
                refine lv_iload_n hx hb dX6_faultOf_111 rfl (lv_at hl 1 rfl) ?_
                refine lv_iconst (v := 1) hx hb dX6_faultOf_112 (by decide) ?_
                refine lv_iand hx hb dX6_faultOf_113 ?_
                refine lv_if_eq (tgt := 121) hx hb dX6_faultOf_114 (by decide) (fun q15 => ?_) (fun q15 => ?_)
                · have hf := ip hf q15
                  refine lv_iconst (v := 0) hx hb dX6_faultOf_121 (by decide) ?_
                  exact wX6_faultOf_b122 D Y C hA hK F a_h a_f a_fw a_p a_pb a_pe a_pt a_pbw a_sF h_fault h_place h_pageCount h_limit h_packetIsOpen h_lastWasRead h_serial h_latestTime f_most f_length f_overfull fw_n c_fw p_packets pb_most pb_length pb_overfull p1 hX _ o8 0 hf (wd.sub [2, 3, 4, 0, 1] rfl (by decide)) hS (lv_sub hl [2, 3, 0] rfl)
                · have hf := ie hf q15
                  refine lv_iconst (v := 1) hx hb dX6_faultOf_117 (by decide) ?_
                  refine lv_goto (tgt := 122) hx hb dX6_faultOf_118 (by decide) ?_
                  exact wX6_faultOf_b122 D Y C hA hK F a_h a_f a_fw a_p a_pb a_pe a_pt a_pbw a_sF h_fault h_place h_pageCount h_limit h_packetIsOpen h_lastWasRead h_serial h_latestTime f_most f_length f_overfull fw_n c_fw p_packets pb_most pb_length pb_overfull p1 hX _ o8 1 hf (wd.sub [2, 3, 4, 0, 1] rfl (by decide)) hS (lv_sub hl [2, 3, 0] rfl)
              · have hf := ie hf q14
                refine lv_iconst (v := 5) hx hb dX6_faultOf_109 (by decide) ?_
                obtain rfl := Option.some.inj hf
                exact W.iret (v := 5) hx hb hr (fun t ht hW => ⟨⟨_, (), rfl, rfl, WD.pst (wd.sub [2, 3, 4, 0, 1] rfl (by decide)) hK ht hW⟩, hS.F ht⟩) hS.2.2 dX6_faultOf_110
            · have hf := ie hf q12
              refine lv_iconst (v := 4) hx hb dX6_faultOf_98 (by decide) ?_
              obtain rfl := Option.some.inj hf
              exact W.iret (v := 4) hx hb hr (fun t ht hW => ⟨⟨_, (), rfl, rfl, WD.pst (wd.sub [2, 3, 4, 0, 1] rfl (by decide)) hK ht hW⟩, hS.F ht⟩) hS.2.2 dX6_faultOf_99
          · have hf := ip hf q9
            refine lv_iconst (v := 1) hx hb dX6_faultOf_76 (by decide) ?_
            obtain rfl := Option.some.inj hf
            exact W.iret (v := 1) hx hb hr (fun t ht hW => ⟨⟨_, (), rfl, rfl, WD.pst (wd.sub [0, 3, 4, 1, 2] rfl (by decide)) hK ht hW⟩, hS.F ht⟩) hS.2.2 dX6_faultOf_77
        · have hf := ie hf q7
          refine lv_iconst (v := 3) hx hb dX6_faultOf_56 (by decide) ?_
          obtain rfl := Option.some.inj hf
          exact W.iret (v := 3) hx hb hr (fun t ht hW => ⟨⟨_, (), rfl, rfl, WD.pst (wd.sub [0, 3, 4, 1, 2] rfl (by decide)) hK ht hW⟩, hS.F ht⟩) hS.2.2 dX6_faultOf_57
    · have hf := ip hf q3
      refine lv_iconst (v := 2) hx hb dX6_faultOf_24 (by decide) ?_
      obtain rfl := Option.some.inj hf
      exact W.iret (v := 2) hx hb hr (fun t ht hW => ⟨⟨_, (), rfl, rfl, WD.pst (wd.sub [0, 3, 4, 1, 2] rfl (by decide)) hK ht hW⟩, hS.F ht⟩) hS.2.2 dX6_faultOf_25
  · have hf := ie hf q1
    refine lv_iconst (v := 1) hx hb dX6_faultOf_11 (by decide) ?_
    obtain rfl := Option.some.inj hf
    exact W.iret (v := 1) hx hb hr (fun t ht hW => ⟨⟨_, (), rfl, rfl, WD.pst wd hK ht hW⟩, hS.F ht⟩) hS.2.2 dX6_faultOf_12
set_option maxHeartbeats 4000000 in
set_option maxRecDepth 100000 in
theorem kX6_faultOf (l : Launch) (D : va_G) (Y : Y4) (F : Nat) (a_h : Nat) (a_f : Nat) (a_fw : Nat) (a_p : Nat) (a_pb : Nat) (a_pe : Nat) (a_pt : Nat) (a_pbw : Nat) (a_sF : Nat) (sz : Nat) (h_fault : Int32) (h_place : Int32) (h_pageCount : Int32) (h_limit : Int32) (h_packetIsOpen : Int32) (h_lastWasRead : Int32) (h_serial : Int32) (h_latestTime : Int64) (f_most : Int32) (f_length : Int32) (f_overfull : Int32) (fw_n : Nat) (c_fw : (Nat → Int32)) (p_packets : Int32) (pb_most : Int32) (pb_length : Int32) (pb_overfull : Int32) (p1 : Int32) (res : Int32) (hf : fX6_faultOf F h_pageCount h_limit h_packetIsOpen h_lastWasRead h_serial h_latestTime f_length fw_n c_fw p_packets pb_length p1 = some res) : Met l yX6_faultOf wsX6_faultOf ({ frames := 4, cells := 0, slots := 0, locals := 90 }) (va_Pc [.ref a_h, .int p1] (PREX D Y [oX6 a_h h_fault h_place h_pageCount (.ref a_f) h_limit (.ref a_p) h_packetIsOpen h_lastWasRead h_serial h_latestTime, oX8 a_f (.ref a_fw) f_most f_length f_overfull, aI Y a_fw fw_n c_fw, oX4 a_p (.ref a_pb) (.ref a_pe) (.ref a_pt) p_packets, oX8 a_pb (.ref a_pbw) pb_most pb_length pb_overfull] sz [e_sF a_sF])) (va_Qi (fun r (_ : Unit) => r = res) (fun _ t => PST D Y (va_A [oX6 a_h h_fault h_place h_pageCount (.ref a_f) h_limit (.ref a_p) h_packetIsOpen h_lastWasRead h_serial h_latestTime, oX8 a_f (.ref a_fw) f_most f_length f_overfull, aI Y a_fw fw_n c_fw, oX4 a_p (.ref a_pb) (.ref a_pe) (.ref a_pt) p_packets, oX8 a_pb (.ref a_pbw) pb_most pb_length pb_overfull] sz) [oX6 a_h h_fault h_place h_pageCount (.ref a_f) h_limit (.ref a_p) h_packetIsOpen h_lastWasRead h_serial h_latestTime, oX8 a_f (.ref a_fw) f_most f_length f_overfull, aI Y a_fw fw_n c_fw, oX4 a_p (.ref a_pb) (.ref a_pe) (.ref a_pt) p_packets, oX8 a_pb (.ref a_pbw) pb_most pb_length pb_overfull] t) (va_A [oX6 a_h h_fault h_place h_pageCount (.ref a_f) h_limit (.ref a_p) h_packetIsOpen h_lastWasRead h_serial h_latestTime, oX8 a_f (.ref a_fw) f_most f_length f_overfull, aI Y a_fw fw_n c_fw, oX4 a_p (.ref a_pb) (.ref a_pe) (.ref a_pt) p_packets, oX8 a_pb (.ref a_pbw) pb_most pb_length pb_overfull] sz)) 0 0 (va_A [oX6 a_h h_fault h_place h_pageCount (.ref a_f) h_limit (.ref a_p) h_packetIsOpen h_lastWasRead h_serial h_latestTime, oX8 a_f (.ref a_fw) f_most f_length f_overfull, aI Y a_fw fw_n c_fw, oX4 a_p (.ref a_pb) (.ref a_pe) (.ref a_pt) p_packets, oX8 a_pb (.ref a_pbw) pb_most pb_length pb_overfull] sz) := by
  refine Met.ofW (cc := cX6_faultOf) (maxL := 6) (ret := (some .int)) (by decide) rfl ?_
  intro p e s m args below meth c s₁ B hml hv
  obtain ⟨rfl, ⟨rfl, hP, hK, hD0⟩, hX⟩ := hv
  have hl := lv_entry ([.ref a_h, .int p1]) (n := 6) (Nat.le_of_ble_eq_true rfl)
  rw [lg_entry_eq]
  exact wX6_faultOf D Y ⟨B.exec, B.bytes, hml, B.returns, atoms_spec (ws := wsX6_faultOf) B.pre, findClass_of_methodNamed B.named, B.notSynchronized⟩ (fun q h => Or.inr h) hK F a_h a_f a_fw a_p a_pb a_pe a_pt a_pbw a_sF h_fault h_place h_pageCount h_limit h_packetIsOpen h_lastWasRead h_serial h_latestTime f_most f_length f_overfull fw_n c_fw p_packets pb_most pb_length pb_overfull p1 hX res hf ⟨hP, hD0.self⟩ va_S.rf hl
theorem mX6_takePage_0 : Cond.fieldLink RX6 9 "StreamRemuxer$PageReader" "file" "LStreamRemuxer$Row;" ∈ wsX6_takePage := List.mem_cons_of_mem _ u_448
theorem mX6_takePage_1 : Cond.fieldLink RX6 33 "StreamRemuxer$PageReader" "latestTime" "J" ∈ wsX6_takePage := List.mem_cons_of_mem _ u_454
theorem mX6_takePage_2 : Cond.fieldLink RX6 19 "StreamRemuxer$PageReader" "target" "LStreamRemuxer$PacketList;" ∈ wsX6_takePage := List.mem_cons_of_mem _ u_450
theorem mX6_takePage_3 : Cond.fieldLink RX6 102 "StreamRemuxer$PacketList" "bytes" "LStreamRemuxer$Row;" ∈ wsX6_takePage := List.mem_cons_of_mem _ u_502
theorem mX6_takePage_4 : Cond.fieldLink RX6 26 "StreamRemuxer$PageReader" "packetIsOpen" "Z" ∈ wsX6_takePage := List.mem_cons_of_mem _ u_452
theorem mX6_takePage_5 : Cond.constantLong RX6 98 (-1) ∈ wsX6_takePage := List.mem_cons_of_mem _ u_495
theorem mX6_takePage_6 : Cond.fieldLink RX6 30 "StreamRemuxer$PageReader" "lastWasRead" "Z" ∈ wsX6_takePage := List.mem_cons_of_mem _ u_453
theorem mX6_takePage_7 : Cond.fieldLink RX6 95 "StreamRemuxer$PageReader" "serial" "I" ∈ wsX6_takePage := List.mem_cons_of_mem _ u_486
theorem mX6_takePage_8 : Cond.fieldLink RX6 23 "StreamRemuxer$PageReader" "pageCount" "I" ∈ wsX6_takePage := List.mem_cons_of_mem _ u_451
theorem iX6_takePage_X4 : ∀ w ∈ wsX40, w ∈ wsX6_takePage := fun w h => List.mem_cons_of_mem _ (inlX4 w h)
theorem iX6_takePage_X6 : ∀ w ∈ wsX60, w ∈ wsX6_takePage := fun w h => List.mem_cons_of_mem _ (inlX6 w h)
set_option maxHeartbeats 4000000 in
set_option maxRecDepth 100000 in
theorem wX6_takePage_b154 {p : Program} {l : Launch} {e : Env} {s : State} {m : MethodId} {args : Array Value} {below : List Frame} {meth : Method} {c : Code} {A : Nat → Prop} (D : va_G) (Y : Y4) (C : CX p s m meth c args cX6_takePage 9 (some .int) wsX6_takePage RX6) (hA : ∀ q : Nat, s.heap.size ≤ q → A q) (hK : va_K D vwCl (TY Y) s) (F : Nat) (a_h : Nat) (a_f : Nat) (a_fw : Nat) (a_p : Nat) (a_pb : Nat) (a_pbw : Nat) (a_pe : Nat) (a_pt : Nat) (h_fault : Int32) (h_place : Int32) (h_pageCount : Int32) (h_limit : Int32) (h_packetIsOpen : Int32) (h_lastWasRead : Int32) (h_serial : Int32) (h_latestTime : Int64) (f_most : Int32) (f_length : Int32) (f_overfull : Int32) (fw_n : Nat) (c_fw : (Nat → Int32)) (p_packets : Int32) (pb_most : Int32) (pb_length : Int32) (pb_overfull : Int32) (pbw_n : Nat) (c_pbw : (Nat → Int32)) (c_pe : (Nat → Int32)) (c_pt : (Nat → Int64)) (p1 : Int32) (res : Int32 × Int32 × Int32 × Int32 × Int32 × Int64 × Int32 × Int32 × Int32 × (Nat → Int32) × (Nat → Int32) × (Nat → Int64)) (rc61 : Int32 → Int32 → Int32 → Int32 → Int64 → Int32 → Int64 → Int32 → Int32 → Int32 → (Nat → Int32) → (Nat → Int32) → (Nat → Int64) → Option (Int32 × Int32 × Int32 × Int32 × Int32 × Int64 × Int32 × Int32 × Int32 × (Nat → Int32) × (Nat → Int32) × (Nat → Int64))) (hrc61 : ∀ (b61_l_7 : Int32) (b61_l_6 : Int32) (b61_l_2 : Int32) (b61_l_3 : Int32) (b61_l_4 : Int64) (b61_f_h_6 : Int32) (b61_f_h_9 : Int64) (b61_f_p_3 : Int32) (b61_f_pb_2 : Int32) (b61_f_pb_3 : Int32) (b61_c_pbw : (Nat → Int32)) (b61_c_pe : (Nat → Int32)) (b61_c_pt : (Nat → Int64)), rc61 b61_l_7 b61_l_6 b61_l_2 b61_l_3 b61_l_4 b61_f_h_6 b61_f_h_9 b61_f_p_3 b61_f_pb_2 b61_f_pb_3 b61_c_pbw b61_c_pe b61_c_pt = some res → ∀ {H : Heap} {locs : List Loc} {ls : Array Slot}, WD D A [oX6 a_h h_fault h_place h_pageCount (.ref a_f) h_limit (.ref a_p) b61_f_h_6 h_lastWasRead h_serial b61_f_h_9, oX8 a_f (.ref a_fw) f_most f_length f_overfull, aI Y a_fw fw_n c_fw, oX4 a_p (.ref a_pb) (.ref a_pe) (.ref a_pt) b61_f_p_3, oX8 a_pb (.ref a_pbw) pb_most b61_f_pb_2 b61_f_pb_3, aI Y a_pbw pbw_n b61_c_pbw, aI Y a_pe 64 b61_c_pe, aJ Y a_pt 64 b61_c_pt] H → va_S A s.heap H locs → lv_has ls 9 [(0, .ref a_h), (1, .int p1), (2, .int b61_l_2), (3, .int b61_l_3), (4, .long b61_l_4), (6, .int b61_l_6), (7, .int b61_l_7)] → W p l e { frames := 3, cells := 0, slots := 0, locals := 68 } s m args below meth c H locs 0 0 (MQ below (va_Qi (fun r (_ : Unit) => r = res.1) (fun _ t => PST D Y A [oX6 a_h h_fault h_place res.2.1 (.ref a_f) h_limit (.ref a_p) res.2.2.1 res.2.2.2.1 res.2.2.2.2.1 res.2.2.2.2.2.1, oX8 a_f (.ref a_fw) f_most f_length f_overfull, aI Y a_fw fw_n c_fw, oX4 a_p (.ref a_pb) (.ref a_pe) (.ref a_pt) res.2.2.2.2.2.2.1, oX8 a_pb (.ref a_pbw) pb_most res.2.2.2.2.2.2.2.1 res.2.2.2.2.2.2.2.2.1, aI Y a_pbw pbw_n res.2.2.2.2.2.2.2.2.2.1, aI Y a_pe 64 res.2.2.2.2.2.2.2.2.2.2.1, aJ Y a_pt 64 res.2.2.2.2.2.2.2.2.2.2.2] t) A) args s 0 0 A) (F0 m 61 ls [])) (b154_l_2 : Int32) (b154_l_3 : Int32) (b154_l_4 : Int64) (b154_l_6 : Int32) (b154_l_7 : Int32) (b154_f_h_6 : Int32) (b154_f_h_9 : Int64) (b154_f_p_3 : Int32) (b154_f_pb_2 : Int32) (b154_f_pb_3 : Int32) (b154_c_pbw : (Nat → Int32)) (b154_c_pe : (Nat → Int32)) (b154_c_pt : (Nat → Int64)) (hf : fX6_takePage_b154 F rc61 b154_l_2 b154_l_3 b154_l_4 b154_l_6 b154_l_7 b154_f_h_6 b154_f_h_9 b154_f_p_3 b154_f_pb_2 b154_f_pb_3 b154_c_pbw b154_c_pe b154_c_pt = some res) {H : Heap} {locs : List Loc} {ls : Array Slot} (wd : WD D A [oX6 a_h h_fault h_place h_pageCount (.ref a_f) h_limit (.ref a_p) b154_f_h_6 h_lastWasRead h_serial b154_f_h_9, oX8 a_f (.ref a_fw) f_most f_length f_overfull, aI Y a_fw fw_n c_fw, oX4 a_p (.ref a_pb) (.ref a_pe) (.ref a_pt) b154_f_p_3, oX8 a_pb (.ref a_pbw) pb_most b154_f_pb_2 b154_f_pb_3, aI Y a_pbw pbw_n b154_c_pbw, aI Y a_pe 64 b154_c_pe, aJ Y a_pt 64 b154_c_pt] H) (hS : va_S A s.heap H locs) (hl : lv_has ls 9 [(0, .ref a_h), (1, .int p1), (2, .int b154_l_2), (3, .int b154_l_3), (4, .long b154_l_4), (6, .int b154_l_6), (7, .int b154_l_7)]) : W p l e { frames := 3, cells := 0, slots := 0, locals := 68 } s m args below meth c H locs 0 0 (MQ below (va_Qi (fun r (_ : Unit) => r = res.1) (fun _ t => PST D Y A [oX6 a_h h_fault h_place res.2.1 (.ref a_f) h_limit (.ref a_p) res.2.2.1 res.2.2.2.1 res.2.2.2.2.1 res.2.2.2.2.2.1, oX8 a_f (.ref a_fw) f_most f_length f_overfull, aI Y a_fw fw_n c_fw, oX4 a_p (.ref a_pb) (.ref a_pe) (.ref a_pt) res.2.2.2.2.2.2.1, oX8 a_pb (.ref a_pbw) pb_most res.2.2.2.2.2.2.2.1 res.2.2.2.2.2.2.2.2.1, aI Y a_pbw pbw_n res.2.2.2.2.2.2.2.2.2.1, aI Y a_pe 64 res.2.2.2.2.2.2.2.2.2.2.1, aJ Y a_pt 64 res.2.2.2.2.2.2.2.2.2.2.2] t) A) args s 0 0 A) (F0 m 154 ls []) := by
  obtain ⟨hx, hb, hml, hr, hts, hown, hlocks⟩ := id C
  unfold fX6_takePage_b154 at hf
  obtain ⟨x1, ex1⟩ : ∃ y : Int32, y = b154_l_7 + 1 := ⟨_, rfl⟩
  have hf := nm_at hf ex1
  refine lv_iinc (v := x1) (lv' := [(7, .int x1), (0, .ref a_h), (1, .int p1), (2, .int b154_l_2), (3, .int b154_l_3), (4, .long b154_l_4), (6, .int b154_l_6)]) hx hb dX6_takePage_154 hl (k := 6) rfl (by rw [ex1]; rfl) (by decide) rfl (fun ls hl => ?_)
  refine lv_goto (tgt := 61) hx hb dX6_takePage_157 (by decide) ?_
  exact hrc61 x1 b154_l_6 b154_l_2 b154_l_3 b154_l_4 b154_f_h_6 b154_f_h_9 b154_f_p_3 b154_f_pb_2 b154_f_pb_3 b154_c_pbw b154_c_pe b154_c_pt hf wd hS (lv_sub hl [1, 2, 3, 4, 5, 6, 0] rfl)

set_option maxHeartbeats 4000000 in
set_option maxRecDepth 100000 in
theorem wX6_takePage_b151 {p : Program} {l : Launch} {e : Env} {s : State} {m : MethodId} {args : Array Value} {below : List Frame} {meth : Method} {c : Code} {A : Nat → Prop} (D : va_G) (Y : Y4) (C : CX p s m meth c args cX6_takePage 9 (some .int) wsX6_takePage RX6) (hA : ∀ q : Nat, s.heap.size ≤ q → A q) (hK : va_K D vwCl (TY Y) s) (F : Nat) (a_h : Nat) (a_f : Nat) (a_fw : Nat) (a_p : Nat) (a_pb : Nat) (a_pbw : Nat) (a_pe : Nat) (a_pt : Nat) (h_fault : Int32) (h_place : Int32) (h_pageCount : Int32) (h_limit : Int32) (h_packetIsOpen : Int32) (h_lastWasRead : Int32) (h_serial : Int32) (h_latestTime : Int64) (f_most : Int32) (f_length : Int32) (f_overfull : Int32) (fw_n : Nat) (c_fw : (Nat → Int32)) (p_packets : Int32) (pb_most : Int32) (pb_length : Int32) (pb_overfull : Int32) (pbw_n : Nat) (c_pbw : (Nat → Int32)) (c_pe : (Nat → Int32)) (c_pt : (Nat → Int64)) (p1 : Int32) (res : Int32 × Int32 × Int32 × Int32 × Int32 × Int64 × Int32 × Int32 × Int32 × (Nat → Int32) × (Nat → Int32) × (Nat → Int64)) (rc61 : Int32 → Int32 → Int32 → Int32 → Int64 → Int32 → Int64 → Int32 → Int32 → Int32 → (Nat → Int32) → (Nat → Int32) → (Nat → Int64) → Option (Int32 × Int32 × Int32 × Int32 × Int32 × Int64 × Int32 × Int32 × Int32 × (Nat → Int32) × (Nat → Int32) × (Nat → Int64))) (hrc61 : ∀ (b61_l_7 : Int32) (b61_l_6 : Int32) (b61_l_2 : Int32) (b61_l_3 : Int32) (b61_l_4 : Int64) (b61_f_h_6 : Int32) (b61_f_h_9 : Int64) (b61_f_p_3 : Int32) (b61_f_pb_2 : Int32) (b61_f_pb_3 : Int32) (b61_c_pbw : (Nat → Int32)) (b61_c_pe : (Nat → Int32)) (b61_c_pt : (Nat → Int64)), rc61 b61_l_7 b61_l_6 b61_l_2 b61_l_3 b61_l_4 b61_f_h_6 b61_f_h_9 b61_f_p_3 b61_f_pb_2 b61_f_pb_3 b61_c_pbw b61_c_pe b61_c_pt = some res → ∀ {H : Heap} {locs : List Loc} {ls : Array Slot}, WD D A [oX6 a_h h_fault h_place h_pageCount (.ref a_f) h_limit (.ref a_p) b61_f_h_6 h_lastWasRead h_serial b61_f_h_9, oX8 a_f (.ref a_fw) f_most f_length f_overfull, aI Y a_fw fw_n c_fw, oX4 a_p (.ref a_pb) (.ref a_pe) (.ref a_pt) b61_f_p_3, oX8 a_pb (.ref a_pbw) pb_most b61_f_pb_2 b61_f_pb_3, aI Y a_pbw pbw_n b61_c_pbw, aI Y a_pe 64 b61_c_pe, aJ Y a_pt 64 b61_c_pt] H → va_S A s.heap H locs → lv_has ls 9 [(0, .ref a_h), (1, .int p1), (2, .int b61_l_2), (3, .int b61_l_3), (4, .long b61_l_4), (6, .int b61_l_6), (7, .int b61_l_7)] → W p l e { frames := 3, cells := 0, slots := 0, locals := 68 } s m args below meth c H locs 0 0 (MQ below (va_Qi (fun r (_ : Unit) => r = res.1) (fun _ t => PST D Y A [oX6 a_h h_fault h_place res.2.1 (.ref a_f) h_limit (.ref a_p) res.2.2.1 res.2.2.2.1 res.2.2.2.2.1 res.2.2.2.2.2.1, oX8 a_f (.ref a_fw) f_most f_length f_overfull, aI Y a_fw fw_n c_fw, oX4 a_p (.ref a_pb) (.ref a_pe) (.ref a_pt) res.2.2.2.2.2.2.1, oX8 a_pb (.ref a_pbw) pb_most res.2.2.2.2.2.2.2.1 res.2.2.2.2.2.2.2.2.1, aI Y a_pbw pbw_n res.2.2.2.2.2.2.2.2.2.1, aI Y a_pe 64 res.2.2.2.2.2.2.2.2.2.2.1, aJ Y a_pt 64 res.2.2.2.2.2.2.2.2.2.2.2] t) A) args s 0 0 A) (F0 m 61 ls [])) (b151_l_3 : Int32) (b151_l_2 : Int32) (b151_l_4 : Int64) (b151_l_6 : Int32) (b151_l_7 : Int32) (b151_s_0 : Int64) (b151_f_h_6 : Int32) (b151_f_h_9 : Int64) (b151_f_p_3 : Int32) (b151_f_pb_2 : Int32) (b151_f_pb_3 : Int32) (b151_c_pbw : (Nat → Int32)) (b151_c_pe : (Nat → Int32)) (b151_c_pt : (Nat → Int64)) (hf : fX6_takePage_b151 F rc61 b151_l_3 b151_l_2 b151_l_4 b151_l_6 b151_l_7 b151_s_0 b151_f_h_6 b151_f_h_9 b151_f_p_3 b151_f_pb_2 b151_f_pb_3 b151_c_pbw b151_c_pe b151_c_pt = some res) {H : Heap} {locs : List Loc} {ls : Array Slot} (wd : WD D A [oX6 a_h h_fault h_place h_pageCount (.ref a_f) h_limit (.ref a_p) b151_f_h_6 h_lastWasRead h_serial b151_f_h_9, oX8 a_f (.ref a_fw) f_most f_length f_overfull, aI Y a_fw fw_n c_fw, oX4 a_p (.ref a_pb) (.ref a_pe) (.ref a_pt) b151_f_p_3, oX8 a_pb (.ref a_pbw) pb_most b151_f_pb_2 b151_f_pb_3, aI Y a_pbw pbw_n b151_c_pbw, aI Y a_pe 64 b151_c_pe, aJ Y a_pt 64 b151_c_pt] H) (hS : va_S A s.heap H locs) (hl : lv_has ls 9 [(0, .ref a_h), (1, .int p1), (2, .int b151_l_2), (3, .int b151_l_3), (4, .long b151_l_4), (6, .int b151_l_6), (7, .int b151_l_7)]) : W p l e { frames := 3, cells := 0, slots := 0, locals := 68 } s m args below meth c H locs 0 0 (MQ below (va_Qi (fun r (_ : Unit) => r = res.1) (fun _ t => PST D Y A [oX6 a_h h_fault h_place res.2.1 (.ref a_f) h_limit (.ref a_p) res.2.2.1 res.2.2.2.1 res.2.2.2.2.1 res.2.2.2.2.2.1, oX8 a_f (.ref a_fw) f_most f_length f_overfull, aI Y a_fw fw_n c_fw, oX4 a_p (.ref a_pb) (.ref a_pe) (.ref a_pt) res.2.2.2.2.2.2.1, oX8 a_pb (.ref a_pbw) pb_most res.2.2.2.2.2.2.2.1 res.2.2.2.2.2.2.2.2.1, aI Y a_pbw pbw_n res.2.2.2.2.2.2.2.2.2.1, aI Y a_pe 64 res.2.2.2.2.2.2.2.2.2.2.1, aJ Y a_pt 64 res.2.2.2.2.2.2.2.2.2.2.2] t) A) args s 0 0 A) (F0 m 151 ls [.long b151_s_0, .ref a_p]) := by
  obtain ⟨hx, hb, hml, hr, hts, hown, hlocks⟩ := id C
  unfold fX6_takePage_b151 at hf
  obtain ⟨o1, ho1, hf⟩ := ob hf
  refine xj_v (va_runV (As := [.long b151_s_0]) (rest := []) ⟨hx, hb, hml, hown, hts⟩ (kX4_endPacket l D Y F a_p a_pb a_pe a_pt a_pbw H.size b151_f_p_3 pb_most b151_f_pb_2 b151_f_pb_3 b151_c_pe b151_c_pt b151_s_0 o1 ho1) (cwV 1 hts gX6_takePage_X4_endPacket rfl rfl rfl (by decide +kernel) ⟨Nat.le_of_ble_eq_true rfl, Nat.le_of_ble_eq_true rfl⟩) (prev_w (ci := 3) rfl rfl hK wd [3, 4, 6, 7] rfl (by decide)) rfl rfl hl.1 rfl (lv_room (Nat.le_of_ble_eq_true rfl)) dX6_takePage_151 ⟨Nat.zero_le _, Nat.zero_le _⟩) wd hS hA [3, 4, 6, 7] [0, 1, 2, 5] rfl rfl (by decide) (by decide) (fun H locs wd hS => ?_)
  have wd : WD D A [oX6 a_h h_fault h_place h_pageCount (.ref a_f) h_limit (.ref a_p) b151_f_h_6 h_lastWasRead h_serial b151_f_h_9, oX8 a_f (.ref a_fw) f_most f_length f_overfull, aI Y a_fw fw_n c_fw, aI Y a_pbw pbw_n b151_c_pbw, oX4 a_p (.ref a_pb) (.ref a_pe) (.ref a_pt) o1.1, oX8 a_pb (.ref a_pbw) pb_most b151_f_pb_2 b151_f_pb_3, aI Y a_pe 64 o1.2.1, aJ Y a_pt 64 o1.2.2] H := wd
  exact wX6_takePage_b154 D Y C hA hK F a_h a_f a_fw a_p a_pb a_pbw a_pe a_pt h_fault h_place h_pageCount h_limit h_packetIsOpen h_lastWasRead h_serial h_latestTime f_most f_length f_overfull fw_n c_fw p_packets pb_most pb_length pb_overfull pbw_n c_pbw c_pe c_pt p1 _ rc61 hrc61 b151_l_2 b151_l_3 b151_l_4 b151_l_6 b151_l_7 b151_f_h_6 b151_f_h_9 o1.1 b151_f_pb_2 b151_f_pb_3 b151_c_pbw o1.2.1 o1.2.2 hf (wd.sub [0, 1, 2, 4, 5, 3, 6, 7] rfl (by decide)) hS (lv_sub hl [0, 1, 2, 3, 4, 5, 6] rfl)

set_option maxHeartbeats 4000000 in
set_option maxRecDepth 100000 in
theorem wX6_takePage_b122 {p : Program} {l : Launch} {e : Env} {s : State} {m : MethodId} {args : Array Value} {below : List Frame} {meth : Method} {c : Code} {A : Nat → Prop} (D : va_G) (Y : Y4) (C : CX p s m meth c args cX6_takePage 9 (some .int) wsX6_takePage RX6) (hA : ∀ q : Nat, s.heap.size ≤ q → A q) (hK : va_K D vwCl (TY Y) s) (F : Nat) (a_h : Nat) (a_f : Nat) (a_fw : Nat) (a_p : Nat) (a_pb : Nat) (a_pbw : Nat) (a_pe : Nat) (a_pt : Nat) (h_fault : Int32) (h_place : Int32) (h_pageCount : Int32) (h_limit : Int32) (h_packetIsOpen : Int32) (h_lastWasRead : Int32) (h_serial : Int32) (h_latestTime : Int64) (f_most : Int32) (f_length : Int32) (f_overfull : Int32) (fw_n : Nat) (c_fw : (Nat → Int32)) (p_packets : Int32) (pb_most : Int32) (pb_length : Int32) (pb_overfull : Int32) (pbw_n : Nat) (c_pbw : (Nat → Int32)) (c_pe : (Nat → Int32)) (c_pt : (Nat → Int64)) (p1 : Int32) (res : Int32 × Int32 × Int32 × Int32 × Int32 × Int64 × Int32 × Int32 × Int32 × (Nat → Int32) × (Nat → Int32) × (Nat → Int64)) (rc61 : Int32 → Int32 → Int32 → Int32 → Int64 → Int32 → Int64 → Int32 → Int32 → Int32 → (Nat → Int32) → (Nat → Int32) → (Nat → Int64) → Option (Int32 × Int32 × Int32 × Int32 × Int32 × Int64 × Int32 × Int32 × Int32 × (Nat → Int32) × (Nat → Int32) × (Nat → Int64))) (hrc61 : ∀ (b61_l_7 : Int32) (b61_l_6 : Int32) (b61_l_2 : Int32) (b61_l_3 : Int32) (b61_l_4 : Int64) (b61_f_h_6 : Int32) (b61_f_h_9 : Int64) (b61_f_p_3 : Int32) (b61_f_pb_2 : Int32) (b61_f_pb_3 : Int32) (b61_c_pbw : (Nat → Int32)) (b61_c_pe : (Nat → Int32)) (b61_c_pt : (Nat → Int64)), rc61 b61_l_7 b61_l_6 b61_l_2 b61_l_3 b61_l_4 b61_f_h_6 b61_f_h_9 b61_f_p_3 b61_f_pb_2 b61_f_pb_3 b61_c_pbw b61_c_pe b61_c_pt = some res → ∀ {H : Heap} {locs : List Loc} {ls : Array Slot}, WD D A [oX6 a_h h_fault h_place h_pageCount (.ref a_f) h_limit (.ref a_p) b61_f_h_6 h_lastWasRead h_serial b61_f_h_9, oX8 a_f (.ref a_fw) f_most f_length f_overfull, aI Y a_fw fw_n c_fw, oX4 a_p (.ref a_pb) (.ref a_pe) (.ref a_pt) b61_f_p_3, oX8 a_pb (.ref a_pbw) pb_most b61_f_pb_2 b61_f_pb_3, aI Y a_pbw pbw_n b61_c_pbw, aI Y a_pe 64 b61_c_pe, aJ Y a_pt 64 b61_c_pt] H → va_S A s.heap H locs → lv_has ls 9 [(0, .ref a_h), (1, .int p1), (2, .int b61_l_2), (3, .int b61_l_3), (4, .long b61_l_4), (6, .int b61_l_6), (7, .int b61_l_7)] → W p l e { frames := 3, cells := 0, slots := 0, locals := 68 } s m args below meth c H locs 0 0 (MQ below (va_Qi (fun r (_ : Unit) => r = res.1) (fun _ t => PST D Y A [oX6 a_h h_fault h_place res.2.1 (.ref a_f) h_limit (.ref a_p) res.2.2.1 res.2.2.2.1 res.2.2.2.2.1 res.2.2.2.2.2.1, oX8 a_f (.ref a_fw) f_most f_length f_overfull, aI Y a_fw fw_n c_fw, oX4 a_p (.ref a_pb) (.ref a_pe) (.ref a_pt) res.2.2.2.2.2.2.1, oX8 a_pb (.ref a_pbw) pb_most res.2.2.2.2.2.2.2.1 res.2.2.2.2.2.2.2.2.1, aI Y a_pbw pbw_n res.2.2.2.2.2.2.2.2.2.1, aI Y a_pe 64 res.2.2.2.2.2.2.2.2.2.2.1, aJ Y a_pt 64 res.2.2.2.2.2.2.2.2.2.2.2] t) A) args s 0 0 A) (F0 m 61 ls [])) (b122_l_6 : Int32) (b122_l_2 : Int32) (b122_l_3 : Int32) (b122_l_4 : Int64) (b122_l_7 : Int32) (b122_s_0 : Int32) (b122_f_h_6 : Int32) (b122_f_h_9 : Int64) (b122_f_p_3 : Int32) (b122_c_pe : (Nat → Int32)) (b122_c_pt : (Nat → Int64)) (b122_f_pb_2 : Int32) (b122_f_pb_3 : Int32) (b122_c_pbw : (Nat → Int32)) (hf : fX6_takePage_b122 F rc61 b122_l_6 b122_l_2 b122_l_3 b122_l_4 b122_l_7 b122_s_0 b122_f_h_6 b122_f_h_9 b122_f_p_3 b122_c_pe b122_c_pt b122_f_pb_2 b122_f_pb_3 b122_c_pbw = some res) {H : Heap} {locs : List Loc} {ls : Array Slot} (wd : WD D A [oX6 a_h h_fault h_place h_pageCount (.ref a_f) h_limit (.ref a_p) b122_f_h_6 h_lastWasRead h_serial b122_f_h_9, oX8 a_f (.ref a_fw) f_most f_length f_overfull, aI Y a_fw fw_n c_fw, oX4 a_p (.ref a_pb) (.ref a_pe) (.ref a_pt) b122_f_p_3, oX8 a_pb (.ref a_pbw) pb_most b122_f_pb_2 b122_f_pb_3, aI Y a_pbw pbw_n b122_c_pbw, aI Y a_pe 64 b122_c_pe, aJ Y a_pt 64 b122_c_pt] H) (hS : va_S A s.heap H locs) (hl : lv_has ls 9 [(0, .ref a_h), (1, .int p1), (2, .int b122_l_2), (3, .int b122_l_3), (4, .long b122_l_4), (6, .int b122_l_6), (7, .int b122_l_7)]) : W p l e { frames := 3, cells := 0, slots := 0, locals := 68 } s m args below meth c H locs 0 0 (MQ below (va_Qi (fun r (_ : Unit) => r = res.1) (fun _ t => PST D Y A [oX6 a_h h_fault h_place res.2.1 (.ref a_f) h_limit (.ref a_p) res.2.2.1 res.2.2.2.1 res.2.2.2.2.1 res.2.2.2.2.2.1, oX8 a_f (.ref a_fw) f_most f_length f_overfull, aI Y a_fw fw_n c_fw, oX4 a_p (.ref a_pb) (.ref a_pe) (.ref a_pt) res.2.2.2.2.2.2.1, oX8 a_pb (.ref a_pbw) pb_most res.2.2.2.2.2.2.2.1 res.2.2.2.2.2.2.2.2.1, aI Y a_pbw pbw_n res.2.2.2.2.2.2.2.2.2.1, aI Y a_pe 64 res.2.2.2.2.2.2.2.2.2.2.1, aJ Y a_pt 64 res.2.2.2.2.2.2.2.2.2.2.2] t) A) args s 0 0 A) (F0 m 122 ls [.int b122_s_0, .ref a_h]) := by
  obtain ⟨hx, hb, hml, hr, hts, hown, hlocks⟩ := id C
  unfold fX6_takePage_b122 at hf
  obtain ⟨hz1, hf⟩ := gd hf
  refine va_put (D := D) (ci := 4) (v := .int b122_s_0) (ty := .boolean) (C := RX6) (T := TX6) (N := 10) hx hb hts iX6_takePage_X6 tyX6 tyX6_ok nmX6 hown hK wd.1 wd.2 hS 0 rfl rfl 6 (by decide) (hts _ mX6_takePage_4) (fun _ h9 => h9) rfl (by decide +kernel) (isb_nar hz1) (isb_fit hz1) (Nat.le_of_ble_eq_true rfl) dX6_takePage_122 (fun H locs hP hD hS => ?_)
  have wd : WD D A [oX6 a_h h_fault h_place h_pageCount (.ref a_f) h_limit (.ref a_p) b122_s_0 h_lastWasRead h_serial b122_f_h_9, oX8 a_f (.ref a_fw) f_most f_length f_overfull, aI Y a_fw fw_n c_fw, oX4 a_p (.ref a_pb) (.ref a_pe) (.ref a_pt) b122_f_p_3, oX8 a_pb (.ref a_pbw) pb_most b122_f_pb_2 b122_f_pb_3, aI Y a_pbw pbw_n b122_c_pbw, aI Y a_pe 64 b122_c_pe, aJ Y a_pt 64 b122_c_pt] H := ⟨hP, hD⟩
  clear hP hD
  refine lv_aload_n hx hb dX6_takePage_125 rfl (lv_at hl 0 rfl) ?_
  refine va_get (D := D) (ci := 4) (v := .int b122_s_0) (C := RX6) (T := TX6) (N := 10) hx hb hts iX6_takePage_X6 hown hK wd.1 0 rfl rfl 6 (by decide) (hts _ mX6_takePage_4) (fun _ h9 => h9) rfl dX6_takePage_126 ?_
  refine lv_if_ne (tgt := 154) hx hb dX6_takePage_129 (by decide) (fun q2 => ?_) (fun q2 => ?_)
  · have hf := ie hf q2
    exact wX6_takePage_b154 D Y C hA hK F a_h a_f a_fw a_p a_pb a_pbw a_pe a_pt h_fault h_place h_pageCount h_limit h_packetIsOpen h_lastWasRead h_serial h_latestTime f_most f_length f_overfull fw_n c_fw p_packets pb_most pb_length pb_overfull pbw_n c_pbw c_pe c_pt p1 _ rc61 hrc61 b122_l_2 b122_l_3 b122_l_4 b122_l_6 b122_l_7 b122_s_0 b122_f_h_9 b122_f_p_3 b122_f_pb_2 b122_f_pb_3 b122_c_pbw b122_c_pe b122_c_pt hf wd hS (lv_sub hl [0, 1, 2, 3, 4, 5, 6] rfl)
  · have hf := ip hf q2
    obtain ⟨x3, ex3⟩ : ∃ y : Int32, y = b122_l_3 + (-1) := ⟨_, rfl⟩
    have hf := nm_at hf ex3
    refine lv_iinc (v := x3) (lv' := [(3, .int x3), (0, .ref a_h), (1, .int p1), (2, .int b122_l_2), (4, .long b122_l_4), (6, .int b122_l_6), (7, .int b122_l_7)]) hx hb dX6_takePage_132 hl (k := 3) rfl (by rw [ex3]; rfl) (by decide) rfl (fun ls hl => ?_)
    refine lv_aload_n hx hb dX6_takePage_135 rfl (lv_at hl 1 rfl) ?_
    refine va_get (D := D) (ci := 4) (v := .ref a_p) (C := RX6) (T := TX6) (N := 10) hx hb hts iX6_takePage_X6 hown hK wd.1 0 rfl rfl 5 (by decide) (hts _ mX6_takePage_2) (fun _ h9 => h9) rfl dX6_takePage_136 ?_
    refine lv_iload_n hx hb dX6_takePage_139 rfl (lv_at hl 0 rfl) ?_
    refine lv_if_ne (tgt := 148) hx hb dX6_takePage_140 (by decide) (fun q4 => ?_) (fun q4 => ?_)
    · have hf := ie hf q4
      refine lv_ldc2 hx hb hown (hts _ mX6_takePage_5) dX6_takePage_148 ?_
      exact wX6_takePage_b151 D Y C hA hK F a_h a_f a_fw a_p a_pb a_pbw a_pe a_pt h_fault h_place h_pageCount h_limit h_packetIsOpen h_lastWasRead h_serial h_latestTime f_most f_length f_overfull fw_n c_fw p_packets pb_most pb_length pb_overfull pbw_n c_pbw c_pe c_pt p1 _ rc61 hrc61 x3 b122_l_2 b122_l_4 b122_l_6 b122_l_7 (-1) b122_s_0 b122_f_h_9 b122_f_p_3 b122_f_pb_2 b122_f_pb_3 b122_c_pbw b122_c_pe b122_c_pt hf wd hS (lv_sub hl [1, 2, 3, 0, 4, 5, 6] rfl)
    · have hf := ip hf q4
      refine lv_lload hx hb dX6_takePage_143 (lv_at hl 4 rfl) ?_
      refine lv_goto (tgt := 151) hx hb dX6_takePage_145 (by decide) ?_
      exact wX6_takePage_b151 D Y C hA hK F a_h a_f a_fw a_p a_pb a_pbw a_pe a_pt h_fault h_place h_pageCount h_limit h_packetIsOpen h_lastWasRead h_serial h_latestTime f_most f_length f_overfull fw_n c_fw p_packets pb_most pb_length pb_overfull pbw_n c_pbw c_pe c_pt p1 _ rc61 hrc61 x3 b122_l_2 b122_l_4 b122_l_6 b122_l_7 b122_l_4 b122_s_0 b122_f_h_9 b122_f_p_3 b122_f_pb_2 b122_f_pb_3 b122_c_pbw b122_c_pe b122_c_pt hf wd hS (lv_sub hl [1, 2, 3, 0, 4, 5, 6] rfl)

set_option maxHeartbeats 4000000 in
set_option maxRecDepth 100000 in
theorem wX6_takePage_b181 {p : Program} {l : Launch} {e : Env} {s : State} {m : MethodId} {args : Array Value} {below : List Frame} {meth : Method} {c : Code} {A : Nat → Prop} (D : va_G) (Y : Y4) (C : CX p s m meth c args cX6_takePage 9 (some .int) wsX6_takePage RX6) (hA : ∀ q : Nat, s.heap.size ≤ q → A q) (hK : va_K D vwCl (TY Y) s) (F : Nat) (a_h : Nat) (a_f : Nat) (a_fw : Nat) (a_p : Nat) (a_pb : Nat) (a_pbw : Nat) (a_pe : Nat) (a_pt : Nat) (h_fault : Int32) (h_place : Int32) (h_pageCount : Int32) (h_limit : Int32) (h_packetIsOpen : Int32) (h_lastWasRead : Int32) (h_serial : Int32) (h_latestTime : Int64) (f_most : Int32) (f_length : Int32) (f_overfull : Int32) (fw_n : Nat) (c_fw : (Nat → Int32)) (p_packets : Int32) (pb_most : Int32) (pb_length : Int32) (pb_overfull : Int32) (pbw_n : Nat) (c_pbw : (Nat → Int32)) (c_pe : (Nat → Int32)) (c_pt : (Nat → Int64)) (p1 : Int32) (res : Int32 × Int32 × Int32 × Int32 × Int32 × Int64 × Int32 × Int32 × Int32 × (Nat → Int32) × (Nat → Int32) × (Nat → Int64)) (b181_l_6 : Int32) (b181_s_0 : Int32) (b181_f_h_6 : Int32) (b181_f_h_9 : Int64) (b181_f_p_3 : Int32) (b181_f_pb_2 : Int32) (b181_f_pb_3 : Int32) (b181_c_pbw : (Nat → Int32)) (b181_c_pe : (Nat → Int32)) (b181_c_pt : (Nat → Int64)) (hf : fX6_takePage_b181 F h_pageCount f_length fw_n c_fw p1 b181_l_6 b181_s_0 b181_f_h_6 b181_f_h_9 b181_f_p_3 b181_f_pb_2 b181_f_pb_3 b181_c_pbw b181_c_pe b181_c_pt = some res) {H : Heap} {locs : List Loc} {ls : Array Slot} (wd : WD D A [oX6 a_h h_fault h_place h_pageCount (.ref a_f) h_limit (.ref a_p) b181_f_h_6 h_lastWasRead h_serial b181_f_h_9, oX8 a_f (.ref a_fw) f_most f_length f_overfull, aI Y a_fw fw_n c_fw, oX4 a_p (.ref a_pb) (.ref a_pe) (.ref a_pt) b181_f_p_3, oX8 a_pb (.ref a_pbw) pb_most b181_f_pb_2 b181_f_pb_3, aI Y a_pbw pbw_n b181_c_pbw, aI Y a_pe 64 b181_c_pe, aJ Y a_pt 64 b181_c_pt] H) (hS : va_S A s.heap H locs) (hl : lv_has ls 9 [(0, .ref a_h), (1, .int p1), (6, .int b181_l_6)]) : W p l e { frames := 3, cells := 0, slots := 0, locals := 68 } s m args below meth c H locs 0 0 (MQ below (va_Qi (fun r (_ : Unit) => r = res.1) (fun _ t => PST D Y A [oX6 a_h h_fault h_place res.2.1 (.ref a_f) h_limit (.ref a_p) res.2.2.1 res.2.2.2.1 res.2.2.2.2.1 res.2.2.2.2.2.1, oX8 a_f (.ref a_fw) f_most f_length f_overfull, aI Y a_fw fw_n c_fw, oX4 a_p (.ref a_pb) (.ref a_pe) (.ref a_pt) res.2.2.2.2.2.2.1, oX8 a_pb (.ref a_pbw) pb_most res.2.2.2.2.2.2.2.1 res.2.2.2.2.2.2.2.2.1, aI Y a_pbw pbw_n res.2.2.2.2.2.2.2.2.2.1, aI Y a_pe 64 res.2.2.2.2.2.2.2.2.2.2.1, aJ Y a_pt 64 res.2.2.2.2.2.2.2.2.2.2.2] t) A) args s 0 0 A) (F0 m 181 ls [.int b181_s_0, .ref a_h]) := by
  obtain ⟨hx, hb, hml, hr, hts, hown, hlocks⟩ := id C
  unfold fX6_takePage_b181 at hf
  obtain ⟨hz1, hf⟩ := gd hf
  refine va_put (D := D) (ci := 4) (v := .int b181_s_0) (ty := .boolean) (C := RX6) (T := TX6) (N := 10) hx hb hts iX6_takePage_X6 tyX6 tyX6_ok nmX6 hown hK wd.1 wd.2 hS 0 rfl rfl 7 (by decide) (hts _ mX6_takePage_6) (fun _ h9 => h9) rfl (by decide +kernel) (isb_nar hz1) (isb_fit hz1) (Nat.le_of_ble_eq_true rfl) dX6_takePage_181 (fun H locs hP hD hS => ?_)
  have wd : WD D A [oX6 a_h h_fault h_place h_pageCount (.ref a_f) h_limit (.ref a_p) b181_f_h_6 b181_s_0 h_serial b181_f_h_9, oX8 a_f (.ref a_fw) f_most f_length f_overfull, aI Y a_fw fw_n c_fw, oX4 a_p (.ref a_pb) (.ref a_pe) (.ref a_pt) b181_f_p_3, oX8 a_pb (.ref a_pbw) pb_most b181_f_pb_2 b181_f_pb_3, aI Y a_pbw pbw_n b181_c_pbw, aI Y a_pe 64 b181_c_pe, aJ Y a_pt 64 b181_c_pt] H := ⟨hP, hD⟩
  clear hP hD
  refine lv_aload_n hx hb dX6_takePage_184 rfl (lv_at hl 0 rfl) ?_
  refine lv_aload_n hx hb dX6_takePage_185 rfl (lv_at hl 0 rfl) ?_
  refine lv_iload_n hx hb dX6_takePage_186 rfl (lv_at hl 1 rfl) ?_
  refine lv_bipush (v := 14) hx hb dX6_takePage_187 (by decide) ?_
  refine lv_iadd hx hb dX6_takePage_189 ?_
  obtain ⟨o2, ho2, hf⟩ := ob hf
  refine xj_i (va_runV (As := [.int (p1 + 14)]) (rest := [.ref a_h]) ⟨hx, hb, hml, hown, hts⟩ (kX6_numberAt l D Y F a_h a_f a_fw a_p H.size h_fault h_place h_pageCount h_limit b181_f_h_6 b181_s_0 h_serial b181_f_h_9 f_most f_length f_overfull fw_n c_fw (p1 + 14) o2 ho2) (cwV 1 hts gX6_takePage_X6_numberAt rfl rfl rfl (by decide +kernel) ⟨Nat.le_of_ble_eq_true rfl, Nat.le_of_ble_eq_true rfl⟩) (prev_w (ci := 4) rfl rfl hK wd [0, 1, 2] rfl (by decide)) rfl rfl hl.1 rfl (lv_room (Nat.le_of_ble_eq_true rfl)) dX6_takePage_190 ⟨Nat.zero_le _, Nat.zero_le _⟩) wd hS hA [0, 1, 2] [3, 4, 5, 6, 7] rfl rfl (by decide) (by decide) (fun H locs wd hS => ?_)
  have wd : WD D A [oX4 a_p (.ref a_pb) (.ref a_pe) (.ref a_pt) b181_f_p_3, oX8 a_pb (.ref a_pbw) pb_most b181_f_pb_2 b181_f_pb_3, aI Y a_pbw pbw_n b181_c_pbw, aI Y a_pe 64 b181_c_pe, aJ Y a_pt 64 b181_c_pt, oX6 a_h h_fault h_place h_pageCount (.ref a_f) h_limit (.ref a_p) b181_f_h_6 b181_s_0 h_serial b181_f_h_9, oX8 a_f (.ref a_fw) f_most f_length f_overfull, aI Y a_fw fw_n c_fw] H := wd
  refine va_put (D := D) (ci := 4) (v := .int o2) (ty := .int) (C := RX6) (T := TX6) (N := 10) hx hb hts iX6_takePage_X6 tyX6 tyX6_ok nmX6 hown hK wd.1 wd.2 hS 5 rfl rfl 8 (by decide) (hts _ mX6_takePage_7) (fun _ h9 => h9) rfl (by decide +kernel) rfl rfl (Nat.le_of_ble_eq_true rfl) dX6_takePage_193 (fun H locs hP hD hS => ?_)
  have wd : WD D A [oX4 a_p (.ref a_pb) (.ref a_pe) (.ref a_pt) b181_f_p_3, oX8 a_pb (.ref a_pbw) pb_most b181_f_pb_2 b181_f_pb_3, aI Y a_pbw pbw_n b181_c_pbw, aI Y a_pe 64 b181_c_pe, aJ Y a_pt 64 b181_c_pt, oX6 a_h h_fault h_place h_pageCount (.ref a_f) h_limit (.ref a_p) b181_f_h_6 b181_s_0 o2 b181_f_h_9, oX8 a_f (.ref a_fw) f_most f_length f_overfull, aI Y a_fw fw_n c_fw] H := ⟨hP, hD⟩
  clear hP hD
  refine lv_aload_n hx hb dX6_takePage_196 rfl (lv_at hl 0 rfl) ?_
  refine lv_dup hx hb dX6_takePage_197 rfl ?_
  refine va_get (D := D) (ci := 4) (v := .int h_pageCount) (C := RX6) (T := TX6) (N := 10) hx hb hts iX6_takePage_X6 hown hK wd.1 5 rfl rfl 2 (by decide) (hts _ mX6_takePage_8) (fun _ h9 => h9) rfl dX6_takePage_198 ?_
  refine lv_iconst (v := 1) hx hb dX6_takePage_201 (by decide) ?_
  refine lv_iadd hx hb dX6_takePage_202 ?_
  refine lv_topi (fun x3 ex3 => ?_)
  have hf := nm_at hf ex3
  refine va_put (D := D) (ci := 4) (v := .int x3) (ty := .int) (C := RX6) (T := TX6) (N := 10) hx hb hts iX6_takePage_X6 tyX6 tyX6_ok nmX6 hown hK wd.1 wd.2 hS 5 rfl rfl 2 (by decide) (hts _ mX6_takePage_8) (fun _ h9 => h9) rfl (by decide +kernel) rfl rfl (Nat.le_of_ble_eq_true rfl) dX6_takePage_203 (fun H locs hP hD hS => ?_)
  have wd : WD D A [oX4 a_p (.ref a_pb) (.ref a_pe) (.ref a_pt) b181_f_p_3, oX8 a_pb (.ref a_pbw) pb_most b181_f_pb_2 b181_f_pb_3, aI Y a_pbw pbw_n b181_c_pbw, aI Y a_pe 64 b181_c_pe, aJ Y a_pt 64 b181_c_pt, oX6 a_h h_fault h_place x3 (.ref a_f) h_limit (.ref a_p) b181_f_h_6 b181_s_0 o2 b181_f_h_9, oX8 a_f (.ref a_fw) f_most f_length f_overfull, aI Y a_fw fw_n c_fw] H := ⟨hP, hD⟩
  clear hP hD
  refine lv_iload hx hb dX6_takePage_206 (lv_at hl 2 rfl) ?_
  obtain rfl := Option.some.inj hf
  exact W.iret (v := b181_l_6) hx hb hr (fun t ht hW => ⟨⟨_, (), rfl, rfl, WD.pst (wd.sub [5, 6, 7, 0, 1, 2, 3, 4] rfl (by decide)) hK ht hW⟩, hS.F ht⟩) hS.2.2 dX6_takePage_208

set_option maxHeartbeats 4000000 in
set_option maxRecDepth 100000 in
theorem wX6_takePage_b61 {p : Program} {l : Launch} {e : Env} {s : State} {m : MethodId} {args : Array Value} {below : List Frame} {meth : Method} {c : Code} {A : Nat → Prop} (D : va_G) (Y : Y4) (C : CX p s m meth c args cX6_takePage 9 (some .int) wsX6_takePage RX6) (hA : ∀ q : Nat, s.heap.size ≤ q → A q) (hK : va_K D vwCl (TY Y) s) (F : Nat) (a_h : Nat) (a_f : Nat) (a_fw : Nat) (a_p : Nat) (a_pb : Nat) (a_pbw : Nat) (a_pe : Nat) (a_pt : Nat) (h_fault : Int32) (h_place : Int32) (h_pageCount : Int32) (h_limit : Int32) (h_packetIsOpen : Int32) (h_lastWasRead : Int32) (h_serial : Int32) (h_latestTime : Int64) (f_most : Int32) (f_length : Int32) (f_overfull : Int32) (fw_n : Nat) (c_fw : (Nat → Int32)) (p_packets : Int32) (pb_most : Int32) (pb_length : Int32) (pb_overfull : Int32) (pbw_n : Nat) (c_pbw : (Nat → Int32)) (c_pe : (Nat → Int32)) (c_pt : (Nat → Int64)) (p1 : Int32) (res : Int32 × Int32 × Int32 × Int32 × Int32 × Int64 × Int32 × Int32 × Int32 × (Nat → Int32) × (Nat → Int32) × (Nat → Int64)) : ∀ (n : Nat) (b61_l_7 : Int32) (b61_l_6 : Int32) (b61_l_2 : Int32) (b61_l_3 : Int32) (b61_l_4 : Int64) (b61_f_h_6 : Int32) (b61_f_h_9 : Int64) (b61_f_p_3 : Int32) (b61_f_pb_2 : Int32) (b61_f_pb_3 : Int32) (b61_c_pbw : (Nat → Int32)) (b61_c_pe : (Nat → Int32)) (b61_c_pt : (Nat → Int64)), fX6_takePage_b61 F h_pageCount f_length fw_n c_fw pb_most pbw_n p1 n b61_l_7 b61_l_6 b61_l_2 b61_l_3 b61_l_4 b61_f_h_6 b61_f_h_9 b61_f_p_3 b61_f_pb_2 b61_f_pb_3 b61_c_pbw b61_c_pe b61_c_pt = some res → ∀ {H : Heap} {locs : List Loc} {ls : Array Slot}, WD D A [oX6 a_h h_fault h_place h_pageCount (.ref a_f) h_limit (.ref a_p) b61_f_h_6 h_lastWasRead h_serial b61_f_h_9, oX8 a_f (.ref a_fw) f_most f_length f_overfull, aI Y a_fw fw_n c_fw, oX4 a_p (.ref a_pb) (.ref a_pe) (.ref a_pt) b61_f_p_3, oX8 a_pb (.ref a_pbw) pb_most b61_f_pb_2 b61_f_pb_3, aI Y a_pbw pbw_n b61_c_pbw, aI Y a_pe 64 b61_c_pe, aJ Y a_pt 64 b61_c_pt] H → va_S A s.heap H locs → lv_has ls 9 [(0, .ref a_h), (1, .int p1), (2, .int b61_l_2), (3, .int b61_l_3), (4, .long b61_l_4), (6, .int b61_l_6), (7, .int b61_l_7)] → W p l e { frames := 3, cells := 0, slots := 0, locals := 68 } s m args below meth c H locs 0 0 (MQ below (va_Qi (fun r (_ : Unit) => r = res.1) (fun _ t => PST D Y A [oX6 a_h h_fault h_place res.2.1 (.ref a_f) h_limit (.ref a_p) res.2.2.1 res.2.2.2.1 res.2.2.2.2.1 res.2.2.2.2.2.1, oX8 a_f (.ref a_fw) f_most f_length f_overfull, aI Y a_fw fw_n c_fw, oX4 a_p (.ref a_pb) (.ref a_pe) (.ref a_pt) res.2.2.2.2.2.2.1, oX8 a_pb (.ref a_pbw) pb_most res.2.2.2.2.2.2.2.1 res.2.2.2.2.2.2.2.2.1, aI Y a_pbw pbw_n res.2.2.2.2.2.2.2.2.2.1, aI Y a_pe 64 res.2.2.2.2.2.2.2.2.2.2.1, aJ Y a_pt 64 res.2.2.2.2.2.2.2.2.2.2.2] t) A) args s 0 0 A) (F0 m 61 ls []) := by
  obtain ⟨hx, hb, hml, hr, hts, hown, hlocks⟩ := id C
  intro n
  induction n with
  | zero => intro b61_l_7 b61_l_6 b61_l_2 b61_l_3 b61_l_4 b61_f_h_6 b61_f_h_9 b61_f_p_3 b61_f_pb_2 b61_f_pb_3 b61_c_pbw b61_c_pe b61_c_pt hf; exact absurd hf (by simp [fX6_takePage_b61])
  | succ n ih =>
    intro b61_l_7 b61_l_6 b61_l_2 b61_l_3 b61_l_4 b61_f_h_6 b61_f_h_9 b61_f_p_3 b61_f_pb_2 b61_f_pb_3 b61_c_pbw b61_c_pe b61_c_pt hf H locs ls wd hS hl
    unfold fX6_takePage_b61 at hf
    refine lv_iload hx hb dX6_takePage_61 (lv_at hl 6 rfl) ?_
    refine lv_iload_n hx hb dX6_takePage_63 rfl (lv_at hl 2 rfl) ?_
    refine lv_icmp_ge (tgt := 160) hx hb dX6_takePage_64 (by decide) (fun q1 => ?_) (fun q1 => ?_)
    · have hf := ip hf q1
      refine lv_aload_n hx hb dX6_takePage_160 rfl (lv_at hl 0 rfl) ?_
      refine lv_aload_n hx hb dX6_takePage_161 rfl (lv_at hl 0 rfl) ?_
      refine va_get (D := D) (ci := 4) (v := .ref a_f) (C := RX6) (T := TX6) (N := 10) hx hb hts iX6_takePage_X6 hown hK wd.1 0 rfl rfl 3 (by decide) (hts _ mX6_takePage_0) (fun _ h9 => h9) rfl dX6_takePage_162 ?_
      refine lv_iload_n hx hb dX6_takePage_165 rfl (lv_at hl 1 rfl) ?_
      refine lv_iconst (v := 5) hx hb dX6_takePage_166 (by decide) ?_
      refine lv_iadd hx hb dX6_takePage_167 ?_
      obtain ⟨o2, ho2, hf⟩ := ob hf
      refine xj_i (va_runV (As := [.int (p1 + 5)]) (rest := [.ref a_h]) ⟨hx, hb, hml, hown, hts⟩ (kX8_at l D Y F a_f a_fw H.size f_most f_length f_overfull fw_n c_fw (p1 + 5) o2 ho2) (cwV 1 hts gX6_takePage_X8_at rfl rfl rfl (by decide +kernel) ⟨Nat.le_of_ble_eq_true rfl, Nat.le_of_ble_eq_true rfl⟩) (prev_w (ci := 6) rfl rfl hK wd [1, 2] rfl (by decide)) rfl rfl hl.1 rfl (lv_room (Nat.le_of_ble_eq_true rfl)) dX6_takePage_168 ⟨Nat.zero_le _, Nat.zero_le _⟩) wd hS hA [1, 2] [0, 3, 4, 5, 6, 7] rfl rfl (by decide) (by decide) (fun H locs wd hS => ?_)
      have wd : WD D A [oX6 a_h h_fault h_place h_pageCount (.ref a_f) h_limit (.ref a_p) b61_f_h_6 h_lastWasRead h_serial b61_f_h_9, oX4 a_p (.ref a_pb) (.ref a_pe) (.ref a_pt) b61_f_p_3, oX8 a_pb (.ref a_pbw) pb_most b61_f_pb_2 b61_f_pb_3, aI Y a_pbw pbw_n b61_c_pbw, aI Y a_pe 64 b61_c_pe, aJ Y a_pt 64 b61_c_pt, oX8 a_f (.ref a_fw) f_most f_length f_overfull, aI Y a_fw fw_n c_fw] H := wd
      refine lv_iconst (v := 4) hx hb dX6_takePage_171 (by decide) ?_
      refine lv_iand hx hb dX6_takePage_172 ?_
      refine lv_if_eq (tgt := 180) hx hb dX6_takePage_173 (by decide) (fun q3 => ?_) (fun q3 => ?_)
      · have hf := ip hf q3
        refine lv_iconst (v := 0) hx hb dX6_takePage_180 (by decide) ?_
        exact wX6_takePage_b181 D Y C hA hK F a_h a_f a_fw a_p a_pb a_pbw a_pe a_pt h_fault h_place h_pageCount h_limit h_packetIsOpen h_lastWasRead h_serial h_latestTime f_most f_length f_overfull fw_n c_fw p_packets pb_most pb_length pb_overfull pbw_n c_pbw c_pe c_pt p1 _ b61_l_6 0 b61_f_h_6 b61_f_h_9 b61_f_p_3 b61_f_pb_2 b61_f_pb_3 b61_c_pbw b61_c_pe b61_c_pt hf (wd.sub [0, 6, 7, 1, 2, 3, 4, 5] rfl (by decide)) hS (lv_sub hl [0, 1, 5] rfl)
      · have hf := ie hf q3
        refine lv_iconst (v := 1) hx hb dX6_takePage_176 (by decide) ?_
        refine lv_goto (tgt := 181) hx hb dX6_takePage_177 (by decide) ?_
        exact wX6_takePage_b181 D Y C hA hK F a_h a_f a_fw a_p a_pb a_pbw a_pe a_pt h_fault h_place h_pageCount h_limit h_packetIsOpen h_lastWasRead h_serial h_latestTime f_most f_length f_overfull fw_n c_fw p_packets pb_most pb_length pb_overfull pbw_n c_pbw c_pe c_pt p1 _ b61_l_6 1 b61_f_h_6 b61_f_h_9 b61_f_p_3 b61_f_pb_2 b61_f_pb_3 b61_c_pbw b61_c_pe b61_c_pt hf (wd.sub [0, 6, 7, 1, 2, 3, 4, 5] rfl (by decide)) hS (lv_sub hl [0, 1, 5] rfl)
    · have hf := ie hf q1
      refine lv_aload_n hx hb dX6_takePage_67 rfl (lv_at hl 0 rfl) ?_
      refine va_get (D := D) (ci := 4) (v := .ref a_f) (C := RX6) (T := TX6) (N := 10) hx hb hts iX6_takePage_X6 hown hK wd.1 0 rfl rfl 3 (by decide) (hts _ mX6_takePage_0) (fun _ h9 => h9) rfl dX6_takePage_68 ?_
      refine lv_iload_n hx hb dX6_takePage_71 rfl (lv_at hl 1 rfl) ?_
      refine lv_bipush (v := 27) hx hb dX6_takePage_72 (by decide) ?_
      refine lv_iadd hx hb dX6_takePage_74 ?_
      refine lv_iload hx hb dX6_takePage_75 (lv_at hl 6 rfl) ?_
      refine lv_iadd hx hb dX6_takePage_77 ?_
      obtain ⟨o4, ho4, hf⟩ := ob hf
      refine xj_i (va_runV (As := [.int ((p1 + 27) + b61_l_7)]) (rest := []) ⟨hx, hb, hml, hown, hts⟩ (kX8_at l D Y F a_f a_fw H.size f_most f_length f_overfull fw_n c_fw ((p1 + 27) + b61_l_7) o4 ho4) (cwV 1 hts gX6_takePage_X8_at rfl rfl rfl (by decide +kernel) ⟨Nat.le_of_ble_eq_true rfl, Nat.le_of_ble_eq_true rfl⟩) (prev_w (ci := 6) rfl rfl hK wd [1, 2] rfl (by decide)) rfl rfl hl.1 rfl (lv_room (Nat.le_of_ble_eq_true rfl)) dX6_takePage_78 ⟨Nat.zero_le _, Nat.zero_le _⟩) wd hS hA [1, 2] [0, 3, 4, 5, 6, 7] rfl rfl (by decide) (by decide) (fun H locs wd hS => ?_)
      have wd : WD D A [oX6 a_h h_fault h_place h_pageCount (.ref a_f) h_limit (.ref a_p) b61_f_h_6 h_lastWasRead h_serial b61_f_h_9, oX4 a_p (.ref a_pb) (.ref a_pe) (.ref a_pt) b61_f_p_3, oX8 a_pb (.ref a_pbw) pb_most b61_f_pb_2 b61_f_pb_3, aI Y a_pbw pbw_n b61_c_pbw, aI Y a_pe 64 b61_c_pe, aJ Y a_pt 64 b61_c_pt, oX8 a_f (.ref a_fw) f_most f_length f_overfull, aI Y a_fw fw_n c_fw] H := wd
      refine lv_istore (lv' := [(8, .int o4), (0, .ref a_h), (1, .int p1), (2, .int b61_l_2), (3, .int b61_l_3), (4, .long b61_l_4), (6, .int b61_l_6), (7, .int b61_l_7)]) hx hb dX6_takePage_81 hl (by decide) rfl (fun ls hl => ?_)
      refine lv_aload_n hx hb dX6_takePage_83 rfl (lv_at hl 1 rfl) ?_
      refine va_get (D := D) (ci := 4) (v := .ref a_p) (C := RX6) (T := TX6) (N := 10) hx hb hts iX6_takePage_X6 hown hK wd.1 0 rfl rfl 5 (by decide) (hts _ mX6_takePage_2) (fun _ h9 => h9) rfl dX6_takePage_84 ?_
      refine va_get (D := D) (ci := 3) (v := .ref a_pb) (C := RX4) (T := TX4) (N := 4) hx hb hts iX6_takePage_X4 hown hK wd.1 1 rfl rfl 0 (by decide) (hts _ mX6_takePage_3) (fun _ h9 => h9) rfl dX6_takePage_87 ?_
      refine lv_aload_n hx hb dX6_takePage_90 rfl (lv_at hl 1 rfl) ?_
      refine va_get (D := D) (ci := 4) (v := .ref a_f) (C := RX6) (T := TX6) (N := 10) hx hb hts iX6_takePage_X6 hown hK wd.1 0 rfl rfl 3 (by decide) (hts _ mX6_takePage_0) (fun _ h9 => h9) rfl dX6_takePage_91 ?_
      refine lv_iload hx hb dX6_takePage_94 (lv_at hl 6 rfl) ?_
      refine lv_iload hx hb dX6_takePage_96 (lv_at hl 0 rfl) ?_
      obtain ⟨o5, ho5, hf⟩ := ob hf
      refine xj_v (va_runV (As := [.ref a_f, .int b61_l_6, .int o4]) (rest := []) ⟨hx, hb, hml, hown, hts⟩ (kX8_addPart l D Y F a_pb a_pbw a_f a_fw H.size pb_most b61_f_pb_2 b61_f_pb_3 pbw_n b61_c_pbw f_most f_length f_overfull fw_n c_fw b61_l_6 o4 o5 ho5) (cwV 3 hts gX6_takePage_X8_addPart rfl rfl rfl (by decide +kernel) ⟨Nat.le_of_ble_eq_true rfl, Nat.le_of_ble_eq_true rfl⟩) (prev_w (ci := 6) rfl rfl hK wd [2, 3, 6, 7] rfl (by decide)) rfl rfl hl.1 rfl (lv_room (Nat.le_of_ble_eq_true rfl)) dX6_takePage_98 ⟨Nat.zero_le _, Nat.zero_le _⟩) wd hS hA [2, 3, 6, 7] [0, 1, 4, 5] rfl rfl (by decide) (by decide) (fun H locs wd hS => ?_)
      have wd : WD D A [oX6 a_h h_fault h_place h_pageCount (.ref a_f) h_limit (.ref a_p) b61_f_h_6 h_lastWasRead h_serial b61_f_h_9, oX4 a_p (.ref a_pb) (.ref a_pe) (.ref a_pt) b61_f_p_3, aI Y a_pe 64 b61_c_pe, aJ Y a_pt 64 b61_c_pt, oX8 a_pb (.ref a_pbw) pb_most o5.1 o5.2.1, aI Y a_pbw pbw_n o5.2.2, oX8 a_f (.ref a_fw) f_most f_length f_overfull, aI Y a_fw fw_n c_fw] H := wd
      refine lv_iload hx hb dX6_takePage_101 (lv_at hl 6 rfl) ?_
      refine lv_iload hx hb dX6_takePage_103 (lv_at hl 0 rfl) ?_
      refine lv_iadd hx hb dX6_takePage_105 ?_
      refine lv_topi (fun x6 ex6 => ?_)
      have hf := nm_at hf ex6
      refine lv_istore (lv' := [(6, .int x6), (8, .int o4), (0, .ref a_h), (1, .int p1), (2, .int b61_l_2), (3, .int b61_l_3), (4, .long b61_l_4), (7, .int b61_l_7)]) hx hb dX6_takePage_106 hl (by decide) rfl (fun ls hl => ?_)
      refine lv_aload_n hx hb dX6_takePage_108 rfl (lv_at hl 2 rfl) ?_
      refine lv_iload hx hb dX6_takePage_109 (lv_at hl 1 rfl) ?_
      refine lv_sipush (v := 255) hx hb dX6_takePage_111 (by decide) ?_
      refine lv_icmp_ne (tgt := 121) hx hb dX6_takePage_114 (by decide) (fun q7 => ?_) (fun q7 => ?_)
      · have hf := ie hf q7
        refine lv_iconst (v := 0) hx hb dX6_takePage_121 (by decide) ?_
        exact wX6_takePage_b122 D Y C hA hK F a_h a_f a_fw a_p a_pb a_pbw a_pe a_pt h_fault h_place h_pageCount h_limit h_packetIsOpen h_lastWasRead h_serial h_latestTime f_most f_length f_overfull fw_n c_fw p_packets pb_most pb_length pb_overfull pbw_n c_pbw c_pe c_pt p1 _ (fX6_takePage_b61 F h_pageCount f_length fw_n c_fw pb_most pbw_n p1 n) ih x6 b61_l_2 b61_l_3 b61_l_4 b61_l_7 0 b61_f_h_6 b61_f_h_9 b61_f_p_3 b61_c_pe b61_c_pt o5.1 o5.2.1 o5.2.2 hf (wd.sub [0, 6, 7, 1, 4, 5, 2, 3] rfl (by decide)) hS (lv_sub hl [2, 3, 4, 5, 6, 0, 7] rfl)
      · have hf := ip hf q7
        refine lv_iconst (v := 1) hx hb dX6_takePage_117 (by decide) ?_
        refine lv_goto (tgt := 122) hx hb dX6_takePage_118 (by decide) ?_
        exact wX6_takePage_b122 D Y C hA hK F a_h a_f a_fw a_p a_pb a_pbw a_pe a_pt h_fault h_place h_pageCount h_limit h_packetIsOpen h_lastWasRead h_serial h_latestTime f_most f_length f_overfull fw_n c_fw p_packets pb_most pb_length pb_overfull pbw_n c_pbw c_pe c_pt p1 _ (fX6_takePage_b61 F h_pageCount f_length fw_n c_fw pb_most pbw_n p1 n) ih x6 b61_l_2 b61_l_3 b61_l_4 b61_l_7 1 b61_f_h_6 b61_f_h_9 b61_f_p_3 b61_c_pe b61_c_pt o5.1 o5.2.1 o5.2.2 hf (wd.sub [0, 6, 7, 1, 4, 5, 2, 3] rfl (by decide)) hS (lv_sub hl [2, 3, 4, 5, 6, 0, 7] rfl)

set_option maxHeartbeats 4000000 in
set_option maxRecDepth 100000 in
theorem wX6_takePage_b47 {p : Program} {l : Launch} {e : Env} {s : State} {m : MethodId} {args : Array Value} {below : List Frame} {meth : Method} {c : Code} {A : Nat → Prop} (D : va_G) (Y : Y4) (C : CX p s m meth c args cX6_takePage 9 (some .int) wsX6_takePage RX6) (hA : ∀ q : Nat, s.heap.size ≤ q → A q) (hK : va_K D vwCl (TY Y) s) (F : Nat) (a_h : Nat) (a_f : Nat) (a_fw : Nat) (a_p : Nat) (a_pb : Nat) (a_pbw : Nat) (a_pe : Nat) (a_pt : Nat) (h_fault : Int32) (h_place : Int32) (h_pageCount : Int32) (h_limit : Int32) (h_packetIsOpen : Int32) (h_lastWasRead : Int32) (h_serial : Int32) (h_latestTime : Int64) (f_most : Int32) (f_length : Int32) (f_overfull : Int32) (fw_n : Nat) (c_fw : (Nat → Int32)) (p_packets : Int32) (pb_most : Int32) (pb_length : Int32) (pb_overfull : Int32) (pbw_n : Nat) (c_pbw : (Nat → Int32)) (c_pe : (Nat → Int32)) (c_pt : (Nat → Int64)) (p1 : Int32) (res : Int32 × Int32 × Int32 × Int32 × Int32 × Int64 × Int32 × Int32 × Int32 × (Nat → Int32) × (Nat → Int32) × (Nat → Int64)) (b47_l_4 : Int64) (b47_l_3 : Int32) (b47_l_2 : Int32) (b47_s_0 : Int64) (hf : fX6_takePage_b47 F h_pageCount h_packetIsOpen f_length fw_n c_fw p_packets pb_most pb_length pb_overfull pbw_n c_pbw c_pe c_pt p1 b47_l_4 b47_l_3 b47_l_2 b47_s_0 = some res) {H : Heap} {locs : List Loc} {ls : Array Slot} (wd : WD D A [oX6 a_h h_fault h_place h_pageCount (.ref a_f) h_limit (.ref a_p) h_packetIsOpen h_lastWasRead h_serial h_latestTime, oX8 a_f (.ref a_fw) f_most f_length f_overfull, aI Y a_fw fw_n c_fw, oX4 a_p (.ref a_pb) (.ref a_pe) (.ref a_pt) p_packets, oX8 a_pb (.ref a_pbw) pb_most pb_length pb_overfull, aI Y a_pbw pbw_n c_pbw, aI Y a_pe 64 c_pe, aJ Y a_pt 64 c_pt] H) (hS : va_S A s.heap H locs) (hl : lv_has ls 9 [(0, .ref a_h), (1, .int p1), (2, .int b47_l_2), (3, .int b47_l_3), (4, .long b47_l_4)]) : W p l e { frames := 3, cells := 0, slots := 0, locals := 68 } s m args below meth c H locs 0 0 (MQ below (va_Qi (fun r (_ : Unit) => r = res.1) (fun _ t => PST D Y A [oX6 a_h h_fault h_place res.2.1 (.ref a_f) h_limit (.ref a_p) res.2.2.1 res.2.2.2.1 res.2.2.2.2.1 res.2.2.2.2.2.1, oX8 a_f (.ref a_fw) f_most f_length f_overfull, aI Y a_fw fw_n c_fw, oX4 a_p (.ref a_pb) (.ref a_pe) (.ref a_pt) res.2.2.2.2.2.2.1, oX8 a_pb (.ref a_pbw) pb_most res.2.2.2.2.2.2.2.1 res.2.2.2.2.2.2.2.2.1, aI Y a_pbw pbw_n res.2.2.2.2.2.2.2.2.2.1, aI Y a_pe 64 res.2.2.2.2.2.2.2.2.2.2.1, aJ Y a_pt 64 res.2.2.2.2.2.2.2.2.2.2.2] t) A) args s 0 0 A) (F0 m 47 ls [.long b47_s_0, .ref a_h]) := by
  obtain ⟨hx, hb, hml, hr, hts, hown, hlocks⟩ := id C
  unfold fX6_takePage_b47 at hf
  refine va_put (D := D) (ci := 4) (v := .long b47_s_0) (ty := .long) (C := RX6) (T := TX6) (N := 10) hx hb hts iX6_takePage_X6 tyX6 tyX6_ok nmX6 hown hK wd.1 wd.2 hS 0 rfl rfl 9 (by decide) (hts _ mX6_takePage_1) (fun _ h9 => h9) rfl (by decide +kernel) rfl rfl (Nat.le_of_ble_eq_true rfl) dX6_takePage_47 (fun H locs hP hD hS => ?_)
  have wd : WD D A [oX6 a_h h_fault h_place h_pageCount (.ref a_f) h_limit (.ref a_p) h_packetIsOpen h_lastWasRead h_serial b47_s_0, oX8 a_f (.ref a_fw) f_most f_length f_overfull, aI Y a_fw fw_n c_fw, oX4 a_p (.ref a_pb) (.ref a_pe) (.ref a_pt) p_packets, oX8 a_pb (.ref a_pbw) pb_most pb_length pb_overfull, aI Y a_pbw pbw_n c_pbw, aI Y a_pe 64 c_pe, aJ Y a_pt 64 c_pt] H := ⟨hP, hD⟩
  clear hP hD
  refine lv_iload_n hx hb dX6_takePage_50 rfl (lv_at hl 1 rfl) ?_
  refine lv_bipush (v := 27) hx hb dX6_takePage_51 (by decide) ?_
  refine lv_iadd hx hb dX6_takePage_53 ?_
  refine lv_iload_n hx hb dX6_takePage_54 rfl (lv_at hl 2 rfl) ?_
  refine lv_iadd hx hb dX6_takePage_55 ?_
  refine lv_topi (fun x1 ex1 => ?_)
  have hf := nm_at hf ex1
  refine lv_istore (lv' := [(6, .int x1), (0, .ref a_h), (1, .int p1), (2, .int b47_l_2), (3, .int b47_l_3), (4, .long b47_l_4)]) hx hb dX6_takePage_56 hl (by decide) rfl (fun ls hl => ?_)
  refine lv_iconst (v := 0) hx hb dX6_takePage_58 (by decide) ?_
  refine lv_istore (lv' := [(7, .int 0), (6, .int x1), (0, .ref a_h), (1, .int p1), (2, .int b47_l_2), (3, .int b47_l_3), (4, .long b47_l_4)]) hx hb dX6_takePage_59 hl (by decide) rfl (fun ls hl => ?_)
  exact wX6_takePage_b61 D Y C hA hK F a_h a_f a_fw a_p a_pb a_pbw a_pe a_pt h_fault h_place h_pageCount h_limit h_packetIsOpen h_lastWasRead h_serial h_latestTime f_most f_length f_overfull fw_n c_fw p_packets pb_most pb_length pb_overfull pbw_n c_pbw c_pe c_pt p1 _ F 0 x1 b47_l_2 b47_l_3 b47_l_4 h_packetIsOpen b47_s_0 p_packets pb_length pb_overfull c_pbw c_pe c_pt hf wd hS (lv_sub hl [2, 3, 4, 5, 6, 1, 0] rfl)

set_option maxHeartbeats 4000000 in
set_option maxRecDepth 100000 in
theorem wX6_takePage {p : Program} {l : Launch} {e : Env} {s : State} {m : MethodId} {args : Array Value} {below : List Frame} {meth : Method} {c : Code} {A : Nat → Prop} (D : va_G) (Y : Y4) (C : CX p s m meth c args cX6_takePage 9 (some .int) wsX6_takePage RX6) (hA : ∀ q : Nat, s.heap.size ≤ q → A q) (hK : va_K D vwCl (TY Y) s) (F : Nat) (a_h : Nat) (a_f : Nat) (a_fw : Nat) (a_p : Nat) (a_pb : Nat) (a_pbw : Nat) (a_pe : Nat) (a_pt : Nat) (h_fault : Int32) (h_place : Int32) (h_pageCount : Int32) (h_limit : Int32) (h_packetIsOpen : Int32) (h_lastWasRead : Int32) (h_serial : Int32) (h_latestTime : Int64) (f_most : Int32) (f_length : Int32) (f_overfull : Int32) (fw_n : Nat) (c_fw : (Nat → Int32)) (p_packets : Int32) (pb_most : Int32) (pb_length : Int32) (pb_overfull : Int32) (pbw_n : Nat) (c_pbw : (Nat → Int32)) (c_pe : (Nat → Int32)) (c_pt : (Nat → Int64)) (p1 : Int32) (res : Int32 × Int32 × Int32 × Int32 × Int32 × Int64 × Int32 × Int32 × Int32 × (Nat → Int32) × (Nat → Int32) × (Nat → Int64)) (hf : fX6_takePage F h_pageCount h_packetIsOpen h_latestTime f_length fw_n c_fw p_packets pb_most pb_length pb_overfull pbw_n c_pbw c_pe c_pt p1 = some res) {H : Heap} {locs : List Loc} {ls : Array Slot} (wd : WD D A [oX6 a_h h_fault h_place h_pageCount (.ref a_f) h_limit (.ref a_p) h_packetIsOpen h_lastWasRead h_serial h_latestTime, oX8 a_f (.ref a_fw) f_most f_length f_overfull, aI Y a_fw fw_n c_fw, oX4 a_p (.ref a_pb) (.ref a_pe) (.ref a_pt) p_packets, oX8 a_pb (.ref a_pbw) pb_most pb_length pb_overfull, aI Y a_pbw pbw_n c_pbw, aI Y a_pe 64 c_pe, aJ Y a_pt 64 c_pt] H) (hS : va_S A s.heap H locs) (hl : lv_has ls 9 [(0, .ref a_h), (1, .int p1)]) : W p l e { frames := 3, cells := 0, slots := 0, locals := 68 } s m args below meth c H locs 0 0 (MQ below (va_Qi (fun r (_ : Unit) => r = res.1) (fun _ t => PST D Y A [oX6 a_h h_fault h_place res.2.1 (.ref a_f) h_limit (.ref a_p) res.2.2.1 res.2.2.2.1 res.2.2.2.2.1 res.2.2.2.2.2.1, oX8 a_f (.ref a_fw) f_most f_length f_overfull, aI Y a_fw fw_n c_fw, oX4 a_p (.ref a_pb) (.ref a_pe) (.ref a_pt) res.2.2.2.2.2.2.1, oX8 a_pb (.ref a_pbw) pb_most res.2.2.2.2.2.2.2.1 res.2.2.2.2.2.2.2.2.1, aI Y a_pbw pbw_n res.2.2.2.2.2.2.2.2.2.1, aI Y a_pe 64 res.2.2.2.2.2.2.2.2.2.2.1, aJ Y a_pt 64 res.2.2.2.2.2.2.2.2.2.2.2] t) A) args s 0 0 A) (F0 m 0 ls []) := by
  obtain ⟨hx, hb, hml, hr, hts, hown, hlocks⟩ := id C
  unfold fX6_takePage at hf
  refine lv_aload_n hx hb dX6_takePage_0 rfl (lv_at hl 0 rfl) ?_
  refine va_get (D := D) (ci := 4) (v := .ref a_f) (C := RX6) (T := TX6) (N := 10) hx hb hts iX6_takePage_X6 hown hK wd.1 0 rfl rfl 3 (by decide) (hts _ mX6_takePage_0) (fun _ h9 => h9) rfl dX6_takePage_1 ?_
  refine lv_iload_n hx hb dX6_takePage_4 rfl (lv_at hl 1 rfl) ?_
  refine lv_bipush (v := 26) hx hb dX6_takePage_5 (by decide) ?_
  refine lv_iadd hx hb dX6_takePage_7 ?_
  obtain ⟨o1, ho1, hf⟩ := ob hf
  refine xj_i (va_runV (As := [.int (p1 + 26)]) (rest := []) ⟨hx, hb, hml, hown, hts⟩ (kX8_at l D Y F a_f a_fw H.size f_most f_length f_overfull fw_n c_fw (p1 + 26) o1 ho1) (cwV 1 hts gX6_takePage_X8_at rfl rfl rfl (by decide +kernel) ⟨Nat.le_of_ble_eq_true rfl, Nat.le_of_ble_eq_true rfl⟩) (prev_w (ci := 6) rfl rfl hK wd [1, 2] rfl (by decide)) rfl rfl hl.1 rfl (lv_room (Nat.le_of_ble_eq_true rfl)) dX6_takePage_8 ⟨Nat.zero_le _, Nat.zero_le _⟩) wd hS hA [1, 2] [0, 3, 4, 5, 6, 7] rfl rfl (by decide) (by decide) (fun H locs wd hS => ?_)
  have wd : WD D A [oX6 a_h h_fault h_place h_pageCount (.ref a_f) h_limit (.ref a_p) h_packetIsOpen h_lastWasRead h_serial h_latestTime, oX4 a_p (.ref a_pb) (.ref a_pe) (.ref a_pt) p_packets, oX8 a_pb (.ref a_pbw) pb_most pb_length pb_overfull, aI Y a_pbw pbw_n c_pbw, aI Y a_pe 64 c_pe, aJ Y a_pt 64 c_pt, oX8 a_f (.ref a_fw) f_most f_length f_overfull, aI Y a_fw fw_n c_fw] H := wd
  refine lv_istore_n (lv' := [(2, .int o1), (0, .ref a_h), (1, .int p1)]) hx hb dX6_takePage_11 rfl hl (by decide) rfl (fun ls hl => ?_)
  refine lv_aload_n hx hb dX6_takePage_12 rfl (lv_at hl 1 rfl) ?_
  refine lv_iload_n hx hb dX6_takePage_13 rfl (lv_at hl 2 rfl) ?_
  obtain ⟨o2, ho2, hf⟩ := ob hf
  refine xj_i (va_runV (As := [.int p1]) (rest := []) ⟨hx, hb, hml, hown, hts⟩ (kX6_packetsEnding l D Y F a_h a_f a_fw a_p H.size h_fault h_place h_pageCount h_limit h_packetIsOpen h_lastWasRead h_serial h_latestTime f_most f_length f_overfull fw_n c_fw p1 o2 ho2) (cwV 1 hts gX6_takePage_X6_packetsEnding rfl rfl rfl (by decide +kernel) ⟨Nat.le_of_ble_eq_true rfl, Nat.le_of_ble_eq_true rfl⟩) (prev_w (ci := 4) rfl rfl hK wd [0, 6, 7] rfl (by decide)) rfl rfl hl.1 rfl (lv_room (Nat.le_of_ble_eq_true rfl)) dX6_takePage_14 ⟨Nat.zero_le _, Nat.zero_le _⟩) wd hS hA [0, 6, 7] [1, 2, 3, 4, 5] rfl rfl (by decide) (by decide) (fun H locs wd hS => ?_)
  have wd : WD D A [oX4 a_p (.ref a_pb) (.ref a_pe) (.ref a_pt) p_packets, oX8 a_pb (.ref a_pbw) pb_most pb_length pb_overfull, aI Y a_pbw pbw_n c_pbw, aI Y a_pe 64 c_pe, aJ Y a_pt 64 c_pt, oX6 a_h h_fault h_place h_pageCount (.ref a_f) h_limit (.ref a_p) h_packetIsOpen h_lastWasRead h_serial h_latestTime, oX8 a_f (.ref a_fw) f_most f_length f_overfull, aI Y a_fw fw_n c_fw] H := wd
  refine lv_istore_n (lv' := [(3, .int o2), (2, .int o1), (0, .ref a_h), (1, .int p1)]) hx hb dX6_takePage_17 rfl hl (by decide) rfl (fun ls hl => ?_)
  refine lv_aload_n hx hb dX6_takePage_18 rfl (lv_at hl 2 rfl) ?_
  refine va_get (D := D) (ci := 4) (v := .ref a_f) (C := RX6) (T := TX6) (N := 10) hx hb hts iX6_takePage_X6 hown hK wd.1 5 rfl rfl 3 (by decide) (hts _ mX6_takePage_0) (fun _ h9 => h9) rfl dX6_takePage_19 ?_
  refine lv_iload_n hx hb dX6_takePage_22 rfl (lv_at hl 3 rfl) ?_
  refine lv_bipush (v := 6) hx hb dX6_takePage_23 (by decide) ?_
  refine lv_iadd hx hb dX6_takePage_25 ?_
  refine lv_bipush (v := 8) hx hb dX6_takePage_26 (by decide) ?_
  obtain ⟨o3, ho3, hf⟩ := ob hf
  refine xj_l (va_runV (As := [.int (p1 + 6), .int 8]) (rest := []) ⟨hx, hb, hml, hown, hts⟩ (kX8_lowFirst l D Y F a_f a_fw H.size f_most f_length f_overfull fw_n c_fw (p1 + 6) 8 o3 ho3) (cwV 2 hts gX6_takePage_X8_lowFirst rfl rfl rfl (by decide +kernel) ⟨Nat.le_of_ble_eq_true rfl, Nat.le_of_ble_eq_true rfl⟩) (prev_w (ci := 6) rfl rfl hK wd [6, 7] rfl (by decide)) rfl rfl hl.1 rfl (lv_room (Nat.le_of_ble_eq_true rfl)) dX6_takePage_28 ⟨Nat.zero_le _, Nat.zero_le _⟩) wd hS hA [6, 7] [0, 1, 2, 3, 4, 5] rfl rfl (by decide) (by decide) (fun H locs wd hS => ?_)
  have wd : WD D A [oX4 a_p (.ref a_pb) (.ref a_pe) (.ref a_pt) p_packets, oX8 a_pb (.ref a_pbw) pb_most pb_length pb_overfull, aI Y a_pbw pbw_n c_pbw, aI Y a_pe 64 c_pe, aJ Y a_pt 64 c_pt, oX6 a_h h_fault h_place h_pageCount (.ref a_f) h_limit (.ref a_p) h_packetIsOpen h_lastWasRead h_serial h_latestTime, oX8 a_f (.ref a_fw) f_most f_length f_overfull, aI Y a_fw fw_n c_fw] H := wd
  refine lv_lstore (lv' := [(4, .long o3), (3, .int o2), (2, .int o1), (0, .ref a_h), (1, .int p1)]) hx hb dX6_takePage_31 hl (by decide) rfl (fun ls hl => ?_)
  refine lv_aload_n hx hb dX6_takePage_33 rfl (lv_at hl 3 rfl) ?_
  refine lv_iload_n hx hb dX6_takePage_34 rfl (lv_at hl 1 rfl) ?_
  refine lv_if_le (tgt := 43) hx hb dX6_takePage_35 (by decide) (fun q4 => ?_) (fun q4 => ?_)
  · have hf := ip hf q4
    refine lv_aload_n hx hb dX6_takePage_43 rfl (lv_at hl 3 rfl) ?_
    refine va_get (D := D) (ci := 4) (v := .long h_latestTime) (C := RX6) (T := TX6) (N := 10) hx hb hts iX6_takePage_X6 hown hK wd.1 5 rfl rfl 9 (by decide) (hts _ mX6_takePage_1) (fun _ h9 => h9) rfl dX6_takePage_44 ?_
    exact wX6_takePage_b47 D Y C hA hK F a_h a_f a_fw a_p a_pb a_pbw a_pe a_pt h_fault h_place h_pageCount h_limit h_packetIsOpen h_lastWasRead h_serial h_latestTime f_most f_length f_overfull fw_n c_fw p_packets pb_most pb_length pb_overfull pbw_n c_pbw c_pe c_pt p1 _ o3 o2 o1 h_latestTime hf (wd.sub [5, 6, 7, 0, 1, 2, 3, 4] rfl (by decide)) hS (lv_sub hl [3, 4, 2, 1, 0] rfl)
  · have hf := ie hf q4
    refine lv_lload hx hb dX6_takePage_38 (lv_at hl 0 rfl) ?_
    refine lv_goto (tgt := 47) hx hb dX6_takePage_40 (by decide) ?_
    exact wX6_takePage_b47 D Y C hA hK F a_h a_f a_fw a_p a_pb a_pbw a_pe a_pt h_fault h_place h_pageCount h_limit h_packetIsOpen h_lastWasRead h_serial h_latestTime f_most f_length f_overfull fw_n c_fw p_packets pb_most pb_length pb_overfull pbw_n c_pbw c_pe c_pt p1 _ o3 o2 o1 o3 hf (wd.sub [5, 6, 7, 0, 1, 2, 3, 4] rfl (by decide)) hS (lv_sub hl [3, 4, 2, 1, 0] rfl)
set_option maxHeartbeats 4000000 in
set_option maxRecDepth 100000 in
theorem kX6_takePage (l : Launch) (D : va_G) (Y : Y4) (F : Nat) (a_h : Nat) (a_f : Nat) (a_fw : Nat) (a_p : Nat) (a_pb : Nat) (a_pbw : Nat) (a_pe : Nat) (a_pt : Nat) (sz : Nat) (h_fault : Int32) (h_place : Int32) (h_pageCount : Int32) (h_limit : Int32) (h_packetIsOpen : Int32) (h_lastWasRead : Int32) (h_serial : Int32) (h_latestTime : Int64) (f_most : Int32) (f_length : Int32) (f_overfull : Int32) (fw_n : Nat) (c_fw : (Nat → Int32)) (p_packets : Int32) (pb_most : Int32) (pb_length : Int32) (pb_overfull : Int32) (pbw_n : Nat) (c_pbw : (Nat → Int32)) (c_pe : (Nat → Int32)) (c_pt : (Nat → Int64)) (p1 : Int32) (res : Int32 × Int32 × Int32 × Int32 × Int32 × Int64 × Int32 × Int32 × Int32 × (Nat → Int32) × (Nat → Int32) × (Nat → Int64)) (hf : fX6_takePage F h_pageCount h_packetIsOpen h_latestTime f_length fw_n c_fw p_packets pb_most pb_length pb_overfull pbw_n c_pbw c_pe c_pt p1 = some res) : Met l yX6_takePage wsX6_takePage ({ frames := 3, cells := 0, slots := 0, locals := 68 }) (va_Pc [.ref a_h, .int p1] (PRE D Y [oX6 a_h h_fault h_place h_pageCount (.ref a_f) h_limit (.ref a_p) h_packetIsOpen h_lastWasRead h_serial h_latestTime, oX8 a_f (.ref a_fw) f_most f_length f_overfull, aI Y a_fw fw_n c_fw, oX4 a_p (.ref a_pb) (.ref a_pe) (.ref a_pt) p_packets, oX8 a_pb (.ref a_pbw) pb_most pb_length pb_overfull, aI Y a_pbw pbw_n c_pbw, aI Y a_pe 64 c_pe, aJ Y a_pt 64 c_pt] sz)) (va_Qi (fun r (_ : Unit) => r = res.1) (fun _ t => PST D Y (va_A [oX6 a_h h_fault h_place h_pageCount (.ref a_f) h_limit (.ref a_p) h_packetIsOpen h_lastWasRead h_serial h_latestTime, oX8 a_f (.ref a_fw) f_most f_length f_overfull, aI Y a_fw fw_n c_fw, oX4 a_p (.ref a_pb) (.ref a_pe) (.ref a_pt) p_packets, oX8 a_pb (.ref a_pbw) pb_most pb_length pb_overfull, aI Y a_pbw pbw_n c_pbw, aI Y a_pe 64 c_pe, aJ Y a_pt 64 c_pt] sz) [oX6 a_h h_fault h_place res.2.1 (.ref a_f) h_limit (.ref a_p) res.2.2.1 res.2.2.2.1 res.2.2.2.2.1 res.2.2.2.2.2.1, oX8 a_f (.ref a_fw) f_most f_length f_overfull, aI Y a_fw fw_n c_fw, oX4 a_p (.ref a_pb) (.ref a_pe) (.ref a_pt) res.2.2.2.2.2.2.1, oX8 a_pb (.ref a_pbw) pb_most res.2.2.2.2.2.2.2.1 res.2.2.2.2.2.2.2.2.1, aI Y a_pbw pbw_n res.2.2.2.2.2.2.2.2.2.1, aI Y a_pe 64 res.2.2.2.2.2.2.2.2.2.2.1, aJ Y a_pt 64 res.2.2.2.2.2.2.2.2.2.2.2] t) (va_A [oX6 a_h h_fault h_place h_pageCount (.ref a_f) h_limit (.ref a_p) h_packetIsOpen h_lastWasRead h_serial h_latestTime, oX8 a_f (.ref a_fw) f_most f_length f_overfull, aI Y a_fw fw_n c_fw, oX4 a_p (.ref a_pb) (.ref a_pe) (.ref a_pt) p_packets, oX8 a_pb (.ref a_pbw) pb_most pb_length pb_overfull, aI Y a_pbw pbw_n c_pbw, aI Y a_pe 64 c_pe, aJ Y a_pt 64 c_pt] sz)) 0 0 (va_A [oX6 a_h h_fault h_place h_pageCount (.ref a_f) h_limit (.ref a_p) h_packetIsOpen h_lastWasRead h_serial h_latestTime, oX8 a_f (.ref a_fw) f_most f_length f_overfull, aI Y a_fw fw_n c_fw, oX4 a_p (.ref a_pb) (.ref a_pe) (.ref a_pt) p_packets, oX8 a_pb (.ref a_pbw) pb_most pb_length pb_overfull, aI Y a_pbw pbw_n c_pbw, aI Y a_pe 64 c_pe, aJ Y a_pt 64 c_pt] sz) := by
  refine Met.ofW (cc := cX6_takePage) (maxL := 9) (ret := (some .int)) (by decide) rfl ?_
  intro p e s m args below meth c s₁ B hml hv
  obtain ⟨rfl, rfl, hP, hK, hD0⟩ := hv
  have hl := lv_entry ([.ref a_h, .int p1]) (n := 9) (Nat.le_of_ble_eq_true rfl)
  rw [lg_entry_eq]
  exact wX6_takePage D Y ⟨B.exec, B.bytes, hml, B.returns, atoms_spec (ws := wsX6_takePage) B.pre, findClass_of_methodNamed B.named, B.notSynchronized⟩ (fun q h => Or.inr h) hK F a_h a_f a_fw a_p a_pb a_pbw a_pe a_pt h_fault h_place h_pageCount h_limit h_packetIsOpen h_lastWasRead h_serial h_latestTime f_most f_length f_overfull fw_n c_fw p_packets pb_most pb_length pb_overfull pbw_n c_pbw c_pe c_pt p1 res hf ⟨hP, hD0.self⟩ va_S.rf hl
theorem mX6_faultAtEnd_0 : Cond.fieldLink RX6 23 "StreamRemuxer$PageReader" "pageCount" "I" ∈ wsX6_faultAtEnd := List.mem_cons_of_mem _ u_451
theorem mX6_faultAtEnd_1 : Cond.fieldLink RX6 30 "StreamRemuxer$PageReader" "lastWasRead" "Z" ∈ wsX6_faultAtEnd := List.mem_cons_of_mem _ u_453
theorem mX6_faultAtEnd_2 : Cond.fieldLink RX6 26 "StreamRemuxer$PageReader" "packetIsOpen" "Z" ∈ wsX6_faultAtEnd := List.mem_cons_of_mem _ u_452
theorem iX6_faultAtEnd_X6 : ∀ w ∈ wsX60, w ∈ wsX6_faultAtEnd := fun w h => List.mem_cons_of_mem _ (inlX6 w h)
set_option maxHeartbeats 4000000 in
set_option maxRecDepth 100000 in
theorem wX6_faultAtEnd_b31 {p : Program} {l : Launch} {e : Env} {s : State} {m : MethodId} {args : Array Value} {below : List Frame} {meth : Method} {c : Code} {A : Nat → Prop} (D : va_G) (Y : Y4) (C : CX p s m meth c args cX6_faultAtEnd 1 (some .int) wsX6_faultAtEnd RX6) (hA : ∀ q : Nat, s.heap.size ≤ q → A q) (hK : va_K D vwCl (TY Y) s) (F : Nat) (a_h : Nat) (a_f : Nat) (a_p : Nat) (h_fault : Int32) (h_place : Int32) (h_pageCount : Int32) (h_limit : Int32) (h_packetIsOpen : Int32) (h_lastWasRead : Int32) (h_serial : Int32) (h_latestTime : Int64) (res : Int32) (b31_s_0 : Int32) (hf : fX6_faultAtEnd_b31 F b31_s_0 = some res) {H : Heap} {locs : List Loc} {ls : Array Slot} (wd : WD D A [oX6 a_h h_fault h_place h_pageCount (.ref a_f) h_limit (.ref a_p) h_packetIsOpen h_lastWasRead h_serial h_latestTime] H) (hS : va_S A s.heap H locs) (hl : lv_has ls 1 []) : W p l e { frames := 0, cells := 0, slots := 0, locals := 0 } s m args below meth c H locs 0 0 (MQ below (va_Qi (fun r (_ : Unit) => r = res) (fun _ t => PST D Y A [oX6 a_h h_fault h_place h_pageCount (.ref a_f) h_limit (.ref a_p) h_packetIsOpen h_lastWasRead h_serial h_latestTime] t) A) args s 0 0 A) (F0 m 31 ls [.int b31_s_0]) := by
  obtain ⟨hx, hb, hml, hr, hts, hown, hlocks⟩ := id C
  unfold fX6_faultAtEnd_b31 at hf
  obtain rfl := Option.some.inj hf
  exact W.iret (v := b31_s_0) hx hb hr (fun t ht hW => ⟨⟨_, (), rfl, rfl, WD.pst wd hK ht hW⟩, hS.F ht⟩) hS.2.2 dX6_faultAtEnd_31

set_option maxHeartbeats 4000000 in
set_option maxRecDepth 100000 in
theorem wX6_faultAtEnd {p : Program} {l : Launch} {e : Env} {s : State} {m : MethodId} {args : Array Value} {below : List Frame} {meth : Method} {c : Code} {A : Nat → Prop} (D : va_G) (Y : Y4) (C : CX p s m meth c args cX6_faultAtEnd 1 (some .int) wsX6_faultAtEnd RX6) (hA : ∀ q : Nat, s.heap.size ≤ q → A q) (hK : va_K D vwCl (TY Y) s) (F : Nat) (a_h : Nat) (a_f : Nat) (a_p : Nat) (h_fault : Int32) (h_place : Int32) (h_pageCount : Int32) (h_limit : Int32) (h_packetIsOpen : Int32) (h_lastWasRead : Int32) (h_serial : Int32) (h_latestTime : Int64) (res : Int32) (hf : fX6_faultAtEnd F h_pageCount h_packetIsOpen h_lastWasRead = some res) {H : Heap} {locs : List Loc} {ls : Array Slot} (wd : WD D A [oX6 a_h h_fault h_place h_pageCount (.ref a_f) h_limit (.ref a_p) h_packetIsOpen h_lastWasRead h_serial h_latestTime] H) (hS : va_S A s.heap H locs) (hl : lv_has ls 1 [(0, .ref a_h)]) : W p l e { frames := 0, cells := 0, slots := 0, locals := 0 } s m args below meth c H locs 0 0 (MQ below (va_Qi (fun r (_ : Unit) => r = res) (fun _ t => PST D Y A [oX6 a_h h_fault h_place h_pageCount (.ref a_f) h_limit (.ref a_p) h_packetIsOpen h_lastWasRead h_serial h_latestTime] t) A) args s 0 0 A) (F0 m 0 ls []) := by
  obtain ⟨hx, hb, hml, hr, hts, hown, hlocks⟩ := id C
  unfold fX6_faultAtEnd at hf
  refine lv_aload_n hx hb dX6_faultAtEnd_0 rfl (lv_at hl 0 rfl) ?_
  refine va_get (D := D) (ci := 4) (v := .int h_pageCount) (C := RX6) (T := TX6) (N := 10) hx hb hts iX6_faultAtEnd_X6 hown hK wd.1 0 rfl rfl 2 (by decide) (hts _ mX6_faultAtEnd_0) (fun _ h9 => h9) rfl dX6_faultAtEnd_1 ?_
  refine lv_if_ne (tgt := 9) hx hb dX6_faultAtEnd_4 (by decide) (fun q1 => ?_) (fun q1 => ?_)
  · have hf := ie hf q1
    refine lv_aload_n hx hb dX6_faultAtEnd_9 rfl (lv_at hl 0 rfl) ?_
    refine va_get (D := D) (ci := 4) (v := .int h_lastWasRead) (C := RX6) (T := TX6) (N := 10) hx hb hts iX6_faultAtEnd_X6 hown hK wd.1 0 rfl rfl 7 (by decide) (hts _ mX6_faultAtEnd_1) (fun _ h9 => h9) rfl dX6_faultAtEnd_10 ?_
    refine lv_if_ne (tgt := 18) hx hb dX6_faultAtEnd_13 (by decide) (fun q2 => ?_) (fun q2 => ?_)
    · have hf := ie hf q2
      refine lv_aload_n hx hb dX6_faultAtEnd_18 rfl (lv_at hl 0 rfl) ?_
      refine va_get (D := D) (ci := 4) (v := .int h_packetIsOpen) (C := RX6) (T := TX6) (N := 10) hx hb hts iX6_faultAtEnd_X6 hown hK wd.1 0 rfl rfl 6 (by decide) (hts _ mX6_faultAtEnd_2) (fun _ h9 => h9) rfl dX6_faultAtEnd_19 ?_
      refine lv_if_eq (tgt := 30) hx hb dX6_faultAtEnd_22 (by decide) (fun q3 => ?_) (fun q3 => ?_)
      · have hf := ip hf q3
        refine lv_iconst (v := 0) hx hb dX6_faultAtEnd_30 (by decide) ?_
        exact wX6_faultAtEnd_b31 D Y C hA hK F a_h a_f a_p h_fault h_place h_pageCount h_limit h_packetIsOpen h_lastWasRead h_serial h_latestTime _ 0 hf wd hS (lv_sub hl [] rfl)
      · have hf := ie hf q3
        refine lv_bipush (v := 6) hx hb dX6_faultAtEnd_25 (by decide) ?_
        refine lv_goto (tgt := 31) hx hb dX6_faultAtEnd_27 (by decide) ?_
        exact wX6_faultAtEnd_b31 D Y C hA hK F a_h a_f a_p h_fault h_place h_pageCount h_limit h_packetIsOpen h_lastWasRead h_serial h_latestTime _ 6 hf wd hS (lv_sub hl [] rfl)
    · have hf := ip hf q2
      refine lv_iconst (v := 5) hx hb dX6_faultAtEnd_16 (by decide) ?_
      obtain rfl := Option.some.inj hf
      exact W.iret (v := 5) hx hb hr (fun t ht hW => ⟨⟨_, (), rfl, rfl, WD.pst wd hK ht hW⟩, hS.F ht⟩) hS.2.2 dX6_faultAtEnd_17
  · have hf := ip hf q1
    refine lv_iconst (v := 1) hx hb dX6_faultAtEnd_7 (by decide) ?_
    obtain rfl := Option.some.inj hf
    exact W.iret (v := 1) hx hb hr (fun t ht hW => ⟨⟨_, (), rfl, rfl, WD.pst wd hK ht hW⟩, hS.F ht⟩) hS.2.2 dX6_faultAtEnd_8
set_option maxHeartbeats 4000000 in
set_option maxRecDepth 100000 in
theorem kX6_faultAtEnd (l : Launch) (D : va_G) (Y : Y4) (F : Nat) (a_h : Nat) (a_f : Nat) (a_p : Nat) (sz : Nat) (h_fault : Int32) (h_place : Int32) (h_pageCount : Int32) (h_limit : Int32) (h_packetIsOpen : Int32) (h_lastWasRead : Int32) (h_serial : Int32) (h_latestTime : Int64) (res : Int32) (hf : fX6_faultAtEnd F h_pageCount h_packetIsOpen h_lastWasRead = some res) : Met l yX6_faultAtEnd wsX6_faultAtEnd ({ frames := 0, cells := 0, slots := 0, locals := 0 }) (va_Pc [.ref a_h] (PRE D Y [oX6 a_h h_fault h_place h_pageCount (.ref a_f) h_limit (.ref a_p) h_packetIsOpen h_lastWasRead h_serial h_latestTime] sz)) (va_Qi (fun r (_ : Unit) => r = res) (fun _ t => PST D Y (va_A [oX6 a_h h_fault h_place h_pageCount (.ref a_f) h_limit (.ref a_p) h_packetIsOpen h_lastWasRead h_serial h_latestTime] sz) [oX6 a_h h_fault h_place h_pageCount (.ref a_f) h_limit (.ref a_p) h_packetIsOpen h_lastWasRead h_serial h_latestTime] t) (va_A [oX6 a_h h_fault h_place h_pageCount (.ref a_f) h_limit (.ref a_p) h_packetIsOpen h_lastWasRead h_serial h_latestTime] sz)) 0 0 (va_A [oX6 a_h h_fault h_place h_pageCount (.ref a_f) h_limit (.ref a_p) h_packetIsOpen h_lastWasRead h_serial h_latestTime] sz) := by
  refine Met.ofW (cc := cX6_faultAtEnd) (maxL := 1) (ret := (some .int)) (by decide) rfl ?_
  intro p e s m args below meth c s₁ B hml hv
  obtain ⟨rfl, rfl, hP, hK, hD0⟩ := hv
  have hl := lv_entry ([.ref a_h]) (n := 1) (Nat.le_of_ble_eq_true rfl)
  rw [lg_entry_eq]
  exact wX6_faultAtEnd D Y ⟨B.exec, B.bytes, hml, B.returns, atoms_spec (ws := wsX6_faultAtEnd) B.pre, findClass_of_methodNamed B.named, B.notSynchronized⟩ (fun q h => Or.inr h) hK F a_h a_f a_p h_fault h_place h_pageCount h_limit h_packetIsOpen h_lastWasRead h_serial h_latestTime res hf ⟨hP, hD0.self⟩ va_S.rf hl
theorem mX6_read_0 : Cond.fieldLink RX6 9 "StreamRemuxer$PageReader" "file" "LStreamRemuxer$Row;" ∈ wsX6_read := List.mem_cons_of_mem _ u_448
theorem mX6_read_1 : Cond.fieldLink RX6 15 "StreamRemuxer$PageReader" "limit" "I" ∈ wsX6_read := List.mem_cons_of_mem _ u_449
theorem mX6_read_2 : Cond.fieldLink RX6 19 "StreamRemuxer$PageReader" "target" "LStreamRemuxer$PacketList;" ∈ wsX6_read := List.mem_cons_of_mem _ u_450
theorem mX6_read_3 : Cond.fieldLink RX6 23 "StreamRemuxer$PageReader" "pageCount" "I" ∈ wsX6_read := List.mem_cons_of_mem _ u_451
theorem mX6_read_4 : Cond.fieldLink RX6 26 "StreamRemuxer$PageReader" "packetIsOpen" "Z" ∈ wsX6_read := List.mem_cons_of_mem _ u_452
theorem mX6_read_5 : Cond.fieldLink RX6 30 "StreamRemuxer$PageReader" "lastWasRead" "Z" ∈ wsX6_read := List.mem_cons_of_mem _ u_453
theorem mX6_read_6 : Cond.fieldLink RX6 33 "StreamRemuxer$PageReader" "latestTime" "J" ∈ wsX6_read := List.mem_cons_of_mem _ u_454
theorem mX6_read_7 : Cond.fieldLink RX6 37 "StreamRemuxer$PageReader" "fault" "I" ∈ wsX6_read := List.mem_cons_of_mem _ u_455
theorem mX6_read_8 : Cond.fieldLink RX6 40 "StreamRemuxer$PageReader" "place" "I" ∈ wsX6_read := List.mem_cons_of_mem _ u_456
theorem iX6_read_X6 : ∀ w ∈ wsX60, w ∈ wsX6_read := fun w h => List.mem_cons_of_mem _ (inlX6 w h)
set_option maxHeartbeats 4000000 in
set_option maxRecDepth 100000 in
theorem wX6_read_b102 {p : Program} {l : Launch} {e : Env} {s : State} {m : MethodId} {args : Array Value} {below : List Frame} {meth : Method} {c : Code} {A : Nat → Prop} (D : va_G) (Y : Y4) (C : CX p s m meth c args cX6_read 6 none wsX6_read RX6) (hA : ∀ q : Nat, s.heap.size ≤ q → A q) (hK : va_K D vwCl (TY Y) s) (F : Nat) (a_h : Nat) (a_f : Nat) (a_fw : Nat) (a_p : Nat) (a_pb : Nat) (a_pbw : Nat) (a_pe : Nat) (a_pt : Nat) (a_sF : Nat) (h_fault : Int32) (h_place : Int32) (h_pageCount : Int32) (h_file : Value) (h_limit : Int32) (h_target : Value) (h_packetIsOpen : Int32) (h_lastWasRead : Int32) (h_serial : Int32) (h_latestTime : Int64) (f_most : Int32) (f_length : Int32) (f_overfull : Int32) (fw_n : Nat) (c_fw : (Nat → Int32)) (p_packets : Int32) (pb_most : Int32) (pb_length : Int32) (pb_overfull : Int32) (pbw_n : Nat) (c_pbw : (Nat → Int32)) (c_pe : (Nat → Int32)) (c_pt : (Nat → Int64)) (p2 : Int32) (hX : ST [e_sF a_sF] A s) (res : Int32 × Int32 × Int32 × Value × Int32 × Value × Int32 × Int32 × Int32 × Int64 × Int32 × Int32 × Int32 × (Nat → Int32) × (Nat → Int32) × (Nat → Int64)) (rc46 : Int32 → Int32 → Int32 → Int32 → Int32 → Int32 → Int32 → Int32 → Int64 → Int32 → Int32 → Int32 → (Nat → Int32) → (Nat → Int32) → (Nat → Int64) → Option (Int32 × Int32 × Int32 × Value × Int32 × Value × Int32 × Int32 × Int32 × Int64 × Int32 × Int32 × Int32 × (Nat → Int32) × (Nat → Int32) × (Nat → Int64))) (hrc46 : ∀ (b46_l_5 : Int32) (b46_l_4 : Int32) (b46_f_h_0 : Int32) (b46_f_h_1 : Int32) (b46_f_h_2 : Int32) (b46_f_h_6 : Int32) (b46_f_h_7 : Int32) (b46_f_h_8 : Int32) (b46_f_h_9 : Int64) (b46_f_p_3 : Int32) (b46_f_pb_2 : Int32) (b46_f_pb_3 : Int32) (b46_c_pbw : (Nat → Int32)) (b46_c_pe : (Nat → Int32)) (b46_c_pt : (Nat → Int64)), rc46 b46_l_5 b46_l_4 b46_f_h_0 b46_f_h_1 b46_f_h_2 b46_f_h_6 b46_f_h_7 b46_f_h_8 b46_f_h_9 b46_f_p_3 b46_f_pb_2 b46_f_pb_3 b46_c_pbw b46_c_pe b46_c_pt = some res → ∀ {H : Heap} {locs : List Loc} {ls : Array Slot}, WD D A [oX6 a_h b46_f_h_0 b46_f_h_1 b46_f_h_2 (.ref a_f) p2 (.ref a_p) b46_f_h_6 b46_f_h_7 b46_f_h_8 b46_f_h_9, oX8 a_f (.ref a_fw) f_most f_length f_overfull, aI Y a_fw fw_n c_fw, oX4 a_p (.ref a_pb) (.ref a_pe) (.ref a_pt) b46_f_p_3, oX8 a_pb (.ref a_pbw) pb_most b46_f_pb_2 b46_f_pb_3, aI Y a_pbw pbw_n b46_c_pbw, aI Y a_pe 64 b46_c_pe, aJ Y a_pt 64 b46_c_pt] H → va_S A s.heap H locs → lv_has ls 6 [(0, .ref a_h), (4, .int b46_l_4), (5, .int b46_l_5)] → W p l e { frames := 5, cells := 0, slots := 0, locals := 115 } s m args below meth c H locs 0 0 (MQ below (va_Qv (fun _ : Unit => True) (fun _ t => PST D Y A [oX6 a_h res.1 res.2.1 res.2.2.1 (res.2.2.2.1) res.2.2.2.2.1 (res.2.2.2.2.2.1) res.2.2.2.2.2.2.1 res.2.2.2.2.2.2.2.1 res.2.2.2.2.2.2.2.2.1 res.2.2.2.2.2.2.2.2.2.1, oX8 a_f (.ref a_fw) f_most f_length f_overfull, aI Y a_fw fw_n c_fw, oX4 a_p (.ref a_pb) (.ref a_pe) (.ref a_pt) res.2.2.2.2.2.2.2.2.2.2.1, oX8 a_pb (.ref a_pbw) pb_most res.2.2.2.2.2.2.2.2.2.2.2.1 res.2.2.2.2.2.2.2.2.2.2.2.2.1, aI Y a_pbw pbw_n res.2.2.2.2.2.2.2.2.2.2.2.2.2.1, aI Y a_pe 64 res.2.2.2.2.2.2.2.2.2.2.2.2.2.2.1, aJ Y a_pt 64 res.2.2.2.2.2.2.2.2.2.2.2.2.2.2.2] t) A) args s 0 0 A) (F0 m 46 ls [])) (b102_l_4 : Int32) (b102_l_5 : Int32) (b102_c_pbw : (Nat → Int32)) (b102_c_pe : (Nat → Int32)) (b102_c_pt : (Nat → Int64)) (b102_f_h_0 : Int32) (b102_f_h_1 : Int32) (b102_f_h_2 : Int32) (b102_f_h_6 : Int32) (b102_f_h_7 : Int32) (b102_f_h_8 : Int32) (b102_f_h_9 : Int64) (b102_f_p_3 : Int32) (b102_f_pb_2 : Int32) (b102_f_pb_3 : Int32) (hf : fX6_read_b102 F rc46 b102_l_4 b102_l_5 b102_c_pbw b102_c_pe b102_c_pt b102_f_h_0 b102_f_h_1 b102_f_h_2 b102_f_h_6 b102_f_h_7 b102_f_h_8 b102_f_h_9 b102_f_p_3 b102_f_pb_2 b102_f_pb_3 = some res) {H : Heap} {locs : List Loc} {ls : Array Slot} (wd : WD D A [oX6 a_h b102_f_h_0 b102_f_h_1 b102_f_h_2 (.ref a_f) p2 (.ref a_p) b102_f_h_6 b102_f_h_7 b102_f_h_8 b102_f_h_9, oX8 a_f (.ref a_fw) f_most f_length f_overfull, aI Y a_fw fw_n c_fw, oX4 a_p (.ref a_pb) (.ref a_pe) (.ref a_pt) b102_f_p_3, oX8 a_pb (.ref a_pbw) pb_most b102_f_pb_2 b102_f_pb_3, aI Y a_pbw pbw_n b102_c_pbw, aI Y a_pe 64 b102_c_pe, aJ Y a_pt 64 b102_c_pt] H) (hS : va_S A s.heap H locs) (hl : lv_has ls 6 [(0, .ref a_h), (4, .int b102_l_4), (5, .int b102_l_5)]) : W p l e { frames := 5, cells := 0, slots := 0, locals := 115 } s m args below meth c H locs 0 0 (MQ below (va_Qv (fun _ : Unit => True) (fun _ t => PST D Y A [oX6 a_h res.1 res.2.1 res.2.2.1 (res.2.2.2.1) res.2.2.2.2.1 (res.2.2.2.2.2.1) res.2.2.2.2.2.2.1 res.2.2.2.2.2.2.2.1 res.2.2.2.2.2.2.2.2.1 res.2.2.2.2.2.2.2.2.2.1, oX8 a_f (.ref a_fw) f_most f_length f_overfull, aI Y a_fw fw_n c_fw, oX4 a_p (.ref a_pb) (.ref a_pe) (.ref a_pt) res.2.2.2.2.2.2.2.2.2.2.1, oX8 a_pb (.ref a_pbw) pb_most res.2.2.2.2.2.2.2.2.2.2.2.1 res.2.2.2.2.2.2.2.2.2.2.2.2.1, aI Y a_pbw pbw_n res.2.2.2.2.2.2.2.2.2.2.2.2.2.1, aI Y a_pe 64 res.2.2.2.2.2.2.2.2.2.2.2.2.2.2.1, aJ Y a_pt 64 res.2.2.2.2.2.2.2.2.2.2.2.2.2.2.2] t) A) args s 0 0 A) (F0 m 102 ls []) := by
  obtain ⟨hx, hb, hml, hr, hts, hown, hlocks⟩ := id C
  obtain ⟨hZ_sF, hT_sF⟩ := (hX _ (List.mem_of_getElem? (i := 0) rfl)).2
  unfold fX6_read_b102 at hf
  obtain ⟨x1, ex1⟩ : ∃ y : Int32, y = b102_l_5 + 1 := ⟨_, rfl⟩
  have hf := nm_at hf ex1
  refine lv_iinc (v := x1) (lv' := [(5, .int x1), (0, .ref a_h), (4, .int b102_l_4)]) hx hb dX6_read_102 hl (k := 2) rfl (by rw [ex1]; rfl) (by decide) rfl (fun ls hl => ?_)
  refine lv_goto (tgt := 46) hx hb dX6_read_105 (by decide) ?_
  exact hrc46 x1 b102_l_4 b102_f_h_0 b102_f_h_1 b102_f_h_2 b102_f_h_6 b102_f_h_7 b102_f_h_8 b102_f_h_9 b102_f_p_3 b102_f_pb_2 b102_f_pb_3 b102_c_pbw b102_c_pe b102_c_pt hf wd hS (lv_sub hl [1, 2, 0] rfl)

set_option maxHeartbeats 4000000 in
set_option maxRecDepth 100000 in
theorem wX6_read_b131 {p : Program} {l : Launch} {e : Env} {s : State} {m : MethodId} {args : Array Value} {below : List Frame} {meth : Method} {c : Code} {A : Nat → Prop} (D : va_G) (Y : Y4) (C : CX p s m meth c args cX6_read 6 none wsX6_read RX6) (hA : ∀ q : Nat, s.heap.size ≤ q → A q) (hK : va_K D vwCl (TY Y) s) (F : Nat) (a_h : Nat) (a_f : Nat) (a_fw : Nat) (a_p : Nat) (a_pb : Nat) (a_pbw : Nat) (a_pe : Nat) (a_pt : Nat) (a_sF : Nat) (h_fault : Int32) (h_place : Int32) (h_pageCount : Int32) (h_file : Value) (h_limit : Int32) (h_target : Value) (h_packetIsOpen : Int32) (h_lastWasRead : Int32) (h_serial : Int32) (h_latestTime : Int64) (f_most : Int32) (f_length : Int32) (f_overfull : Int32) (fw_n : Nat) (c_fw : (Nat → Int32)) (p_packets : Int32) (pb_most : Int32) (pb_length : Int32) (pb_overfull : Int32) (pbw_n : Nat) (c_pbw : (Nat → Int32)) (c_pe : (Nat → Int32)) (c_pt : (Nat → Int64)) (p2 : Int32) (hX : ST [e_sF a_sF] A s) (res : Int32 × Int32 × Int32 × Value × Int32 × Value × Int32 × Int32 × Int32 × Int64 × Int32 × Int32 × Int32 × (Nat → Int32) × (Nat → Int32) × (Nat → Int64)) (b131_f_h_0 : Int32) (b131_f_h_1 : Int32) (b131_f_h_2 : Int32) (b131_f_h_6 : Int32) (b131_f_h_7 : Int32) (b131_f_h_8 : Int32) (b131_f_h_9 : Int64) (b131_f_p_3 : Int32) (b131_f_pb_2 : Int32) (b131_f_pb_3 : Int32) (b131_c_pbw : (Nat → Int32)) (b131_c_pe : (Nat → Int32)) (b131_c_pt : (Nat → Int64)) (hf : fX6_read_b131 F p2 a_f a_p b131_f_h_0 b131_f_h_1 b131_f_h_2 b131_f_h_6 b131_f_h_7 b131_f_h_8 b131_f_h_9 b131_f_p_3 b131_f_pb_2 b131_f_pb_3 b131_c_pbw b131_c_pe b131_c_pt = some res) {H : Heap} {locs : List Loc} {ls : Array Slot} (wd : WD D A [oX6 a_h b131_f_h_0 b131_f_h_1 b131_f_h_2 (.ref a_f) p2 (.ref a_p) b131_f_h_6 b131_f_h_7 b131_f_h_8 b131_f_h_9, oX8 a_f (.ref a_fw) f_most f_length f_overfull, aI Y a_fw fw_n c_fw, oX4 a_p (.ref a_pb) (.ref a_pe) (.ref a_pt) b131_f_p_3, oX8 a_pb (.ref a_pbw) pb_most b131_f_pb_2 b131_f_pb_3, aI Y a_pbw pbw_n b131_c_pbw, aI Y a_pe 64 b131_c_pe, aJ Y a_pt 64 b131_c_pt] H) (hS : va_S A s.heap H locs) (hl : lv_has ls 6 [(0, .ref a_h)]) : W p l e { frames := 5, cells := 0, slots := 0, locals := 115 } s m args below meth c H locs 0 0 (MQ below (va_Qv (fun _ : Unit => True) (fun _ t => PST D Y A [oX6 a_h res.1 res.2.1 res.2.2.1 (res.2.2.2.1) res.2.2.2.2.1 (res.2.2.2.2.2.1) res.2.2.2.2.2.2.1 res.2.2.2.2.2.2.2.1 res.2.2.2.2.2.2.2.2.1 res.2.2.2.2.2.2.2.2.2.1, oX8 a_f (.ref a_fw) f_most f_length f_overfull, aI Y a_fw fw_n c_fw, oX4 a_p (.ref a_pb) (.ref a_pe) (.ref a_pt) res.2.2.2.2.2.2.2.2.2.2.1, oX8 a_pb (.ref a_pbw) pb_most res.2.2.2.2.2.2.2.2.2.2.2.1 res.2.2.2.2.2.2.2.2.2.2.2.2.1, aI Y a_pbw pbw_n res.2.2.2.2.2.2.2.2.2.2.2.2.2.1, aI Y a_pe 64 res.2.2.2.2.2.2.2.2.2.2.2.2.2.2.1, aJ Y a_pt 64 res.2.2.2.2.2.2.2.2.2.2.2.2.2.2.2] t) A) args s 0 0 A) (F0 m 131 ls []) := by
  obtain ⟨hx, hb, hml, hr, hts, hown, hlocks⟩ := id C
  obtain ⟨hZ_sF, hT_sF⟩ := (hX _ (List.mem_of_getElem? (i := 0) rfl)).2
  unfold fX6_read_b131 at hf
  refine lv_aload_n hx hb dX6_read_131 rfl (lv_at hl 0 rfl) ?_
  refine va_get (D := D) (ci := 4) (v := .int b131_f_h_0) (C := RX6) (T := TX6) (N := 10) hx hb hts iX6_read_X6 hown hK wd.1 0 rfl rfl 0 (by decide) (hts _ mX6_read_7) (fun _ h9 => h9) rfl dX6_read_132 ?_
  refine lv_if_ne (tgt := 143) hx hb dX6_read_135 (by decide) (fun q1 => ?_) (fun q1 => ?_)
  · have hf := ie hf q1
    obtain rfl := Option.some.inj hf
    exact W.vret hx hb hr (fun t ht hW => ⟨⟨(), rfl, trivial, WD.pst wd hK ht hW⟩, hS.F ht⟩) hS.2.2 dX6_read_143
  · have hf := ip hf q1
    refine lv_aload_n hx hb dX6_read_138 rfl (lv_at hl 0 rfl) ?_
    refine lv_iconst (v := (-1)) hx hb dX6_read_139 (by decide) ?_
    refine va_put (D := D) (ci := 4) (v := .int (-1)) (ty := .int) (C := RX6) (T := TX6) (N := 10) hx hb hts iX6_read_X6 tyX6 tyX6_ok nmX6 hown hK wd.1 wd.2 hS 0 rfl rfl 1 (by decide) (hts _ mX6_read_8) (fun _ h9 => h9) rfl (by decide +kernel) rfl rfl (Nat.le_of_ble_eq_true rfl) dX6_read_140 (fun H locs hP hD hS => ?_)
    have wd : WD D A [oX6 a_h b131_f_h_0 (-1) b131_f_h_2 (.ref a_f) p2 (.ref a_p) b131_f_h_6 b131_f_h_7 b131_f_h_8 b131_f_h_9, oX8 a_f (.ref a_fw) f_most f_length f_overfull, aI Y a_fw fw_n c_fw, oX4 a_p (.ref a_pb) (.ref a_pe) (.ref a_pt) b131_f_p_3, oX8 a_pb (.ref a_pbw) pb_most b131_f_pb_2 b131_f_pb_3, aI Y a_pbw pbw_n b131_c_pbw, aI Y a_pe 64 b131_c_pe, aJ Y a_pt 64 b131_c_pt] H := ⟨hP, hD⟩
    clear hP hD
    obtain rfl := Option.some.inj hf
    exact W.vret hx hb hr (fun t ht hW => ⟨⟨(), rfl, trivial, WD.pst wd hK ht hW⟩, hS.F ht⟩) hS.2.2 dX6_read_143

set_option maxHeartbeats 4000000 in
set_option maxRecDepth 100000 in
theorem wX6_read_b108 {p : Program} {l : Launch} {e : Env} {s : State} {m : MethodId} {args : Array Value} {below : List Frame} {meth : Method} {c : Code} {A : Nat → Prop} (D : va_G) (Y : Y4) (C : CX p s m meth c args cX6_read 6 none wsX6_read RX6) (hA : ∀ q : Nat, s.heap.size ≤ q → A q) (hK : va_K D vwCl (TY Y) s) (F : Nat) (a_h : Nat) (a_f : Nat) (a_fw : Nat) (a_p : Nat) (a_pb : Nat) (a_pbw : Nat) (a_pe : Nat) (a_pt : Nat) (a_sF : Nat) (h_fault : Int32) (h_place : Int32) (h_pageCount : Int32) (h_file : Value) (h_limit : Int32) (h_target : Value) (h_packetIsOpen : Int32) (h_lastWasRead : Int32) (h_serial : Int32) (h_latestTime : Int64) (f_most : Int32) (f_length : Int32) (f_overfull : Int32) (fw_n : Nat) (c_fw : (Nat → Int32)) (p_packets : Int32) (pb_most : Int32) (pb_length : Int32) (pb_overfull : Int32) (pbw_n : Nat) (c_pbw : (Nat → Int32)) (c_pe : (Nat → Int32)) (c_pt : (Nat → Int64)) (p2 : Int32) (hX : ST [e_sF a_sF] A s) (res : Int32 × Int32 × Int32 × Value × Int32 × Value × Int32 × Int32 × Int32 × Int64 × Int32 × Int32 × Int32 × (Nat → Int32) × (Nat → Int32) × (Nat → Int64)) (b108_f_h_0 : Int32) (b108_f_h_1 : Int32) (b108_f_h_2 : Int32) (b108_f_h_6 : Int32) (b108_f_h_7 : Int32) (b108_f_h_8 : Int32) (b108_f_h_9 : Int64) (b108_f_p_3 : Int32) (b108_f_pb_2 : Int32) (b108_f_pb_3 : Int32) (b108_c_pbw : (Nat → Int32)) (b108_c_pe : (Nat → Int32)) (b108_c_pt : (Nat → Int64)) (hf : fX6_read_b108 F p2 a_f a_p b108_f_h_0 b108_f_h_1 b108_f_h_2 b108_f_h_6 b108_f_h_7 b108_f_h_8 b108_f_h_9 b108_f_p_3 b108_f_pb_2 b108_f_pb_3 b108_c_pbw b108_c_pe b108_c_pt = some res) {H : Heap} {locs : List Loc} {ls : Array Slot} (wd : WD D A [oX6 a_h b108_f_h_0 b108_f_h_1 b108_f_h_2 (.ref a_f) p2 (.ref a_p) b108_f_h_6 b108_f_h_7 b108_f_h_8 b108_f_h_9, oX8 a_f (.ref a_fw) f_most f_length f_overfull, aI Y a_fw fw_n c_fw, oX4 a_p (.ref a_pb) (.ref a_pe) (.ref a_pt) b108_f_p_3, oX8 a_pb (.ref a_pbw) pb_most b108_f_pb_2 b108_f_pb_3, aI Y a_pbw pbw_n b108_c_pbw, aI Y a_pe 64 b108_c_pe, aJ Y a_pt 64 b108_c_pt] H) (hS : va_S A s.heap H locs) (hl : lv_has ls 6 [(0, .ref a_h)]) : W p l e { frames := 5, cells := 0, slots := 0, locals := 115 } s m args below meth c H locs 0 0 (MQ below (va_Qv (fun _ : Unit => True) (fun _ t => PST D Y A [oX6 a_h res.1 res.2.1 res.2.2.1 (res.2.2.2.1) res.2.2.2.2.1 (res.2.2.2.2.2.1) res.2.2.2.2.2.2.1 res.2.2.2.2.2.2.2.1 res.2.2.2.2.2.2.2.2.1 res.2.2.2.2.2.2.2.2.2.1, oX8 a_f (.ref a_fw) f_most f_length f_overfull, aI Y a_fw fw_n c_fw, oX4 a_p (.ref a_pb) (.ref a_pe) (.ref a_pt) res.2.2.2.2.2.2.2.2.2.2.1, oX8 a_pb (.ref a_pbw) pb_most res.2.2.2.2.2.2.2.2.2.2.2.1 res.2.2.2.2.2.2.2.2.2.2.2.2.1, aI Y a_pbw pbw_n res.2.2.2.2.2.2.2.2.2.2.2.2.2.1, aI Y a_pe 64 res.2.2.2.2.2.2.2.2.2.2.2.2.2.2.1, aJ Y a_pt 64 res.2.2.2.2.2.2.2.2.2.2.2.2.2.2.2] t) A) args s 0 0 A) (F0 m 108 ls []) := by
  obtain ⟨hx, hb, hml, hr, hts, hown, hlocks⟩ := id C
  obtain ⟨hZ_sF, hT_sF⟩ := (hX _ (List.mem_of_getElem? (i := 0) rfl)).2
  unfold fX6_read_b108 at hf
  refine lv_aload_n hx hb dX6_read_108 rfl (lv_at hl 0 rfl) ?_
  refine va_get (D := D) (ci := 4) (v := .int b108_f_h_0) (C := RX6) (T := TX6) (N := 10) hx hb hts iX6_read_X6 hown hK wd.1 0 rfl rfl 0 (by decide) (hts _ mX6_read_7) (fun _ h9 => h9) rfl dX6_read_109 ?_
  refine lv_if_ne (tgt := 131) hx hb dX6_read_112 (by decide) (fun q1 => ?_) (fun q1 => ?_)
  · have hf := ie hf q1
    exact wX6_read_b131 D Y C hA hK F a_h a_f a_fw a_p a_pb a_pbw a_pe a_pt a_sF h_fault h_place h_pageCount h_file h_limit h_target h_packetIsOpen h_lastWasRead h_serial h_latestTime f_most f_length f_overfull fw_n c_fw p_packets pb_most pb_length pb_overfull pbw_n c_pbw c_pe c_pt p2 hX _ b108_f_h_0 b108_f_h_1 b108_f_h_2 b108_f_h_6 b108_f_h_7 b108_f_h_8 b108_f_h_9 b108_f_p_3 b108_f_pb_2 b108_f_pb_3 b108_c_pbw b108_c_pe b108_c_pt hf wd hS (lv_sub hl [0] rfl)
  · have hf := ip hf q1
    refine lv_aload_n hx hb dX6_read_115 rfl (lv_at hl 0 rfl) ?_
    refine lv_aload_n hx hb dX6_read_116 rfl (lv_at hl 0 rfl) ?_
    refine va_get (D := D) (ci := 4) (v := .int p2) (C := RX6) (T := TX6) (N := 10) hx hb hts iX6_read_X6 hown hK wd.1 0 rfl rfl 4 (by decide) (hts _ mX6_read_1) (fun _ h9 => h9) rfl dX6_read_117 ?_
    refine va_put (D := D) (ci := 4) (v := .int p2) (ty := .int) (C := RX6) (T := TX6) (N := 10) hx hb hts iX6_read_X6 tyX6 tyX6_ok nmX6 hown hK wd.1 wd.2 hS 0 rfl rfl 1 (by decide) (hts _ mX6_read_8) (fun _ h9 => h9) rfl (by decide +kernel) rfl rfl (Nat.le_of_ble_eq_true rfl) dX6_read_120 (fun H locs hP hD hS => ?_)
    have wd : WD D A [oX6 a_h b108_f_h_0 p2 b108_f_h_2 (.ref a_f) p2 (.ref a_p) b108_f_h_6 b108_f_h_7 b108_f_h_8 b108_f_h_9, oX8 a_f (.ref a_fw) f_most f_length f_overfull, aI Y a_fw fw_n c_fw, oX4 a_p (.ref a_pb) (.ref a_pe) (.ref a_pt) b108_f_p_3, oX8 a_pb (.ref a_pbw) pb_most b108_f_pb_2 b108_f_pb_3, aI Y a_pbw pbw_n b108_c_pbw, aI Y a_pe 64 b108_c_pe, aJ Y a_pt 64 b108_c_pt] H := ⟨hP, hD⟩
    clear hP hD
    refine lv_aload_n hx hb dX6_read_123 rfl (lv_at hl 0 rfl) ?_
    refine lv_aload_n hx hb dX6_read_124 rfl (lv_at hl 0 rfl) ?_
    obtain ⟨o2, ho2, hf⟩ := ob hf
    refine xj_i (va_runV (As := []) (rest := [.ref a_h]) ⟨hx, hb, hml, hown, hts⟩ (kX6_faultAtEnd l D Y F a_h a_f a_p H.size b108_f_h_0 p2 b108_f_h_2 p2 b108_f_h_6 b108_f_h_7 b108_f_h_8 b108_f_h_9 o2 ho2) (cwV 0 hts gX6_read_X6_faultAtEnd rfl rfl rfl (by decide +kernel) ⟨Nat.le_of_ble_eq_true rfl, Nat.le_of_ble_eq_true rfl⟩) (prev_w (ci := 4) rfl rfl hK wd [0] rfl (by decide)) rfl rfl hl.1 rfl (lv_room (Nat.le_of_ble_eq_true rfl)) dX6_read_125 ⟨Nat.zero_le _, Nat.zero_le _⟩) wd hS hA [0] [1, 2, 3, 4, 5, 6, 7] rfl rfl (by decide) (by decide) (fun H locs wd hS => ?_)
    have wd : WD D A [oX8 a_f (.ref a_fw) f_most f_length f_overfull, aI Y a_fw fw_n c_fw, oX4 a_p (.ref a_pb) (.ref a_pe) (.ref a_pt) b108_f_p_3, oX8 a_pb (.ref a_pbw) pb_most b108_f_pb_2 b108_f_pb_3, aI Y a_pbw pbw_n b108_c_pbw, aI Y a_pe 64 b108_c_pe, aJ Y a_pt 64 b108_c_pt, oX6 a_h b108_f_h_0 p2 b108_f_h_2 (.ref a_f) p2 (.ref a_p) b108_f_h_6 b108_f_h_7 b108_f_h_8 b108_f_h_9] H := wd
    refine va_put (D := D) (ci := 4) (v := .int o2) (ty := .int) (C := RX6) (T := TX6) (N := 10) hx hb hts iX6_read_X6 tyX6 tyX6_ok nmX6 hown hK wd.1 wd.2 hS 7 rfl rfl 0 (by decide) (hts _ mX6_read_7) (fun _ h9 => h9) rfl (by decide +kernel) rfl rfl (Nat.le_of_ble_eq_true rfl) dX6_read_128 (fun H locs hP hD hS => ?_)
    have wd : WD D A [oX8 a_f (.ref a_fw) f_most f_length f_overfull, aI Y a_fw fw_n c_fw, oX4 a_p (.ref a_pb) (.ref a_pe) (.ref a_pt) b108_f_p_3, oX8 a_pb (.ref a_pbw) pb_most b108_f_pb_2 b108_f_pb_3, aI Y a_pbw pbw_n b108_c_pbw, aI Y a_pe 64 b108_c_pe, aJ Y a_pt 64 b108_c_pt, oX6 a_h o2 p2 b108_f_h_2 (.ref a_f) p2 (.ref a_p) b108_f_h_6 b108_f_h_7 b108_f_h_8 b108_f_h_9] H := ⟨hP, hD⟩
    clear hP hD
    exact wX6_read_b131 D Y C hA hK F a_h a_f a_fw a_p a_pb a_pbw a_pe a_pt a_sF h_fault h_place h_pageCount h_file h_limit h_target h_packetIsOpen h_lastWasRead h_serial h_latestTime f_most f_length f_overfull fw_n c_fw p_packets pb_most pb_length pb_overfull pbw_n c_pbw c_pe c_pt p2 hX _ o2 p2 b108_f_h_2 b108_f_h_6 b108_f_h_7 b108_f_h_8 b108_f_h_9 b108_f_p_3 b108_f_pb_2 b108_f_pb_3 b108_c_pbw b108_c_pe b108_c_pt hf (wd.sub [7, 0, 1, 2, 3, 4, 5, 6] rfl (by decide)) hS (lv_sub hl [0] rfl)

set_option maxHeartbeats 4000000 in
set_option maxRecDepth 100000 in
theorem wX6_read_b46 {p : Program} {l : Launch} {e : Env} {s : State} {m : MethodId} {args : Array Value} {below : List Frame} {meth : Method} {c : Code} {A : Nat → Prop} (D : va_G) (Y : Y4) (C : CX p s m meth c args cX6_read 6 none wsX6_read RX6) (hA : ∀ q : Nat, s.heap.size ≤ q → A q) (hK : va_K D vwCl (TY Y) s) (F : Nat) (a_h : Nat) (a_f : Nat) (a_fw : Nat) (a_p : Nat) (a_pb : Nat) (a_pbw : Nat) (a_pe : Nat) (a_pt : Nat) (a_sF : Nat) (h_fault : Int32) (h_place : Int32) (h_pageCount : Int32) (h_file : Value) (h_limit : Int32) (h_target : Value) (h_packetIsOpen : Int32) (h_lastWasRead : Int32) (h_serial : Int32) (h_latestTime : Int64) (f_most : Int32) (f_length : Int32) (f_overfull : Int32) (fw_n : Nat) (c_fw : (Nat → Int32)) (p_packets : Int32) (pb_most : Int32) (pb_length : Int32) (pb_overfull : Int32) (pbw_n : Nat) (c_pbw : (Nat → Int32)) (c_pe : (Nat → Int32)) (c_pt : (Nat → Int64)) (p2 : Int32) (hX : ST [e_sF a_sF] A s) (res : Int32 × Int32 × Int32 × Value × Int32 × Value × Int32 × Int32 × Int32 × Int64 × Int32 × Int32 × Int32 × (Nat → Int32) × (Nat → Int32) × (Nat → Int64)) : ∀ (n : Nat) (b46_l_5 : Int32) (b46_l_4 : Int32) (b46_f_h_0 : Int32) (b46_f_h_1 : Int32) (b46_f_h_2 : Int32) (b46_f_h_6 : Int32) (b46_f_h_7 : Int32) (b46_f_h_8 : Int32) (b46_f_h_9 : Int64) (b46_f_p_3 : Int32) (b46_f_pb_2 : Int32) (b46_f_pb_3 : Int32) (b46_c_pbw : (Nat → Int32)) (b46_c_pe : (Nat → Int32)) (b46_c_pt : (Nat → Int64)), fX6_read_b46 F f_length fw_n c_fw pb_most pbw_n p2 a_f a_p n b46_l_5 b46_l_4 b46_f_h_0 b46_f_h_1 b46_f_h_2 b46_f_h_6 b46_f_h_7 b46_f_h_8 b46_f_h_9 b46_f_p_3 b46_f_pb_2 b46_f_pb_3 b46_c_pbw b46_c_pe b46_c_pt = some res → ∀ {H : Heap} {locs : List Loc} {ls : Array Slot}, WD D A [oX6 a_h b46_f_h_0 b46_f_h_1 b46_f_h_2 (.ref a_f) p2 (.ref a_p) b46_f_h_6 b46_f_h_7 b46_f_h_8 b46_f_h_9, oX8 a_f (.ref a_fw) f_most f_length f_overfull, aI Y a_fw fw_n c_fw, oX4 a_p (.ref a_pb) (.ref a_pe) (.ref a_pt) b46_f_p_3, oX8 a_pb (.ref a_pbw) pb_most b46_f_pb_2 b46_f_pb_3, aI Y a_pbw pbw_n b46_c_pbw, aI Y a_pe 64 b46_c_pe, aJ Y a_pt 64 b46_c_pt] H → va_S A s.heap H locs → lv_has ls 6 [(0, .ref a_h), (4, .int b46_l_4), (5, .int b46_l_5)] → W p l e { frames := 5, cells := 0, slots := 0, locals := 115 } s m args below meth c H locs 0 0 (MQ below (va_Qv (fun _ : Unit => True) (fun _ t => PST D Y A [oX6 a_h res.1 res.2.1 res.2.2.1 (res.2.2.2.1) res.2.2.2.2.1 (res.2.2.2.2.2.1) res.2.2.2.2.2.2.1 res.2.2.2.2.2.2.2.1 res.2.2.2.2.2.2.2.2.1 res.2.2.2.2.2.2.2.2.2.1, oX8 a_f (.ref a_fw) f_most f_length f_overfull, aI Y a_fw fw_n c_fw, oX4 a_p (.ref a_pb) (.ref a_pe) (.ref a_pt) res.2.2.2.2.2.2.2.2.2.2.1, oX8 a_pb (.ref a_pbw) pb_most res.2.2.2.2.2.2.2.2.2.2.2.1 res.2.2.2.2.2.2.2.2.2.2.2.2.1, aI Y a_pbw pbw_n res.2.2.2.2.2.2.2.2.2.2.2.2.2.1, aI Y a_pe 64 res.2.2.2.2.2.2.2.2.2.2.2.2.2.2.1, aJ Y a_pt 64 res.2.2.2.2.2.2.2.2.2.2.2.2.2.2.2] t) A) args s 0 0 A) (F0 m 46 ls []) := by
  obtain ⟨hx, hb, hml, hr, hts, hown, hlocks⟩ := id C
  obtain ⟨hZ_sF, hT_sF⟩ := (hX _ (List.mem_of_getElem? (i := 0) rfl)).2
  intro n
  induction n with
  | zero => intro b46_l_5 b46_l_4 b46_f_h_0 b46_f_h_1 b46_f_h_2 b46_f_h_6 b46_f_h_7 b46_f_h_8 b46_f_h_9 b46_f_p_3 b46_f_pb_2 b46_f_pb_3 b46_c_pbw b46_c_pe b46_c_pt hf; exact absurd hf (by simp [fX6_read_b46])
  | succ n ih =>
    intro b46_l_5 b46_l_4 b46_f_h_0 b46_f_h_1 b46_f_h_2 b46_f_h_6 b46_f_h_7 b46_f_h_8 b46_f_h_9 b46_f_p_3 b46_f_pb_2 b46_f_pb_3 b46_c_pbw b46_c_pe b46_c_pt hf H locs ls wd hS hl
    unfold fX6_read_b46 at hf
    refine lv_iload hx hb dX6_read_46 (lv_at hl 2 rfl) ?_
    refine lv_aload_n hx hb dX6_read_48 rfl (lv_at hl 0 rfl) ?_
    refine va_get (D := D) (ci := 4) (v := .int p2) (C := RX6) (T := TX6) (N := 10) hx hb hts iX6_read_X6 hown hK wd.1 0 rfl rfl 4 (by decide) (hts _ mX6_read_1) (fun _ h9 => h9) rfl dX6_read_49 ?_
    refine lv_icmp_ge (tgt := 108) hx hb dX6_read_52 (by decide) (fun q1 => ?_) (fun q1 => ?_)
    · have hf := ip hf q1
      exact wX6_read_b108 D Y C hA hK F a_h a_f a_fw a_p a_pb a_pbw a_pe a_pt a_sF h_fault h_place h_pageCount h_file h_limit h_target h_packetIsOpen h_lastWasRead h_serial h_latestTime f_most f_length f_overfull fw_n c_fw p_packets pb_most pb_length pb_overfull pbw_n c_pbw c_pe c_pt p2 hX _ b46_f_h_0 b46_f_h_1 b46_f_h_2 b46_f_h_6 b46_f_h_7 b46_f_h_8 b46_f_h_9 b46_f_p_3 b46_f_pb_2 b46_f_pb_3 b46_c_pbw b46_c_pe b46_c_pt hf wd hS (lv_sub hl [0] rfl)
    · have hf := ie hf q1
      refine lv_iload hx hb dX6_read_55 (lv_at hl 1 rfl) ?_
      refine lv_aload_n hx hb dX6_read_57 rfl (lv_at hl 0 rfl) ?_
      refine va_get (D := D) (ci := 4) (v := .int p2) (C := RX6) (T := TX6) (N := 10) hx hb hts iX6_read_X6 hown hK wd.1 0 rfl rfl 4 (by decide) (hts _ mX6_read_1) (fun _ h9 => h9) rfl dX6_read_58 ?_
      refine lv_icmp_ge (tgt := 108) hx hb dX6_read_61 (by decide) (fun q2 => ?_) (fun q2 => ?_)
      · have hf := ip hf q2
        exact wX6_read_b108 D Y C hA hK F a_h a_f a_fw a_p a_pb a_pbw a_pe a_pt a_sF h_fault h_place h_pageCount h_file h_limit h_target h_packetIsOpen h_lastWasRead h_serial h_latestTime f_most f_length f_overfull fw_n c_fw p_packets pb_most pb_length pb_overfull pbw_n c_pbw c_pe c_pt p2 hX _ b46_f_h_0 b46_f_h_1 b46_f_h_2 b46_f_h_6 b46_f_h_7 b46_f_h_8 b46_f_h_9 b46_f_p_3 b46_f_pb_2 b46_f_pb_3 b46_c_pbw b46_c_pe b46_c_pt hf wd hS (lv_sub hl [0] rfl)
      · have hf := ie hf q2
        refine lv_aload_n hx hb dX6_read_64 rfl (lv_at hl 0 rfl) ?_
        refine va_get (D := D) (ci := 4) (v := .int b46_f_h_0) (C := RX6) (T := TX6) (N := 10) hx hb hts iX6_read_X6 hown hK wd.1 0 rfl rfl 0 (by decide) (hts _ mX6_read_7) (fun _ h9 => h9) rfl dX6_read_65 ?_
        refine lv_if_ne (tgt := 108) hx hb dX6_read_68 (by decide) (fun q3 => ?_) (fun q3 => ?_)
        · have hf := ie hf q3
          exact wX6_read_b108 D Y C hA hK F a_h a_f a_fw a_p a_pb a_pbw a_pe a_pt a_sF h_fault h_place h_pageCount h_file h_limit h_target h_packetIsOpen h_lastWasRead h_serial h_latestTime f_most f_length f_overfull fw_n c_fw p_packets pb_most pb_length pb_overfull pbw_n c_pbw c_pe c_pt p2 hX _ b46_f_h_0 b46_f_h_1 b46_f_h_2 b46_f_h_6 b46_f_h_7 b46_f_h_8 b46_f_h_9 b46_f_p_3 b46_f_pb_2 b46_f_pb_3 b46_c_pbw b46_c_pe b46_c_pt hf wd hS (lv_sub hl [0] rfl)
        · have hf := ip hf q3
          refine lv_aload_n hx hb dX6_read_71 rfl (lv_at hl 0 rfl) ?_
          refine lv_iload hx hb dX6_read_72 (lv_at hl 1 rfl) ?_
          refine va_put (D := D) (ci := 4) (v := .int b46_l_4) (ty := .int) (C := RX6) (T := TX6) (N := 10) hx hb hts iX6_read_X6 tyX6 tyX6_ok nmX6 hown hK wd.1 wd.2 hS 0 rfl rfl 1 (by decide) (hts _ mX6_read_8) (fun _ h9 => h9) rfl (by decide +kernel) rfl rfl (Nat.le_of_ble_eq_true rfl) dX6_read_74 (fun H locs hP hD hS => ?_)
          have wd : WD D A [oX6 a_h b46_f_h_0 b46_l_4 b46_f_h_2 (.ref a_f) p2 (.ref a_p) b46_f_h_6 b46_f_h_7 b46_f_h_8 b46_f_h_9, oX8 a_f (.ref a_fw) f_most f_length f_overfull, aI Y a_fw fw_n c_fw, oX4 a_p (.ref a_pb) (.ref a_pe) (.ref a_pt) b46_f_p_3, oX8 a_pb (.ref a_pbw) pb_most b46_f_pb_2 b46_f_pb_3, aI Y a_pbw pbw_n b46_c_pbw, aI Y a_pe 64 b46_c_pe, aJ Y a_pt 64 b46_c_pt] H := ⟨hP, hD⟩
          clear hP hD
          refine lv_aload_n hx hb dX6_read_77 rfl (lv_at hl 0 rfl) ?_
          refine lv_aload_n hx hb dX6_read_78 rfl (lv_at hl 0 rfl) ?_
          refine lv_iload hx hb dX6_read_79 (lv_at hl 1 rfl) ?_
          obtain ⟨o4, ho4, hf⟩ := ob hf
          refine xj_i (va_runV (As := [.int b46_l_4]) (rest := [.ref a_h]) ⟨hx, hb, hml, hown, hts⟩ (kX6_faultOf l D Y F a_h a_f a_fw a_p a_pb a_pe a_pt a_pbw a_sF H.size b46_f_h_0 b46_l_4 b46_f_h_2 p2 b46_f_h_6 b46_f_h_7 b46_f_h_8 b46_f_h_9 f_most f_length f_overfull fw_n c_fw b46_f_p_3 pb_most b46_f_pb_2 b46_f_pb_3 b46_l_4 o4 ho4) (cwV 1 hts gX6_read_X6_faultOf rfl rfl rfl (by decide +kernel) ⟨Nat.le_of_ble_eq_true rfl, Nat.le_of_ble_eq_true rfl⟩) (prev_wx (ci := 4) rfl rfl hK wd [0, 1, 2, 3, 4] rfl (by decide) hA hX (fun q hq => hq) hS) rfl rfl hl.1 rfl (lv_room (Nat.le_of_ble_eq_true rfl)) dX6_read_81 ⟨Nat.zero_le _, Nat.zero_le _⟩) wd hS hA [0, 1, 2, 3, 4] [5, 6, 7] rfl rfl (by decide) (by decide) (fun H locs wd hS => ?_)
          have wd : WD D A [aI Y a_pbw pbw_n b46_c_pbw, aI Y a_pe 64 b46_c_pe, aJ Y a_pt 64 b46_c_pt, oX6 a_h b46_f_h_0 b46_l_4 b46_f_h_2 (.ref a_f) p2 (.ref a_p) b46_f_h_6 b46_f_h_7 b46_f_h_8 b46_f_h_9, oX8 a_f (.ref a_fw) f_most f_length f_overfull, aI Y a_fw fw_n c_fw, oX4 a_p (.ref a_pb) (.ref a_pe) (.ref a_pt) b46_f_p_3, oX8 a_pb (.ref a_pbw) pb_most b46_f_pb_2 b46_f_pb_3] H := wd
          refine va_put (D := D) (ci := 4) (v := .int o4) (ty := .int) (C := RX6) (T := TX6) (N := 10) hx hb hts iX6_read_X6 tyX6 tyX6_ok nmX6 hown hK wd.1 wd.2 hS 3 rfl rfl 0 (by decide) (hts _ mX6_read_7) (fun _ h9 => h9) rfl (by decide +kernel) rfl rfl (Nat.le_of_ble_eq_true rfl) dX6_read_84 (fun H locs hP hD hS => ?_)
          have wd : WD D A [aI Y a_pbw pbw_n b46_c_pbw, aI Y a_pe 64 b46_c_pe, aJ Y a_pt 64 b46_c_pt, oX6 a_h o4 b46_l_4 b46_f_h_2 (.ref a_f) p2 (.ref a_p) b46_f_h_6 b46_f_h_7 b46_f_h_8 b46_f_h_9, oX8 a_f (.ref a_fw) f_most f_length f_overfull, aI Y a_fw fw_n c_fw, oX4 a_p (.ref a_pb) (.ref a_pe) (.ref a_pt) b46_f_p_3, oX8 a_pb (.ref a_pbw) pb_most b46_f_pb_2 b46_f_pb_3] H := ⟨hP, hD⟩
          clear hP hD
          refine lv_aload_n hx hb dX6_read_87 rfl (lv_at hl 0 rfl) ?_
          refine va_get (D := D) (ci := 4) (v := .int o4) (C := RX6) (T := TX6) (N := 10) hx hb hts iX6_read_X6 hown hK wd.1 3 rfl rfl 0 (by decide) (hts _ mX6_read_7) (fun _ h9 => h9) rfl dX6_read_88 ?_
          refine lv_if_ne (tgt := 102) hx hb dX6_read_91 (by decide) (fun q5 => ?_) (fun q5 => ?_)
          · have hf := ie hf q5
            exact wX6_read_b102 D Y C hA hK F a_h a_f a_fw a_p a_pb a_pbw a_pe a_pt a_sF h_fault h_place h_pageCount h_file h_limit h_target h_packetIsOpen h_lastWasRead h_serial h_latestTime f_most f_length f_overfull fw_n c_fw p_packets pb_most pb_length pb_overfull pbw_n c_pbw c_pe c_pt p2 hX _ (fX6_read_b46 F f_length fw_n c_fw pb_most pbw_n p2 a_f a_p n) ih b46_l_4 b46_l_5 b46_c_pbw b46_c_pe b46_c_pt o4 b46_l_4 b46_f_h_2 b46_f_h_6 b46_f_h_7 b46_f_h_8 b46_f_h_9 b46_f_p_3 b46_f_pb_2 b46_f_pb_3 hf (wd.sub [3, 4, 5, 6, 7, 0, 1, 2] rfl (by decide)) hS (lv_sub hl [0, 1, 2] rfl)
          · have hf := ip hf q5
            refine lv_aload_n hx hb dX6_read_94 rfl (lv_at hl 0 rfl) ?_
            refine lv_iload hx hb dX6_read_95 (lv_at hl 1 rfl) ?_
            obtain ⟨o6, ho6, hf⟩ := ob hf
            refine xj_i (va_runV (As := [.int b46_l_4]) (rest := []) ⟨hx, hb, hml, hown, hts⟩ (kX6_takePage l D Y F a_h a_f a_fw a_p a_pb a_pbw a_pe a_pt H.size o4 b46_l_4 b46_f_h_2 p2 b46_f_h_6 b46_f_h_7 b46_f_h_8 b46_f_h_9 f_most f_length f_overfull fw_n c_fw b46_f_p_3 pb_most b46_f_pb_2 b46_f_pb_3 pbw_n b46_c_pbw b46_c_pe b46_c_pt b46_l_4 o6 ho6) (cwV 1 hts gX6_read_X6_takePage rfl rfl rfl (by decide +kernel) ⟨Nat.le_of_ble_eq_true rfl, Nat.le_of_ble_eq_true rfl⟩) (prev_w (ci := 4) rfl rfl hK wd [3, 4, 5, 6, 7, 0, 1, 2] rfl (by decide)) rfl rfl hl.1 rfl (lv_room (Nat.le_of_ble_eq_true rfl)) dX6_read_97 ⟨Nat.zero_le _, Nat.zero_le _⟩) wd hS hA [3, 4, 5, 6, 7, 0, 1, 2] [] rfl rfl (by decide) (by decide) (fun H locs wd hS => ?_)
            have wd : WD D A [oX6 a_h o4 b46_l_4 o6.2.1 (.ref a_f) p2 (.ref a_p) o6.2.2.1 o6.2.2.2.1 o6.2.2.2.2.1 o6.2.2.2.2.2.1, oX8 a_f (.ref a_fw) f_most f_length f_overfull, aI Y a_fw fw_n c_fw, oX4 a_p (.ref a_pb) (.ref a_pe) (.ref a_pt) o6.2.2.2.2.2.2.1, oX8 a_pb (.ref a_pbw) pb_most o6.2.2.2.2.2.2.2.1 o6.2.2.2.2.2.2.2.2.1, aI Y a_pbw pbw_n o6.2.2.2.2.2.2.2.2.2.1, aI Y a_pe 64 o6.2.2.2.2.2.2.2.2.2.2.1, aJ Y a_pt 64 o6.2.2.2.2.2.2.2.2.2.2.2] H := wd
            refine lv_istore (lv' := [(4, .int o6.1), (0, .ref a_h), (5, .int b46_l_5)]) hx hb dX6_read_100 hl (by decide) rfl (fun ls hl => ?_)
            exact wX6_read_b102 D Y C hA hK F a_h a_f a_fw a_p a_pb a_pbw a_pe a_pt a_sF h_fault h_place h_pageCount h_file h_limit h_target h_packetIsOpen h_lastWasRead h_serial h_latestTime f_most f_length f_overfull fw_n c_fw p_packets pb_most pb_length pb_overfull pbw_n c_pbw c_pe c_pt p2 hX _ (fX6_read_b46 F f_length fw_n c_fw pb_most pbw_n p2 a_f a_p n) ih o6.1 b46_l_5 o6.2.2.2.2.2.2.2.2.2.1 o6.2.2.2.2.2.2.2.2.2.2.1 o6.2.2.2.2.2.2.2.2.2.2.2 o4 b46_l_4 o6.2.1 o6.2.2.1 o6.2.2.2.1 o6.2.2.2.2.1 o6.2.2.2.2.2.1 o6.2.2.2.2.2.2.1 o6.2.2.2.2.2.2.2.1 o6.2.2.2.2.2.2.2.2.1 hf wd hS (lv_sub hl [1, 0, 2] rfl)

set_option maxHeartbeats 4000000 in
set_option maxRecDepth 100000 in
theorem wX6_read {p : Program} {l : Launch} {e : Env} {s : State} {m : MethodId} {args : Array Value} {below : List Frame} {meth : Method} {c : Code} {A : Nat → Prop} (D : va_G) (Y : Y4) (C : CX p s m meth c args cX6_read 6 none wsX6_read RX6) (hA : ∀ q : Nat, s.heap.size ≤ q → A q) (hK : va_K D vwCl (TY Y) s) (F : Nat) (a_h : Nat) (a_f : Nat) (a_fw : Nat) (a_p : Nat) (a_pb : Nat) (a_pbw : Nat) (a_pe : Nat) (a_pt : Nat) (a_sF : Nat) (h_fault : Int32) (h_place : Int32) (h_pageCount : Int32) (h_file : Value) (h_limit : Int32) (h_target : Value) (h_packetIsOpen : Int32) (h_lastWasRead : Int32) (h_serial : Int32) (h_latestTime : Int64) (f_most : Int32) (f_length : Int32) (f_overfull : Int32) (fw_n : Nat) (c_fw : (Nat → Int32)) (p_packets : Int32) (pb_most : Int32) (pb_length : Int32) (pb_overfull : Int32) (pbw_n : Nat) (c_pbw : (Nat → Int32)) (c_pe : (Nat → Int32)) (c_pt : (Nat → Int64)) (p2 : Int32) (hX : ST [e_sF a_sF] A s) (res : Int32 × Int32 × Int32 × Value × Int32 × Value × Int32 × Int32 × Int32 × Int64 × Int32 × Int32 × Int32 × (Nat → Int32) × (Nat → Int32) × (Nat → Int64)) (hf : fX6_read F h_place h_serial f_length fw_n c_fw p_packets pb_most pb_length pb_overfull pbw_n c_pbw c_pe c_pt p2 a_f a_p = some res) {H : Heap} {locs : List Loc} {ls : Array Slot} (wd : WD D A [oX6 a_h h_fault h_place h_pageCount (h_file) h_limit (h_target) h_packetIsOpen h_lastWasRead h_serial h_latestTime, oX8 a_f (.ref a_fw) f_most f_length f_overfull, aI Y a_fw fw_n c_fw, oX4 a_p (.ref a_pb) (.ref a_pe) (.ref a_pt) p_packets, oX8 a_pb (.ref a_pbw) pb_most pb_length pb_overfull, aI Y a_pbw pbw_n c_pbw, aI Y a_pe 64 c_pe, aJ Y a_pt 64 c_pt] H) (hS : va_S A s.heap H locs) (hl : lv_has ls 6 [(0, .ref a_h), (1, .ref a_f), (2, .int p2), (3, .ref a_p)]) : W p l e { frames := 5, cells := 0, slots := 0, locals := 115 } s m args below meth c H locs 0 0 (MQ below (va_Qv (fun _ : Unit => True) (fun _ t => PST D Y A [oX6 a_h res.1 res.2.1 res.2.2.1 (res.2.2.2.1) res.2.2.2.2.1 (res.2.2.2.2.2.1) res.2.2.2.2.2.2.1 res.2.2.2.2.2.2.2.1 res.2.2.2.2.2.2.2.2.1 res.2.2.2.2.2.2.2.2.2.1, oX8 a_f (.ref a_fw) f_most f_length f_overfull, aI Y a_fw fw_n c_fw, oX4 a_p (.ref a_pb) (.ref a_pe) (.ref a_pt) res.2.2.2.2.2.2.2.2.2.2.1, oX8 a_pb (.ref a_pbw) pb_most res.2.2.2.2.2.2.2.2.2.2.2.1 res.2.2.2.2.2.2.2.2.2.2.2.2.1, aI Y a_pbw pbw_n res.2.2.2.2.2.2.2.2.2.2.2.2.2.1, aI Y a_pe 64 res.2.2.2.2.2.2.2.2.2.2.2.2.2.2.1, aJ Y a_pt 64 res.2.2.2.2.2.2.2.2.2.2.2.2.2.2.2] t) A) args s 0 0 A) (F0 m 0 ls []) := by
  obtain ⟨hx, hb, hml, hr, hts, hown, hlocks⟩ := id C
  obtain ⟨hZ_sF, hT_sF⟩ := (hX _ (List.mem_of_getElem? (i := 0) rfl)).2
  unfold fX6_read at hf
  refine lv_aload_n hx hb dX6_read_0 rfl (lv_at hl 0 rfl) ?_
  refine lv_aload_n hx hb dX6_read_1 rfl (lv_at hl 1 rfl) ?_
  refine va_put (D := D) (ci := 4) (v := .ref a_f) (ty := .object "StreamRemuxer$Row") (C := RX6) (T := TX6) (N := 10) hx hb hts iX6_read_X6 tyX6 tyX6_ok nmX6 hown hK wd.1 wd.2 hS 0 rfl rfl 3 (by decide) (hts _ mX6_read_0) (fun _ h9 => h9) rfl (by decide +kernel) rfl rfl (Nat.le_of_ble_eq_true rfl) dX6_read_2 (fun H locs hP hD hS => ?_)
  have wd : WD D A [oX6 a_h h_fault h_place h_pageCount (.ref a_f) h_limit (h_target) h_packetIsOpen h_lastWasRead h_serial h_latestTime, oX8 a_f (.ref a_fw) f_most f_length f_overfull, aI Y a_fw fw_n c_fw, oX4 a_p (.ref a_pb) (.ref a_pe) (.ref a_pt) p_packets, oX8 a_pb (.ref a_pbw) pb_most pb_length pb_overfull, aI Y a_pbw pbw_n c_pbw, aI Y a_pe 64 c_pe, aJ Y a_pt 64 c_pt] H := ⟨hP, hD⟩
  clear hP hD
  refine lv_aload_n hx hb dX6_read_5 rfl (lv_at hl 0 rfl) ?_
  refine lv_iload_n hx hb dX6_read_6 rfl (lv_at hl 2 rfl) ?_
  refine va_put (D := D) (ci := 4) (v := .int p2) (ty := .int) (C := RX6) (T := TX6) (N := 10) hx hb hts iX6_read_X6 tyX6 tyX6_ok nmX6 hown hK wd.1 wd.2 hS 0 rfl rfl 4 (by decide) (hts _ mX6_read_1) (fun _ h9 => h9) rfl (by decide +kernel) rfl rfl (Nat.le_of_ble_eq_true rfl) dX6_read_7 (fun H locs hP hD hS => ?_)
  have wd : WD D A [oX6 a_h h_fault h_place h_pageCount (.ref a_f) p2 (h_target) h_packetIsOpen h_lastWasRead h_serial h_latestTime, oX8 a_f (.ref a_fw) f_most f_length f_overfull, aI Y a_fw fw_n c_fw, oX4 a_p (.ref a_pb) (.ref a_pe) (.ref a_pt) p_packets, oX8 a_pb (.ref a_pbw) pb_most pb_length pb_overfull, aI Y a_pbw pbw_n c_pbw, aI Y a_pe 64 c_pe, aJ Y a_pt 64 c_pt] H := ⟨hP, hD⟩
  clear hP hD
  refine lv_aload_n hx hb dX6_read_10 rfl (lv_at hl 0 rfl) ?_
  refine lv_aload_n hx hb dX6_read_11 rfl (lv_at hl 3 rfl) ?_
  refine va_put (D := D) (ci := 4) (v := .ref a_p) (ty := .object "StreamRemuxer$PacketList") (C := RX6) (T := TX6) (N := 10) hx hb hts iX6_read_X6 tyX6 tyX6_ok nmX6 hown hK wd.1 wd.2 hS 0 rfl rfl 5 (by decide) (hts _ mX6_read_2) (fun _ h9 => h9) rfl (by decide +kernel) rfl rfl (Nat.le_of_ble_eq_true rfl) dX6_read_12 (fun H locs hP hD hS => ?_)
  have wd : WD D A [oX6 a_h h_fault h_place h_pageCount (.ref a_f) p2 (.ref a_p) h_packetIsOpen h_lastWasRead h_serial h_latestTime, oX8 a_f (.ref a_fw) f_most f_length f_overfull, aI Y a_fw fw_n c_fw, oX4 a_p (.ref a_pb) (.ref a_pe) (.ref a_pt) p_packets, oX8 a_pb (.ref a_pbw) pb_most pb_length pb_overfull, aI Y a_pbw pbw_n c_pbw, aI Y a_pe 64 c_pe, aJ Y a_pt 64 c_pt] H := ⟨hP, hD⟩
  clear hP hD
  refine lv_aload_n hx hb dX6_read_15 rfl (lv_at hl 0 rfl) ?_
  refine lv_iconst (v := 0) hx hb dX6_read_16 (by decide) ?_
  refine va_put (D := D) (ci := 4) (v := .int 0) (ty := .int) (C := RX6) (T := TX6) (N := 10) hx hb hts iX6_read_X6 tyX6 tyX6_ok nmX6 hown hK wd.1 wd.2 hS 0 rfl rfl 2 (by decide) (hts _ mX6_read_3) (fun _ h9 => h9) rfl (by decide +kernel) rfl rfl (Nat.le_of_ble_eq_true rfl) dX6_read_17 (fun H locs hP hD hS => ?_)
  have wd : WD D A [oX6 a_h h_fault h_place 0 (.ref a_f) p2 (.ref a_p) h_packetIsOpen h_lastWasRead h_serial h_latestTime, oX8 a_f (.ref a_fw) f_most f_length f_overfull, aI Y a_fw fw_n c_fw, oX4 a_p (.ref a_pb) (.ref a_pe) (.ref a_pt) p_packets, oX8 a_pb (.ref a_pbw) pb_most pb_length pb_overfull, aI Y a_pbw pbw_n c_pbw, aI Y a_pe 64 c_pe, aJ Y a_pt 64 c_pt] H := ⟨hP, hD⟩
  clear hP hD
  refine lv_aload_n hx hb dX6_read_20 rfl (lv_at hl 0 rfl) ?_
  refine lv_iconst (v := 0) hx hb dX6_read_21 (by decide) ?_
  refine va_put (D := D) (ci := 4) (v := .int 0) (ty := .boolean) (C := RX6) (T := TX6) (N := 10) hx hb hts iX6_read_X6 tyX6 tyX6_ok nmX6 hown hK wd.1 wd.2 hS 0 rfl rfl 6 (by decide) (hts _ mX6_read_4) (fun _ h9 => h9) rfl (by decide +kernel) rfl rfl (Nat.le_of_ble_eq_true rfl) dX6_read_22 (fun H locs hP hD hS => ?_)
  have wd : WD D A [oX6 a_h h_fault h_place 0 (.ref a_f) p2 (.ref a_p) 0 h_lastWasRead h_serial h_latestTime, oX8 a_f (.ref a_fw) f_most f_length f_overfull, aI Y a_fw fw_n c_fw, oX4 a_p (.ref a_pb) (.ref a_pe) (.ref a_pt) p_packets, oX8 a_pb (.ref a_pbw) pb_most pb_length pb_overfull, aI Y a_pbw pbw_n c_pbw, aI Y a_pe 64 c_pe, aJ Y a_pt 64 c_pt] H := ⟨hP, hD⟩
  clear hP hD
  refine lv_aload_n hx hb dX6_read_25 rfl (lv_at hl 0 rfl) ?_
  refine lv_iconst (v := 0) hx hb dX6_read_26 (by decide) ?_
  refine va_put (D := D) (ci := 4) (v := .int 0) (ty := .boolean) (C := RX6) (T := TX6) (N := 10) hx hb hts iX6_read_X6 tyX6 tyX6_ok nmX6 hown hK wd.1 wd.2 hS 0 rfl rfl 7 (by decide) (hts _ mX6_read_5) (fun _ h9 => h9) rfl (by decide +kernel) rfl rfl (Nat.le_of_ble_eq_true rfl) dX6_read_27 (fun H locs hP hD hS => ?_)
  have wd : WD D A [oX6 a_h h_fault h_place 0 (.ref a_f) p2 (.ref a_p) 0 0 h_serial h_latestTime, oX8 a_f (.ref a_fw) f_most f_length f_overfull, aI Y a_fw fw_n c_fw, oX4 a_p (.ref a_pb) (.ref a_pe) (.ref a_pt) p_packets, oX8 a_pb (.ref a_pbw) pb_most pb_length pb_overfull, aI Y a_pbw pbw_n c_pbw, aI Y a_pe 64 c_pe, aJ Y a_pt 64 c_pt] H := ⟨hP, hD⟩
  clear hP hD
  refine lv_aload_n hx hb dX6_read_30 rfl (lv_at hl 0 rfl) ?_
  refine lv_lconst (v := 0) hx hb dX6_read_31 (by decide) ?_
  refine va_put (D := D) (ci := 4) (v := .long 0) (ty := .long) (C := RX6) (T := TX6) (N := 10) hx hb hts iX6_read_X6 tyX6 tyX6_ok nmX6 hown hK wd.1 wd.2 hS 0 rfl rfl 9 (by decide) (hts _ mX6_read_6) (fun _ h9 => h9) rfl (by decide +kernel) rfl rfl (Nat.le_of_ble_eq_true rfl) dX6_read_32 (fun H locs hP hD hS => ?_)
  have wd : WD D A [oX6 a_h h_fault h_place 0 (.ref a_f) p2 (.ref a_p) 0 0 h_serial 0, oX8 a_f (.ref a_fw) f_most f_length f_overfull, aI Y a_fw fw_n c_fw, oX4 a_p (.ref a_pb) (.ref a_pe) (.ref a_pt) p_packets, oX8 a_pb (.ref a_pbw) pb_most pb_length pb_overfull, aI Y a_pbw pbw_n c_pbw, aI Y a_pe 64 c_pe, aJ Y a_pt 64 c_pt] H := ⟨hP, hD⟩
  clear hP hD
  refine lv_aload_n hx hb dX6_read_35 rfl (lv_at hl 0 rfl) ?_
  refine lv_iconst (v := 0) hx hb dX6_read_36 (by decide) ?_
  refine va_put (D := D) (ci := 4) (v := .int 0) (ty := .int) (C := RX6) (T := TX6) (N := 10) hx hb hts iX6_read_X6 tyX6 tyX6_ok nmX6 hown hK wd.1 wd.2 hS 0 rfl rfl 0 (by decide) (hts _ mX6_read_7) (fun _ h9 => h9) rfl (by decide +kernel) rfl rfl (Nat.le_of_ble_eq_true rfl) dX6_read_37 (fun H locs hP hD hS => ?_)
  have wd : WD D A [oX6 a_h 0 h_place 0 (.ref a_f) p2 (.ref a_p) 0 0 h_serial 0, oX8 a_f (.ref a_fw) f_most f_length f_overfull, aI Y a_fw fw_n c_fw, oX4 a_p (.ref a_pb) (.ref a_pe) (.ref a_pt) p_packets, oX8 a_pb (.ref a_pbw) pb_most pb_length pb_overfull, aI Y a_pbw pbw_n c_pbw, aI Y a_pe 64 c_pe, aJ Y a_pt 64 c_pt] H := ⟨hP, hD⟩
  clear hP hD
  refine lv_iconst (v := 0) hx hb dX6_read_40 (by decide) ?_
  refine lv_istore (lv' := [(4, .int 0), (0, .ref a_h), (1, .ref a_f), (2, .int p2), (3, .ref a_p)]) hx hb dX6_read_41 hl (by decide) rfl (fun ls hl => ?_)
  refine lv_iconst (v := 0) hx hb dX6_read_43 (by decide) ?_
  refine lv_istore (lv' := [(5, .int 0), (4, .int 0), (0, .ref a_h), (1, .ref a_f), (2, .int p2), (3, .ref a_p)]) hx hb dX6_read_44 hl (by decide) rfl (fun ls hl => ?_)
  exact wX6_read_b46 D Y C hA hK F a_h a_f a_fw a_p a_pb a_pbw a_pe a_pt a_sF h_fault h_place h_pageCount h_file h_limit h_target h_packetIsOpen h_lastWasRead h_serial h_latestTime f_most f_length f_overfull fw_n c_fw p_packets pb_most pb_length pb_overfull pbw_n c_pbw c_pe c_pt p2 hX _ F 0 0 0 h_place 0 0 0 h_serial 0 p_packets pb_length pb_overfull c_pbw c_pe c_pt hf wd hS (lv_sub hl [2, 1, 0] rfl)
set_option maxHeartbeats 4000000 in
set_option maxRecDepth 100000 in
theorem kX6_read (l : Launch) (D : va_G) (Y : Y4) (F : Nat) (a_h : Nat) (a_f : Nat) (a_fw : Nat) (a_p : Nat) (a_pb : Nat) (a_pbw : Nat) (a_pe : Nat) (a_pt : Nat) (a_sF : Nat) (sz : Nat) (h_fault : Int32) (h_place : Int32) (h_pageCount : Int32) (h_file : Value) (h_limit : Int32) (h_target : Value) (h_packetIsOpen : Int32) (h_lastWasRead : Int32) (h_serial : Int32) (h_latestTime : Int64) (f_most : Int32) (f_length : Int32) (f_overfull : Int32) (fw_n : Nat) (c_fw : (Nat → Int32)) (p_packets : Int32) (pb_most : Int32) (pb_length : Int32) (pb_overfull : Int32) (pbw_n : Nat) (c_pbw : (Nat → Int32)) (c_pe : (Nat → Int32)) (c_pt : (Nat → Int64)) (p2 : Int32) (res : Int32 × Int32 × Int32 × Value × Int32 × Value × Int32 × Int32 × Int32 × Int64 × Int32 × Int32 × Int32 × (Nat → Int32) × (Nat → Int32) × (Nat → Int64)) (hf : fX6_read F h_place h_serial f_length fw_n c_fw p_packets pb_most pb_length pb_overfull pbw_n c_pbw c_pe c_pt p2 a_f a_p = some res) : Met l yX6_read wsX6_read ({ frames := 5, cells := 0, slots := 0, locals := 115 }) (va_Pc [.ref a_h, .ref a_f, .int p2, .ref a_p] (PREX D Y [oX6 a_h h_fault h_place h_pageCount (h_file) h_limit (h_target) h_packetIsOpen h_lastWasRead h_serial h_latestTime, oX8 a_f (.ref a_fw) f_most f_length f_overfull, aI Y a_fw fw_n c_fw, oX4 a_p (.ref a_pb) (.ref a_pe) (.ref a_pt) p_packets, oX8 a_pb (.ref a_pbw) pb_most pb_length pb_overfull, aI Y a_pbw pbw_n c_pbw, aI Y a_pe 64 c_pe, aJ Y a_pt 64 c_pt] sz [e_sF a_sF])) (va_Qv (fun _ : Unit => True) (fun _ t => PST D Y (va_A [oX6 a_h h_fault h_place h_pageCount (h_file) h_limit (h_target) h_packetIsOpen h_lastWasRead h_serial h_latestTime, oX8 a_f (.ref a_fw) f_most f_length f_overfull, aI Y a_fw fw_n c_fw, oX4 a_p (.ref a_pb) (.ref a_pe) (.ref a_pt) p_packets, oX8 a_pb (.ref a_pbw) pb_most pb_length pb_overfull, aI Y a_pbw pbw_n c_pbw, aI Y a_pe 64 c_pe, aJ Y a_pt 64 c_pt] sz) [oX6 a_h res.1 res.2.1 res.2.2.1 (res.2.2.2.1) res.2.2.2.2.1 (res.2.2.2.2.2.1) res.2.2.2.2.2.2.1 res.2.2.2.2.2.2.2.1 res.2.2.2.2.2.2.2.2.1 res.2.2.2.2.2.2.2.2.2.1, oX8 a_f (.ref a_fw) f_most f_length f_overfull, aI Y a_fw fw_n c_fw, oX4 a_p (.ref a_pb) (.ref a_pe) (.ref a_pt) res.2.2.2.2.2.2.2.2.2.2.1, oX8 a_pb (.ref a_pbw) pb_most res.2.2.2.2.2.2.2.2.2.2.2.1 res.2.2.2.2.2.2.2.2.2.2.2.2.1, aI Y a_pbw pbw_n res.2.2.2.2.2.2.2.2.2.2.2.2.2.1, aI Y a_pe 64 res.2.2.2.2.2.2.2.2.2.2.2.2.2.2.1, aJ Y a_pt 64 res.2.2.2.2.2.2.2.2.2.2.2.2.2.2.2] t) (va_A [oX6 a_h h_fault h_place h_pageCount (h_file) h_limit (h_target) h_packetIsOpen h_lastWasRead h_serial h_latestTime, oX8 a_f (.ref a_fw) f_most f_length f_overfull, aI Y a_fw fw_n c_fw, oX4 a_p (.ref a_pb) (.ref a_pe) (.ref a_pt) p_packets, oX8 a_pb (.ref a_pbw) pb_most pb_length pb_overfull, aI Y a_pbw pbw_n c_pbw, aI Y a_pe 64 c_pe, aJ Y a_pt 64 c_pt] sz)) 0 0 (va_A [oX6 a_h h_fault h_place h_pageCount (h_file) h_limit (h_target) h_packetIsOpen h_lastWasRead h_serial h_latestTime, oX8 a_f (.ref a_fw) f_most f_length f_overfull, aI Y a_fw fw_n c_fw, oX4 a_p (.ref a_pb) (.ref a_pe) (.ref a_pt) p_packets, oX8 a_pb (.ref a_pbw) pb_most pb_length pb_overfull, aI Y a_pbw pbw_n c_pbw, aI Y a_pe 64 c_pe, aJ Y a_pt 64 c_pt] sz) := by
  refine Met.ofW (cc := cX6_read) (maxL := 6) (ret := none) (by decide) rfl ?_
  intro p e s m args below meth c s₁ B hml hv
  obtain ⟨rfl, ⟨rfl, hP, hK, hD0⟩, hX⟩ := hv
  have hl := lv_entry ([.ref a_h, .ref a_f, .int p2, .ref a_p]) (n := 6) (Nat.le_of_ble_eq_true rfl)
  rw [lg_entry_eq]
  exact wX6_read D Y ⟨B.exec, B.bytes, hml, B.returns, atoms_spec (ws := wsX6_read) B.pre, findClass_of_methodNamed B.named, B.notSynchronized⟩ (fun q h => Or.inr h) hK F a_h a_f a_fw a_p a_pb a_pbw a_pe a_pt a_sF h_fault h_place h_pageCount h_file h_limit h_target h_packetIsOpen h_lastWasRead h_serial h_latestTime f_most f_length f_overfull fw_n c_fw p_packets pb_most pb_length pb_overfull pbw_n c_pbw c_pe c_pt p2 hX res hf ⟨hP, hD0.self⟩ va_S.rf hl
