theorem mX4_hasRoom_0 : Cond.fieldLink RX4 28 "StreamRemuxer$PacketList" "packets" "I" ∈ wsX4_hasRoom := List.mem_cons_of_mem _ u_151
theorem mX4_hasRoom_1 : Cond.fieldLink RX4 14 "StreamRemuxer$PacketList" "bytes" "LStreamRemuxer$Row;" ∈ wsX4_hasRoom := List.mem_cons_of_mem _ u_57
theorem mX4_hasRoom_2 : Cond.fieldLink RX4 61 "StreamRemuxer$Row" "length" "I" ∈ wsX4_hasRoom := List.mem_cons_of_mem _ u_152
theorem iX4_hasRoom_X4 : ∀ w ∈ wsX40, w ∈ wsX4_hasRoom := fun w h => List.mem_cons_of_mem _ (inlX4 w h)
theorem iX4_hasRoom_X8 : ∀ w ∈ wsX80, w ∈ wsX4_hasRoom := fun w h => List.mem_cons_of_mem _ (inlX8 w h)
set_option maxHeartbeats 4000000 in
set_option maxRecDepth 100000 in
theorem wX4_hasRoom_b31 {p : Program} {l : Launch} {e : Env} {s : State} {m : MethodId} {args : Array Value} {below : List Frame} {meth : Method} {c : Code} {A : Nat → Prop} (D : va_G) (Y : Y4) (C : CX p s m meth c args cX4_hasRoom 3 (some .boolean) wsX4_hasRoom RX4) (hA : ∀ q : Nat, s.heap.size ≤ q → A q) (hK : va_K D vwCl (TY Y) s) (F : Nat) (a_h : Nat) (a_hb : Nat) (a_he : Nat) (a_ht : Nat) (a_hbw : Nat) (h_packets : Int32) (hb_most : Int32) (hb_length : Int32) (hb_overfull : Int32) (p1 : Int32) (p2 : Int32) (res : Int32) (b31_s_0 : Int32) (hf : fX4_hasRoom_b31 F b31_s_0 = some res) {H : Heap} {locs : List Loc} {ls : Array Slot} (wd : WD D A [oX4 a_h (.ref a_hb) (.ref a_he) (.ref a_ht) h_packets, oX8 a_hb (.ref a_hbw) hb_most hb_length hb_overfull] H) (hS : va_S A s.heap H locs) (hl : lv_has ls 3 []) : W p l e { frames := 0, cells := 0, slots := 0, locals := 0 } s m args below meth c H locs 0 0 (MQ below (va_Qi (fun r (_ : Unit) => r = res) (fun _ t => PST D Y A [oX4 a_h (.ref a_hb) (.ref a_he) (.ref a_ht) h_packets, oX8 a_hb (.ref a_hbw) hb_most hb_length hb_overfull] t) A) args s 0 0 A) (F0 m 31 ls [.int b31_s_0]) := by
  obtain ⟨hx, hb, hml, hr, hts, hown, hlocks⟩ := id C
  unfold fX4_hasRoom_b31 at hf
  obtain ⟨hz1, hf⟩ := gd hf
  obtain rfl := Option.some.inj hf
  exact W.zret (v := b31_s_0) hx hb hr (isb_nar hz1) (fun t ht hW => ⟨⟨_, (), rfl, rfl, WD.pst wd hK ht hW⟩, hS.F ht⟩) hS.2.2 dX4_hasRoom_31

set_option maxHeartbeats 4000000 in
set_option maxRecDepth 100000 in
theorem wX4_hasRoom {p : Program} {l : Launch} {e : Env} {s : State} {m : MethodId} {args : Array Value} {below : List Frame} {meth : Method} {c : Code} {A : Nat → Prop} (D : va_G) (Y : Y4) (C : CX p s m meth c args cX4_hasRoom 3 (some .boolean) wsX4_hasRoom RX4) (hA : ∀ q : Nat, s.heap.size ≤ q → A q) (hK : va_K D vwCl (TY Y) s) (F : Nat) (a_h : Nat) (a_hb : Nat) (a_he : Nat) (a_ht : Nat) (a_hbw : Nat) (h_packets : Int32) (hb_most : Int32) (hb_length : Int32) (hb_overfull : Int32) (p1 : Int32) (p2 : Int32) (res : Int32) (hf : fX4_hasRoom F h_packets hb_length p1 p2 = some res) {H : Heap} {locs : List Loc} {ls : Array Slot} (wd : WD D A [oX4 a_h (.ref a_hb) (.ref a_he) (.ref a_ht) h_packets, oX8 a_hb (.ref a_hbw) hb_most hb_length hb_overfull] H) (hS : va_S A s.heap H locs) (hl : lv_has ls 3 [(0, .ref a_h), (1, .int p1), (2, .int p2)]) : W p l e { frames := 0, cells := 0, slots := 0, locals := 0 } s m args below meth c H locs 0 0 (MQ below (va_Qi (fun r (_ : Unit) => r = res) (fun _ t => PST D Y A [oX4 a_h (.ref a_hb) (.ref a_he) (.ref a_ht) h_packets, oX8 a_hb (.ref a_hbw) hb_most hb_length hb_overfull] t) A) args s 0 0 A) (F0 m 0 ls []) := by
  obtain ⟨hx, hb, hml, hr, hts, hown, hlocks⟩ := id C
  unfold fX4_hasRoom at hf
  refine lv_iload_n hx hb dX4_hasRoom_0 rfl (lv_at hl 1 rfl) ?_
  refine lv_bipush (v := 64) hx hb dX4_hasRoom_1 (by decide) ?_
  refine lv_aload_n hx hb dX4_hasRoom_3 rfl (lv_at hl 0 rfl) ?_
  refine va_get (D := D) (ci := 3) (v := .int h_packets) (C := RX4) (T := TX4) (N := 4) hx hb hts iX4_hasRoom_X4 hown hK wd.1 0 rfl rfl 3 (by decide) (hts _ mX4_hasRoom_0) (fun _ h9 => h9) rfl dX4_hasRoom_4 ?_
  refine lv_isub hx hb dX4_hasRoom_7 ?_
  refine lv_icmp_gt (tgt := 30) hx hb dX4_hasRoom_8 (by decide) (fun q1 => ?_) (fun q1 => ?_)
  · have hf := ip hf q1
    refine lv_iconst (v := 0) hx hb dX4_hasRoom_30 (by decide) ?_
    exact wX4_hasRoom_b31 D Y C hA hK F a_h a_hb a_he a_ht a_hbw h_packets hb_most hb_length hb_overfull p1 p2 _ 0 hf wd hS (lv_sub hl [] rfl)
  · have hf := ie hf q1
    refine lv_iload_n hx hb dX4_hasRoom_11 rfl (lv_at hl 2 rfl) ?_
    refine lv_sipush (v := 2400) hx hb dX4_hasRoom_12 (by decide) ?_
    refine lv_aload_n hx hb dX4_hasRoom_15 rfl (lv_at hl 0 rfl) ?_
    refine va_get (D := D) (ci := 3) (v := .ref a_hb) (C := RX4) (T := TX4) (N := 4) hx hb hts iX4_hasRoom_X4 hown hK wd.1 0 rfl rfl 0 (by decide) (hts _ mX4_hasRoom_1) (fun _ h9 => h9) rfl dX4_hasRoom_16 ?_
    refine va_get (D := D) (ci := 6) (v := .int hb_length) (C := RX8) (T := TX8) (N := 4) hx hb hts iX4_hasRoom_X8 hown hK wd.1 1 rfl rfl 2 (by decide) (hts _ mX4_hasRoom_2) (fun _ h9 => h9) rfl dX4_hasRoom_19 ?_
    refine lv_isub hx hb dX4_hasRoom_22 ?_
    refine lv_icmp_gt (tgt := 30) hx hb dX4_hasRoom_23 (by decide) (fun q2 => ?_) (fun q2 => ?_)
    · have hf := ip hf q2
      refine lv_iconst (v := 0) hx hb dX4_hasRoom_30 (by decide) ?_
      exact wX4_hasRoom_b31 D Y C hA hK F a_h a_hb a_he a_ht a_hbw h_packets hb_most hb_length hb_overfull p1 p2 _ 0 hf wd hS (lv_sub hl [] rfl)
    · have hf := ie hf q2
      refine lv_iconst (v := 1) hx hb dX4_hasRoom_26 (by decide) ?_
      refine lv_goto (tgt := 31) hx hb dX4_hasRoom_27 (by decide) ?_
      exact wX4_hasRoom_b31 D Y C hA hK F a_h a_hb a_he a_ht a_hbw h_packets hb_most hb_length hb_overfull p1 p2 _ 1 hf wd hS (lv_sub hl [] rfl)
set_option maxHeartbeats 4000000 in
set_option maxRecDepth 100000 in
theorem kX4_hasRoom (l : Launch) (D : va_G) (Y : Y4) (F : Nat) (a_h : Nat) (a_hb : Nat) (a_he : Nat) (a_ht : Nat) (a_hbw : Nat) (sz : Nat) (h_packets : Int32) (hb_most : Int32) (hb_length : Int32) (hb_overfull : Int32) (p1 : Int32) (p2 : Int32) (res : Int32) (hf : fX4_hasRoom F h_packets hb_length p1 p2 = some res) : Met l yX4_hasRoom wsX4_hasRoom ({ frames := 0, cells := 0, slots := 0, locals := 0 }) (va_Pc [.ref a_h, .int p1, .int p2] (PRE D Y [oX4 a_h (.ref a_hb) (.ref a_he) (.ref a_ht) h_packets, oX8 a_hb (.ref a_hbw) hb_most hb_length hb_overfull] sz)) (va_Qi (fun r (_ : Unit) => r = res) (fun _ t => PST D Y (va_A [oX4 a_h (.ref a_hb) (.ref a_he) (.ref a_ht) h_packets, oX8 a_hb (.ref a_hbw) hb_most hb_length hb_overfull] sz) [oX4 a_h (.ref a_hb) (.ref a_he) (.ref a_ht) h_packets, oX8 a_hb (.ref a_hbw) hb_most hb_length hb_overfull] t) (va_A [oX4 a_h (.ref a_hb) (.ref a_he) (.ref a_ht) h_packets, oX8 a_hb (.ref a_hbw) hb_most hb_length hb_overfull] sz)) 0 0 (va_A [oX4 a_h (.ref a_hb) (.ref a_he) (.ref a_ht) h_packets, oX8 a_hb (.ref a_hbw) hb_most hb_length hb_overfull] sz) := by
  refine Met.ofW (cc := cX4_hasRoom) (maxL := 3) (ret := (some .boolean)) (by decide) rfl ?_
  intro p e s m args below meth c s₁ B hml hv
  obtain ⟨rfl, rfl, hP, hK, hD0⟩ := hv
  have hl := lv_entry ([.ref a_h, .int p1, .int p2]) (n := 3) (Nat.le_of_ble_eq_true rfl)
  rw [lg_entry_eq]
  exact wX4_hasRoom D Y ⟨B.exec, B.bytes, hml, B.returns, atoms_spec (ws := wsX4_hasRoom) B.pre, findClass_of_methodNamed B.named, B.notSynchronized⟩ (fun q h => Or.inr h) hK F a_h a_hb a_he a_ht a_hbw h_packets hb_most hb_length hb_overfull p1 p2 res hf ⟨hP, hD0.self⟩ va_S.rf hl
theorem mX4_endPacket_0 : Cond.fieldLink RX4 28 "StreamRemuxer$PacketList" "packets" "I" ∈ wsX4_endPacket := List.mem_cons_of_mem _ u_151
theorem mX4_endPacket_1 : Cond.fieldLink RX4 20 "StreamRemuxer$PacketList" "ends" "[I" ∈ wsX4_endPacket := List.mem_cons_of_mem _ u_58
theorem mX4_endPacket_2 : Cond.fieldLink RX4 14 "StreamRemuxer$PacketList" "bytes" "LStreamRemuxer$Row;" ∈ wsX4_endPacket := List.mem_cons_of_mem _ u_57
theorem mX4_endPacket_3 : Cond.fieldLink RX4 61 "StreamRemuxer$Row" "length" "I" ∈ wsX4_endPacket := List.mem_cons_of_mem _ u_152
theorem mX4_endPacket_4 : Cond.fieldLink RX4 24 "StreamRemuxer$PacketList" "times" "[J" ∈ wsX4_endPacket := List.mem_cons_of_mem _ u_60
theorem iX4_endPacket_X4 : ∀ w ∈ wsX40, w ∈ wsX4_endPacket := fun w h => List.mem_cons_of_mem _ (inlX4 w h)
theorem iX4_endPacket_X8 : ∀ w ∈ wsX80, w ∈ wsX4_endPacket := fun w h => List.mem_cons_of_mem _ (inlX8 w h)
set_option maxHeartbeats 4000000 in
set_option maxRecDepth 100000 in
theorem wX4_endPacket {p : Program} {l : Launch} {e : Env} {s : State} {m : MethodId} {args : Array Value} {below : List Frame} {meth : Method} {c : Code} {A : Nat → Prop} (D : va_G) (Y : Y4) (C : CX p s m meth c args cX4_endPacket 3 none wsX4_endPacket RX4) (hA : ∀ q : Nat, s.heap.size ≤ q → A q) (hK : va_K D vwCl (TY Y) s) (F : Nat) (a_h : Nat) (a_hb : Nat) (a_he : Nat) (a_ht : Nat) (a_hbw : Nat) (h_packets : Int32) (hb_most : Int32) (hb_length : Int32) (hb_overfull : Int32) (c_he : (Nat → Int32)) (c_ht : (Nat → Int64)) (p1 : Int64) (res : Int32 × (Nat → Int32) × (Nat → Int64)) (hf : fX4_endPacket F h_packets hb_length c_he c_ht p1 = some res) {H : Heap} {locs : List Loc} {ls : Array Slot} (wd : WD D A [oX4 a_h (.ref a_hb) (.ref a_he) (.ref a_ht) h_packets, oX8 a_hb (.ref a_hbw) hb_most hb_length hb_overfull, aI Y a_he 64 c_he, aJ Y a_ht 64 c_ht] H) (hS : va_S A s.heap H locs) (hl : lv_has ls 3 [(0, .ref a_h), (1, .long p1)]) : W p l e { frames := 0, cells := 0, slots := 0, locals := 0 } s m args below meth c H locs 0 0 (MQ below (va_Qv (fun _ : Unit => True) (fun _ t => PST D Y A [oX4 a_h (.ref a_hb) (.ref a_he) (.ref a_ht) res.1, oX8 a_hb (.ref a_hbw) hb_most hb_length hb_overfull, aI Y a_he 64 res.2.1, aJ Y a_ht 64 res.2.2] t) A) args s 0 0 A) (F0 m 0 ls []) := by
  obtain ⟨hx, hb, hml, hr, hts, hown, hlocks⟩ := id C
  unfold fX4_endPacket at hf
  refine lv_aload_n hx hb dX4_endPacket_0 rfl (lv_at hl 0 rfl) ?_
  refine va_get (D := D) (ci := 3) (v := .int h_packets) (C := RX4) (T := TX4) (N := 4) hx hb hts iX4_endPacket_X4 hown hK wd.1 0 rfl rfl 3 (by decide) (hts _ mX4_endPacket_0) (fun _ h9 => h9) rfl dX4_endPacket_1 ?_
  refine lv_bipush (v := 64) hx hb dX4_endPacket_4 (by decide) ?_
  refine lv_icmp_lt (tgt := 10) hx hb dX4_endPacket_6 (by decide) (fun q1 => ?_) (fun q1 => ?_)
  · have hf := ip hf q1
    refine lv_aload_n hx hb dX4_endPacket_10 rfl (lv_at hl 0 rfl) ?_
    refine va_get (D := D) (ci := 3) (v := .ref a_he) (C := RX4) (T := TX4) (N := 4) hx hb hts iX4_endPacket_X4 hown hK wd.1 0 rfl rfl 1 (by decide) (hts _ mX4_endPacket_1) (fun _ h9 => h9) rfl dX4_endPacket_11 ?_
    refine lv_aload_n hx hb dX4_endPacket_14 rfl (lv_at hl 0 rfl) ?_
    refine va_get (D := D) (ci := 3) (v := .int h_packets) (C := RX4) (T := TX4) (N := 4) hx hb hts iX4_endPacket_X4 hown hK wd.1 0 rfl rfl 3 (by decide) (hts _ mX4_endPacket_0) (fun _ h9 => h9) rfl dX4_endPacket_15 ?_
    refine lv_aload_n hx hb dX4_endPacket_18 rfl (lv_at hl 0 rfl) ?_
    refine va_get (D := D) (ci := 3) (v := .ref a_hb) (C := RX4) (T := TX4) (N := 4) hx hb hts iX4_endPacket_X4 hown hK wd.1 0 rfl rfl 0 (by decide) (hts _ mX4_endPacket_2) (fun _ h9 => h9) rfl dX4_endPacket_19 ?_
    refine va_get (D := D) (ci := 6) (v := .int hb_length) (C := RX8) (T := TX8) (N := 4) hx hb hts iX4_endPacket_X8 hown hK wd.1 1 rfl rfl 2 (by decide) (hts _ mX4_endPacket_3) (fun _ h9 => h9) rfl dX4_endPacket_22 ?_
    obtain ⟨hg2, hf⟩ := gd hf
    refine va_iast hx hb hK wd.1 wd.2 hS 2 1 rfl rfl (gin_in hg2) dX4_endPacket_25 (fun H locs hP hD hS => ?_)
    obtain ⟨z3, ez3⟩ : ∃ y : (Nat → Int32), y = upd c_he h_packets.toNatClampNeg hb_length := ⟨_, rfl⟩
    have hf := nm_at hf ez3
    have wd : WD D A [oX4 a_h (.ref a_hb) (.ref a_he) (.ref a_ht) h_packets, oX8 a_hb (.ref a_hbw) hb_most hb_length hb_overfull, aI Y a_he 64 z3, aJ Y a_ht 64 c_ht] H := by rw [ez3]; exact ⟨hP, hD⟩
    clear hP hD
    refine lv_aload_n hx hb dX4_endPacket_26 rfl (lv_at hl 0 rfl) ?_
    refine va_get (D := D) (ci := 3) (v := .ref a_ht) (C := RX4) (T := TX4) (N := 4) hx hb hts iX4_endPacket_X4 hown hK wd.1 0 rfl rfl 2 (by decide) (hts _ mX4_endPacket_4) (fun _ h9 => h9) rfl dX4_endPacket_27 ?_
    refine lv_aload_n hx hb dX4_endPacket_30 rfl (lv_at hl 0 rfl) ?_
    refine va_get (D := D) (ci := 3) (v := .int h_packets) (C := RX4) (T := TX4) (N := 4) hx hb hts iX4_endPacket_X4 hown hK wd.1 0 rfl rfl 3 (by decide) (hts _ mX4_endPacket_0) (fun _ h9 => h9) rfl dX4_endPacket_31 ?_
    refine lv_lload_n hx hb dX4_endPacket_34 rfl (lv_at hl 1 rfl) ?_
    obtain ⟨hg4, hf⟩ := gd hf
    refine va_last hx hb hK wd.1 wd.2 hS 3 2 rfl rfl (gin_in hg4) dX4_endPacket_35 (fun H locs hP hD hS => ?_)
    obtain ⟨z5, ez5⟩ : ∃ y : (Nat → Int64), y = vp_updL c_ht h_packets.toNatClampNeg p1 := ⟨_, rfl⟩
    have hf := nm_at hf ez5
    have wd : WD D A [oX4 a_h (.ref a_hb) (.ref a_he) (.ref a_ht) h_packets, oX8 a_hb (.ref a_hbw) hb_most hb_length hb_overfull, aI Y a_he 64 z3, aJ Y a_ht 64 z5] H := by rw [ez5]; exact ⟨hP, hD⟩
    clear hP hD
    refine lv_aload_n hx hb dX4_endPacket_36 rfl (lv_at hl 0 rfl) ?_
    refine lv_dup hx hb dX4_endPacket_37 rfl ?_
    refine va_get (D := D) (ci := 3) (v := .int h_packets) (C := RX4) (T := TX4) (N := 4) hx hb hts iX4_endPacket_X4 hown hK wd.1 0 rfl rfl 3 (by decide) (hts _ mX4_endPacket_0) (fun _ h9 => h9) rfl dX4_endPacket_38 ?_
    refine lv_iconst (v := 1) hx hb dX4_endPacket_41 (by decide) ?_
    refine lv_iadd hx hb dX4_endPacket_42 ?_
    refine lv_topi (fun x6 ex6 => ?_)
    have hf := nm_at hf ex6
    refine va_put (D := D) (ci := 3) (v := .int x6) (ty := .int) (C := RX4) (T := TX4) (N := 4) hx hb hts iX4_endPacket_X4 tyX4 tyX4_ok nmX4 hown hK wd.1 wd.2 hS 0 rfl rfl 3 (by decide) (hts _ mX4_endPacket_0) (fun _ h9 => h9) rfl (by decide +kernel) rfl rfl (Nat.le_of_ble_eq_true rfl) dX4_endPacket_43 (fun H locs hP hD hS => ?_)
    have wd : WD D A [oX4 a_h (.ref a_hb) (.ref a_he) (.ref a_ht) x6, oX8 a_hb (.ref a_hbw) hb_most hb_length hb_overfull, aI Y a_he 64 z3, aJ Y a_ht 64 z5] H := ⟨hP, hD⟩
    clear hP hD
    obtain rfl := Option.some.inj hf
    exact W.vret hx hb hr (fun t ht hW => ⟨⟨(), rfl, trivial, WD.pst wd hK ht hW⟩, hS.F ht⟩) hS.2.2 dX4_endPacket_46
  · have hf := ie hf q1
    obtain rfl := Option.some.inj hf
    exact W.vret hx hb hr (fun t ht hW => ⟨⟨(), rfl, trivial, WD.pst wd hK ht hW⟩, hS.F ht⟩) hS.2.2 dX4_endPacket_9
set_option maxHeartbeats 4000000 in
set_option maxRecDepth 100000 in
theorem kX4_endPacket (l : Launch) (D : va_G) (Y : Y4) (F : Nat) (a_h : Nat) (a_hb : Nat) (a_he : Nat) (a_ht : Nat) (a_hbw : Nat) (sz : Nat) (h_packets : Int32) (hb_most : Int32) (hb_length : Int32) (hb_overfull : Int32) (c_he : (Nat → Int32)) (c_ht : (Nat → Int64)) (p1 : Int64) (res : Int32 × (Nat → Int32) × (Nat → Int64)) (hf : fX4_endPacket F h_packets hb_length c_he c_ht p1 = some res) : Met l yX4_endPacket wsX4_endPacket ({ frames := 0, cells := 0, slots := 0, locals := 0 }) (va_Pc [.ref a_h, .long p1] (PRE D Y [oX4 a_h (.ref a_hb) (.ref a_he) (.ref a_ht) h_packets, oX8 a_hb (.ref a_hbw) hb_most hb_length hb_overfull, aI Y a_he 64 c_he, aJ Y a_ht 64 c_ht] sz)) (va_Qv (fun _ : Unit => True) (fun _ t => PST D Y (va_A [oX4 a_h (.ref a_hb) (.ref a_he) (.ref a_ht) h_packets, oX8 a_hb (.ref a_hbw) hb_most hb_length hb_overfull, aI Y a_he 64 c_he, aJ Y a_ht 64 c_ht] sz) [oX4 a_h (.ref a_hb) (.ref a_he) (.ref a_ht) res.1, oX8 a_hb (.ref a_hbw) hb_most hb_length hb_overfull, aI Y a_he 64 res.2.1, aJ Y a_ht 64 res.2.2] t) (va_A [oX4 a_h (.ref a_hb) (.ref a_he) (.ref a_ht) h_packets, oX8 a_hb (.ref a_hbw) hb_most hb_length hb_overfull, aI Y a_he 64 c_he, aJ Y a_ht 64 c_ht] sz)) 0 0 (va_A [oX4 a_h (.ref a_hb) (.ref a_he) (.ref a_ht) h_packets, oX8 a_hb (.ref a_hbw) hb_most hb_length hb_overfull, aI Y a_he 64 c_he, aJ Y a_ht 64 c_ht] sz) := by
  refine Met.ofW (cc := cX4_endPacket) (maxL := 3) (ret := none) (by decide) rfl ?_
  intro p e s m args below meth c s₁ B hml hv
  obtain ⟨rfl, rfl, hP, hK, hD0⟩ := hv
  have hl := lv_entry ([.ref a_h, .long p1]) (n := 3) (Nat.le_of_ble_eq_true rfl)
  rw [lg_entry_eq]
  exact wX4_endPacket D Y ⟨B.exec, B.bytes, hml, B.returns, atoms_spec (ws := wsX4_endPacket) B.pre, findClass_of_methodNamed B.named, B.notSynchronized⟩ (fun q h => Or.inr h) hK F a_h a_hb a_he a_ht a_hbw h_packets hb_most hb_length hb_overfull c_he c_ht p1 res hf ⟨hP, hD0.self⟩ va_S.rf hl
theorem mX4_holds_0 : Cond.fieldLink RX4 28 "StreamRemuxer$PacketList" "packets" "I" ∈ wsX4_holds := List.mem_cons_of_mem _ u_151
theorem iX4_holds_X4 : ∀ w ∈ wsX40, w ∈ wsX4_holds := fun w h => List.mem_cons_of_mem _ (inlX4 w h)
set_option maxHeartbeats 4000000 in
set_option maxRecDepth 100000 in
theorem wX4_holds_b17 {p : Program} {l : Launch} {e : Env} {s : State} {m : MethodId} {args : Array Value} {below : List Frame} {meth : Method} {c : Code} {A : Nat → Prop} (D : va_G) (Y : Y4) (C : CX p s m meth c args cX4_holds 2 (some .boolean) wsX4_holds RX4) (hA : ∀ q : Nat, s.heap.size ≤ q → A q) (hK : va_K D vwCl (TY Y) s) (F : Nat) (a_h : Nat) (a_hb : Nat) (a_he : Nat) (a_ht : Nat) (h_packets : Int32) (p1 : Int32) (res : Int32) (b17_s_0 : Int32) (hf : fX4_holds_b17 F b17_s_0 = some res) {H : Heap} {locs : List Loc} {ls : Array Slot} (wd : WD D A [oX4 a_h (.ref a_hb) (.ref a_he) (.ref a_ht) h_packets] H) (hS : va_S A s.heap H locs) (hl : lv_has ls 2 []) : W p l e { frames := 0, cells := 0, slots := 0, locals := 0 } s m args below meth c H locs 0 0 (MQ below (va_Qi (fun r (_ : Unit) => r = res) (fun _ t => PST D Y A [oX4 a_h (.ref a_hb) (.ref a_he) (.ref a_ht) h_packets] t) A) args s 0 0 A) (F0 m 17 ls [.int b17_s_0]) := by
  obtain ⟨hx, hb, hml, hr, hts, hown, hlocks⟩ := id C
  unfold fX4_holds_b17 at hf
  obtain ⟨hz1, hf⟩ := gd hf
  obtain rfl := Option.some.inj hf
  exact W.zret (v := b17_s_0) hx hb hr (isb_nar hz1) (fun t ht hW => ⟨⟨_, (), rfl, rfl, WD.pst wd hK ht hW⟩, hS.F ht⟩) hS.2.2 dX4_holds_17

set_option maxHeartbeats 4000000 in
set_option maxRecDepth 100000 in
theorem wX4_holds {p : Program} {l : Launch} {e : Env} {s : State} {m : MethodId} {args : Array Value} {below : List Frame} {meth : Method} {c : Code} {A : Nat → Prop} (D : va_G) (Y : Y4) (C : CX p s m meth c args cX4_holds 2 (some .boolean) wsX4_holds RX4) (hA : ∀ q : Nat, s.heap.size ≤ q → A q) (hK : va_K D vwCl (TY Y) s) (F : Nat) (a_h : Nat) (a_hb : Nat) (a_he : Nat) (a_ht : Nat) (h_packets : Int32) (p1 : Int32) (res : Int32) (hf : fX4_holds F h_packets p1 = some res) {H : Heap} {locs : List Loc} {ls : Array Slot} (wd : WD D A [oX4 a_h (.ref a_hb) (.ref a_he) (.ref a_ht) h_packets] H) (hS : va_S A s.heap H locs) (hl : lv_has ls 2 [(0, .ref a_h), (1, .int p1)]) : W p l e { frames := 0, cells := 0, slots := 0, locals := 0 } s m args below meth c H locs 0 0 (MQ below (va_Qi (fun r (_ : Unit) => r = res) (fun _ t => PST D Y A [oX4 a_h (.ref a_hb) (.ref a_he) (.ref a_ht) h_packets] t) A) args s 0 0 A) (F0 m 0 ls []) := by
  obtain ⟨hx, hb, hml, hr, hts, hown, hlocks⟩ := id C
  unfold fX4_holds at hf
  refine lv_iload_n hx hb dX4_holds_0 rfl (lv_at hl 1 rfl) ?_
  refine lv_if_lt (tgt := 16) hx hb dX4_holds_1 (by decide) (fun q1 => ?_) (fun q1 => ?_)
  · have hf := ip hf q1
    refine lv_iconst (v := 0) hx hb dX4_holds_16 (by decide) ?_
    exact wX4_holds_b17 D Y C hA hK F a_h a_hb a_he a_ht h_packets p1 _ 0 hf wd hS (lv_sub hl [] rfl)
  · have hf := ie hf q1
    refine lv_iload_n hx hb dX4_holds_4 rfl (lv_at hl 1 rfl) ?_
    refine lv_aload_n hx hb dX4_holds_5 rfl (lv_at hl 0 rfl) ?_
    refine va_get (D := D) (ci := 3) (v := .int h_packets) (C := RX4) (T := TX4) (N := 4) hx hb hts iX4_holds_X4 hown hK wd.1 0 rfl rfl 3 (by decide) (hts _ mX4_holds_0) (fun _ h9 => h9) rfl dX4_holds_6 ?_
    refine lv_icmp_ge (tgt := 16) hx hb dX4_holds_9 (by decide) (fun q2 => ?_) (fun q2 => ?_)
    · have hf := ip hf q2
      refine lv_iconst (v := 0) hx hb dX4_holds_16 (by decide) ?_
      exact wX4_holds_b17 D Y C hA hK F a_h a_hb a_he a_ht h_packets p1 _ 0 hf wd hS (lv_sub hl [] rfl)
    · have hf := ie hf q2
      refine lv_iconst (v := 1) hx hb dX4_holds_12 (by decide) ?_
      refine lv_goto (tgt := 17) hx hb dX4_holds_13 (by decide) ?_
      exact wX4_holds_b17 D Y C hA hK F a_h a_hb a_he a_ht h_packets p1 _ 1 hf wd hS (lv_sub hl [] rfl)
set_option maxHeartbeats 4000000 in
set_option maxRecDepth 100000 in
theorem kX4_holds (l : Launch) (D : va_G) (Y : Y4) (F : Nat) (a_h : Nat) (a_hb : Nat) (a_he : Nat) (a_ht : Nat) (sz : Nat) (h_packets : Int32) (p1 : Int32) (res : Int32) (hf : fX4_holds F h_packets p1 = some res) : Met l yX4_holds wsX4_holds ({ frames := 0, cells := 0, slots := 0, locals := 0 }) (va_Pc [.ref a_h, .int p1] (PRE D Y [oX4 a_h (.ref a_hb) (.ref a_he) (.ref a_ht) h_packets] sz)) (va_Qi (fun r (_ : Unit) => r = res) (fun _ t => PST D Y (va_A [oX4 a_h (.ref a_hb) (.ref a_he) (.ref a_ht) h_packets] sz) [oX4 a_h (.ref a_hb) (.ref a_he) (.ref a_ht) h_packets] t) (va_A [oX4 a_h (.ref a_hb) (.ref a_he) (.ref a_ht) h_packets] sz)) 0 0 (va_A [oX4 a_h (.ref a_hb) (.ref a_he) (.ref a_ht) h_packets] sz) := by
  refine Met.ofW (cc := cX4_holds) (maxL := 2) (ret := (some .boolean)) (by decide) rfl ?_
  intro p e s m args below meth c s₁ B hml hv
  obtain ⟨rfl, rfl, hP, hK, hD0⟩ := hv
  have hl := lv_entry ([.ref a_h, .int p1]) (n := 2) (Nat.le_of_ble_eq_true rfl)
  rw [lg_entry_eq]
  exact wX4_holds D Y ⟨B.exec, B.bytes, hml, B.returns, atoms_spec (ws := wsX4_holds) B.pre, findClass_of_methodNamed B.named, B.notSynchronized⟩ (fun q h => Or.inr h) hK F a_h a_hb a_he a_ht h_packets p1 res hf ⟨hP, hD0.self⟩ va_S.rf hl
theorem mX4_timeOf_0 : Cond.constantLong RX4 49 (-1) ∈ wsX4_timeOf := List.mem_cons_of_mem _ u_198
theorem mX4_timeOf_1 : Cond.fieldLink RX4 24 "StreamRemuxer$PacketList" "times" "[J" ∈ wsX4_timeOf := List.mem_cons_of_mem _ u_60
theorem iX4_timeOf_X4 : ∀ w ∈ wsX40, w ∈ wsX4_timeOf := fun w h => List.mem_cons_of_mem _ (inlX4 w h)
set_option maxHeartbeats 4000000 in
set_option maxRecDepth 100000 in
theorem wX4_timeOf_b20 {p : Program} {l : Launch} {e : Env} {s : State} {m : MethodId} {args : Array Value} {below : List Frame} {meth : Method} {c : Code} {A : Nat → Prop} (D : va_G) (Y : Y4) (C : CX p s m meth c args cX4_timeOf 2 (some .long) wsX4_timeOf RX4) (hA : ∀ q : Nat, s.heap.size ≤ q → A q) (hK : va_K D vwCl (TY Y) s) (F : Nat) (a_h : Nat) (a_ht : Nat) (a_hb : Nat) (a_he : Nat) (h_packets : Int32) (c_ht : (Nat → Int64)) (p1 : Int32) (res : Int64) (b20_s_0 : Int64) (hf : fX4_timeOf_b20 F b20_s_0 = some res) {H : Heap} {locs : List Loc} {ls : Array Slot} (wd : WD D A [oX4 a_h (.ref a_hb) (.ref a_he) (.ref a_ht) h_packets, aJ Y a_ht 64 c_ht] H) (hS : va_S A s.heap H locs) (hl : lv_has ls 2 []) : W p l e { frames := 1, cells := 0, slots := 0, locals := 21 } s m args below meth c H locs 0 0 (MQ below (va_Ql (fun r (_ : Unit) => r = res) (fun _ t => PST D Y A [oX4 a_h (.ref a_hb) (.ref a_he) (.ref a_ht) h_packets, aJ Y a_ht 64 c_ht] t) A) args s 0 0 A) (F0 m 20 ls [.long b20_s_0]) := by
  obtain ⟨hx, hb, hml, hr, hts, hown, hlocks⟩ := id C
  unfold fX4_timeOf_b20 at hf
  obtain rfl := Option.some.inj hf
  exact W.lret (v := b20_s_0) hx hb hr (fun t ht hW => ⟨⟨_, (), rfl, rfl, WD.pst wd hK ht hW⟩, hS.F ht⟩) hS.2.2 dX4_timeOf_20

set_option maxHeartbeats 4000000 in
set_option maxRecDepth 100000 in
theorem wX4_timeOf {p : Program} {l : Launch} {e : Env} {s : State} {m : MethodId} {args : Array Value} {below : List Frame} {meth : Method} {c : Code} {A : Nat → Prop} (D : va_G) (Y : Y4) (C : CX p s m meth c args cX4_timeOf 2 (some .long) wsX4_timeOf RX4) (hA : ∀ q : Nat, s.heap.size ≤ q → A q) (hK : va_K D vwCl (TY Y) s) (F : Nat) (a_h : Nat) (a_ht : Nat) (a_hb : Nat) (a_he : Nat) (h_packets : Int32) (c_ht : (Nat → Int64)) (p1 : Int32) (res : Int64) (hf : fX4_timeOf F h_packets c_ht p1 = some res) {H : Heap} {locs : List Loc} {ls : Array Slot} (wd : WD D A [oX4 a_h (.ref a_hb) (.ref a_he) (.ref a_ht) h_packets, aJ Y a_ht 64 c_ht] H) (hS : va_S A s.heap H locs) (hl : lv_has ls 2 [(0, .ref a_h), (1, .int p1)]) : W p l e { frames := 1, cells := 0, slots := 0, locals := 21 } s m args below meth c H locs 0 0 (MQ below (va_Ql (fun r (_ : Unit) => r = res) (fun _ t => PST D Y A [oX4 a_h (.ref a_hb) (.ref a_he) (.ref a_ht) h_packets, aJ Y a_ht 64 c_ht] t) A) args s 0 0 A) (F0 m 0 ls []) := by
  obtain ⟨hx, hb, hml, hr, hts, hown, hlocks⟩ := id C
  unfold fX4_timeOf at hf
  refine lv_aload_n hx hb dX4_timeOf_0 rfl (lv_at hl 0 rfl) ?_
  refine lv_iload_n hx hb dX4_timeOf_1 rfl (lv_at hl 1 rfl) ?_
  obtain ⟨o1, ho1, hf⟩ := ob hf
  refine xj_i (va_runV (As := [.int p1]) (rest := []) ⟨hx, hb, hml, hown, hts⟩ (kX4_holds l D Y F a_h a_hb a_he a_ht H.size h_packets p1 o1 ho1) (cwV 1 hts gX4_timeOf_X4_holds rfl rfl rfl (by decide +kernel) ⟨Nat.le_of_ble_eq_true rfl, Nat.le_of_ble_eq_true rfl⟩) (prev_w (ci := 3) rfl rfl hK wd [0] rfl (by decide)) rfl rfl hl.1 rfl (lv_room (Nat.le_of_ble_eq_true rfl)) dX4_timeOf_2 ⟨Nat.zero_le _, Nat.zero_le _⟩) wd hS hA [0] [1] rfl rfl (by decide) (by decide) (fun H locs wd hS => ?_)
  have wd : WD D A [aJ Y a_ht 64 c_ht, oX4 a_h (.ref a_hb) (.ref a_he) (.ref a_ht) h_packets] H := wd
  refine lv_if_eq (tgt := 17) hx hb dX4_timeOf_5 (by decide) (fun q2 => ?_) (fun q2 => ?_)
  · have hf := ip hf q2
    refine lv_ldc2 hx hb hown (hts _ mX4_timeOf_0) dX4_timeOf_17 ?_
    exact wX4_timeOf_b20 D Y C hA hK F a_h a_ht a_hb a_he h_packets c_ht p1 _ (-1) hf (wd.sub [1, 0] rfl (by decide)) hS (lv_sub hl [] rfl)
  · have hf := ie hf q2
    refine lv_aload_n hx hb dX4_timeOf_8 rfl (lv_at hl 0 rfl) ?_
    refine va_get (D := D) (ci := 3) (v := .ref a_ht) (C := RX4) (T := TX4) (N := 4) hx hb hts iX4_timeOf_X4 hown hK wd.1 1 rfl rfl 2 (by decide) (hts _ mX4_timeOf_1) (fun _ h9 => h9) rfl dX4_timeOf_9 ?_
    refine lv_iload_n hx hb dX4_timeOf_12 rfl (lv_at hl 1 rfl) ?_
    obtain ⟨hg3, hf⟩ := gd hf
    refine va_lald hx hb hK wd.1 0 2 rfl rfl (gin_in hg3) dX4_timeOf_13 ?_
    refine lv_goto (tgt := 20) hx hb dX4_timeOf_14 (by decide) ?_
    exact wX4_timeOf_b20 D Y C hA hK F a_h a_ht a_hb a_he h_packets c_ht p1 _ (c_ht p1.toNatClampNeg) hf (wd.sub [1, 0] rfl (by decide)) hS (lv_sub hl [] rfl)
set_option maxHeartbeats 4000000 in
set_option maxRecDepth 100000 in
theorem kX4_timeOf (l : Launch) (D : va_G) (Y : Y4) (F : Nat) (a_h : Nat) (a_ht : Nat) (a_hb : Nat) (a_he : Nat) (sz : Nat) (h_packets : Int32) (c_ht : (Nat → Int64)) (p1 : Int32) (res : Int64) (hf : fX4_timeOf F h_packets c_ht p1 = some res) : Met l yX4_timeOf wsX4_timeOf ({ frames := 1, cells := 0, slots := 0, locals := 21 }) (va_Pc [.ref a_h, .int p1] (PRE D Y [oX4 a_h (.ref a_hb) (.ref a_he) (.ref a_ht) h_packets, aJ Y a_ht 64 c_ht] sz)) (va_Ql (fun r (_ : Unit) => r = res) (fun _ t => PST D Y (va_A [oX4 a_h (.ref a_hb) (.ref a_he) (.ref a_ht) h_packets, aJ Y a_ht 64 c_ht] sz) [oX4 a_h (.ref a_hb) (.ref a_he) (.ref a_ht) h_packets, aJ Y a_ht 64 c_ht] t) (va_A [oX4 a_h (.ref a_hb) (.ref a_he) (.ref a_ht) h_packets, aJ Y a_ht 64 c_ht] sz)) 0 0 (va_A [oX4 a_h (.ref a_hb) (.ref a_he) (.ref a_ht) h_packets, aJ Y a_ht 64 c_ht] sz) := by
  refine Met.ofW (cc := cX4_timeOf) (maxL := 2) (ret := (some .long)) (by decide) rfl ?_
  intro p e s m args below meth c s₁ B hml hv
  obtain ⟨rfl, rfl, hP, hK, hD0⟩ := hv
  have hl := lv_entry ([.ref a_h, .int p1]) (n := 2) (Nat.le_of_ble_eq_true rfl)
  rw [lg_entry_eq]
  exact wX4_timeOf D Y ⟨B.exec, B.bytes, hml, B.returns, atoms_spec (ws := wsX4_timeOf) B.pre, findClass_of_methodNamed B.named, B.notSynchronized⟩ (fun q h => Or.inr h) hK F a_h a_ht a_hb a_he h_packets c_ht p1 res hf ⟨hP, hD0.self⟩ va_S.rf hl
theorem mX4_timeToWrite_0 : Cond.constantLong RX4 49 (-1) ∈ wsX4_timeToWrite := List.mem_cons_of_mem _ u_198
set_option maxHeartbeats 4000000 in
set_option maxRecDepth 100000 in
theorem wX4_timeToWrite_b2 {p : Program} {l : Launch} {e : Env} {s : State} {m : MethodId} {args : Array Value} {below : List Frame} {meth : Method} {c : Code} {A : Nat → Prop} (D : va_G) (Y : Y4) (C : CX p s m meth c args cX4_timeToWrite 3 (some .long) wsX4_timeToWrite RX4) (hA : ∀ q : Nat, s.heap.size ≤ q → A q) (hK : va_K D vwCl (TY Y) s) (F : Nat) (a_h : Nat) (a_ht : Nat) (a_hb : Nat) (a_he : Nat) (h_packets : Int32) (c_ht : (Nat → Int64)) (p1 : Int32) (res : Int64) : ∀ (n : Nat) (b2_l_2 : Int32), fX4_timeToWrite_b2 F h_packets c_ht n b2_l_2 = some res → ∀ {H : Heap} {locs : List Loc} {ls : Array Slot}, WD D A [oX4 a_h (.ref a_hb) (.ref a_he) (.ref a_ht) h_packets, aJ Y a_ht 64 c_ht] H → va_S A s.heap H locs → lv_has ls 3 [(0, .ref a_h), (2, .int b2_l_2)] → W p l e { frames := 2, cells := 0, slots := 0, locals := 42 } s m args below meth c H locs 0 0 (MQ below (va_Ql (fun r (_ : Unit) => r = res) (fun _ t => PST D Y A [oX4 a_h (.ref a_hb) (.ref a_he) (.ref a_ht) h_packets, aJ Y a_ht 64 c_ht] t) A) args s 0 0 A) (F0 m 2 ls []) := by
  obtain ⟨hx, hb, hml, hr, hts, hown, hlocks⟩ := id C
  intro n
  induction n with
  | zero => intro b2_l_2 hf; exact absurd hf (by simp [fX4_timeToWrite_b2])
  | succ n ih =>
    intro b2_l_2 hf H locs ls wd hS hl
    unfold fX4_timeToWrite_b2 at hf
    refine lv_iload_n hx hb dX4_timeToWrite_2 rfl (lv_at hl 1 rfl) ?_
    refine lv_if_lt (tgt := 30) hx hb dX4_timeToWrite_3 (by decide) (fun q1 => ?_) (fun q1 => ?_)
    · have hf := ip hf q1
      refine lv_lconst (v := 0) hx hb dX4_timeToWrite_30 (by decide) ?_
      obtain rfl := Option.some.inj hf
      exact W.lret (v := 0) hx hb hr (fun t ht hW => ⟨⟨_, (), rfl, rfl, WD.pst wd hK ht hW⟩, hS.F ht⟩) hS.2.2 dX4_timeToWrite_31
    · have hf := ie hf q1
      refine lv_aload_n hx hb dX4_timeToWrite_6 rfl (lv_at hl 0 rfl) ?_
      refine lv_iload_n hx hb dX4_timeToWrite_7 rfl (lv_at hl 1 rfl) ?_
      obtain ⟨o2, ho2, hf⟩ := ob hf
      refine xj_l (va_runV (As := [.int b2_l_2]) (rest := []) ⟨hx, hb, hml, hown, hts⟩ (kX4_timeOf l D Y F a_h a_ht a_hb a_he H.size h_packets c_ht b2_l_2 o2 ho2) (cwV 1 hts gX4_timeToWrite_X4_timeOf rfl rfl rfl (by decide +kernel) ⟨Nat.le_of_ble_eq_true rfl, Nat.le_of_ble_eq_true rfl⟩) (prev_w (ci := 3) rfl rfl hK wd [0, 1] rfl (by decide)) rfl rfl hl.1 rfl (lv_room (Nat.le_of_ble_eq_true rfl)) dX4_timeToWrite_8 ⟨Nat.zero_le _, Nat.zero_le _⟩) wd hS hA [0, 1] [] rfl rfl (by decide) (by decide) (fun H locs wd hS => ?_)
      have wd : WD D A [oX4 a_h (.ref a_hb) (.ref a_he) (.ref a_ht) h_packets, aJ Y a_ht 64 c_ht] H := wd
      refine lv_ldc2 hx hb hown (hts _ mX4_timeToWrite_0) dX4_timeToWrite_11 ?_
      refine xl_eq (tgt := 24) hx hb dX4_timeToWrite_14 dX4_timeToWrite_15 (by decide) (fun q3 => ?_) (fun q3 => ?_)
      · have hf := ip hf q3
        obtain ⟨x4, ex4⟩ : ∃ y : Int32, y = b2_l_2 + (-1) := ⟨_, rfl⟩
        have hf := nm_at hf ex4
        refine lv_iinc (v := x4) (lv' := [(2, .int x4), (0, .ref a_h)]) hx hb dX4_timeToWrite_24 hl (k := 1) rfl (by rw [ex4]; rfl) (by decide) rfl (fun ls hl => ?_)
        refine lv_goto (tgt := 2) hx hb dX4_timeToWrite_27 (by decide) ?_
        exact ih x4 hf wd hS (lv_sub hl [1, 0] rfl)
      · have hf := ie hf q3
        refine lv_aload_n hx hb dX4_timeToWrite_18 rfl (lv_at hl 0 rfl) ?_
        refine lv_iload_n hx hb dX4_timeToWrite_19 rfl (lv_at hl 1 rfl) ?_
        obtain ⟨o5, ho5, hf⟩ := ob hf
        refine xj_l (va_runV (As := [.int b2_l_2]) (rest := []) ⟨hx, hb, hml, hown, hts⟩ (kX4_timeOf l D Y F a_h a_ht a_hb a_he H.size h_packets c_ht b2_l_2 o5 ho5) (cwV 1 hts gX4_timeToWrite_X4_timeOf rfl rfl rfl (by decide +kernel) ⟨Nat.le_of_ble_eq_true rfl, Nat.le_of_ble_eq_true rfl⟩) (prev_w (ci := 3) rfl rfl hK wd [0, 1] rfl (by decide)) rfl rfl hl.1 rfl (lv_room (Nat.le_of_ble_eq_true rfl)) dX4_timeToWrite_20 ⟨Nat.zero_le _, Nat.zero_le _⟩) wd hS hA [0, 1] [] rfl rfl (by decide) (by decide) (fun H locs wd hS => ?_)
        have wd : WD D A [oX4 a_h (.ref a_hb) (.ref a_he) (.ref a_ht) h_packets, aJ Y a_ht 64 c_ht] H := wd
        obtain rfl := Option.some.inj hf
        exact W.lret (v := o5) hx hb hr (fun t ht hW => ⟨⟨_, (), rfl, rfl, WD.pst wd hK ht hW⟩, hS.F ht⟩) hS.2.2 dX4_timeToWrite_23

set_option maxHeartbeats 4000000 in
set_option maxRecDepth 100000 in
theorem wX4_timeToWrite {p : Program} {l : Launch} {e : Env} {s : State} {m : MethodId} {args : Array Value} {below : List Frame} {meth : Method} {c : Code} {A : Nat → Prop} (D : va_G) (Y : Y4) (C : CX p s m meth c args cX4_timeToWrite 3 (some .long) wsX4_timeToWrite RX4) (hA : ∀ q : Nat, s.heap.size ≤ q → A q) (hK : va_K D vwCl (TY Y) s) (F : Nat) (a_h : Nat) (a_ht : Nat) (a_hb : Nat) (a_he : Nat) (h_packets : Int32) (c_ht : (Nat → Int64)) (p1 : Int32) (res : Int64) (hf : fX4_timeToWrite F h_packets c_ht p1 = some res) {H : Heap} {locs : List Loc} {ls : Array Slot} (wd : WD D A [oX4 a_h (.ref a_hb) (.ref a_he) (.ref a_ht) h_packets, aJ Y a_ht 64 c_ht] H) (hS : va_S A s.heap H locs) (hl : lv_has ls 3 [(0, .ref a_h), (1, .int p1)]) : W p l e { frames := 2, cells := 0, slots := 0, locals := 42 } s m args below meth c H locs 0 0 (MQ below (va_Ql (fun r (_ : Unit) => r = res) (fun _ t => PST D Y A [oX4 a_h (.ref a_hb) (.ref a_he) (.ref a_ht) h_packets, aJ Y a_ht 64 c_ht] t) A) args s 0 0 A) (F0 m 0 ls []) := by
  obtain ⟨hx, hb, hml, hr, hts, hown, hlocks⟩ := id C
  unfold fX4_timeToWrite at hf
  refine lv_iload_n hx hb dX4_timeToWrite_0 rfl (lv_at hl 1 rfl) ?_
  refine lv_istore_n (lv' := [(2, .int p1), (0, .ref a_h), (1, .int p1)]) hx hb dX4_timeToWrite_1 rfl hl (by decide) rfl (fun ls hl => ?_)
  exact wX4_timeToWrite_b2 D Y C hA hK F a_h a_ht a_hb a_he h_packets c_ht p1 _ F p1 hf wd hS (lv_sub hl [1, 0] rfl)
set_option maxHeartbeats 4000000 in
set_option maxRecDepth 100000 in
theorem kX4_timeToWrite (l : Launch) (D : va_G) (Y : Y4) (F : Nat) (a_h : Nat) (a_ht : Nat) (a_hb : Nat) (a_he : Nat) (sz : Nat) (h_packets : Int32) (c_ht : (Nat → Int64)) (p1 : Int32) (res : Int64) (hf : fX4_timeToWrite F h_packets c_ht p1 = some res) : Met l yX4_timeToWrite wsX4_timeToWrite ({ frames := 2, cells := 0, slots := 0, locals := 42 }) (va_Pc [.ref a_h, .int p1] (PRE D Y [oX4 a_h (.ref a_hb) (.ref a_he) (.ref a_ht) h_packets, aJ Y a_ht 64 c_ht] sz)) (va_Ql (fun r (_ : Unit) => r = res) (fun _ t => PST D Y (va_A [oX4 a_h (.ref a_hb) (.ref a_he) (.ref a_ht) h_packets, aJ Y a_ht 64 c_ht] sz) [oX4 a_h (.ref a_hb) (.ref a_he) (.ref a_ht) h_packets, aJ Y a_ht 64 c_ht] t) (va_A [oX4 a_h (.ref a_hb) (.ref a_he) (.ref a_ht) h_packets, aJ Y a_ht 64 c_ht] sz)) 0 0 (va_A [oX4 a_h (.ref a_hb) (.ref a_he) (.ref a_ht) h_packets, aJ Y a_ht 64 c_ht] sz) := by
  refine Met.ofW (cc := cX4_timeToWrite) (maxL := 3) (ret := (some .long)) (by decide) rfl ?_
  intro p e s m args below meth c s₁ B hml hv
  obtain ⟨rfl, rfl, hP, hK, hD0⟩ := hv
  have hl := lv_entry ([.ref a_h, .int p1]) (n := 3) (Nat.le_of_ble_eq_true rfl)
  rw [lg_entry_eq]
  exact wX4_timeToWrite D Y ⟨B.exec, B.bytes, hml, B.returns, atoms_spec (ws := wsX4_timeToWrite) B.pre, findClass_of_methodNamed B.named, B.notSynchronized⟩ (fun q h => Or.inr h) hK F a_h a_ht a_hb a_he h_packets c_ht p1 res hf ⟨hP, hD0.self⟩ va_S.rf hl
theorem mX4_beginOf_0 : Cond.fieldLink RX4 20 "StreamRemuxer$PacketList" "ends" "[I" ∈ wsX4_beginOf := List.mem_cons_of_mem _ u_58
theorem iX4_beginOf_X4 : ∀ w ∈ wsX40, w ∈ wsX4_beginOf := fun w h => List.mem_cons_of_mem _ (inlX4 w h)
set_option maxHeartbeats 4000000 in
set_option maxRecDepth 100000 in
theorem wX4_beginOf_b22 {p : Program} {l : Launch} {e : Env} {s : State} {m : MethodId} {args : Array Value} {below : List Frame} {meth : Method} {c : Code} {A : Nat → Prop} (D : va_G) (Y : Y4) (C : CX p s m meth c args cX4_beginOf 2 (some .int) wsX4_beginOf RX4) (hA : ∀ q : Nat, s.heap.size ≤ q → A q) (hK : va_K D vwCl (TY Y) s) (F : Nat) (a_h : Nat) (a_he : Nat) (a_hb : Nat) (a_ht : Nat) (h_packets : Int32) (c_he : (Nat → Int32)) (p1 : Int32) (res : Int32) (b22_s_0 : Int32) (hf : fX4_beginOf_b22 F b22_s_0 = some res) {H : Heap} {locs : List Loc} {ls : Array Slot} (wd : WD D A [oX4 a_h (.ref a_hb) (.ref a_he) (.ref a_ht) h_packets, aI Y a_he 64 c_he] H) (hS : va_S A s.heap H locs) (hl : lv_has ls 2 []) : W p l e { frames := 1, cells := 0, slots := 0, locals := 21 } s m args below meth c H locs 0 0 (MQ below (va_Qi (fun r (_ : Unit) => r = res) (fun _ t => PST D Y A [oX4 a_h (.ref a_hb) (.ref a_he) (.ref a_ht) h_packets, aI Y a_he 64 c_he] t) A) args s 0 0 A) (F0 m 22 ls [.int b22_s_0]) := by
  obtain ⟨hx, hb, hml, hr, hts, hown, hlocks⟩ := id C
  unfold fX4_beginOf_b22 at hf
  obtain rfl := Option.some.inj hf
  exact W.iret (v := b22_s_0) hx hb hr (fun t ht hW => ⟨⟨_, (), rfl, rfl, WD.pst wd hK ht hW⟩, hS.F ht⟩) hS.2.2 dX4_beginOf_22

set_option maxHeartbeats 4000000 in
set_option maxRecDepth 100000 in
theorem wX4_beginOf {p : Program} {l : Launch} {e : Env} {s : State} {m : MethodId} {args : Array Value} {below : List Frame} {meth : Method} {c : Code} {A : Nat → Prop} (D : va_G) (Y : Y4) (C : CX p s m meth c args cX4_beginOf 2 (some .int) wsX4_beginOf RX4) (hA : ∀ q : Nat, s.heap.size ≤ q → A q) (hK : va_K D vwCl (TY Y) s) (F : Nat) (a_h : Nat) (a_he : Nat) (a_hb : Nat) (a_ht : Nat) (h_packets : Int32) (c_he : (Nat → Int32)) (p1 : Int32) (res : Int32) (hf : fX4_beginOf F h_packets c_he p1 = some res) {H : Heap} {locs : List Loc} {ls : Array Slot} (wd : WD D A [oX4 a_h (.ref a_hb) (.ref a_he) (.ref a_ht) h_packets, aI Y a_he 64 c_he] H) (hS : va_S A s.heap H locs) (hl : lv_has ls 2 [(0, .ref a_h), (1, .int p1)]) : W p l e { frames := 1, cells := 0, slots := 0, locals := 21 } s m args below meth c H locs 0 0 (MQ below (va_Qi (fun r (_ : Unit) => r = res) (fun _ t => PST D Y A [oX4 a_h (.ref a_hb) (.ref a_he) (.ref a_ht) h_packets, aI Y a_he 64 c_he] t) A) args s 0 0 A) (F0 m 0 ls []) := by
  obtain ⟨hx, hb, hml, hr, hts, hown, hlocks⟩ := id C
  unfold fX4_beginOf at hf
  refine lv_aload_n hx hb dX4_beginOf_0 rfl (lv_at hl 0 rfl) ?_
  refine lv_iload_n hx hb dX4_beginOf_1 rfl (lv_at hl 1 rfl) ?_
  refine lv_iconst (v := 1) hx hb dX4_beginOf_2 (by decide) ?_
  refine lv_isub hx hb dX4_beginOf_3 ?_
  obtain ⟨o1, ho1, hf⟩ := ob hf
  refine xj_i (va_runV (As := [.int (p1 - 1)]) (rest := []) ⟨hx, hb, hml, hown, hts⟩ (kX4_holds l D Y F a_h a_hb a_he a_ht H.size h_packets (p1 - 1) o1 ho1) (cwV 1 hts gX4_beginOf_X4_holds rfl rfl rfl (by decide +kernel) ⟨Nat.le_of_ble_eq_true rfl, Nat.le_of_ble_eq_true rfl⟩) (prev_w (ci := 3) rfl rfl hK wd [0] rfl (by decide)) rfl rfl hl.1 rfl (lv_room (Nat.le_of_ble_eq_true rfl)) dX4_beginOf_4 ⟨Nat.zero_le _, Nat.zero_le _⟩) wd hS hA [0] [1] rfl rfl (by decide) (by decide) (fun H locs wd hS => ?_)
  have wd : WD D A [aI Y a_he 64 c_he, oX4 a_h (.ref a_hb) (.ref a_he) (.ref a_ht) h_packets] H := wd
  refine lv_if_eq (tgt := 21) hx hb dX4_beginOf_7 (by decide) (fun q2 => ?_) (fun q2 => ?_)
  · have hf := ip hf q2
    refine lv_iconst (v := 0) hx hb dX4_beginOf_21 (by decide) ?_
    exact wX4_beginOf_b22 D Y C hA hK F a_h a_he a_hb a_ht h_packets c_he p1 _ 0 hf (wd.sub [1, 0] rfl (by decide)) hS (lv_sub hl [] rfl)
  · have hf := ie hf q2
    refine lv_aload_n hx hb dX4_beginOf_10 rfl (lv_at hl 0 rfl) ?_
    refine va_get (D := D) (ci := 3) (v := .ref a_he) (C := RX4) (T := TX4) (N := 4) hx hb hts iX4_beginOf_X4 hown hK wd.1 1 rfl rfl 1 (by decide) (hts _ mX4_beginOf_0) (fun _ h9 => h9) rfl dX4_beginOf_11 ?_
    refine lv_iload_n hx hb dX4_beginOf_14 rfl (lv_at hl 1 rfl) ?_
    refine lv_iconst (v := 1) hx hb dX4_beginOf_15 (by decide) ?_
    refine lv_isub hx hb dX4_beginOf_16 ?_
    refine lv_topi (fun x3 ex3 => ?_)
    have hf := nm_at hf ex3
    obtain ⟨hg4, hf⟩ := gd hf
    refine va_iald hx hb hK wd.1 0 1 rfl rfl (gin_in hg4) dX4_beginOf_17 ?_
    refine lv_goto (tgt := 22) hx hb dX4_beginOf_18 (by decide) ?_
    exact wX4_beginOf_b22 D Y C hA hK F a_h a_he a_hb a_ht h_packets c_he p1 _ (c_he x3.toNatClampNeg) hf (wd.sub [1, 0] rfl (by decide)) hS (lv_sub hl [] rfl)
set_option maxHeartbeats 4000000 in
set_option maxRecDepth 100000 in
theorem kX4_beginOf (l : Launch) (D : va_G) (Y : Y4) (F : Nat) (a_h : Nat) (a_he : Nat) (a_hb : Nat) (a_ht : Nat) (sz : Nat) (h_packets : Int32) (c_he : (Nat → Int32)) (p1 : Int32) (res : Int32) (hf : fX4_beginOf F h_packets c_he p1 = some res) : Met l yX4_beginOf wsX4_beginOf ({ frames := 1, cells := 0, slots := 0, locals := 21 }) (va_Pc [.ref a_h, .int p1] (PRE D Y [oX4 a_h (.ref a_hb) (.ref a_he) (.ref a_ht) h_packets, aI Y a_he 64 c_he] sz)) (va_Qi (fun r (_ : Unit) => r = res) (fun _ t => PST D Y (va_A [oX4 a_h (.ref a_hb) (.ref a_he) (.ref a_ht) h_packets, aI Y a_he 64 c_he] sz) [oX4 a_h (.ref a_hb) (.ref a_he) (.ref a_ht) h_packets, aI Y a_he 64 c_he] t) (va_A [oX4 a_h (.ref a_hb) (.ref a_he) (.ref a_ht) h_packets, aI Y a_he 64 c_he] sz)) 0 0 (va_A [oX4 a_h (.ref a_hb) (.ref a_he) (.ref a_ht) h_packets, aI Y a_he 64 c_he] sz) := by
  refine Met.ofW (cc := cX4_beginOf) (maxL := 2) (ret := (some .int)) (by decide) rfl ?_
  intro p e s m args below meth c s₁ B hml hv
  obtain ⟨rfl, rfl, hP, hK, hD0⟩ := hv
  have hl := lv_entry ([.ref a_h, .int p1]) (n := 2) (Nat.le_of_ble_eq_true rfl)
  rw [lg_entry_eq]
  exact wX4_beginOf D Y ⟨B.exec, B.bytes, hml, B.returns, atoms_spec (ws := wsX4_beginOf) B.pre, findClass_of_methodNamed B.named, B.notSynchronized⟩ (fun q h => Or.inr h) hK F a_h a_he a_hb a_ht h_packets c_he p1 res hf ⟨hP, hD0.self⟩ va_S.rf hl
theorem mX4_bytesOf_0 : Cond.fieldLink RX4 20 "StreamRemuxer$PacketList" "ends" "[I" ∈ wsX4_bytesOf := List.mem_cons_of_mem _ u_58
theorem iX4_bytesOf_X4 : ∀ w ∈ wsX40, w ∈ wsX4_bytesOf := fun w h => List.mem_cons_of_mem _ (inlX4 w h)
set_option maxHeartbeats 4000000 in
set_option maxRecDepth 100000 in
theorem wX4_bytesOf_b24 {p : Program} {l : Launch} {e : Env} {s : State} {m : MethodId} {args : Array Value} {below : List Frame} {meth : Method} {c : Code} {A : Nat → Prop} (D : va_G) (Y : Y4) (C : CX p s m meth c args cX4_bytesOf 2 (some .int) wsX4_bytesOf RX4) (hA : ∀ q : Nat, s.heap.size ≤ q → A q) (hK : va_K D vwCl (TY Y) s) (F : Nat) (a_h : Nat) (a_he : Nat) (a_hb : Nat) (a_ht : Nat) (h_packets : Int32) (c_he : (Nat → Int32)) (p1 : Int32) (res : Int32) (b24_s_0 : Int32) (hf : fX4_bytesOf_b24 F b24_s_0 = some res) {H : Heap} {locs : List Loc} {ls : Array Slot} (wd : WD D A [oX4 a_h (.ref a_hb) (.ref a_he) (.ref a_ht) h_packets, aI Y a_he 64 c_he] H) (hS : va_S A s.heap H locs) (hl : lv_has ls 2 []) : W p l e { frames := 2, cells := 0, slots := 0, locals := 42 } s m args below meth c H locs 0 0 (MQ below (va_Qi (fun r (_ : Unit) => r = res) (fun _ t => PST D Y A [oX4 a_h (.ref a_hb) (.ref a_he) (.ref a_ht) h_packets, aI Y a_he 64 c_he] t) A) args s 0 0 A) (F0 m 24 ls [.int b24_s_0]) := by
  obtain ⟨hx, hb, hml, hr, hts, hown, hlocks⟩ := id C
  unfold fX4_bytesOf_b24 at hf
  obtain rfl := Option.some.inj hf
  exact W.iret (v := b24_s_0) hx hb hr (fun t ht hW => ⟨⟨_, (), rfl, rfl, WD.pst wd hK ht hW⟩, hS.F ht⟩) hS.2.2 dX4_bytesOf_24

set_option maxHeartbeats 4000000 in
set_option maxRecDepth 100000 in
theorem wX4_bytesOf {p : Program} {l : Launch} {e : Env} {s : State} {m : MethodId} {args : Array Value} {below : List Frame} {meth : Method} {c : Code} {A : Nat → Prop} (D : va_G) (Y : Y4) (C : CX p s m meth c args cX4_bytesOf 2 (some .int) wsX4_bytesOf RX4) (hA : ∀ q : Nat, s.heap.size ≤ q → A q) (hK : va_K D vwCl (TY Y) s) (F : Nat) (a_h : Nat) (a_he : Nat) (a_hb : Nat) (a_ht : Nat) (h_packets : Int32) (c_he : (Nat → Int32)) (p1 : Int32) (res : Int32) (hf : fX4_bytesOf F h_packets c_he p1 = some res) {H : Heap} {locs : List Loc} {ls : Array Slot} (wd : WD D A [oX4 a_h (.ref a_hb) (.ref a_he) (.ref a_ht) h_packets, aI Y a_he 64 c_he] H) (hS : va_S A s.heap H locs) (hl : lv_has ls 2 [(0, .ref a_h), (1, .int p1)]) : W p l e { frames := 2, cells := 0, slots := 0, locals := 42 } s m args below meth c H locs 0 0 (MQ below (va_Qi (fun r (_ : Unit) => r = res) (fun _ t => PST D Y A [oX4 a_h (.ref a_hb) (.ref a_he) (.ref a_ht) h_packets, aI Y a_he 64 c_he] t) A) args s 0 0 A) (F0 m 0 ls []) := by
  obtain ⟨hx, hb, hml, hr, hts, hown, hlocks⟩ := id C
  unfold fX4_bytesOf at hf
  refine lv_aload_n hx hb dX4_bytesOf_0 rfl (lv_at hl 0 rfl) ?_
  refine lv_iload_n hx hb dX4_bytesOf_1 rfl (lv_at hl 1 rfl) ?_
  obtain ⟨o1, ho1, hf⟩ := ob hf
  refine xj_i (va_runV (As := [.int p1]) (rest := []) ⟨hx, hb, hml, hown, hts⟩ (kX4_holds l D Y F a_h a_hb a_he a_ht H.size h_packets p1 o1 ho1) (cwV 1 hts gX4_bytesOf_X4_holds rfl rfl rfl (by decide +kernel) ⟨Nat.le_of_ble_eq_true rfl, Nat.le_of_ble_eq_true rfl⟩) (prev_w (ci := 3) rfl rfl hK wd [0] rfl (by decide)) rfl rfl hl.1 rfl (lv_room (Nat.le_of_ble_eq_true rfl)) dX4_bytesOf_2 ⟨Nat.zero_le _, Nat.zero_le _⟩) wd hS hA [0] [1] rfl rfl (by decide) (by decide) (fun H locs wd hS => ?_)
  have wd : WD D A [aI Y a_he 64 c_he, oX4 a_h (.ref a_hb) (.ref a_he) (.ref a_ht) h_packets] H := wd
  refine lv_if_eq (tgt := 23) hx hb dX4_bytesOf_5 (by decide) (fun q2 => ?_) (fun q2 => ?_)
  · have hf := ip hf q2
    refine lv_iconst (v := (-1)) hx hb dX4_bytesOf_23 (by decide) ?_
    exact wX4_bytesOf_b24 D Y C hA hK F a_h a_he a_hb a_ht h_packets c_he p1 _ (-1) hf (wd.sub [1, 0] rfl (by decide)) hS (lv_sub hl [] rfl)
  · have hf := ie hf q2
    refine lv_aload_n hx hb dX4_bytesOf_8 rfl (lv_at hl 0 rfl) ?_
    refine va_get (D := D) (ci := 3) (v := .ref a_he) (C := RX4) (T := TX4) (N := 4) hx hb hts iX4_bytesOf_X4 hown hK wd.1 1 rfl rfl 1 (by decide) (hts _ mX4_bytesOf_0) (fun _ h9 => h9) rfl dX4_bytesOf_9 ?_
    refine lv_iload_n hx hb dX4_bytesOf_12 rfl (lv_at hl 1 rfl) ?_
    obtain ⟨hg3, hf⟩ := gd hf
    refine va_iald hx hb hK wd.1 0 1 rfl rfl (gin_in hg3) dX4_bytesOf_13 ?_
    refine lv_aload_n hx hb dX4_bytesOf_14 rfl (lv_at hl 0 rfl) ?_
    refine lv_iload_n hx hb dX4_bytesOf_15 rfl (lv_at hl 1 rfl) ?_
    obtain ⟨o4, ho4, hf⟩ := ob hf
    refine xj_i (va_runV (As := [.int p1]) (rest := [.int (c_he p1.toNatClampNeg)]) ⟨hx, hb, hml, hown, hts⟩ (kX4_beginOf l D Y F a_h a_he a_hb a_ht H.size h_packets c_he p1 o4 ho4) (cwV 1 hts gX4_bytesOf_X4_beginOf rfl rfl rfl (by decide +kernel) ⟨Nat.le_of_ble_eq_true rfl, Nat.le_of_ble_eq_true rfl⟩) (prev_w (ci := 3) rfl rfl hK wd [1, 0] rfl (by decide)) rfl rfl hl.1 rfl (lv_room (Nat.le_of_ble_eq_true rfl)) dX4_bytesOf_16 ⟨Nat.zero_le _, Nat.zero_le _⟩) wd hS hA [1, 0] [] rfl rfl (by decide) (by decide) (fun H locs wd hS => ?_)
    have wd : WD D A [oX4 a_h (.ref a_hb) (.ref a_he) (.ref a_ht) h_packets, aI Y a_he 64 c_he] H := wd
    refine lv_isub hx hb dX4_bytesOf_19 ?_
    refine lv_goto (tgt := 24) hx hb dX4_bytesOf_20 (by decide) ?_
    exact wX4_bytesOf_b24 D Y C hA hK F a_h a_he a_hb a_ht h_packets c_he p1 _ ((c_he p1.toNatClampNeg) - o4) hf wd hS (lv_sub hl [] rfl)
set_option maxHeartbeats 4000000 in
set_option maxRecDepth 100000 in
theorem kX4_bytesOf (l : Launch) (D : va_G) (Y : Y4) (F : Nat) (a_h : Nat) (a_he : Nat) (a_hb : Nat) (a_ht : Nat) (sz : Nat) (h_packets : Int32) (c_he : (Nat → Int32)) (p1 : Int32) (res : Int32) (hf : fX4_bytesOf F h_packets c_he p1 = some res) : Met l yX4_bytesOf wsX4_bytesOf ({ frames := 2, cells := 0, slots := 0, locals := 42 }) (va_Pc [.ref a_h, .int p1] (PRE D Y [oX4 a_h (.ref a_hb) (.ref a_he) (.ref a_ht) h_packets, aI Y a_he 64 c_he] sz)) (va_Qi (fun r (_ : Unit) => r = res) (fun _ t => PST D Y (va_A [oX4 a_h (.ref a_hb) (.ref a_he) (.ref a_ht) h_packets, aI Y a_he 64 c_he] sz) [oX4 a_h (.ref a_hb) (.ref a_he) (.ref a_ht) h_packets, aI Y a_he 64 c_he] t) (va_A [oX4 a_h (.ref a_hb) (.ref a_he) (.ref a_ht) h_packets, aI Y a_he 64 c_he] sz)) 0 0 (va_A [oX4 a_h (.ref a_hb) (.ref a_he) (.ref a_ht) h_packets, aI Y a_he 64 c_he] sz) := by
  refine Met.ofW (cc := cX4_bytesOf) (maxL := 2) (ret := (some .int)) (by decide) rfl ?_
  intro p e s m args below meth c s₁ B hml hv
  obtain ⟨rfl, rfl, hP, hK, hD0⟩ := hv
  have hl := lv_entry ([.ref a_h, .int p1]) (n := 2) (Nat.le_of_ble_eq_true rfl)
  rw [lg_entry_eq]
  exact wX4_bytesOf D Y ⟨B.exec, B.bytes, hml, B.returns, atoms_spec (ws := wsX4_bytesOf) B.pre, findClass_of_methodNamed B.named, B.notSynchronized⟩ (fun q h => Or.inr h) hK F a_h a_he a_hb a_ht h_packets c_he p1 res hf ⟨hP, hD0.self⟩ va_S.rf hl
theorem mX4_empty_0 : Cond.fieldLink RX4 28 "StreamRemuxer$PacketList" "packets" "I" ∈ wsX4_empty := List.mem_cons_of_mem _ u_151
theorem mX4_empty_1 : Cond.fieldLink RX4 14 "StreamRemuxer$PacketList" "bytes" "LStreamRemuxer$Row;" ∈ wsX4_empty := List.mem_cons_of_mem _ u_57
theorem iX4_empty_X4 : ∀ w ∈ wsX40, w ∈ wsX4_empty := fun w h => List.mem_cons_of_mem _ (inlX4 w h)
set_option maxHeartbeats 4000000 in
set_option maxRecDepth 100000 in
theorem wX4_empty {p : Program} {l : Launch} {e : Env} {s : State} {m : MethodId} {args : Array Value} {below : List Frame} {meth : Method} {c : Code} {A : Nat → Prop} (D : va_G) (Y : Y4) (C : CX p s m meth c args cX4_empty 1 none wsX4_empty RX4) (hA : ∀ q : Nat, s.heap.size ≤ q → A q) (hK : va_K D vwCl (TY Y) s) (F : Nat) (a_h : Nat) (a_hb : Nat) (a_he : Nat) (a_ht : Nat) (a_hbw : Nat) (h_packets : Int32) (hb_most : Int32) (hb_length : Int32) (hb_overfull : Int32) (res : Int32 × Int32 × Int32) (hf : fX4_empty F = some res) {H : Heap} {locs : List Loc} {ls : Array Slot} (wd : WD D A [oX4 a_h (.ref a_hb) (.ref a_he) (.ref a_ht) h_packets, oX8 a_hb (.ref a_hbw) hb_most hb_length hb_overfull] H) (hS : va_S A s.heap H locs) (hl : lv_has ls 1 [(0, .ref a_h)]) : W p l e { frames := 1, cells := 0, slots := 0, locals := 20 } s m args below meth c H locs 0 0 (MQ below (va_Qv (fun _ : Unit => True) (fun _ t => PST D Y A [oX4 a_h (.ref a_hb) (.ref a_he) (.ref a_ht) res.1, oX8 a_hb (.ref a_hbw) hb_most res.2.1 res.2.2] t) A) args s 0 0 A) (F0 m 0 ls []) := by
  obtain ⟨hx, hb, hml, hr, hts, hown, hlocks⟩ := id C
  unfold fX4_empty at hf
  refine lv_aload_n hx hb dX4_empty_0 rfl (lv_at hl 0 rfl) ?_
  refine lv_iconst (v := 0) hx hb dX4_empty_1 (by decide) ?_
  refine va_put (D := D) (ci := 3) (v := .int 0) (ty := .int) (C := RX4) (T := TX4) (N := 4) hx hb hts iX4_empty_X4 tyX4 tyX4_ok nmX4 hown hK wd.1 wd.2 hS 0 rfl rfl 3 (by decide) (hts _ mX4_empty_0) (fun _ h9 => h9) rfl (by decide +kernel) rfl rfl (Nat.le_of_ble_eq_true rfl) dX4_empty_2 (fun H locs hP hD hS => ?_)
  have wd : WD D A [oX4 a_h (.ref a_hb) (.ref a_he) (.ref a_ht) 0, oX8 a_hb (.ref a_hbw) hb_most hb_length hb_overfull] H := ⟨hP, hD⟩
  clear hP hD
  refine lv_aload_n hx hb dX4_empty_5 rfl (lv_at hl 0 rfl) ?_
  refine va_get (D := D) (ci := 3) (v := .ref a_hb) (C := RX4) (T := TX4) (N := 4) hx hb hts iX4_empty_X4 hown hK wd.1 0 rfl rfl 0 (by decide) (hts _ mX4_empty_1) (fun _ h9 => h9) rfl dX4_empty_6 ?_
  obtain ⟨o1, ho1, hf⟩ := ob hf
  refine xj_v (va_runV (As := []) (rest := []) ⟨hx, hb, hml, hown, hts⟩ (kX8_empty l D Y F a_hb a_hbw H.size hb_most hb_length hb_overfull o1 ho1) (cwV 0 hts gX4_empty_X8_empty rfl rfl rfl (by decide +kernel) ⟨Nat.le_of_ble_eq_true rfl, Nat.le_of_ble_eq_true rfl⟩) (prev_w (ci := 6) rfl rfl hK wd [1] rfl (by decide)) rfl rfl hl.1 rfl (lv_room (Nat.le_of_ble_eq_true rfl)) dX4_empty_9 ⟨Nat.zero_le _, Nat.zero_le _⟩) wd hS hA [1] [0] rfl rfl (by decide) (by decide) (fun H locs wd hS => ?_)
  have wd : WD D A [oX4 a_h (.ref a_hb) (.ref a_he) (.ref a_ht) 0, oX8 a_hb (.ref a_hbw) hb_most o1.1 o1.2] H := wd
  obtain rfl := Option.some.inj hf
  exact W.vret hx hb hr (fun t ht hW => ⟨⟨(), rfl, trivial, WD.pst wd hK ht hW⟩, hS.F ht⟩) hS.2.2 dX4_empty_12
set_option maxHeartbeats 4000000 in
set_option maxRecDepth 100000 in
theorem kX4_empty (l : Launch) (D : va_G) (Y : Y4) (F : Nat) (a_h : Nat) (a_hb : Nat) (a_he : Nat) (a_ht : Nat) (a_hbw : Nat) (sz : Nat) (h_packets : Int32) (hb_most : Int32) (hb_length : Int32) (hb_overfull : Int32) (res : Int32 × Int32 × Int32) (hf : fX4_empty F = some res) : Met l yX4_empty wsX4_empty ({ frames := 1, cells := 0, slots := 0, locals := 20 }) (va_Pc [.ref a_h] (PRE D Y [oX4 a_h (.ref a_hb) (.ref a_he) (.ref a_ht) h_packets, oX8 a_hb (.ref a_hbw) hb_most hb_length hb_overfull] sz)) (va_Qv (fun _ : Unit => True) (fun _ t => PST D Y (va_A [oX4 a_h (.ref a_hb) (.ref a_he) (.ref a_ht) h_packets, oX8 a_hb (.ref a_hbw) hb_most hb_length hb_overfull] sz) [oX4 a_h (.ref a_hb) (.ref a_he) (.ref a_ht) res.1, oX8 a_hb (.ref a_hbw) hb_most res.2.1 res.2.2] t) (va_A [oX4 a_h (.ref a_hb) (.ref a_he) (.ref a_ht) h_packets, oX8 a_hb (.ref a_hbw) hb_most hb_length hb_overfull] sz)) 0 0 (va_A [oX4 a_h (.ref a_hb) (.ref a_he) (.ref a_ht) h_packets, oX8 a_hb (.ref a_hbw) hb_most hb_length hb_overfull] sz) := by
  refine Met.ofW (cc := cX4_empty) (maxL := 1) (ret := none) (by decide) rfl ?_
  intro p e s m args below meth c s₁ B hml hv
  obtain ⟨rfl, rfl, hP, hK, hD0⟩ := hv
  have hl := lv_entry ([.ref a_h]) (n := 1) (Nat.le_of_ble_eq_true rfl)
  rw [lg_entry_eq]
  exact wX4_empty D Y ⟨B.exec, B.bytes, hml, B.returns, atoms_spec (ws := wsX4_empty) B.pre, findClass_of_methodNamed B.named, B.notSynchronized⟩ (fun q h => Or.inr h) hK F a_h a_hb a_he a_ht a_hbw h_packets hb_most hb_length hb_overfull res hf ⟨hP, hD0.self⟩ va_S.rf hl
theorem mX4_byteOf_0 : Cond.fieldLink RX4 14 "StreamRemuxer$PacketList" "bytes" "LStreamRemuxer$Row;" ∈ wsX4_byteOf := List.mem_cons_of_mem _ u_57
theorem iX4_byteOf_X4 : ∀ w ∈ wsX40, w ∈ wsX4_byteOf := fun w h => List.mem_cons_of_mem _ (inlX4 w h)
set_option maxHeartbeats 4000000 in
set_option maxRecDepth 100000 in
theorem wX4_byteOf {p : Program} {l : Launch} {e : Env} {s : State} {m : MethodId} {args : Array Value} {below : List Frame} {meth : Method} {c : Code} {A : Nat → Prop} (D : va_G) (Y : Y4) (C : CX p s m meth c args cX4_byteOf 3 (some .int) wsX4_byteOf RX4) (hA : ∀ q : Nat, s.heap.size ≤ q → A q) (hK : va_K D vwCl (TY Y) s) (F : Nat) (a_h : Nat) (a_hb : Nat) (a_hbw : Nat) (a_he : Nat) (a_ht : Nat) (h_packets : Int32) (hb_most : Int32) (hb_length : Int32) (hb_overfull : Int32) (hbw_n : Nat) (c_hbw : (Nat → Int32)) (c_he : (Nat → Int32)) (p1 : Int32) (p2 : Int32) (res : Int32) (hf : fX4_byteOf F h_packets hb_length hbw_n c_hbw c_he p1 p2 = some res) {H : Heap} {locs : List Loc} {ls : Array Slot} (wd : WD D A [oX4 a_h (.ref a_hb) (.ref a_he) (.ref a_ht) h_packets, oX8 a_hb (.ref a_hbw) hb_most hb_length hb_overfull, aI Y a_hbw hbw_n c_hbw, aI Y a_he 64 c_he] H) (hS : va_S A s.heap H locs) (hl : lv_has ls 3 [(0, .ref a_h), (1, .int p1), (2, .int p2)]) : W p l e { frames := 3, cells := 0, slots := 0, locals := 63 } s m args below meth c H locs 0 0 (MQ below (va_Qi (fun r (_ : Unit) => r = res) (fun _ t => PST D Y A [oX4 a_h (.ref a_hb) (.ref a_he) (.ref a_ht) h_packets, oX8 a_hb (.ref a_hbw) hb_most hb_length hb_overfull, aI Y a_hbw hbw_n c_hbw, aI Y a_he 64 c_he] t) A) args s 0 0 A) (F0 m 0 ls []) := by
  obtain ⟨hx, hb, hml, hr, hts, hown, hlocks⟩ := id C
  unfold fX4_byteOf at hf
  refine lv_iload_n hx hb dX4_byteOf_0 rfl (lv_at hl 2 rfl) ?_
  refine lv_if_lt (tgt := 13) hx hb dX4_byteOf_1 (by decide) (fun q1 => ?_) (fun q1 => ?_)
  · have hf := ip hf q1
    refine lv_iconst (v := (-1)) hx hb dX4_byteOf_13 (by decide) ?_
    obtain rfl := Option.some.inj hf
    exact W.iret (v := (-1)) hx hb hr (fun t ht hW => ⟨⟨_, (), rfl, rfl, WD.pst wd hK ht hW⟩, hS.F ht⟩) hS.2.2 dX4_byteOf_14
  · have hf := ie hf q1
    refine lv_iload_n hx hb dX4_byteOf_4 rfl (lv_at hl 2 rfl) ?_
    refine lv_aload_n hx hb dX4_byteOf_5 rfl (lv_at hl 0 rfl) ?_
    refine lv_iload_n hx hb dX4_byteOf_6 rfl (lv_at hl 1 rfl) ?_
    obtain ⟨o2, ho2, hf⟩ := ob hf
    refine xj_i (va_runV (As := [.int p1]) (rest := [.int p2]) ⟨hx, hb, hml, hown, hts⟩ (kX4_bytesOf l D Y F a_h a_he a_hb a_ht H.size h_packets c_he p1 o2 ho2) (cwV 1 hts gX4_byteOf_X4_bytesOf rfl rfl rfl (by decide +kernel) ⟨Nat.le_of_ble_eq_true rfl, Nat.le_of_ble_eq_true rfl⟩) (prev_w (ci := 3) rfl rfl hK wd [0, 3] rfl (by decide)) rfl rfl hl.1 rfl (lv_room (Nat.le_of_ble_eq_true rfl)) dX4_byteOf_7 ⟨Nat.zero_le _, Nat.zero_le _⟩) wd hS hA [0, 3] [1, 2] rfl rfl (by decide) (by decide) (fun H locs wd hS => ?_)
    have wd : WD D A [oX8 a_hb (.ref a_hbw) hb_most hb_length hb_overfull, aI Y a_hbw hbw_n c_hbw, oX4 a_h (.ref a_hb) (.ref a_he) (.ref a_ht) h_packets, aI Y a_he 64 c_he] H := wd
    refine lv_icmp_lt (tgt := 15) hx hb dX4_byteOf_10 (by decide) (fun q3 => ?_) (fun q3 => ?_)
    · have hf := ip hf q3
      refine lv_aload_n hx hb dX4_byteOf_15 rfl (lv_at hl 0 rfl) ?_
      refine va_get (D := D) (ci := 3) (v := .ref a_hb) (C := RX4) (T := TX4) (N := 4) hx hb hts iX4_byteOf_X4 hown hK wd.1 2 rfl rfl 0 (by decide) (hts _ mX4_byteOf_0) (fun _ h9 => h9) rfl dX4_byteOf_16 ?_
      refine lv_aload_n hx hb dX4_byteOf_19 rfl (lv_at hl 0 rfl) ?_
      refine lv_iload_n hx hb dX4_byteOf_20 rfl (lv_at hl 1 rfl) ?_
      obtain ⟨o4, ho4, hf⟩ := ob hf
      refine xj_i (va_runV (As := [.int p1]) (rest := [.ref a_hb]) ⟨hx, hb, hml, hown, hts⟩ (kX4_beginOf l D Y F a_h a_he a_hb a_ht H.size h_packets c_he p1 o4 ho4) (cwV 1 hts gX4_byteOf_X4_beginOf rfl rfl rfl (by decide +kernel) ⟨Nat.le_of_ble_eq_true rfl, Nat.le_of_ble_eq_true rfl⟩) (prev_w (ci := 3) rfl rfl hK wd [2, 3] rfl (by decide)) rfl rfl hl.1 rfl (lv_room (Nat.le_of_ble_eq_true rfl)) dX4_byteOf_21 ⟨Nat.zero_le _, Nat.zero_le _⟩) wd hS hA [2, 3] [0, 1] rfl rfl (by decide) (by decide) (fun H locs wd hS => ?_)
      have wd : WD D A [oX8 a_hb (.ref a_hbw) hb_most hb_length hb_overfull, aI Y a_hbw hbw_n c_hbw, oX4 a_h (.ref a_hb) (.ref a_he) (.ref a_ht) h_packets, aI Y a_he 64 c_he] H := wd
      refine lv_iload_n hx hb dX4_byteOf_24 rfl (lv_at hl 2 rfl) ?_
      refine lv_iadd hx hb dX4_byteOf_25 ?_
      obtain ⟨o5, ho5, hf⟩ := ob hf
      refine xj_i (va_runV (As := [.int (o4 + p2)]) (rest := []) ⟨hx, hb, hml, hown, hts⟩ (kX8_at l D Y F a_hb a_hbw H.size hb_most hb_length hb_overfull hbw_n c_hbw (o4 + p2) o5 ho5) (cwV 1 hts gX4_byteOf_X8_at rfl rfl rfl (by decide +kernel) ⟨Nat.le_of_ble_eq_true rfl, Nat.le_of_ble_eq_true rfl⟩) (prev_w (ci := 6) rfl rfl hK wd [0, 1] rfl (by decide)) rfl rfl hl.1 rfl (lv_room (Nat.le_of_ble_eq_true rfl)) dX4_byteOf_26 ⟨Nat.zero_le _, Nat.zero_le _⟩) wd hS hA [0, 1] [2, 3] rfl rfl (by decide) (by decide) (fun H locs wd hS => ?_)
      have wd : WD D A [oX4 a_h (.ref a_hb) (.ref a_he) (.ref a_ht) h_packets, aI Y a_he 64 c_he, oX8 a_hb (.ref a_hbw) hb_most hb_length hb_overfull, aI Y a_hbw hbw_n c_hbw] H := wd
      obtain rfl := Option.some.inj hf
      exact W.iret (v := o5) hx hb hr (fun t ht hW => ⟨⟨_, (), rfl, rfl, WD.pst (wd.sub [0, 2, 3, 1] rfl (by decide)) hK ht hW⟩, hS.F ht⟩) hS.2.2 dX4_byteOf_29
    · have hf := ie hf q3
      refine lv_iconst (v := (-1)) hx hb dX4_byteOf_13 (by decide) ?_
      obtain rfl := Option.some.inj hf
      exact W.iret (v := (-1)) hx hb hr (fun t ht hW => ⟨⟨_, (), rfl, rfl, WD.pst (wd.sub [2, 0, 1, 3] rfl (by decide)) hK ht hW⟩, hS.F ht⟩) hS.2.2 dX4_byteOf_14
set_option maxHeartbeats 4000000 in
set_option maxRecDepth 100000 in
theorem kX4_byteOf (l : Launch) (D : va_G) (Y : Y4) (F : Nat) (a_h : Nat) (a_hb : Nat) (a_hbw : Nat) (a_he : Nat) (a_ht : Nat) (sz : Nat) (h_packets : Int32) (hb_most : Int32) (hb_length : Int32) (hb_overfull : Int32) (hbw_n : Nat) (c_hbw : (Nat → Int32)) (c_he : (Nat → Int32)) (p1 : Int32) (p2 : Int32) (res : Int32) (hf : fX4_byteOf F h_packets hb_length hbw_n c_hbw c_he p1 p2 = some res) : Met l yX4_byteOf wsX4_byteOf ({ frames := 3, cells := 0, slots := 0, locals := 63 }) (va_Pc [.ref a_h, .int p1, .int p2] (PRE D Y [oX4 a_h (.ref a_hb) (.ref a_he) (.ref a_ht) h_packets, oX8 a_hb (.ref a_hbw) hb_most hb_length hb_overfull, aI Y a_hbw hbw_n c_hbw, aI Y a_he 64 c_he] sz)) (va_Qi (fun r (_ : Unit) => r = res) (fun _ t => PST D Y (va_A [oX4 a_h (.ref a_hb) (.ref a_he) (.ref a_ht) h_packets, oX8 a_hb (.ref a_hbw) hb_most hb_length hb_overfull, aI Y a_hbw hbw_n c_hbw, aI Y a_he 64 c_he] sz) [oX4 a_h (.ref a_hb) (.ref a_he) (.ref a_ht) h_packets, oX8 a_hb (.ref a_hbw) hb_most hb_length hb_overfull, aI Y a_hbw hbw_n c_hbw, aI Y a_he 64 c_he] t) (va_A [oX4 a_h (.ref a_hb) (.ref a_he) (.ref a_ht) h_packets, oX8 a_hb (.ref a_hbw) hb_most hb_length hb_overfull, aI Y a_hbw hbw_n c_hbw, aI Y a_he 64 c_he] sz)) 0 0 (va_A [oX4 a_h (.ref a_hb) (.ref a_he) (.ref a_ht) h_packets, oX8 a_hb (.ref a_hbw) hb_most hb_length hb_overfull, aI Y a_hbw hbw_n c_hbw, aI Y a_he 64 c_he] sz) := by
  refine Met.ofW (cc := cX4_byteOf) (maxL := 3) (ret := (some .int)) (by decide) rfl ?_
  intro p e s m args below meth c s₁ B hml hv
  obtain ⟨rfl, rfl, hP, hK, hD0⟩ := hv
  have hl := lv_entry ([.ref a_h, .int p1, .int p2]) (n := 3) (Nat.le_of_ble_eq_true rfl)
  rw [lg_entry_eq]
  exact wX4_byteOf D Y ⟨B.exec, B.bytes, hml, B.returns, atoms_spec (ws := wsX4_byteOf) B.pre, findClass_of_methodNamed B.named, B.notSynchronized⟩ (fun q h => Or.inr h) hK F a_h a_hb a_hbw a_he a_ht h_packets hb_most hb_length hb_overfull hbw_n c_hbw c_he p1 p2 res hf ⟨hP, hD0.self⟩ va_S.rf hl
theorem mX4_isInOrderOfTime_0 : Cond.constantLong RX4 49 (-1) ∈ wsX4_isInOrderOfTime := List.mem_cons_of_mem _ u_198
theorem mX4_isInOrderOfTime_1 : Cond.fieldLink RX4 28 "StreamRemuxer$PacketList" "packets" "I" ∈ wsX4_isInOrderOfTime := List.mem_cons_of_mem _ u_151
theorem mX4_isInOrderOfTime_2 : Cond.methodLink RX4 55 Lib.MathLoose.max_long.x ∈ wsX4_isInOrderOfTime := List.mem_cons_of_mem _ u_199
theorem mX4_isInOrderOfTime_3 : Cond.static Lib.MathLoose.max_long.x ∈ wsX4_isInOrderOfTime := List.mem_cons_of_mem _ u_200
theorem mX4_isInOrderOfTime_4 : Cond.initialized "java/lang/Math" ∈ wsX4_isInOrderOfTime := List.mem_cons_of_mem _ u_48
theorem mX4_isInOrderOfTime_5 : Cond.code Lib.MathLoose.max_long.x Lib.MathLoose.max_long.code 4 (some .long) ∈ wsX4_isInOrderOfTime := List.mem_cons_of_mem _ u_201
theorem iX4_isInOrderOfTime_X4 : ∀ w ∈ wsX40, w ∈ wsX4_isInOrderOfTime := fun w h => List.mem_cons_of_mem _ (inlX4 w h)
set_option maxHeartbeats 4000000 in
set_option maxRecDepth 100000 in
theorem wX4_isInOrderOfTime_b38 {p : Program} {l : Launch} {e : Env} {s : State} {m : MethodId} {args : Array Value} {below : List Frame} {meth : Method} {c : Code} {A : Nat → Prop} (D : va_G) (Y : Y4) (C : CX p s m meth c args cX4_isInOrderOfTime 4 (some .boolean) wsX4_isInOrderOfTime RX4) (hA : ∀ q : Nat, s.heap.size ≤ q → A q) (hK : va_K D vwCl (TY Y) s) (F : Nat) (a_h : Nat) (a_ht : Nat) (a_hb : Nat) (a_he : Nat) (h_packets : Int32) (c_ht : (Nat → Int64)) (res : Int32) (rc6 : Int32 → Int64 → Option (Int32)) (hrc6 : ∀ (b6_l_3 : Int32) (b6_l_1 : Int64), rc6 b6_l_3 b6_l_1 = some res → ∀ {H : Heap} {locs : List Loc} {ls : Array Slot}, WD D A [oX4 a_h (.ref a_hb) (.ref a_he) (.ref a_ht) h_packets, aJ Y a_ht 64 c_ht] H → va_S A s.heap H locs → lv_has ls 4 [(0, .ref a_h), (1, .long b6_l_1), (3, .int b6_l_3)] → W p l e { frames := 2, cells := 0, slots := 0, locals := 42 } s m args below meth c H locs 0 0 (MQ below (va_Qi (fun r (_ : Unit) => r = res) (fun _ t => PST D Y A [oX4 a_h (.ref a_hb) (.ref a_he) (.ref a_ht) h_packets, aJ Y a_ht 64 c_ht] t) A) args s 0 0 A) (F0 m 6 ls [])) (b38_l_1 : Int64) (b38_l_3 : Int32) (hf : fX4_isInOrderOfTime_b38 F h_packets c_ht rc6 b38_l_1 b38_l_3 = some res) {H : Heap} {locs : List Loc} {ls : Array Slot} (wd : WD D A [oX4 a_h (.ref a_hb) (.ref a_he) (.ref a_ht) h_packets, aJ Y a_ht 64 c_ht] H) (hS : va_S A s.heap H locs) (hl : lv_has ls 4 [(0, .ref a_h), (1, .long b38_l_1), (3, .int b38_l_3)]) : W p l e { frames := 2, cells := 0, slots := 0, locals := 42 } s m args below meth c H locs 0 0 (MQ below (va_Qi (fun r (_ : Unit) => r = res) (fun _ t => PST D Y A [oX4 a_h (.ref a_hb) (.ref a_he) (.ref a_ht) h_packets, aJ Y a_ht 64 c_ht] t) A) args s 0 0 A) (F0 m 38 ls []) := by
  obtain ⟨hx, hb, hml, hr, hts, hown, hlocks⟩ := id C
  unfold fX4_isInOrderOfTime_b38 at hf
  refine lv_lload_n hx hb dX4_isInOrderOfTime_38 rfl (lv_at hl 1 rfl) ?_
  refine lv_aload_n hx hb dX4_isInOrderOfTime_39 rfl (lv_at hl 0 rfl) ?_
  refine lv_iload_n hx hb dX4_isInOrderOfTime_40 rfl (lv_at hl 2 rfl) ?_
  obtain ⟨o1, ho1, hf⟩ := ob hf
  refine xj_l (va_runV (As := [.int b38_l_3]) (rest := [.long b38_l_1]) ⟨hx, hb, hml, hown, hts⟩ (kX4_timeOf l D Y F a_h a_ht a_hb a_he H.size h_packets c_ht b38_l_3 o1 ho1) (cwV 1 hts gX4_isInOrderOfTime_X4_timeOf rfl rfl rfl (by decide +kernel) ⟨Nat.le_of_ble_eq_true rfl, Nat.le_of_ble_eq_true rfl⟩) (prev_w (ci := 3) rfl rfl hK wd [0, 1] rfl (by decide)) rfl rfl hl.1 rfl (lv_room (Nat.le_of_ble_eq_true rfl)) dX4_isInOrderOfTime_41 ⟨Nat.zero_le _, Nat.zero_le _⟩) wd hS hA [0, 1] [] rfl rfl (by decide) (by decide) (fun H locs wd hS => ?_)
  have wd : WD D A [oX4 a_h (.ref a_hb) (.ref a_he) (.ref a_ht) h_packets, aJ Y a_ht 64 c_ht] H := wd
  refine va_mmax_long hx hb (by rw [hml]; exact hl.1.symm) hown (hts _ mX4_isInOrderOfTime_2) (hts _ mX4_isInOrderOfTime_3) (hts _ mX4_isInOrderOfTime_4) (hts _ mX4_isInOrderOfTime_5) (Nat.le_of_ble_eq_true rfl) (Nat.le_of_ble_eq_true rfl) (Nat.zero_le _) (Nat.zero_le _) dX4_isInOrderOfTime_44 ?_
  refine lv_topl (fun x2 ex2 => ?_)
  have hf := nm_at hf ex2
  refine lv_lstore_n (lv' := [(1, .long x2), (0, .ref a_h), (3, .int b38_l_3)]) hx hb dX4_isInOrderOfTime_47 rfl hl (by decide) rfl (fun ls hl => ?_)
  obtain ⟨x3, ex3⟩ : ∃ y : Int32, y = b38_l_3 + 1 := ⟨_, rfl⟩
  have hf := nm_at hf ex3
  refine lv_iinc (v := x3) (lv' := [(3, .int x3), (1, .long x2), (0, .ref a_h)]) hx hb dX4_isInOrderOfTime_48 hl (k := 2) rfl (by rw [ex3]; rfl) (by decide) rfl (fun ls hl => ?_)
  refine lv_goto (tgt := 6) hx hb dX4_isInOrderOfTime_51 (by decide) ?_
  exact hrc6 x3 x2 hf wd hS (lv_sub hl [2, 1, 0] rfl)

set_option maxHeartbeats 4000000 in
set_option maxRecDepth 100000 in
theorem wX4_isInOrderOfTime_b6 {p : Program} {l : Launch} {e : Env} {s : State} {m : MethodId} {args : Array Value} {below : List Frame} {meth : Method} {c : Code} {A : Nat → Prop} (D : va_G) (Y : Y4) (C : CX p s m meth c args cX4_isInOrderOfTime 4 (some .boolean) wsX4_isInOrderOfTime RX4) (hA : ∀ q : Nat, s.heap.size ≤ q → A q) (hK : va_K D vwCl (TY Y) s) (F : Nat) (a_h : Nat) (a_ht : Nat) (a_hb : Nat) (a_he : Nat) (h_packets : Int32) (c_ht : (Nat → Int64)) (res : Int32) : ∀ (n : Nat) (b6_l_3 : Int32) (b6_l_1 : Int64), fX4_isInOrderOfTime_b6 F h_packets c_ht n b6_l_3 b6_l_1 = some res → ∀ {H : Heap} {locs : List Loc} {ls : Array Slot}, WD D A [oX4 a_h (.ref a_hb) (.ref a_he) (.ref a_ht) h_packets, aJ Y a_ht 64 c_ht] H → va_S A s.heap H locs → lv_has ls 4 [(0, .ref a_h), (1, .long b6_l_1), (3, .int b6_l_3)] → W p l e { frames := 2, cells := 0, slots := 0, locals := 42 } s m args below meth c H locs 0 0 (MQ below (va_Qi (fun r (_ : Unit) => r = res) (fun _ t => PST D Y A [oX4 a_h (.ref a_hb) (.ref a_he) (.ref a_ht) h_packets, aJ Y a_ht 64 c_ht] t) A) args s 0 0 A) (F0 m 6 ls []) := by
  obtain ⟨hx, hb, hml, hr, hts, hown, hlocks⟩ := id C
  intro n
  induction n with
  | zero => intro b6_l_3 b6_l_1 hf; exact absurd hf (by simp [fX4_isInOrderOfTime_b6])
  | succ n ih =>
    intro b6_l_3 b6_l_1 hf H locs ls wd hS hl
    unfold fX4_isInOrderOfTime_b6 at hf
    refine lv_iload_n hx hb dX4_isInOrderOfTime_6 rfl (lv_at hl 2 rfl) ?_
    refine lv_aload_n hx hb dX4_isInOrderOfTime_7 rfl (lv_at hl 0 rfl) ?_
    refine va_get (D := D) (ci := 3) (v := .int h_packets) (C := RX4) (T := TX4) (N := 4) hx hb hts iX4_isInOrderOfTime_X4 hown hK wd.1 0 rfl rfl 3 (by decide) (hts _ mX4_isInOrderOfTime_1) (fun _ h9 => h9) rfl dX4_isInOrderOfTime_8 ?_
    refine lv_icmp_ge (tgt := 54) hx hb dX4_isInOrderOfTime_11 (by decide) (fun q1 => ?_) (fun q1 => ?_)
    · have hf := ip hf q1
      refine lv_iconst (v := 1) hx hb dX4_isInOrderOfTime_54 (by decide) ?_
      obtain rfl := Option.some.inj hf
      exact W.zret (v := 1) hx hb hr rfl (fun t ht hW => ⟨⟨_, (), rfl, rfl, WD.pst wd hK ht hW⟩, hS.F ht⟩) hS.2.2 dX4_isInOrderOfTime_55
    · have hf := ie hf q1
      refine lv_aload_n hx hb dX4_isInOrderOfTime_14 rfl (lv_at hl 0 rfl) ?_
      refine lv_iload_n hx hb dX4_isInOrderOfTime_15 rfl (lv_at hl 2 rfl) ?_
      obtain ⟨o2, ho2, hf⟩ := ob hf
      refine xj_l (va_runV (As := [.int b6_l_3]) (rest := []) ⟨hx, hb, hml, hown, hts⟩ (kX4_timeOf l D Y F a_h a_ht a_hb a_he H.size h_packets c_ht b6_l_3 o2 ho2) (cwV 1 hts gX4_isInOrderOfTime_X4_timeOf rfl rfl rfl (by decide +kernel) ⟨Nat.le_of_ble_eq_true rfl, Nat.le_of_ble_eq_true rfl⟩) (prev_w (ci := 3) rfl rfl hK wd [0, 1] rfl (by decide)) rfl rfl hl.1 rfl (lv_room (Nat.le_of_ble_eq_true rfl)) dX4_isInOrderOfTime_16 ⟨Nat.zero_le _, Nat.zero_le _⟩) wd hS hA [0, 1] [] rfl rfl (by decide) (by decide) (fun H locs wd hS => ?_)
      have wd : WD D A [oX4 a_h (.ref a_hb) (.ref a_he) (.ref a_ht) h_packets, aJ Y a_ht 64 c_ht] H := wd
      refine lv_ldc2 hx hb hown (hts _ mX4_isInOrderOfTime_0) dX4_isInOrderOfTime_19 ?_
      refine xl_eq (tgt := 38) hx hb dX4_isInOrderOfTime_22 dX4_isInOrderOfTime_23 (by decide) (fun q3 => ?_) (fun q3 => ?_)
      · have hf := ip hf q3
        exact wX4_isInOrderOfTime_b38 D Y C hA hK F a_h a_ht a_hb a_he h_packets c_ht _ (fX4_isInOrderOfTime_b6 F h_packets c_ht n) ih b6_l_1 b6_l_3 hf wd hS (lv_sub hl [0, 1, 2] rfl)
      · have hf := ie hf q3
        refine lv_aload_n hx hb dX4_isInOrderOfTime_26 rfl (lv_at hl 0 rfl) ?_
        refine lv_iload_n hx hb dX4_isInOrderOfTime_27 rfl (lv_at hl 2 rfl) ?_
        obtain ⟨o4, ho4, hf⟩ := ob hf
        refine xj_l (va_runV (As := [.int b6_l_3]) (rest := []) ⟨hx, hb, hml, hown, hts⟩ (kX4_timeOf l D Y F a_h a_ht a_hb a_he H.size h_packets c_ht b6_l_3 o4 ho4) (cwV 1 hts gX4_isInOrderOfTime_X4_timeOf rfl rfl rfl (by decide +kernel) ⟨Nat.le_of_ble_eq_true rfl, Nat.le_of_ble_eq_true rfl⟩) (prev_w (ci := 3) rfl rfl hK wd [0, 1] rfl (by decide)) rfl rfl hl.1 rfl (lv_room (Nat.le_of_ble_eq_true rfl)) dX4_isInOrderOfTime_28 ⟨Nat.zero_le _, Nat.zero_le _⟩) wd hS hA [0, 1] [] rfl rfl (by decide) (by decide) (fun H locs wd hS => ?_)
        have wd : WD D A [oX4 a_h (.ref a_hb) (.ref a_he) (.ref a_ht) h_packets, aJ Y a_ht 64 c_ht] H := wd
        refine lv_lload_n hx hb dX4_isInOrderOfTime_31 rfl (lv_at hl 1 rfl) ?_
        refine xl_ge (tgt := 38) hx hb dX4_isInOrderOfTime_32 dX4_isInOrderOfTime_33 (by decide) (fun q5 => ?_) (fun q5 => ?_)
        · have hf := ip hf q5
          exact wX4_isInOrderOfTime_b38 D Y C hA hK F a_h a_ht a_hb a_he h_packets c_ht _ (fX4_isInOrderOfTime_b6 F h_packets c_ht n) ih b6_l_1 b6_l_3 hf wd hS (lv_sub hl [0, 1, 2] rfl)
        · have hf := ie hf q5
          refine lv_iconst (v := 0) hx hb dX4_isInOrderOfTime_36 (by decide) ?_
          obtain rfl := Option.some.inj hf
          exact W.zret (v := 0) hx hb hr rfl (fun t ht hW => ⟨⟨_, (), rfl, rfl, WD.pst wd hK ht hW⟩, hS.F ht⟩) hS.2.2 dX4_isInOrderOfTime_37

set_option maxHeartbeats 4000000 in
set_option maxRecDepth 100000 in
theorem wX4_isInOrderOfTime {p : Program} {l : Launch} {e : Env} {s : State} {m : MethodId} {args : Array Value} {below : List Frame} {meth : Method} {c : Code} {A : Nat → Prop} (D : va_G) (Y : Y4) (C : CX p s m meth c args cX4_isInOrderOfTime 4 (some .boolean) wsX4_isInOrderOfTime RX4) (hA : ∀ q : Nat, s.heap.size ≤ q → A q) (hK : va_K D vwCl (TY Y) s) (F : Nat) (a_h : Nat) (a_ht : Nat) (a_hb : Nat) (a_he : Nat) (h_packets : Int32) (c_ht : (Nat → Int64)) (res : Int32) (hf : fX4_isInOrderOfTime F h_packets c_ht = some res) {H : Heap} {locs : List Loc} {ls : Array Slot} (wd : WD D A [oX4 a_h (.ref a_hb) (.ref a_he) (.ref a_ht) h_packets, aJ Y a_ht 64 c_ht] H) (hS : va_S A s.heap H locs) (hl : lv_has ls 4 [(0, .ref a_h)]) : W p l e { frames := 2, cells := 0, slots := 0, locals := 42 } s m args below meth c H locs 0 0 (MQ below (va_Qi (fun r (_ : Unit) => r = res) (fun _ t => PST D Y A [oX4 a_h (.ref a_hb) (.ref a_he) (.ref a_ht) h_packets, aJ Y a_ht 64 c_ht] t) A) args s 0 0 A) (F0 m 0 ls []) := by
  obtain ⟨hx, hb, hml, hr, hts, hown, hlocks⟩ := id C
  unfold fX4_isInOrderOfTime at hf
  refine lv_ldc2 hx hb hown (hts _ mX4_isInOrderOfTime_0) dX4_isInOrderOfTime_0 ?_
  refine lv_lstore_n (lv' := [(1, .long (-1)), (0, .ref a_h)]) hx hb dX4_isInOrderOfTime_3 rfl hl (by decide) rfl (fun ls hl => ?_)
  refine lv_iconst (v := 0) hx hb dX4_isInOrderOfTime_4 (by decide) ?_
  refine lv_istore_n (lv' := [(3, .int 0), (1, .long (-1)), (0, .ref a_h)]) hx hb dX4_isInOrderOfTime_5 rfl hl (by decide) rfl (fun ls hl => ?_)
  exact wX4_isInOrderOfTime_b6 D Y C hA hK F a_h a_ht a_hb a_he h_packets c_ht _ F 0 (-1) hf wd hS (lv_sub hl [2, 1, 0] rfl)
set_option maxHeartbeats 4000000 in
set_option maxRecDepth 100000 in
theorem kX4_isInOrderOfTime (l : Launch) (D : va_G) (Y : Y4) (F : Nat) (a_h : Nat) (a_ht : Nat) (a_hb : Nat) (a_he : Nat) (sz : Nat) (h_packets : Int32) (c_ht : (Nat → Int64)) (res : Int32) (hf : fX4_isInOrderOfTime F h_packets c_ht = some res) : Met l yX4_isInOrderOfTime wsX4_isInOrderOfTime ({ frames := 2, cells := 0, slots := 0, locals := 42 }) (va_Pc [.ref a_h] (PRE D Y [oX4 a_h (.ref a_hb) (.ref a_he) (.ref a_ht) h_packets, aJ Y a_ht 64 c_ht] sz)) (va_Qi (fun r (_ : Unit) => r = res) (fun _ t => PST D Y (va_A [oX4 a_h (.ref a_hb) (.ref a_he) (.ref a_ht) h_packets, aJ Y a_ht 64 c_ht] sz) [oX4 a_h (.ref a_hb) (.ref a_he) (.ref a_ht) h_packets, aJ Y a_ht 64 c_ht] t) (va_A [oX4 a_h (.ref a_hb) (.ref a_he) (.ref a_ht) h_packets, aJ Y a_ht 64 c_ht] sz)) 0 0 (va_A [oX4 a_h (.ref a_hb) (.ref a_he) (.ref a_ht) h_packets, aJ Y a_ht 64 c_ht] sz) := by
  refine Met.ofW (cc := cX4_isInOrderOfTime) (maxL := 4) (ret := (some .boolean)) (by decide) rfl ?_
  intro p e s m args below meth c s₁ B hml hv
  obtain ⟨rfl, rfl, hP, hK, hD0⟩ := hv
  have hl := lv_entry ([.ref a_h]) (n := 4) (Nat.le_of_ble_eq_true rfl)
  rw [lg_entry_eq]
  exact wX4_isInOrderOfTime D Y ⟨B.exec, B.bytes, hml, B.returns, atoms_spec (ws := wsX4_isInOrderOfTime) B.pre, findClass_of_methodNamed B.named, B.notSynchronized⟩ (fun q h => Or.inr h) hK F a_h a_ht a_hb a_he h_packets c_ht res hf ⟨hP, hD0.self⟩ va_S.rf hl
theorem mX5_isMarked_0 : Cond.constant RX5 17 (1332176723) ∈ wsX5_isMarked := List.mem_cons_of_mem _ u_464
set_option maxHeartbeats 4000000 in
set_option maxRecDepth 100000 in
theorem wX5_isMarked_b17 {p : Program} {l : Launch} {e : Env} {s : State} {m : MethodId} {args : Array Value} {below : List Frame} {meth : Method} {c : Code} {A : Nat → Prop} (D : va_G) (Y : Y4) (C : CX p s m meth c args cX5_isMarked 2 (some .boolean) wsX5_isMarked RX5) (hA : ∀ q : Nat, s.heap.size ≤ q → A q) (hK : va_K D vwCl (TY Y) s) (F : Nat) (a_q : Nat) (a_qw : Nat) (q_most : Int32) (q_length : Int32) (q_overfull : Int32) (qw_n : Nat) (c_qw : (Nat → Int32)) (p1 : Int32) (res : Int32) (b17_s_0 : Int32) (hf : fX5_isMarked_b17 F b17_s_0 = some res) {H : Heap} {locs : List Loc} {ls : Array Slot} (wd : WD D A [oX8 a_q (.ref a_qw) q_most q_length q_overfull, aI Y a_qw qw_n c_qw] H) (hS : va_S A s.heap H locs) (hl : lv_has ls 2 []) : W p l e { frames := 2, cells := 0, slots := 0, locals := 46 } s m args below meth c H locs 0 0 (MQ below (va_Qi (fun r (_ : Unit) => r = res) (fun _ t => PST D Y A [oX8 a_q (.ref a_qw) q_most q_length q_overfull, aI Y a_qw qw_n c_qw] t) A) args s 0 0 A) (F0 m 17 ls [.int b17_s_0]) := by
  obtain ⟨hx, hb, hml, hr, hts, hown, hlocks⟩ := id C
  unfold fX5_isMarked_b17 at hf
  obtain ⟨hz1, hf⟩ := gd hf
  obtain rfl := Option.some.inj hf
  exact W.zret (v := b17_s_0) hx hb hr (isb_nar hz1) (fun t ht hW => ⟨⟨_, (), rfl, rfl, WD.pst wd hK ht hW⟩, hS.F ht⟩) hS.2.2 dX5_isMarked_17

set_option maxHeartbeats 4000000 in
set_option maxRecDepth 100000 in
theorem wX5_isMarked {p : Program} {l : Launch} {e : Env} {s : State} {m : MethodId} {args : Array Value} {below : List Frame} {meth : Method} {c : Code} {A : Nat → Prop} (D : va_G) (Y : Y4) (C : CX p s m meth c args cX5_isMarked 2 (some .boolean) wsX5_isMarked RX5) (hA : ∀ q : Nat, s.heap.size ≤ q → A q) (hK : va_K D vwCl (TY Y) s) (F : Nat) (a_q : Nat) (a_qw : Nat) (q_most : Int32) (q_length : Int32) (q_overfull : Int32) (qw_n : Nat) (c_qw : (Nat → Int32)) (p1 : Int32) (res : Int32) (hf : fX5_isMarked F q_length qw_n c_qw p1 = some res) {H : Heap} {locs : List Loc} {ls : Array Slot} (wd : WD D A [oX8 a_q (.ref a_qw) q_most q_length q_overfull, aI Y a_qw qw_n c_qw] H) (hS : va_S A s.heap H locs) (hl : lv_has ls 2 [(0, .ref a_q), (1, .int p1)]) : W p l e { frames := 2, cells := 0, slots := 0, locals := 46 } s m args below meth c H locs 0 0 (MQ below (va_Qi (fun r (_ : Unit) => r = res) (fun _ t => PST D Y A [oX8 a_q (.ref a_qw) q_most q_length q_overfull, aI Y a_qw qw_n c_qw] t) A) args s 0 0 A) (F0 m 0 ls []) := by
  obtain ⟨hx, hb, hml, hr, hts, hown, hlocks⟩ := id C
  unfold fX5_isMarked at hf
  refine lv_aload_n hx hb dX5_isMarked_0 rfl (lv_at hl 0 rfl) ?_
  refine lv_iload_n hx hb dX5_isMarked_1 rfl (lv_at hl 1 rfl) ?_
  refine lv_iconst (v := 4) hx hb dX5_isMarked_2 (by decide) ?_
  obtain ⟨o1, ho1, hf⟩ := ob hf
  refine xj_l (va_runV (As := [.int p1, .int 4]) (rest := []) ⟨hx, hb, hml, hown, hts⟩ (kX8_highFirst l D Y F a_q a_qw H.size q_most q_length q_overfull qw_n c_qw p1 4 o1 ho1) (cwV 2 hts gX5_isMarked_X8_highFirst rfl rfl rfl (by decide +kernel) ⟨Nat.le_of_ble_eq_true rfl, Nat.le_of_ble_eq_true rfl⟩) (prev_w (ci := 6) rfl rfl hK wd [0, 1] rfl (by decide)) rfl rfl hl.1 rfl (lv_room (Nat.le_of_ble_eq_true rfl)) dX5_isMarked_3 ⟨Nat.zero_le _, Nat.zero_le _⟩) wd hS hA [0, 1] [] rfl rfl (by decide) (by decide) (fun H locs wd hS => ?_)
  have wd : WD D A [oX8 a_q (.ref a_qw) q_most q_length q_overfull, aI Y a_qw qw_n c_qw] H := wd
  refine lv_l2i (v := (o1.toInt32)) hx hb dX5_isMarked_6 rfl ?_
  refine lv_ldc hx hb hown (hts _ mX5_isMarked_0) dX5_isMarked_7 ?_
  refine lv_icmp_ne (tgt := 16) hx hb dX5_isMarked_9 (by decide) (fun q2 => ?_) (fun q2 => ?_)
  · have hf := ie hf q2
    refine lv_iconst (v := 0) hx hb dX5_isMarked_16 (by decide) ?_
    exact wX5_isMarked_b17 D Y C hA hK F a_q a_qw q_most q_length q_overfull qw_n c_qw p1 _ 0 hf wd hS (lv_sub hl [] rfl)
  · have hf := ip hf q2
    refine lv_iconst (v := 1) hx hb dX5_isMarked_12 (by decide) ?_
    refine lv_goto (tgt := 17) hx hb dX5_isMarked_13 (by decide) ?_
    exact wX5_isMarked_b17 D Y C hA hK F a_q a_qw q_most q_length q_overfull qw_n c_qw p1 _ 1 hf wd hS (lv_sub hl [] rfl)
set_option maxHeartbeats 4000000 in
set_option maxRecDepth 100000 in
theorem kX5_isMarked (l : Launch) (D : va_G) (Y : Y4) (F : Nat) (a_q : Nat) (a_qw : Nat) (sz : Nat) (q_most : Int32) (q_length : Int32) (q_overfull : Int32) (qw_n : Nat) (c_qw : (Nat → Int32)) (p1 : Int32) (res : Int32) (hf : fX5_isMarked F q_length qw_n c_qw p1 = some res) : Met l yX5_isMarked wsX5_isMarked ({ frames := 2, cells := 0, slots := 0, locals := 46 }) (va_Pc [.ref a_q, .int p1] (PRE D Y [oX8 a_q (.ref a_qw) q_most q_length q_overfull, aI Y a_qw qw_n c_qw] sz)) (va_Qi (fun r (_ : Unit) => r = res) (fun _ t => PST D Y (va_A [oX8 a_q (.ref a_qw) q_most q_length q_overfull, aI Y a_qw qw_n c_qw] sz) [oX8 a_q (.ref a_qw) q_most q_length q_overfull, aI Y a_qw qw_n c_qw] t) (va_A [oX8 a_q (.ref a_qw) q_most q_length q_overfull, aI Y a_qw qw_n c_qw] sz)) 0 0 (va_A [oX8 a_q (.ref a_qw) q_most q_length q_overfull, aI Y a_qw qw_n c_qw] sz) := by
  refine Met.ofW (cc := cX5_isMarked) (maxL := 2) (ret := (some .boolean)) (by decide) rfl ?_
  intro p e s m args below meth c s₁ B hml hv
  obtain ⟨rfl, rfl, hP, hK, hD0⟩ := hv
  have hl := lv_entry ([.ref a_q, .int p1]) (n := 2) (Nat.le_of_ble_eq_true rfl)
  rw [lg_entry_eq]
  exact wX5_isMarked D Y ⟨B.exec, B.bytes, hml, B.returns, atoms_spec (ws := wsX5_isMarked) B.pre, findClass_of_methodNamed B.named, B.notSynchronized⟩ (fun q h => Or.inr h) hK F a_q a_qw q_most q_length q_overfull qw_n c_qw p1 res hf ⟨hP, hD0.self⟩ va_S.rf hl

set_option maxHeartbeats 4000000 in
set_option maxRecDepth 100000 in
theorem wX5_endOf_b82 {p : Program} {l : Launch} {e : Env} {s : State} {m : MethodId} {args : Array Value} {below : List Frame} {meth : Method} {c : Code} {A : Nat → Prop} (D : va_G) (Y : Y4) (C : CX p s m meth c args cX5_endOf 6 (some .int) wsX5_endOf RX5) (hA : ∀ q : Nat, s.heap.size ≤ q → A q) (hK : va_K D vwCl (TY Y) s) (F : Nat) (a_q : Nat) (a_qw : Nat) (q_most : Int32) (q_length : Int32) (q_overfull : Int32) (qw_n : Nat) (c_qw : (Nat → Int32)) (p1 : Int32) (p2 : Int32) (res : Int32) (b82_s_0 : Int32) (hf : fX5_endOf_b82 F b82_s_0 = some res) {H : Heap} {locs : List Loc} {ls : Array Slot} (wd : WD D A [oX8 a_q (.ref a_qw) q_most q_length q_overfull, aI Y a_qw qw_n c_qw] H) (hS : va_S A s.heap H locs) (hl : lv_has ls 6 []) : W p l e { frames := 1, cells := 0, slots := 0, locals := 21 } s m args below meth c H locs 0 0 (MQ below (va_Qi (fun r (_ : Unit) => r = res) (fun _ t => PST D Y A [oX8 a_q (.ref a_qw) q_most q_length q_overfull, aI Y a_qw qw_n c_qw] t) A) args s 0 0 A) (F0 m 82 ls [.int b82_s_0]) := by
  obtain ⟨hx, hb, hml, hr, hts, hown, hlocks⟩ := id C
  unfold fX5_endOf_b82 at hf
  obtain rfl := Option.some.inj hf
  exact W.iret (v := b82_s_0) hx hb hr (fun t ht hW => ⟨⟨_, (), rfl, rfl, WD.pst wd hK ht hW⟩, hS.F ht⟩) hS.2.2 dX5_endOf_82

set_option maxHeartbeats 4000000 in
set_option maxRecDepth 100000 in
theorem wX5_endOf_b42 {p : Program} {l : Launch} {e : Env} {s : State} {m : MethodId} {args : Array Value} {below : List Frame} {meth : Method} {c : Code} {A : Nat → Prop} (D : va_G) (Y : Y4) (C : CX p s m meth c args cX5_endOf 6 (some .int) wsX5_endOf RX5) (hA : ∀ q : Nat, s.heap.size ≤ q → A q) (hK : va_K D vwCl (TY Y) s) (F : Nat) (a_q : Nat) (a_qw : Nat) (q_most : Int32) (q_length : Int32) (q_overfull : Int32) (qw_n : Nat) (c_qw : (Nat → Int32)) (p1 : Int32) (p2 : Int32) (res : Int32) : ∀ (n : Nat) (b42_l_5 : Int32) (b42_l_4 : Int32) (b42_l_3 : Int32), fX5_endOf_b42 F q_length qw_n c_qw p1 p2 n b42_l_5 b42_l_4 b42_l_3 = some res → ∀ {H : Heap} {locs : List Loc} {ls : Array Slot}, WD D A [oX8 a_q (.ref a_qw) q_most q_length q_overfull, aI Y a_qw qw_n c_qw] H → va_S A s.heap H locs → lv_has ls 6 [(0, .ref a_q), (1, .int p1), (2, .int p2), (3, .int b42_l_3), (4, .int b42_l_4), (5, .int b42_l_5)] → W p l e { frames := 1, cells := 0, slots := 0, locals := 21 } s m args below meth c H locs 0 0 (MQ below (va_Qi (fun r (_ : Unit) => r = res) (fun _ t => PST D Y A [oX8 a_q (.ref a_qw) q_most q_length q_overfull, aI Y a_qw qw_n c_qw] t) A) args s 0 0 A) (F0 m 42 ls []) := by
  obtain ⟨hx, hb, hml, hr, hts, hown, hlocks⟩ := id C
  intro n
  induction n with
  | zero => intro b42_l_5 b42_l_4 b42_l_3 hf; exact absurd hf (by simp [fX5_endOf_b42])
  | succ n ih =>
    intro b42_l_5 b42_l_4 b42_l_3 hf H locs ls wd hS hl
    unfold fX5_endOf_b42 at hf
    refine lv_iload hx hb dX5_endOf_42 (lv_at hl 5 rfl) ?_
    refine lv_iload_n hx hb dX5_endOf_44 rfl (lv_at hl 3 rfl) ?_
    refine lv_icmp_ge (tgt := 70) hx hb dX5_endOf_45 (by decide) (fun q1 => ?_) (fun q1 => ?_)
    · have hf := ip hf q1
      refine lv_iload hx hb dX5_endOf_70 (lv_at hl 4 rfl) ?_
      refine lv_iload_n hx hb dX5_endOf_72 rfl (lv_at hl 2 rfl) ?_
      refine lv_icmp_gt (tgt := 81) hx hb dX5_endOf_73 (by decide) (fun q2 => ?_) (fun q2 => ?_)
      · have hf := ip hf q2
        refine lv_iconst (v := (-1)) hx hb dX5_endOf_81 (by decide) ?_
        exact wX5_endOf_b82 D Y C hA hK F a_q a_qw q_most q_length q_overfull qw_n c_qw p1 p2 _ (-1) hf wd hS (lv_sub hl [] rfl)
      · have hf := ie hf q2
        refine lv_iload hx hb dX5_endOf_76 (lv_at hl 4 rfl) ?_
        refine lv_goto (tgt := 82) hx hb dX5_endOf_78 (by decide) ?_
        exact wX5_endOf_b82 D Y C hA hK F a_q a_qw q_most q_length q_overfull qw_n c_qw p1 p2 _ b42_l_4 hf wd hS (lv_sub hl [] rfl)
    · have hf := ie hf q1
      refine lv_iload hx hb dX5_endOf_48 (lv_at hl 4 rfl) ?_
      refine lv_aload_n hx hb dX5_endOf_50 rfl (lv_at hl 0 rfl) ?_
      refine lv_iload_n hx hb dX5_endOf_51 rfl (lv_at hl 1 rfl) ?_
      refine lv_bipush (v := 27) hx hb dX5_endOf_52 (by decide) ?_
      refine lv_iadd hx hb dX5_endOf_54 ?_
      refine lv_iload hx hb dX5_endOf_55 (lv_at hl 5 rfl) ?_
      refine lv_iadd hx hb dX5_endOf_57 ?_
      obtain ⟨o3, ho3, hf⟩ := ob hf
      refine xj_i (va_runV (As := [.int ((p1 + 27) + b42_l_5)]) (rest := [.int b42_l_4]) ⟨hx, hb, hml, hown, hts⟩ (kX8_at l D Y F a_q a_qw H.size q_most q_length q_overfull qw_n c_qw ((p1 + 27) + b42_l_5) o3 ho3) (cwV 1 hts gX5_endOf_X8_at rfl rfl rfl (by decide +kernel) ⟨Nat.le_of_ble_eq_true rfl, Nat.le_of_ble_eq_true rfl⟩) (prev_w (ci := 6) rfl rfl hK wd [0, 1] rfl (by decide)) rfl rfl hl.1 rfl (lv_room (Nat.le_of_ble_eq_true rfl)) dX5_endOf_58 ⟨Nat.zero_le _, Nat.zero_le _⟩) wd hS hA [0, 1] [] rfl rfl (by decide) (by decide) (fun H locs wd hS => ?_)
      have wd : WD D A [oX8 a_q (.ref a_qw) q_most q_length q_overfull, aI Y a_qw qw_n c_qw] H := wd
      refine lv_iadd hx hb dX5_endOf_61 ?_
      refine lv_topi (fun x4 ex4 => ?_)
      have hf := nm_at hf ex4
      refine lv_istore (lv' := [(4, .int x4), (0, .ref a_q), (1, .int p1), (2, .int p2), (3, .int b42_l_3), (5, .int b42_l_5)]) hx hb dX5_endOf_62 hl (by decide) rfl (fun ls hl => ?_)
      obtain ⟨x5, ex5⟩ : ∃ y : Int32, y = b42_l_5 + 1 := ⟨_, rfl⟩
      have hf := nm_at hf ex5
      refine lv_iinc (v := x5) (lv' := [(5, .int x5), (4, .int x4), (0, .ref a_q), (1, .int p1), (2, .int p2), (3, .int b42_l_3)]) hx hb dX5_endOf_64 hl (k := 5) rfl (by rw [ex5]; rfl) (by decide) rfl (fun ls hl => ?_)
      refine lv_goto (tgt := 42) hx hb dX5_endOf_67 (by decide) ?_
      exact ih x5 x4 b42_l_3 hf wd hS (lv_sub hl [2, 3, 4, 5, 1, 0] rfl)

set_option maxHeartbeats 4000000 in
set_option maxRecDepth 100000 in
theorem wX5_endOf {p : Program} {l : Launch} {e : Env} {s : State} {m : MethodId} {args : Array Value} {below : List Frame} {meth : Method} {c : Code} {A : Nat → Prop} (D : va_G) (Y : Y4) (C : CX p s m meth c args cX5_endOf 6 (some .int) wsX5_endOf RX5) (hA : ∀ q : Nat, s.heap.size ≤ q → A q) (hK : va_K D vwCl (TY Y) s) (F : Nat) (a_q : Nat) (a_qw : Nat) (q_most : Int32) (q_length : Int32) (q_overfull : Int32) (qw_n : Nat) (c_qw : (Nat → Int32)) (p1 : Int32) (p2 : Int32) (res : Int32) (hf : fX5_endOf F q_length qw_n c_qw p1 p2 = some res) {H : Heap} {locs : List Loc} {ls : Array Slot} (wd : WD D A [oX8 a_q (.ref a_qw) q_most q_length q_overfull, aI Y a_qw qw_n c_qw] H) (hS : va_S A s.heap H locs) (hl : lv_has ls 6 [(0, .ref a_q), (1, .int p1), (2, .int p2)]) : W p l e { frames := 1, cells := 0, slots := 0, locals := 21 } s m args below meth c H locs 0 0 (MQ below (va_Qi (fun r (_ : Unit) => r = res) (fun _ t => PST D Y A [oX8 a_q (.ref a_qw) q_most q_length q_overfull, aI Y a_qw qw_n c_qw] t) A) args s 0 0 A) (F0 m 0 ls []) := by
  obtain ⟨hx, hb, hml, hr, hts, hown, hlocks⟩ := id C
  unfold fX5_endOf at hf
  refine lv_iload_n hx hb dX5_endOf_0 rfl (lv_at hl 1 rfl) ?_
  refine lv_if_lt (tgt := 12) hx hb dX5_endOf_1 (by decide) (fun q1 => ?_) (fun q1 => ?_)
  · have hf := ip hf q1
    refine lv_iconst (v := (-1)) hx hb dX5_endOf_12 (by decide) ?_
    obtain rfl := Option.some.inj hf
    exact W.iret (v := (-1)) hx hb hr (fun t ht hW => ⟨⟨_, (), rfl, rfl, WD.pst wd hK ht hW⟩, hS.F ht⟩) hS.2.2 dX5_endOf_13
  · have hf := ie hf q1
    refine lv_iload_n hx hb dX5_endOf_4 rfl (lv_at hl 2 rfl) ?_
    refine lv_iload_n hx hb dX5_endOf_5 rfl (lv_at hl 1 rfl) ?_
    refine lv_isub hx hb dX5_endOf_6 ?_
    refine lv_bipush (v := 27) hx hb dX5_endOf_7 (by decide) ?_
    refine lv_icmp_ge (tgt := 14) hx hb dX5_endOf_9 (by decide) (fun q2 => ?_) (fun q2 => ?_)
    · have hf := ip hf q2
      refine lv_aload_n hx hb dX5_endOf_14 rfl (lv_at hl 0 rfl) ?_
      refine lv_iload_n hx hb dX5_endOf_15 rfl (lv_at hl 1 rfl) ?_
      refine lv_bipush (v := 26) hx hb dX5_endOf_16 (by decide) ?_
      refine lv_iadd hx hb dX5_endOf_18 ?_
      obtain ⟨o3, ho3, hf⟩ := ob hf
      refine xj_i (va_runV (As := [.int (p1 + 26)]) (rest := []) ⟨hx, hb, hml, hown, hts⟩ (kX8_at l D Y F a_q a_qw H.size q_most q_length q_overfull qw_n c_qw (p1 + 26) o3 ho3) (cwV 1 hts gX5_endOf_X8_at rfl rfl rfl (by decide +kernel) ⟨Nat.le_of_ble_eq_true rfl, Nat.le_of_ble_eq_true rfl⟩) (prev_w (ci := 6) rfl rfl hK wd [0, 1] rfl (by decide)) rfl rfl hl.1 rfl (lv_room (Nat.le_of_ble_eq_true rfl)) dX5_endOf_19 ⟨Nat.zero_le _, Nat.zero_le _⟩) wd hS hA [0, 1] [] rfl rfl (by decide) (by decide) (fun H locs wd hS => ?_)
      have wd : WD D A [oX8 a_q (.ref a_qw) q_most q_length q_overfull, aI Y a_qw qw_n c_qw] H := wd
      refine lv_istore_n (lv' := [(3, .int o3), (0, .ref a_q), (1, .int p1), (2, .int p2)]) hx hb dX5_endOf_22 rfl hl (by decide) rfl (fun ls hl => ?_)
      refine lv_iload_n hx hb dX5_endOf_23 rfl (lv_at hl 2 rfl) ?_
      refine lv_bipush (v := 27) hx hb dX5_endOf_24 (by decide) ?_
      refine lv_iadd hx hb dX5_endOf_26 ?_
      refine lv_iload_n hx hb dX5_endOf_27 rfl (lv_at hl 0 rfl) ?_
      refine lv_iadd hx hb dX5_endOf_28 ?_
      refine lv_topi (fun x4 ex4 => ?_)
      have hf := nm_at hf ex4
      refine lv_istore (lv' := [(4, .int x4), (3, .int o3), (0, .ref a_q), (1, .int p1), (2, .int p2)]) hx hb dX5_endOf_29 hl (by decide) rfl (fun ls hl => ?_)
      refine lv_iload hx hb dX5_endOf_31 (lv_at hl 0 rfl) ?_
      refine lv_iload_n hx hb dX5_endOf_33 rfl (lv_at hl 4 rfl) ?_
      refine lv_icmp_le (tgt := 39) hx hb dX5_endOf_34 (by decide) (fun q5 => ?_) (fun q5 => ?_)
      · have hf := ip hf q5
        refine lv_iconst (v := 0) hx hb dX5_endOf_39 (by decide) ?_
        refine lv_istore (lv' := [(5, .int 0), (4, .int x4), (3, .int o3), (0, .ref a_q), (1, .int p1), (2, .int p2)]) hx hb dX5_endOf_40 hl (by decide) rfl (fun ls hl => ?_)
        exact wX5_endOf_b42 D Y C hA hK F a_q a_qw q_most q_length q_overfull qw_n c_qw p1 p2 _ F 0 x4 o3 hf wd hS (lv_sub hl [3, 4, 5, 2, 1, 0] rfl)
      · have hf := ie hf q5
        refine lv_iconst (v := (-1)) hx hb dX5_endOf_37 (by decide) ?_
        obtain rfl := Option.some.inj hf
        exact W.iret (v := (-1)) hx hb hr (fun t ht hW => ⟨⟨_, (), rfl, rfl, WD.pst wd hK ht hW⟩, hS.F ht⟩) hS.2.2 dX5_endOf_38
    · have hf := ie hf q2
      refine lv_iconst (v := (-1)) hx hb dX5_endOf_12 (by decide) ?_
      obtain rfl := Option.some.inj hf
      exact W.iret (v := (-1)) hx hb hr (fun t ht hW => ⟨⟨_, (), rfl, rfl, WD.pst wd hK ht hW⟩, hS.F ht⟩) hS.2.2 dX5_endOf_13
set_option maxHeartbeats 4000000 in
set_option maxRecDepth 100000 in
theorem kX5_endOf (l : Launch) (D : va_G) (Y : Y4) (F : Nat) (a_q : Nat) (a_qw : Nat) (sz : Nat) (q_most : Int32) (q_length : Int32) (q_overfull : Int32) (qw_n : Nat) (c_qw : (Nat → Int32)) (p1 : Int32) (p2 : Int32) (res : Int32) (hf : fX5_endOf F q_length qw_n c_qw p1 p2 = some res) : Met l yX5_endOf wsX5_endOf ({ frames := 1, cells := 0, slots := 0, locals := 21 }) (va_Pc [.ref a_q, .int p1, .int p2] (PRE D Y [oX8 a_q (.ref a_qw) q_most q_length q_overfull, aI Y a_qw qw_n c_qw] sz)) (va_Qi (fun r (_ : Unit) => r = res) (fun _ t => PST D Y (va_A [oX8 a_q (.ref a_qw) q_most q_length q_overfull, aI Y a_qw qw_n c_qw] sz) [oX8 a_q (.ref a_qw) q_most q_length q_overfull, aI Y a_qw qw_n c_qw] t) (va_A [oX8 a_q (.ref a_qw) q_most q_length q_overfull, aI Y a_qw qw_n c_qw] sz)) 0 0 (va_A [oX8 a_q (.ref a_qw) q_most q_length q_overfull, aI Y a_qw qw_n c_qw] sz) := by
  refine Met.ofW (cc := cX5_endOf) (maxL := 6) (ret := (some .int)) (by decide) rfl ?_
  intro p e s m args below meth c s₁ B hml hv
  obtain ⟨rfl, rfl, hP, hK, hD0⟩ := hv
  have hl := lv_entry ([.ref a_q, .int p1, .int p2]) (n := 6) (Nat.le_of_ble_eq_true rfl)
  rw [lg_entry_eq]
  exact wX5_endOf D Y ⟨B.exec, B.bytes, hml, B.returns, atoms_spec (ws := wsX5_endOf) B.pre, findClass_of_methodNamed B.named, B.notSynchronized⟩ (fun q h => Or.inr h) hK F a_q a_qw q_most q_length q_overfull qw_n c_qw p1 p2 res hf ⟨hP, hD0.self⟩ va_S.rf hl
theorem mX5_sumOf_0 : Cond.fieldLink RX5 22 "StreamRemuxer$PageForm" "FOUR_SHIFTS" "[I" ∈ wsX5_sumOf := List.mem_cons_of_mem _ u_270
set_option maxHeartbeats 4000000 in
set_option maxRecDepth 100000 in
theorem wX5_sumOf_b53 {p : Program} {l : Launch} {e : Env} {s : State} {m : MethodId} {args : Array Value} {below : List Frame} {meth : Method} {c : Code} {A : Nat → Prop} (D : va_G) (Y : Y4) (C : CX p s m meth c args cX5_sumOf 7 (some .int) wsX5_sumOf RX5) (hA : ∀ q : Nat, s.heap.size ≤ q → A q) (hK : va_K D vwCl (TY Y) s) (F : Nat) (a_q : Nat) (a_qw : Nat) (a_sF : Nat) (q_most : Int32) (q_length : Int32) (q_overfull : Int32) (qw_n : Nat) (c_qw : (Nat → Int32)) (p1 : Int32) (p2 : Int32) (hX : ST [e_sF a_sF] A s) (res : Int32) (rc5 : Int32 → Int32 → Option (Int32)) (hrc5 : ∀ (b5_l_4 : Int32) (b5_l_3 : Int32), rc5 b5_l_4 b5_l_3 = some res → ∀ {H : Heap} {locs : List Loc} {ls : Array Slot}, WD D A [oX8 a_q (.ref a_qw) q_most q_length q_overfull, aI Y a_qw qw_n c_qw] H → va_S A s.heap H locs → lv_has ls 7 [(0, .ref a_q), (1, .int p1), (2, .int p2), (3, .int b5_l_3), (4, .int b5_l_4)] → W p l e { frames := 1, cells := 0, slots := 0, locals := 21 } s m args below meth c H locs 0 0 (MQ below (va_Qi (fun r (_ : Unit) => r = res) (fun _ t => PST D Y A [oX8 a_q (.ref a_qw) q_most q_length q_overfull, aI Y a_qw qw_n c_qw] t) A) args s 0 0 A) (F0 m 5 ls [])) (b53_l_3 : Int32) (b53_l_4 : Int32) (b53_s_0 : Int32) (hf : fX5_sumOf_b53 F rc5 b53_l_3 b53_l_4 b53_s_0 = some res) {H : Heap} {locs : List Loc} {ls : Array Slot} (wd : WD D A [oX8 a_q (.ref a_qw) q_most q_length q_overfull, aI Y a_qw qw_n c_qw] H) (hS : va_S A s.heap H locs) (hl : lv_has ls 7 [(0, .ref a_q), (1, .int p1), (2, .int p2), (3, .int b53_l_3), (4, .int b53_l_4)]) : W p l e { frames := 1, cells := 0, slots := 0, locals := 21 } s m args below meth c H locs 0 0 (MQ below (va_Qi (fun r (_ : Unit) => r = res) (fun _ t => PST D Y A [oX8 a_q (.ref a_qw) q_most q_length q_overfull, aI Y a_qw qw_n c_qw] t) A) args s 0 0 A) (F0 m 53 ls [.int b53_s_0]) := by
  obtain ⟨hx, hb, hml, hr, hts, hown, hlocks⟩ := id C
  obtain ⟨hZ_sF, hT_sF⟩ := (hX _ (List.mem_of_getElem? (i := 0) rfl)).2
  unfold fX5_sumOf_b53 at hf
  refine lv_istore (lv' := [(6, .int b53_s_0), (0, .ref a_q), (1, .int p1), (2, .int p2), (3, .int b53_l_3), (4, .int b53_l_4)]) hx hb dX5_sumOf_53 hl (by decide) rfl (fun ls hl => ?_)
  refine lv_iload_n hx hb dX5_sumOf_55 rfl (lv_at hl 4 rfl) ?_
  refine lv_iconst (v := 4) hx hb dX5_sumOf_56 (by decide) ?_
  refine lv_ishl hx hb dX5_sumOf_57 ?_
  refine va_gets (v := .ref a_sF) hx hb hZ_sF hS hown (hts _ mX5_sumOf_0) (fun _ h9 => h9) dX5_sumOf_58 ?_
  refine lv_iload_n hx hb dX5_sumOf_61 rfl (lv_at hl 4 rfl) ?_
  refine lv_bipush (v := 28) hx hb dX5_sumOf_62 (by decide) ?_
  refine lv_iushr (v := (ushr32 b53_l_3 28)) hx hb dX5_sumOf_64 rfl ?_
  refine lv_iload hx hb dX5_sumOf_65 (lv_at hl 0 rfl) ?_
  refine lv_iconst (v := 4) hx hb dX5_sumOf_67 (by decide) ?_
  refine lv_ishr hx hb dX5_sumOf_68 ?_
  refine lv_ixor hx hb dX5_sumOf_69 ?_
  refine lv_bipush (v := 15) hx hb dX5_sumOf_70 (by decide) ?_
  refine lv_iand hx hb dX5_sumOf_72 ?_
  refine lv_topi (fun x1 ex1 => ?_)
  have hf := nm_at hf ex1
  obtain ⟨hg2, hf⟩ := gd hf
  refine va_ti hx hb hT_sF hS (gin_in hg2) (v := .int (kFour x1.toNatClampNeg)) rfl dX5_sumOf_73 ?_
  refine lv_ixor hx hb dX5_sumOf_74 ?_
  refine lv_topi (fun x3 ex3 => ?_)
  have hf := nm_at hf ex3
  refine lv_istore_n (lv' := [(3, .int x3), (6, .int b53_s_0), (0, .ref a_q), (1, .int p1), (2, .int p2), (4, .int b53_l_4)]) hx hb dX5_sumOf_75 rfl hl (by decide) rfl (fun ls hl => ?_)
  refine lv_iload_n hx hb dX5_sumOf_76 rfl (lv_at hl 0 rfl) ?_
  refine lv_iconst (v := 4) hx hb dX5_sumOf_77 (by decide) ?_
  refine lv_ishl hx hb dX5_sumOf_78 ?_
  refine va_gets (v := .ref a_sF) hx hb hZ_sF hS hown (hts _ mX5_sumOf_0) (fun _ h9 => h9) dX5_sumOf_79 ?_
  refine lv_iload_n hx hb dX5_sumOf_82 rfl (lv_at hl 0 rfl) ?_
  refine lv_bipush (v := 28) hx hb dX5_sumOf_83 (by decide) ?_
  refine lv_iushr (v := (ushr32 x3 28)) hx hb dX5_sumOf_85 rfl ?_
  refine lv_iload hx hb dX5_sumOf_86 (lv_at hl 1 rfl) ?_
  refine lv_ixor hx hb dX5_sumOf_88 ?_
  refine lv_bipush (v := 15) hx hb dX5_sumOf_89 (by decide) ?_
  refine lv_iand hx hb dX5_sumOf_91 ?_
  refine lv_topi (fun x4 ex4 => ?_)
  have hf := nm_at hf ex4
  obtain ⟨hg5, hf⟩ := gd hf
  refine va_ti hx hb hT_sF hS (gin_in hg5) (v := .int (kFour x4.toNatClampNeg)) rfl dX5_sumOf_92 ?_
  refine lv_ixor hx hb dX5_sumOf_93 ?_
  refine lv_topi (fun x6 ex6 => ?_)
  have hf := nm_at hf ex6
  refine lv_istore_n (lv' := [(3, .int x6), (6, .int b53_s_0), (0, .ref a_q), (1, .int p1), (2, .int p2), (4, .int b53_l_4)]) hx hb dX5_sumOf_94 rfl hl (by decide) rfl (fun ls hl => ?_)
  obtain ⟨x7, ex7⟩ : ∃ y : Int32, y = b53_l_4 + 1 := ⟨_, rfl⟩
  have hf := nm_at hf ex7
  refine lv_iinc (v := x7) (lv' := [(4, .int x7), (3, .int x6), (6, .int b53_s_0), (0, .ref a_q), (1, .int p1), (2, .int p2)]) hx hb dX5_sumOf_95 hl (k := 5) rfl (by rw [ex7]; rfl) (by decide) rfl (fun ls hl => ?_)
  refine lv_goto (tgt := 5) hx hb dX5_sumOf_98 (by decide) ?_
  exact hrc5 x7 x6 hf wd hS (lv_sub hl [3, 4, 5, 1, 0] rfl)

set_option maxHeartbeats 4000000 in
set_option maxRecDepth 100000 in
theorem wX5_sumOf_b36 {p : Program} {l : Launch} {e : Env} {s : State} {m : MethodId} {args : Array Value} {below : List Frame} {meth : Method} {c : Code} {A : Nat → Prop} (D : va_G) (Y : Y4) (C : CX p s m meth c args cX5_sumOf 7 (some .int) wsX5_sumOf RX5) (hA : ∀ q : Nat, s.heap.size ≤ q → A q) (hK : va_K D vwCl (TY Y) s) (F : Nat) (a_q : Nat) (a_qw : Nat) (a_sF : Nat) (q_most : Int32) (q_length : Int32) (q_overfull : Int32) (qw_n : Nat) (c_qw : (Nat → Int32)) (p1 : Int32) (p2 : Int32) (hX : ST [e_sF a_sF] A s) (res : Int32) (rc5 : Int32 → Int32 → Option (Int32)) (hrc5 : ∀ (b5_l_4 : Int32) (b5_l_3 : Int32), rc5 b5_l_4 b5_l_3 = some res → ∀ {H : Heap} {locs : List Loc} {ls : Array Slot}, WD D A [oX8 a_q (.ref a_qw) q_most q_length q_overfull, aI Y a_qw qw_n c_qw] H → va_S A s.heap H locs → lv_has ls 7 [(0, .ref a_q), (1, .int p1), (2, .int p2), (3, .int b5_l_3), (4, .int b5_l_4)] → W p l e { frames := 1, cells := 0, slots := 0, locals := 21 } s m args below meth c H locs 0 0 (MQ below (va_Qi (fun r (_ : Unit) => r = res) (fun _ t => PST D Y A [oX8 a_q (.ref a_qw) q_most q_length q_overfull, aI Y a_qw qw_n c_qw] t) A) args s 0 0 A) (F0 m 5 ls [])) (b36_l_3 : Int32) (b36_l_4 : Int32) (b36_s_0 : Int32) (hf : fX5_sumOf_b36 F q_length qw_n c_qw rc5 b36_l_3 b36_l_4 b36_s_0 = some res) {H : Heap} {locs : List Loc} {ls : Array Slot} (wd : WD D A [oX8 a_q (.ref a_qw) q_most q_length q_overfull, aI Y a_qw qw_n c_qw] H) (hS : va_S A s.heap H locs) (hl : lv_has ls 7 [(0, .ref a_q), (1, .int p1), (2, .int p2), (3, .int b36_l_3), (4, .int b36_l_4)]) : W p l e { frames := 1, cells := 0, slots := 0, locals := 21 } s m args below meth c H locs 0 0 (MQ below (va_Qi (fun r (_ : Unit) => r = res) (fun _ t => PST D Y A [oX8 a_q (.ref a_qw) q_most q_length q_overfull, aI Y a_qw qw_n c_qw] t) A) args s 0 0 A) (F0 m 36 ls [.int b36_s_0]) := by
  obtain ⟨hx, hb, hml, hr, hts, hown, hlocks⟩ := id C
  obtain ⟨hZ_sF, hT_sF⟩ := (hX _ (List.mem_of_getElem? (i := 0) rfl)).2
  unfold fX5_sumOf_b36 at hf
  refine lv_istore (lv' := [(5, .int b36_s_0), (0, .ref a_q), (1, .int p1), (2, .int p2), (3, .int b36_l_3), (4, .int b36_l_4)]) hx hb dX5_sumOf_36 hl (by decide) rfl (fun ls hl => ?_)
  refine lv_iload hx hb dX5_sumOf_38 (lv_at hl 0 rfl) ?_
  refine lv_if_eq (tgt := 47) hx hb dX5_sumOf_40 (by decide) (fun q1 => ?_) (fun q1 => ?_)
  · have hf := ip hf q1
    refine lv_aload_n hx hb dX5_sumOf_47 rfl (lv_at hl 1 rfl) ?_
    refine lv_iload hx hb dX5_sumOf_48 (lv_at hl 5 rfl) ?_
    obtain ⟨o2, ho2, hf⟩ := ob hf
    refine xj_i (va_runV (As := [.int b36_l_4]) (rest := []) ⟨hx, hb, hml, hown, hts⟩ (kX8_at l D Y F a_q a_qw H.size q_most q_length q_overfull qw_n c_qw b36_l_4 o2 ho2) (cwV 1 hts gX5_sumOf_X8_at rfl rfl rfl (by decide +kernel) ⟨Nat.le_of_ble_eq_true rfl, Nat.le_of_ble_eq_true rfl⟩) (prev_w (ci := 6) rfl rfl hK wd [0, 1] rfl (by decide)) rfl rfl hl.1 rfl (lv_room (Nat.le_of_ble_eq_true rfl)) dX5_sumOf_50 ⟨Nat.zero_le _, Nat.zero_le _⟩) wd hS hA [0, 1] [] rfl rfl (by decide) (by decide) (fun H locs wd hS => ?_)
    have wd : WD D A [oX8 a_q (.ref a_qw) q_most q_length q_overfull, aI Y a_qw qw_n c_qw] H := wd
    exact wX5_sumOf_b53 D Y C hA hK F a_q a_qw a_sF q_most q_length q_overfull qw_n c_qw p1 p2 hX _ rc5 hrc5 b36_l_3 b36_l_4 o2 hf wd hS (lv_sub hl [1, 2, 3, 4, 5] rfl)
  · have hf := ie hf q1
    refine lv_iconst (v := 0) hx hb dX5_sumOf_43 (by decide) ?_
    refine lv_goto (tgt := 53) hx hb dX5_sumOf_44 (by decide) ?_
    exact wX5_sumOf_b53 D Y C hA hK F a_q a_qw a_sF q_most q_length q_overfull qw_n c_qw p1 p2 hX _ rc5 hrc5 b36_l_3 b36_l_4 0 hf wd hS (lv_sub hl [1, 2, 3, 4, 5] rfl)

set_option maxHeartbeats 4000000 in
set_option maxRecDepth 100000 in
theorem wX5_sumOf_b35 {p : Program} {l : Launch} {e : Env} {s : State} {m : MethodId} {args : Array Value} {below : List Frame} {meth : Method} {c : Code} {A : Nat → Prop} (D : va_G) (Y : Y4) (C : CX p s m meth c args cX5_sumOf 7 (some .int) wsX5_sumOf RX5) (hA : ∀ q : Nat, s.heap.size ≤ q → A q) (hK : va_K D vwCl (TY Y) s) (F : Nat) (a_q : Nat) (a_qw : Nat) (a_sF : Nat) (q_most : Int32) (q_length : Int32) (q_overfull : Int32) (qw_n : Nat) (c_qw : (Nat → Int32)) (p1 : Int32) (p2 : Int32) (hX : ST [e_sF a_sF] A s) (res : Int32) (rc5 : Int32 → Int32 → Option (Int32)) (hrc5 : ∀ (b5_l_4 : Int32) (b5_l_3 : Int32), rc5 b5_l_4 b5_l_3 = some res → ∀ {H : Heap} {locs : List Loc} {ls : Array Slot}, WD D A [oX8 a_q (.ref a_qw) q_most q_length q_overfull, aI Y a_qw qw_n c_qw] H → va_S A s.heap H locs → lv_has ls 7 [(0, .ref a_q), (1, .int p1), (2, .int p2), (3, .int b5_l_3), (4, .int b5_l_4)] → W p l e { frames := 1, cells := 0, slots := 0, locals := 21 } s m args below meth c H locs 0 0 (MQ below (va_Qi (fun r (_ : Unit) => r = res) (fun _ t => PST D Y A [oX8 a_q (.ref a_qw) q_most q_length q_overfull, aI Y a_qw qw_n c_qw] t) A) args s 0 0 A) (F0 m 5 ls [])) (b35_l_3 : Int32) (b35_l_4 : Int32) (hf : fX5_sumOf_b35 F q_length qw_n c_qw rc5 b35_l_3 b35_l_4 = some res) {H : Heap} {locs : List Loc} {ls : Array Slot} (wd : WD D A [oX8 a_q (.ref a_qw) q_most q_length q_overfull, aI Y a_qw qw_n c_qw] H) (hS : va_S A s.heap H locs) (hl : lv_has ls 7 [(0, .ref a_q), (1, .int p1), (2, .int p2), (3, .int b35_l_3), (4, .int b35_l_4)]) : W p l e { frames := 1, cells := 0, slots := 0, locals := 21 } s m args below meth c H locs 0 0 (MQ below (va_Qi (fun r (_ : Unit) => r = res) (fun _ t => PST D Y A [oX8 a_q (.ref a_qw) q_most q_length q_overfull, aI Y a_qw qw_n c_qw] t) A) args s 0 0 A) (F0 m 35 ls []) := by
  obtain ⟨hx, hb, hml, hr, hts, hown, hlocks⟩ := id C
  obtain ⟨hZ_sF, hT_sF⟩ := (hX _ (List.mem_of_getElem? (i := 0) rfl)).2
  unfold fX5_sumOf_b35 at hf
  refine lv_iconst (v := 0) hx hb dX5_sumOf_35 (by decide) ?_
  exact wX5_sumOf_b36 D Y C hA hK F a_q a_qw a_sF q_most q_length q_overfull qw_n c_qw p1 p2 hX _ rc5 hrc5 b35_l_3 b35_l_4 0 hf wd hS (lv_sub hl [0, 1, 2, 3, 4] rfl)

set_option maxHeartbeats 4000000 in
set_option maxRecDepth 100000 in
theorem wX5_sumOf_b5 {p : Program} {l : Launch} {e : Env} {s : State} {m : MethodId} {args : Array Value} {below : List Frame} {meth : Method} {c : Code} {A : Nat → Prop} (D : va_G) (Y : Y4) (C : CX p s m meth c args cX5_sumOf 7 (some .int) wsX5_sumOf RX5) (hA : ∀ q : Nat, s.heap.size ≤ q → A q) (hK : va_K D vwCl (TY Y) s) (F : Nat) (a_q : Nat) (a_qw : Nat) (a_sF : Nat) (q_most : Int32) (q_length : Int32) (q_overfull : Int32) (qw_n : Nat) (c_qw : (Nat → Int32)) (p1 : Int32) (p2 : Int32) (hX : ST [e_sF a_sF] A s) (res : Int32) : ∀ (n : Nat) (b5_l_4 : Int32) (b5_l_3 : Int32), fX5_sumOf_b5 F q_length qw_n c_qw p1 p2 n b5_l_4 b5_l_3 = some res → ∀ {H : Heap} {locs : List Loc} {ls : Array Slot}, WD D A [oX8 a_q (.ref a_qw) q_most q_length q_overfull, aI Y a_qw qw_n c_qw] H → va_S A s.heap H locs → lv_has ls 7 [(0, .ref a_q), (1, .int p1), (2, .int p2), (3, .int b5_l_3), (4, .int b5_l_4)] → W p l e { frames := 1, cells := 0, slots := 0, locals := 21 } s m args below meth c H locs 0 0 (MQ below (va_Qi (fun r (_ : Unit) => r = res) (fun _ t => PST D Y A [oX8 a_q (.ref a_qw) q_most q_length q_overfull, aI Y a_qw qw_n c_qw] t) A) args s 0 0 A) (F0 m 5 ls []) := by
  obtain ⟨hx, hb, hml, hr, hts, hown, hlocks⟩ := id C
  obtain ⟨hZ_sF, hT_sF⟩ := (hX _ (List.mem_of_getElem? (i := 0) rfl)).2
  intro n
  induction n with
  | zero => intro b5_l_4 b5_l_3 hf; exact absurd hf (by simp [fX5_sumOf_b5])
  | succ n ih =>
    intro b5_l_4 b5_l_3 hf H locs ls wd hS hl
    unfold fX5_sumOf_b5 at hf
    refine lv_iload hx hb dX5_sumOf_5 (lv_at hl 4 rfl) ?_
    refine lv_iload_n hx hb dX5_sumOf_7 rfl (lv_at hl 2 rfl) ?_
    refine lv_icmp_ge (tgt := 101) hx hb dX5_sumOf_8 (by decide) (fun q1 => ?_) (fun q1 => ?_)
    · have hf := ip hf q1
      refine lv_iload_n hx hb dX5_sumOf_101 rfl (lv_at hl 3 rfl) ?_
      obtain rfl := Option.some.inj hf
      exact W.iret (v := b5_l_3) hx hb hr (fun t ht hW => ⟨⟨_, (), rfl, rfl, WD.pst wd hK ht hW⟩, hS.F ht⟩) hS.2.2 dX5_sumOf_102
    · have hf := ie hf q1
      refine lv_iload hx hb dX5_sumOf_11 (lv_at hl 4 rfl) ?_
      refine lv_iload_n hx hb dX5_sumOf_13 rfl (lv_at hl 1 rfl) ?_
      refine lv_bipush (v := 22) hx hb dX5_sumOf_14 (by decide) ?_
      refine lv_iadd hx hb dX5_sumOf_16 ?_
      refine lv_icmp_lt (tgt := 35) hx hb dX5_sumOf_17 (by decide) (fun q2 => ?_) (fun q2 => ?_)
      · have hf := ip hf q2
        exact wX5_sumOf_b35 D Y C hA hK F a_q a_qw a_sF q_most q_length q_overfull qw_n c_qw p1 p2 hX _ (fX5_sumOf_b5 F q_length qw_n c_qw p1 p2 n) ih b5_l_3 b5_l_4 hf wd hS (lv_sub hl [0, 1, 2, 3, 4] rfl)
      · have hf := ie hf q2
        refine lv_iload hx hb dX5_sumOf_20 (lv_at hl 4 rfl) ?_
        refine lv_iload_n hx hb dX5_sumOf_22 rfl (lv_at hl 1 rfl) ?_
        refine lv_bipush (v := 22) hx hb dX5_sumOf_23 (by decide) ?_
        refine lv_iadd hx hb dX5_sumOf_25 ?_
        refine lv_iconst (v := 4) hx hb dX5_sumOf_26 (by decide) ?_
        refine lv_iadd hx hb dX5_sumOf_27 ?_
        refine lv_icmp_ge (tgt := 35) hx hb dX5_sumOf_28 (by decide) (fun q3 => ?_) (fun q3 => ?_)
        · have hf := ip hf q3
          exact wX5_sumOf_b35 D Y C hA hK F a_q a_qw a_sF q_most q_length q_overfull qw_n c_qw p1 p2 hX _ (fX5_sumOf_b5 F q_length qw_n c_qw p1 p2 n) ih b5_l_3 b5_l_4 hf wd hS (lv_sub hl [0, 1, 2, 3, 4] rfl)
        · have hf := ie hf q3
          refine lv_iconst (v := 1) hx hb dX5_sumOf_31 (by decide) ?_
          refine lv_goto (tgt := 36) hx hb dX5_sumOf_32 (by decide) ?_
          exact wX5_sumOf_b36 D Y C hA hK F a_q a_qw a_sF q_most q_length q_overfull qw_n c_qw p1 p2 hX _ (fX5_sumOf_b5 F q_length qw_n c_qw p1 p2 n) ih b5_l_3 b5_l_4 1 hf wd hS (lv_sub hl [0, 1, 2, 3, 4] rfl)

set_option maxHeartbeats 4000000 in
set_option maxRecDepth 100000 in
theorem wX5_sumOf {p : Program} {l : Launch} {e : Env} {s : State} {m : MethodId} {args : Array Value} {below : List Frame} {meth : Method} {c : Code} {A : Nat → Prop} (D : va_G) (Y : Y4) (C : CX p s m meth c args cX5_sumOf 7 (some .int) wsX5_sumOf RX5) (hA : ∀ q : Nat, s.heap.size ≤ q → A q) (hK : va_K D vwCl (TY Y) s) (F : Nat) (a_q : Nat) (a_qw : Nat) (a_sF : Nat) (q_most : Int32) (q_length : Int32) (q_overfull : Int32) (qw_n : Nat) (c_qw : (Nat → Int32)) (p1 : Int32) (p2 : Int32) (hX : ST [e_sF a_sF] A s) (res : Int32) (hf : fX5_sumOf F q_length qw_n c_qw p1 p2 = some res) {H : Heap} {locs : List Loc} {ls : Array Slot} (wd : WD D A [oX8 a_q (.ref a_qw) q_most q_length q_overfull, aI Y a_qw qw_n c_qw] H) (hS : va_S A s.heap H locs) (hl : lv_has ls 7 [(0, .ref a_q), (1, .int p1), (2, .int p2)]) : W p l e { frames := 1, cells := 0, slots := 0, locals := 21 } s m args below meth c H locs 0 0 (MQ below (va_Qi (fun r (_ : Unit) => r = res) (fun _ t => PST D Y A [oX8 a_q (.ref a_qw) q_most q_length q_overfull, aI Y a_qw qw_n c_qw] t) A) args s 0 0 A) (F0 m 0 ls []) := by
  obtain ⟨hx, hb, hml, hr, hts, hown, hlocks⟩ := id C
  obtain ⟨hZ_sF, hT_sF⟩ := (hX _ (List.mem_of_getElem? (i := 0) rfl)).2
  unfold fX5_sumOf at hf
  refine lv_iconst (v := 0) hx hb dX5_sumOf_0 (by decide) ?_
  refine lv_istore_n (lv' := [(3, .int 0), (0, .ref a_q), (1, .int p1), (2, .int p2)]) hx hb dX5_sumOf_1 rfl hl (by decide) rfl (fun ls hl => ?_)
  refine lv_iload_n hx hb dX5_sumOf_2 rfl (lv_at hl 2 rfl) ?_
  refine lv_istore (lv' := [(4, .int p1), (3, .int 0), (0, .ref a_q), (1, .int p1), (2, .int p2)]) hx hb dX5_sumOf_3 hl (by decide) rfl (fun ls hl => ?_)
  exact wX5_sumOf_b5 D Y C hA hK F a_q a_qw a_sF q_most q_length q_overfull qw_n c_qw p1 p2 hX _ F p1 0 hf wd hS (lv_sub hl [2, 3, 4, 1, 0] rfl)
set_option maxHeartbeats 4000000 in
set_option maxRecDepth 100000 in
theorem kX5_sumOf (l : Launch) (D : va_G) (Y : Y4) (F : Nat) (a_q : Nat) (a_qw : Nat) (a_sF : Nat) (sz : Nat) (q_most : Int32) (q_length : Int32) (q_overfull : Int32) (qw_n : Nat) (c_qw : (Nat → Int32)) (p1 : Int32) (p2 : Int32) (res : Int32) (hf : fX5_sumOf F q_length qw_n c_qw p1 p2 = some res) : Met l yX5_sumOf wsX5_sumOf ({ frames := 1, cells := 0, slots := 0, locals := 21 }) (va_Pc [.ref a_q, .int p1, .int p2] (PREX D Y [oX8 a_q (.ref a_qw) q_most q_length q_overfull, aI Y a_qw qw_n c_qw] sz [e_sF a_sF])) (va_Qi (fun r (_ : Unit) => r = res) (fun _ t => PST D Y (va_A [oX8 a_q (.ref a_qw) q_most q_length q_overfull, aI Y a_qw qw_n c_qw] sz) [oX8 a_q (.ref a_qw) q_most q_length q_overfull, aI Y a_qw qw_n c_qw] t) (va_A [oX8 a_q (.ref a_qw) q_most q_length q_overfull, aI Y a_qw qw_n c_qw] sz)) 0 0 (va_A [oX8 a_q (.ref a_qw) q_most q_length q_overfull, aI Y a_qw qw_n c_qw] sz) := by
  refine Met.ofW (cc := cX5_sumOf) (maxL := 7) (ret := (some .int)) (by decide) rfl ?_
  intro p e s m args below meth c s₁ B hml hv
  obtain ⟨rfl, ⟨rfl, hP, hK, hD0⟩, hX⟩ := hv
  have hl := lv_entry ([.ref a_q, .int p1, .int p2]) (n := 7) (Nat.le_of_ble_eq_true rfl)
  rw [lg_entry_eq]
  exact wX5_sumOf D Y ⟨B.exec, B.bytes, hml, B.returns, atoms_spec (ws := wsX5_sumOf) B.pre, findClass_of_methodNamed B.named, B.notSynchronized⟩ (fun q h => Or.inr h) hK F a_q a_qw a_sF q_most q_length q_overfull qw_n c_qw p1 p2 hX res hf ⟨hP, hD0.self⟩ va_S.rf hl

set_option maxHeartbeats 4000000 in
set_option maxRecDepth 100000 in
theorem wX5_makeSumRight_b10 {p : Program} {l : Launch} {e : Env} {s : State} {m : MethodId} {args : Array Value} {below : List Frame} {meth : Method} {c : Code} {A : Nat → Prop} (D : va_G) (Y : Y4) (C : CX p s m meth c args cX5_makeSumRight 5 none wsX5_makeSumRight RX5) (hA : ∀ q : Nat, s.heap.size ≤ q → A q) (hK : va_K D vwCl (TY Y) s) (F : Nat) (a_q : Nat) (a_qw : Nat) (a_sF : Nat) (q_most : Int32) (q_length : Int32) (q_overfull : Int32) (qw_n : Nat) (c_qw : (Nat → Int32)) (p1 : Int32) (p2 : Int32) (hX : ST [e_sF a_sF] A s) (res : (Nat → Int32)) : ∀ (n : Nat) (b10_l_4 : Int32) (b10_l_3 : Int32) (b10_c_qw : (Nat → Int32)), fX5_makeSumRight_b10 F q_length qw_n p1 n b10_l_4 b10_l_3 b10_c_qw = some res → ∀ {H : Heap} {locs : List Loc} {ls : Array Slot}, WD D A [oX8 a_q (.ref a_qw) q_most q_length q_overfull, aI Y a_qw qw_n b10_c_qw] H → va_S A s.heap H locs → lv_has ls 5 [(0, .ref a_q), (1, .int p1), (3, .int b10_l_3), (4, .int b10_l_4)] → W p l e { frames := 2, cells := 0, slots := 0, locals := 47 } s m args below meth c H locs 0 0 (MQ below (va_Qv (fun _ : Unit => True) (fun _ t => PST D Y A [oX8 a_q (.ref a_qw) q_most q_length q_overfull, aI Y a_qw qw_n res] t) A) args s 0 0 A) (F0 m 10 ls []) := by
  obtain ⟨hx, hb, hml, hr, hts, hown, hlocks⟩ := id C
  obtain ⟨hZ_sF, hT_sF⟩ := (hX _ (List.mem_of_getElem? (i := 0) rfl)).2
  intro n
  induction n with
  | zero => intro b10_l_4 b10_l_3 b10_c_qw hf; exact absurd hf (by simp [fX5_makeSumRight_b10])
  | succ n ih =>
    intro b10_l_4 b10_l_3 b10_c_qw hf H locs ls wd hS hl
    unfold fX5_makeSumRight_b10 at hf
    refine lv_iload hx hb dX5_makeSumRight_10 (lv_at hl 3 rfl) ?_
    refine lv_iconst (v := 4) hx hb dX5_makeSumRight_12 (by decide) ?_
    refine lv_icmp_ge (tgt := 41) hx hb dX5_makeSumRight_13 (by decide) (fun q1 => ?_) (fun q1 => ?_)
    · have hf := ip hf q1
      obtain rfl := Option.some.inj hf
      exact W.vret hx hb hr (fun t ht hW => ⟨⟨(), rfl, trivial, WD.pst wd hK ht hW⟩, hS.F ht⟩) hS.2.2 dX5_makeSumRight_41
    · have hf := ie hf q1
      refine lv_aload_n hx hb dX5_makeSumRight_16 rfl (lv_at hl 0 rfl) ?_
      refine lv_iload_n hx hb dX5_makeSumRight_17 rfl (lv_at hl 1 rfl) ?_
      refine lv_bipush (v := 22) hx hb dX5_makeSumRight_18 (by decide) ?_
      refine lv_iadd hx hb dX5_makeSumRight_20 ?_
      refine lv_iload hx hb dX5_makeSumRight_21 (lv_at hl 3 rfl) ?_
      refine lv_iadd hx hb dX5_makeSumRight_23 ?_
      refine lv_iload_n hx hb dX5_makeSumRight_24 rfl (lv_at hl 2 rfl) ?_
      refine lv_bipush (v := 8) hx hb dX5_makeSumRight_25 (by decide) ?_
      refine lv_iload hx hb dX5_makeSumRight_27 (lv_at hl 3 rfl) ?_
      refine lv_imul hx hb dX5_makeSumRight_29 ?_
      refine lv_iushr (v := (ushr32 b10_l_3 ((8 : Int32) * b10_l_4))) hx hb dX5_makeSumRight_30 rfl ?_
      obtain ⟨o2, ho2, hf⟩ := ob hf
      refine xj_i (va_runV (As := [.int ((p1 + 22) + b10_l_4), .int (ushr32 b10_l_3 ((8 : Int32) * b10_l_4))]) (rest := []) ⟨hx, hb, hml, hown, hts⟩ (kX8_change l D Y F a_q a_qw H.size q_most q_length q_overfull qw_n b10_c_qw ((p1 + 22) + b10_l_4) (ushr32 b10_l_3 ((8 : Int32) * b10_l_4)) o2 ho2) (cwV 2 hts gX5_makeSumRight_X8_change rfl rfl rfl (by decide +kernel) ⟨Nat.le_of_ble_eq_true rfl, Nat.le_of_ble_eq_true rfl⟩) (prev_w (ci := 6) rfl rfl hK wd [0, 1] rfl (by decide)) rfl rfl hl.1 rfl (lv_room (Nat.le_of_ble_eq_true rfl)) dX5_makeSumRight_31 ⟨Nat.zero_le _, Nat.zero_le _⟩) wd hS hA [0, 1] [] rfl rfl (by decide) (by decide) (fun H locs wd hS => ?_)
      have wd : WD D A [oX8 a_q (.ref a_qw) q_most q_length q_overfull, aI Y a_qw qw_n o2.2] H := wd
      refine lv_pop hx hb dX5_makeSumRight_34 rfl ?_
      obtain ⟨x3, ex3⟩ : ∃ y : Int32, y = b10_l_4 + 1 := ⟨_, rfl⟩
      have hf := nm_at hf ex3
      refine lv_iinc (v := x3) (lv' := [(4, .int x3), (0, .ref a_q), (1, .int p1), (3, .int b10_l_3)]) hx hb dX5_makeSumRight_35 hl (k := 3) rfl (by rw [ex3]; rfl) (by decide) rfl (fun ls hl => ?_)
      refine lv_goto (tgt := 10) hx hb dX5_makeSumRight_38 (by decide) ?_
      exact ih x3 b10_l_3 o2.2 hf wd hS (lv_sub hl [1, 2, 3, 0] rfl)

set_option maxHeartbeats 4000000 in
set_option maxRecDepth 100000 in
theorem wX5_makeSumRight {p : Program} {l : Launch} {e : Env} {s : State} {m : MethodId} {args : Array Value} {below : List Frame} {meth : Method} {c : Code} {A : Nat → Prop} (D : va_G) (Y : Y4) (C : CX p s m meth c args cX5_makeSumRight 5 none wsX5_makeSumRight RX5) (hA : ∀ q : Nat, s.heap.size ≤ q → A q) (hK : va_K D vwCl (TY Y) s) (F : Nat) (a_q : Nat) (a_qw : Nat) (a_sF : Nat) (q_most : Int32) (q_length : Int32) (q_overfull : Int32) (qw_n : Nat) (c_qw : (Nat → Int32)) (p1 : Int32) (p2 : Int32) (hX : ST [e_sF a_sF] A s) (res : (Nat → Int32)) (hf : fX5_makeSumRight F q_length qw_n c_qw p1 p2 = some res) {H : Heap} {locs : List Loc} {ls : Array Slot} (wd : WD D A [oX8 a_q (.ref a_qw) q_most q_length q_overfull, aI Y a_qw qw_n c_qw] H) (hS : va_S A s.heap H locs) (hl : lv_has ls 5 [(0, .ref a_q), (1, .int p1), (2, .int p2)]) : W p l e { frames := 2, cells := 0, slots := 0, locals := 47 } s m args below meth c H locs 0 0 (MQ below (va_Qv (fun _ : Unit => True) (fun _ t => PST D Y A [oX8 a_q (.ref a_qw) q_most q_length q_overfull, aI Y a_qw qw_n res] t) A) args s 0 0 A) (F0 m 0 ls []) := by
  obtain ⟨hx, hb, hml, hr, hts, hown, hlocks⟩ := id C
  obtain ⟨hZ_sF, hT_sF⟩ := (hX _ (List.mem_of_getElem? (i := 0) rfl)).2
  unfold fX5_makeSumRight at hf
  refine lv_aload_n hx hb dX5_makeSumRight_0 rfl (lv_at hl 0 rfl) ?_
  refine lv_iload_n hx hb dX5_makeSumRight_1 rfl (lv_at hl 1 rfl) ?_
  refine lv_iload_n hx hb dX5_makeSumRight_2 rfl (lv_at hl 2 rfl) ?_
  obtain ⟨o1, ho1, hf⟩ := ob hf
  refine xj_i (va_runS (As := [.ref a_q, .int p1, .int p2]) (rest := []) ⟨hx, hb, hml, hown, hts⟩ (kX5_sumOf l D Y F a_q a_qw a_sF H.size q_most q_length q_overfull qw_n c_qw p1 p2 o1 ho1) (va_cwS 3 hts gX5_makeSumRight_X5_sumOf rfl rfl rfl (by decide +kernel) ⟨Nat.le_of_ble_eq_true rfl, Nat.le_of_ble_eq_true rfl⟩) (pres_wx hK wd [0, 1] rfl (by decide) hA hX (fun q hq => hq) hS) rfl rfl hl.1 rfl (lv_room (Nat.le_of_ble_eq_true rfl)) dX5_makeSumRight_3 ⟨Nat.zero_le _, Nat.zero_le _⟩) wd hS hA [0, 1] [] rfl rfl (by decide) (by decide) (fun H locs wd hS => ?_)
  have wd : WD D A [oX8 a_q (.ref a_qw) q_most q_length q_overfull, aI Y a_qw qw_n c_qw] H := wd
  refine lv_istore_n (lv' := [(3, .int o1), (0, .ref a_q), (1, .int p1), (2, .int p2)]) hx hb dX5_makeSumRight_6 rfl hl (by decide) rfl (fun ls hl => ?_)
  refine lv_iconst (v := 0) hx hb dX5_makeSumRight_7 (by decide) ?_
  refine lv_istore (lv' := [(4, .int 0), (3, .int o1), (0, .ref a_q), (1, .int p1), (2, .int p2)]) hx hb dX5_makeSumRight_8 hl (by decide) rfl (fun ls hl => ?_)
  exact wX5_makeSumRight_b10 D Y C hA hK F a_q a_qw a_sF q_most q_length q_overfull qw_n c_qw p1 p2 hX _ F 0 o1 c_qw hf wd hS (lv_sub hl [2, 3, 1, 0] rfl)
set_option maxHeartbeats 4000000 in
set_option maxRecDepth 100000 in
theorem kX5_makeSumRight (l : Launch) (D : va_G) (Y : Y4) (F : Nat) (a_q : Nat) (a_qw : Nat) (a_sF : Nat) (sz : Nat) (q_most : Int32) (q_length : Int32) (q_overfull : Int32) (qw_n : Nat) (c_qw : (Nat → Int32)) (p1 : Int32) (p2 : Int32) (res : (Nat → Int32)) (hf : fX5_makeSumRight F q_length qw_n c_qw p1 p2 = some res) : Met l yX5_makeSumRight wsX5_makeSumRight ({ frames := 2, cells := 0, slots := 0, locals := 47 }) (va_Pc [.ref a_q, .int p1, .int p2] (PREX D Y [oX8 a_q (.ref a_qw) q_most q_length q_overfull, aI Y a_qw qw_n c_qw] sz [e_sF a_sF])) (va_Qv (fun _ : Unit => True) (fun _ t => PST D Y (va_A [oX8 a_q (.ref a_qw) q_most q_length q_overfull, aI Y a_qw qw_n c_qw] sz) [oX8 a_q (.ref a_qw) q_most q_length q_overfull, aI Y a_qw qw_n res] t) (va_A [oX8 a_q (.ref a_qw) q_most q_length q_overfull, aI Y a_qw qw_n c_qw] sz)) 0 0 (va_A [oX8 a_q (.ref a_qw) q_most q_length q_overfull, aI Y a_qw qw_n c_qw] sz) := by
  refine Met.ofW (cc := cX5_makeSumRight) (maxL := 5) (ret := none) (by decide) rfl ?_
  intro p e s m args below meth c s₁ B hml hv
  obtain ⟨rfl, ⟨rfl, hP, hK, hD0⟩, hX⟩ := hv
  have hl := lv_entry ([.ref a_q, .int p1, .int p2]) (n := 5) (Nat.le_of_ble_eq_true rfl)
  rw [lg_entry_eq]
  exact wX5_makeSumRight D Y ⟨B.exec, B.bytes, hml, B.returns, atoms_spec (ws := wsX5_makeSumRight) B.pre, findClass_of_methodNamed B.named, B.notSynchronized⟩ (fun q h => Or.inr h) hK F a_q a_qw a_sF q_most q_length q_overfull qw_n c_qw p1 p2 hX res hf ⟨hP, hD0.self⟩ va_S.rf hl
