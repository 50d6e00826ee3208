theorem mX2_beginLongElement_0 : Cond.fieldLink RX2 24 "StreamRemuxer$ElementWriter" "target" "LStreamRemuxer$Row;" ∈ wsX2_beginLongElement := List.mem_cons_of_mem _ u_321
theorem mX2_beginLongElement_1 : Cond.fieldLink RX2 34 "StreamRemuxer$ElementWriter" "unknownSizes" "Z" ∈ wsX2_beginLongElement := List.mem_cons_of_mem _ u_324
theorem mX2_beginLongElement_2 : Cond.fieldLink RX2 104 "StreamRemuxer$Row" "length" "I" ∈ wsX2_beginLongElement := List.mem_cons_of_mem _ u_338
theorem iX2_beginLongElement_X2 : ∀ w ∈ wsX20, w ∈ wsX2_beginLongElement := fun w h => List.mem_cons_of_mem _ (inlX2 w h)
theorem iX2_beginLongElement_X8 : ∀ w ∈ wsX80, w ∈ wsX2_beginLongElement := fun w h => List.mem_cons_of_mem _ (inlX8 w h)
set_option maxHeartbeats 4000000 in
set_option maxRecDepth 100000 in
theorem wX2_beginLongElement_b39 {p : Program} {l : Launch} {e : Env} {s : State} {m : MethodId} {args : Array Value} {below : List Frame} {meth : Method} {c : Code} {A : Nat → Prop} (D : va_G) (Y : Y4) (C : CX p s m meth c args cX2_beginLongElement 2 (some .int) wsX2_beginLongElement RX2) (hA : ∀ q : Nat, s.heap.size ≤ q → A q) (hK : va_K D vwCl (TY Y) s) (F : Nat) (a_h : Nat) (a_t : Nat) (a_tw : Nat) (a_hk : Nat) (a_p : Nat) (h_lace : Int32) (h_mostPackets : Int32) (h_unknownSizes : Int32) (t_most : Int32) (t_length : Int32) (t_overfull : Int32) (tw_n : Nat) (c_tw : (Nat → Int32)) (p1 : Int32) (res : Int32 × Int32 × Int32 × (Nat → Int32)) (b39_f_t_2 : Int32) (b39_f_t_3 : Int32) (b39_c_tw : (Nat → Int32)) (hf : fX2_beginLongElement_b39 F b39_f_t_2 b39_f_t_3 b39_c_tw = some res) {H : Heap} {locs : List Loc} {ls : Array Slot} (wd : WD D A [oX2 a_h (.ref a_hk) (.ref a_p) (.ref a_t) h_lace h_mostPackets h_unknownSizes, oX8 a_t (.ref a_tw) t_most b39_f_t_2 b39_f_t_3, aI Y a_tw tw_n b39_c_tw] H) (hS : va_S A s.heap H locs) (hl : lv_has ls 2 [(0, .ref a_h)]) : W p l e { frames := 3, cells := 0, slots := 0, locals := 68 } s m args below meth c H locs 0 0 (MQ below (va_Qi (fun r (_ : Unit) => r = res.1) (fun _ t => PST D Y A [oX2 a_h (.ref a_hk) (.ref a_p) (.ref a_t) h_lace h_mostPackets h_unknownSizes, oX8 a_t (.ref a_tw) t_most res.2.1 res.2.2.1, aI Y a_tw tw_n res.2.2.2] t) A) args s 0 0 A) (F0 m 39 ls []) := by
  obtain ⟨hx, hb, hml, hr, hts, hown, hlocks⟩ := id C
  unfold fX2_beginLongElement_b39 at hf
  refine lv_aload_n hx hb dX2_beginLongElement_39 rfl (lv_at hl 0 rfl) ?_
  refine va_get (D := D) (ci := 1) (v := .ref a_t) (C := RX2) (T := TX2) (N := 6) hx hb hts iX2_beginLongElement_X2 hown hK wd.1 0 rfl rfl 2 (by decide) (hts _ mX2_beginLongElement_0) (fun _ h9 => h9) rfl dX2_beginLongElement_40 ?_
  refine va_get (D := D) (ci := 6) (v := .int b39_f_t_2) (C := RX8) (T := TX8) (N := 4) hx hb hts iX2_beginLongElement_X8 hown hK wd.1 1 rfl rfl 2 (by decide) (hts _ mX2_beginLongElement_2) (fun _ h9 => h9) rfl dX2_beginLongElement_43 ?_
  obtain rfl := Option.some.inj hf
  exact W.iret (v := b39_f_t_2) hx hb hr (fun t ht hW => ⟨⟨_, (), rfl, rfl, WD.pst wd hK ht hW⟩, hS.F ht⟩) hS.2.2 dX2_beginLongElement_46

set_option maxHeartbeats 4000000 in
set_option maxRecDepth 100000 in
theorem wX2_beginLongElement {p : Program} {l : Launch} {e : Env} {s : State} {m : MethodId} {args : Array Value} {below : List Frame} {meth : Method} {c : Code} {A : Nat → Prop} (D : va_G) (Y : Y4) (C : CX p s m meth c args cX2_beginLongElement 2 (some .int) wsX2_beginLongElement RX2) (hA : ∀ q : Nat, s.heap.size ≤ q → A q) (hK : va_K D vwCl (TY Y) s) (F : Nat) (a_h : Nat) (a_t : Nat) (a_tw : Nat) (a_hk : Nat) (a_p : Nat) (h_lace : Int32) (h_mostPackets : Int32) (h_unknownSizes : Int32) (t_most : Int32) (t_length : Int32) (t_overfull : Int32) (tw_n : Nat) (c_tw : (Nat → Int32)) (p1 : Int32) (res : Int32 × Int32 × Int32 × (Nat → Int32)) (hf : fX2_beginLongElement F h_unknownSizes t_most t_length t_overfull tw_n c_tw p1 = some res) {H : Heap} {locs : List Loc} {ls : Array Slot} (wd : WD D A [oX2 a_h (.ref a_hk) (.ref a_p) (.ref a_t) h_lace h_mostPackets h_unknownSizes, oX8 a_t (.ref a_tw) t_most t_length t_overfull, aI Y a_tw tw_n c_tw] H) (hS : va_S A s.heap H locs) (hl : lv_has ls 2 [(0, .ref a_h), (1, .int p1)]) : W p l e { frames := 3, cells := 0, slots := 0, locals := 68 } s m args below meth c H locs 0 0 (MQ below (va_Qi (fun r (_ : Unit) => r = res.1) (fun _ t => PST D Y A [oX2 a_h (.ref a_hk) (.ref a_p) (.ref a_t) h_lace h_mostPackets h_unknownSizes, oX8 a_t (.ref a_tw) t_most res.2.1 res.2.2.1, aI Y a_tw tw_n res.2.2.2] t) A) args s 0 0 A) (F0 m 0 ls []) := by
  obtain ⟨hx, hb, hml, hr, hts, hown, hlocks⟩ := id C
  unfold fX2_beginLongElement at hf
  refine lv_aload_n hx hb dX2_beginLongElement_0 rfl (lv_at hl 0 rfl) ?_
  refine va_get (D := D) (ci := 1) (v := .ref a_t) (C := RX2) (T := TX2) (N := 6) hx hb hts iX2_beginLongElement_X2 hown hK wd.1 0 rfl rfl 2 (by decide) (hts _ mX2_beginLongElement_0) (fun _ h9 => h9) rfl dX2_beginLongElement_1 ?_
  refine lv_iload_n hx hb dX2_beginLongElement_4 rfl (lv_at hl 1 rfl) ?_
  refine lv_i2l (v := (p1.toInt64)) hx hb dX2_beginLongElement_5 rfl ?_
  refine lv_iconst (v := 4) hx hb dX2_beginLongElement_6 (by decide) ?_
  obtain ⟨o1, ho1, hf⟩ := ob hf
  refine xj_v (va_runV (As := [.long (p1.toInt64), .int 4]) (rest := []) ⟨hx, hb, hml, hown, hts⟩ (kX8_addHighFirst l D Y F a_t a_tw H.size t_most t_length t_overfull tw_n c_tw (p1.toInt64) 4 o1 ho1) (cwV 2 hts gX2_beginLongElement_X8_addHighFirst rfl rfl rfl (by decide +kernel) ⟨Nat.le_of_ble_eq_true rfl, Nat.le_of_ble_eq_true rfl⟩) (prev_w (ci := 6) rfl rfl hK wd [1, 2] rfl (by decide)) rfl rfl hl.1 rfl (lv_room (Nat.le_of_ble_eq_true rfl)) dX2_beginLongElement_7 ⟨Nat.zero_le _, Nat.zero_le _⟩) wd hS hA [1, 2] [0] rfl rfl (by decide) (by decide) (fun H locs wd hS => ?_)
  have wd : WD D A [oX2 a_h (.ref a_hk) (.ref a_p) (.ref a_t) h_lace h_mostPackets h_unknownSizes, oX8 a_t (.ref a_tw) t_most o1.1 o1.2.1, aI Y a_tw tw_n o1.2.2] H := wd
  refine lv_aload_n hx hb dX2_beginLongElement_10 rfl (lv_at hl 0 rfl) ?_
  refine va_get (D := D) (ci := 1) (v := .int h_unknownSizes) (C := RX2) (T := TX2) (N := 6) hx hb hts iX2_beginLongElement_X2 hown hK wd.1 0 rfl rfl 5 (by decide) (hts _ mX2_beginLongElement_1) (fun _ h9 => h9) rfl dX2_beginLongElement_11 ?_
  refine lv_if_eq (tgt := 30) hx hb dX2_beginLongElement_14 (by decide) (fun q2 => ?_) (fun q2 => ?_)
  · have hf := ip hf q2
    refine lv_aload_n hx hb dX2_beginLongElement_30 rfl (lv_at hl 0 rfl) ?_
    refine va_get (D := D) (ci := 1) (v := .ref a_t) (C := RX2) (T := TX2) (N := 6) hx hb hts iX2_beginLongElement_X2 hown hK wd.1 0 rfl rfl 2 (by decide) (hts _ mX2_beginLongElement_0) (fun _ h9 => h9) rfl dX2_beginLongElement_31 ?_
    refine lv_lconst (v := 0) hx hb dX2_beginLongElement_34 (by decide) ?_
    refine lv_iconst (v := 4) hx hb dX2_beginLongElement_35 (by decide) ?_
    obtain ⟨o3, ho3, hf⟩ := ob hf
    refine xj_v (va_runV (As := [.long 0, .int 4]) (rest := []) ⟨hx, hb, hml, hown, hts⟩ (kX8_addHighFirst l D Y F a_t a_tw H.size t_most o1.1 o1.2.1 tw_n o1.2.2 0 4 o3 ho3) (cwV 2 hts gX2_beginLongElement_X8_addHighFirst rfl rfl rfl (by decide +kernel) ⟨Nat.le_of_ble_eq_true rfl, Nat.le_of_ble_eq_true rfl⟩) (prev_w (ci := 6) rfl rfl hK wd [1, 2] rfl (by decide)) rfl rfl hl.1 rfl (lv_room (Nat.le_of_ble_eq_true rfl)) dX2_beginLongElement_36 ⟨Nat.zero_le _, Nat.zero_le _⟩) wd hS hA [1, 2] [0] rfl rfl (by decide) (by decide) (fun H locs wd hS => ?_)
    have wd : WD D A [oX2 a_h (.ref a_hk) (.ref a_p) (.ref a_t) h_lace h_mostPackets h_unknownSizes, oX8 a_t (.ref a_tw) t_most o3.1 o3.2.1, aI Y a_tw tw_n o3.2.2] H := wd
    exact wX2_beginLongElement_b39 D Y C hA hK F a_h a_t a_tw a_hk a_p h_lace h_mostPackets h_unknownSizes t_most t_length t_overfull tw_n c_tw p1 _ o3.1 o3.2.1 o3.2.2 hf wd hS (lv_sub hl [0] rfl)
  · have hf := ie hf q2
    refine lv_aload_n hx hb dX2_beginLongElement_17 rfl (lv_at hl 0 rfl) ?_
    refine va_get (D := D) (ci := 1) (v := .ref a_t) (C := RX2) (T := TX2) (N := 6) hx hb hts iX2_beginLongElement_X2 hown hK wd.1 0 rfl rfl 2 (by decide) (hts _ mX2_beginLongElement_0) (fun _ h9 => h9) rfl dX2_beginLongElement_18 ?_
    refine lv_sipush (v := 255) hx hb dX2_beginLongElement_21 (by decide) ?_
    obtain ⟨o4, ho4, hf⟩ := ob hf
    refine xj_v (va_runV (As := [.int 255]) (rest := []) ⟨hx, hb, hml, hown, hts⟩ (kX8_add l D Y F a_t a_tw H.size t_most o1.1 o1.2.1 tw_n o1.2.2 255 o4 ho4) (cwV 1 hts gX2_beginLongElement_X8_add rfl rfl rfl (by decide +kernel) ⟨Nat.le_of_ble_eq_true rfl, Nat.le_of_ble_eq_true rfl⟩) (prev_w (ci := 6) rfl rfl hK wd [1, 2] rfl (by decide)) rfl rfl hl.1 rfl (lv_room (Nat.le_of_ble_eq_true rfl)) dX2_beginLongElement_24 ⟨Nat.zero_le _, Nat.zero_le _⟩) wd hS hA [1, 2] [0] rfl rfl (by decide) (by decide) (fun H locs wd hS => ?_)
    have wd : WD D A [oX2 a_h (.ref a_hk) (.ref a_p) (.ref a_t) h_lace h_mostPackets h_unknownSizes, oX8 a_t (.ref a_tw) t_most o4.1 o4.2.1, aI Y a_tw tw_n o4.2.2] H := wd
    refine lv_goto (tgt := 39) hx hb dX2_beginLongElement_27 (by decide) ?_
    exact wX2_beginLongElement_b39 D Y C hA hK F a_h a_t a_tw a_hk a_p h_lace h_mostPackets h_unknownSizes t_most t_length t_overfull tw_n c_tw p1 _ o4.1 o4.2.1 o4.2.2 hf wd hS (lv_sub hl [0] rfl)
set_option maxHeartbeats 4000000 in
set_option maxRecDepth 100000 in
theorem kX2_beginLongElement (l : Launch) (D : va_G) (Y : Y4) (F : Nat) (a_h : Nat) (a_t : Nat) (a_tw : Nat) (a_hk : Nat) (a_p : Nat) (sz : Nat) (h_lace : Int32) (h_mostPackets : Int32) (h_unknownSizes : Int32) (t_most : Int32) (t_length : Int32) (t_overfull : Int32) (tw_n : Nat) (c_tw : (Nat → Int32)) (p1 : Int32) (res : Int32 × Int32 × Int32 × (Nat → Int32)) (hf : fX2_beginLongElement F h_unknownSizes t_most t_length t_overfull tw_n c_tw p1 = some res) : Met l yX2_beginLongElement wsX2_beginLongElement ({ frames := 3, cells := 0, slots := 0, locals := 68 }) (va_Pc [.ref a_h, .int p1] (PRE D Y [oX2 a_h (.ref a_hk) (.ref a_p) (.ref a_t) h_lace h_mostPackets h_unknownSizes, oX8 a_t (.ref a_tw) t_most t_length t_overfull, aI Y a_tw tw_n c_tw] sz)) (va_Qi (fun r (_ : Unit) => r = res.1) (fun _ t => PST D Y (va_A [oX2 a_h (.ref a_hk) (.ref a_p) (.ref a_t) h_lace h_mostPackets h_unknownSizes, oX8 a_t (.ref a_tw) t_most t_length t_overfull, aI Y a_tw tw_n c_tw] sz) [oX2 a_h (.ref a_hk) (.ref a_p) (.ref a_t) h_lace h_mostPackets h_unknownSizes, oX8 a_t (.ref a_tw) t_most res.2.1 res.2.2.1, aI Y a_tw tw_n res.2.2.2] t) (va_A [oX2 a_h (.ref a_hk) (.ref a_p) (.ref a_t) h_lace h_mostPackets h_unknownSizes, oX8 a_t (.ref a_tw) t_most t_length t_overfull, aI Y a_tw tw_n c_tw] sz)) 0 0 (va_A [oX2 a_h (.ref a_hk) (.ref a_p) (.ref a_t) h_lace h_mostPackets h_unknownSizes, oX8 a_t (.ref a_tw) t_most t_length t_overfull, aI Y a_tw tw_n c_tw] sz) := by
  refine Met.ofW (cc := cX2_beginLongElement) (maxL := 2) (ret := (some .int)) (by decide) rfl ?_
  intro p e s m args below meth c s₁ B hml hv
  obtain ⟨rfl, rfl, hP, hK, hD0⟩ := hv
  have hl := lv_entry ([.ref a_h, .int p1]) (n := 2) (Nat.le_of_ble_eq_true rfl)
  rw [lg_entry_eq]
  exact wX2_beginLongElement D Y ⟨B.exec, B.bytes, hml, B.returns, atoms_spec (ws := wsX2_beginLongElement) B.pre, findClass_of_methodNamed B.named, B.notSynchronized⟩ (fun q h => Or.inr h) hK F a_h a_t a_tw a_hk a_p h_lace h_mostPackets h_unknownSizes t_most t_length t_overfull tw_n c_tw p1 res hf ⟨hP, hD0.self⟩ va_S.rf hl
theorem mX2_fitsBlock_0 : Cond.constantLong RX2 96 (-32768) ∈ wsX2_fitsBlock := List.mem_cons_of_mem _ u_351
theorem mX2_fitsBlock_1 : Cond.constantLong RX2 98 (32767) ∈ wsX2_fitsBlock := List.mem_cons_of_mem _ u_352
set_option maxHeartbeats 4000000 in
set_option maxRecDepth 100000 in
theorem wX2_fitsBlock_b21 {p : Program} {l : Launch} {e : Env} {s : State} {m : MethodId} {args : Array Value} {below : List Frame} {meth : Method} {c : Code} {A : Nat → Prop} (D : va_G) (Y : Y4) (C : CX p s m meth c args cX2_fitsBlock 2 (some .boolean) wsX2_fitsBlock RX2) (hA : ∀ q : Nat, s.heap.size ≤ q → A q) (hK : va_K D vwCl (TY Y) s) (F : Nat) (p0 : Int64) (res : Int32) (b21_s_0 : Int32) (hf : fX2_fitsBlock_b21 F b21_s_0 = some res) {H : Heap} {locs : List Loc} {ls : Array Slot} (wd : WD D A [] H) (hS : va_S A s.heap H locs) (hl : lv_has ls 2 []) : W p l e { frames := 0, cells := 0, slots := 0, locals := 0 } s m args below meth c H locs 0 0 (MQ below (va_Qi (fun r (_ : Unit) => r = res) (fun _ t => PST D Y A [] t) A) args s 0 0 A) (F0 m 21 ls [.int b21_s_0]) := by
  obtain ⟨hx, hb, hml, hr, hts, hown, hlocks⟩ := id C
  unfold fX2_fitsBlock_b21 at hf
  obtain ⟨hz1, hf⟩ := gd hf
  obtain rfl := Option.some.inj hf
  exact W.zret (v := b21_s_0) hx hb hr (isb_nar hz1) (fun t ht hW => ⟨⟨_, (), rfl, rfl, WD.pst wd hK ht hW⟩, hS.F ht⟩) hS.2.2 dX2_fitsBlock_21

set_option maxHeartbeats 4000000 in
set_option maxRecDepth 100000 in
theorem wX2_fitsBlock {p : Program} {l : Launch} {e : Env} {s : State} {m : MethodId} {args : Array Value} {below : List Frame} {meth : Method} {c : Code} {A : Nat → Prop} (D : va_G) (Y : Y4) (C : CX p s m meth c args cX2_fitsBlock 2 (some .boolean) wsX2_fitsBlock RX2) (hA : ∀ q : Nat, s.heap.size ≤ q → A q) (hK : va_K D vwCl (TY Y) s) (F : Nat) (p0 : Int64) (res : Int32) (hf : fX2_fitsBlock F p0 = some res) {H : Heap} {locs : List Loc} {ls : Array Slot} (wd : WD D A [] H) (hS : va_S A s.heap H locs) (hl : lv_has ls 2 [(0, .long p0)]) : W p l e { frames := 0, cells := 0, slots := 0, locals := 0 } s m args below meth c H locs 0 0 (MQ below (va_Qi (fun r (_ : Unit) => r = res) (fun _ t => PST D Y A [] t) A) args s 0 0 A) (F0 m 0 ls []) := by
  obtain ⟨hx, hb, hml, hr, hts, hown, hlocks⟩ := id C
  unfold fX2_fitsBlock at hf
  refine lv_lload_n hx hb dX2_fitsBlock_0 rfl (lv_at hl 0 rfl) ?_
  refine lv_ldc2 hx hb hown (hts _ mX2_fitsBlock_0) dX2_fitsBlock_1 ?_
  refine xl_lt (tgt := 20) hx hb dX2_fitsBlock_4 dX2_fitsBlock_5 (by decide) (fun q1 => ?_) (fun q1 => ?_)
  · have hf := ip hf q1
    refine lv_iconst (v := 0) hx hb dX2_fitsBlock_20 (by decide) ?_
    exact wX2_fitsBlock_b21 D Y C hA hK F  p0 _ 0 hf wd hS (lv_sub hl [] rfl)
  · have hf := ie hf q1
    refine lv_lload_n hx hb dX2_fitsBlock_8 rfl (lv_at hl 0 rfl) ?_
    refine lv_ldc2 hx hb hown (hts _ mX2_fitsBlock_1) dX2_fitsBlock_9 ?_
    refine xl_gt (tgt := 20) hx hb dX2_fitsBlock_12 dX2_fitsBlock_13 (by decide) (fun q2 => ?_) (fun q2 => ?_)
    · have hf := ip hf q2
      refine lv_iconst (v := 0) hx hb dX2_fitsBlock_20 (by decide) ?_
      exact wX2_fitsBlock_b21 D Y C hA hK F  p0 _ 0 hf wd hS (lv_sub hl [] rfl)
    · have hf := ie hf q2
      refine lv_iconst (v := 1) hx hb dX2_fitsBlock_16 (by decide) ?_
      refine lv_goto (tgt := 21) hx hb dX2_fitsBlock_17 (by decide) ?_
      exact wX2_fitsBlock_b21 D Y C hA hK F  p0 _ 1 hf wd hS (lv_sub hl [] rfl)
set_option maxHeartbeats 4000000 in
set_option maxRecDepth 100000 in
theorem kX2_fitsBlock (l : Launch) (D : va_G) (Y : Y4) (F : Nat) (sz : Nat) (p0 : Int64) (res : Int32) (hf : fX2_fitsBlock F p0 = some res) : Met l yX2_fitsBlock wsX2_fitsBlock ({ frames := 0, cells := 0, slots := 0, locals := 0 }) (va_Pc [.long p0] (PRE D Y [] sz)) (va_Qi (fun r (_ : Unit) => r = res) (fun _ t => PST D Y (va_A [] sz) [] t) (va_A [] sz)) 0 0 (va_A [] sz) := by
  refine Met.ofW (cc := cX2_fitsBlock) (maxL := 2) (ret := (some .boolean)) (by decide) rfl ?_
  intro p e s m args below meth c s₁ B hml hv
  obtain ⟨rfl, rfl, hP, hK, hD0⟩ := hv
  have hl := lv_entry ([.long p0]) (n := 2) (Nat.le_of_ble_eq_true rfl)
  rw [lg_entry_eq]
  exact wX2_fitsBlock D Y ⟨B.exec, B.bytes, hml, B.returns, atoms_spec (ws := wsX2_fitsBlock) B.pre, findClass_of_methodNamed B.named, B.notSynchronized⟩ (fun q h => Or.inr h) hK F p0 res hf ⟨hP, hD0.self⟩ va_S.rf hl
theorem mX2_endLongElement_0 : Cond.fieldLink RX2 34 "StreamRemuxer$ElementWriter" "unknownSizes" "Z" ∈ wsX2_endLongElement := List.mem_cons_of_mem _ u_324
theorem mX2_endLongElement_1 : Cond.constant RX2 107 (268435456) ∈ wsX2_endLongElement := List.mem_cons_of_mem _ u_357
theorem mX2_endLongElement_2 : Cond.fieldLink RX2 24 "StreamRemuxer$ElementWriter" "target" "LStreamRemuxer$Row;" ∈ wsX2_endLongElement := List.mem_cons_of_mem _ u_321
theorem mX2_endLongElement_3 : Cond.fieldLink RX2 104 "StreamRemuxer$Row" "length" "I" ∈ wsX2_endLongElement := List.mem_cons_of_mem _ u_338
theorem iX2_endLongElement_X2 : ∀ w ∈ wsX20, w ∈ wsX2_endLongElement := fun w h => List.mem_cons_of_mem _ (inlX2 w h)
theorem iX2_endLongElement_X8 : ∀ w ∈ wsX80, w ∈ wsX2_endLongElement := fun w h => List.mem_cons_of_mem _ (inlX8 w h)
set_option maxHeartbeats 4000000 in
set_option maxRecDepth 100000 in
theorem wX2_endLongElement_b28 {p : Program} {l : Launch} {e : Env} {s : State} {m : MethodId} {args : Array Value} {below : List Frame} {meth : Method} {c : Code} {A : Nat → Prop} (D : va_G) (Y : Y4) (C : CX p s m meth c args cX2_endLongElement 4 none wsX2_endLongElement RX2) (hA : ∀ q : Nat, s.heap.size ≤ q → A q) (hK : va_K D vwCl (TY Y) s) (F : Nat) (a_h : Nat) (a_t : Nat) (a_tw : Nat) (a_hk : Nat) (a_p : Nat) (h_lace : Int32) (h_mostPackets : Int32) (h_unknownSizes : Int32) (t_most : Int32) (t_length : Int32) (t_overfull : Int32) (tw_n : Nat) (c_tw : (Nat → Int32)) (p1 : Int32) (res : (Nat → Int32)) : ∀ (n : Nat) (b28_l_3 : Int32) (b28_l_2 : Int32) (b28_c_tw : (Nat → Int32)), fX2_endLongElement_b28 F t_length tw_n p1 n b28_l_3 b28_l_2 b28_c_tw = some res → ∀ {H : Heap} {locs : List Loc} {ls : Array Slot}, WD D A [oX2 a_h (.ref a_hk) (.ref a_p) (.ref a_t) h_lace h_mostPackets h_unknownSizes, oX8 a_t (.ref a_tw) t_most t_length t_overfull, aI Y a_tw tw_n b28_c_tw] H → va_S A s.heap H locs → lv_has ls 4 [(0, .ref a_h), (1, .int p1), (2, .int b28_l_2), (3, .int b28_l_3)] → W p l e { frames := 1, cells := 0, slots := 0, locals := 23 } s m args below meth c H locs 0 0 (MQ below (va_Qv (fun _ : Unit => True) (fun _ t => PST D Y A [oX2 a_h (.ref a_hk) (.ref a_p) (.ref a_t) h_lace h_mostPackets h_unknownSizes, oX8 a_t (.ref a_tw) t_most t_length t_overfull, aI Y a_tw tw_n res] t) A) args s 0 0 A) (F0 m 28 ls []) := by
  obtain ⟨hx, hb, hml, hr, hts, hown, hlocks⟩ := id C
  intro n
  induction n with
  | zero => intro b28_l_3 b28_l_2 b28_c_tw hf; exact absurd hf (by simp [fX2_endLongElement_b28])
  | succ n ih =>
    intro b28_l_3 b28_l_2 b28_c_tw hf H locs ls wd hS hl
    unfold fX2_endLongElement_b28 at hf
    refine lv_iload_n hx hb dX2_endLongElement_28 rfl (lv_at hl 3 rfl) ?_
    refine lv_iconst (v := 4) hx hb dX2_endLongElement_29 (by decide) ?_
    refine lv_icmp_ge (tgt := 58) hx hb dX2_endLongElement_30 (by decide) (fun q1 => ?_) (fun q1 => ?_)
    · have hf := ip hf q1
      obtain rfl := Option.some.inj hf
      exact W.vret hx hb hr (fun t ht hW => ⟨⟨(), rfl, trivial, WD.pst wd hK ht hW⟩, hS.F ht⟩) hS.2.2 dX2_endLongElement_58
    · have hf := ie hf q1
      refine lv_aload_n hx hb dX2_endLongElement_33 rfl (lv_at hl 0 rfl) ?_
      refine va_get (D := D) (ci := 1) (v := .ref a_t) (C := RX2) (T := TX2) (N := 6) hx hb hts iX2_endLongElement_X2 hown hK wd.1 0 rfl rfl 2 (by decide) (hts _ mX2_endLongElement_2) (fun _ h9 => h9) rfl dX2_endLongElement_34 ?_
      refine lv_iload_n hx hb dX2_endLongElement_37 rfl (lv_at hl 1 rfl) ?_
      refine lv_iconst (v := 1) hx hb dX2_endLongElement_38 (by decide) ?_
      refine lv_isub hx hb dX2_endLongElement_39 ?_
      refine lv_iload_n hx hb dX2_endLongElement_40 rfl (lv_at hl 3 rfl) ?_
      refine lv_isub hx hb dX2_endLongElement_41 ?_
      refine lv_iload_n hx hb dX2_endLongElement_42 rfl (lv_at hl 2 rfl) ?_
      refine lv_bipush (v := 8) hx hb dX2_endLongElement_43 (by decide) ?_
      refine lv_iload_n hx hb dX2_endLongElement_45 rfl (lv_at hl 3 rfl) ?_
      refine lv_imul hx hb dX2_endLongElement_46 ?_
      refine lv_iushr (v := (ushr32 b28_l_2 ((8 : Int32) * b28_l_3))) hx hb dX2_endLongElement_47 rfl ?_
      obtain ⟨o2, ho2, hf⟩ := ob hf
      refine xj_i (va_runV (As := [.int ((p1 - 1) - b28_l_3), .int (ushr32 b28_l_2 ((8 : Int32) * b28_l_3))]) (rest := []) ⟨hx, hb, hml, hown, hts⟩ (kX8_change l D Y F a_t a_tw H.size t_most t_length t_overfull tw_n b28_c_tw ((p1 - 1) - b28_l_3) (ushr32 b28_l_2 ((8 : Int32) * b28_l_3)) o2 ho2) (cwV 2 hts gX2_endLongElement_X8_change rfl rfl rfl (by decide +kernel) ⟨Nat.le_of_ble_eq_true rfl, Nat.le_of_ble_eq_true rfl⟩) (prev_w (ci := 6) rfl rfl hK wd [1, 2] rfl (by decide)) rfl rfl hl.1 rfl (lv_room (Nat.le_of_ble_eq_true rfl)) dX2_endLongElement_48 ⟨Nat.zero_le _, Nat.zero_le _⟩) wd hS hA [1, 2] [0] rfl rfl (by decide) (by decide) (fun H locs wd hS => ?_)
      have wd : WD D A [oX2 a_h (.ref a_hk) (.ref a_p) (.ref a_t) h_lace h_mostPackets h_unknownSizes, oX8 a_t (.ref a_tw) t_most t_length t_overfull, aI Y a_tw tw_n o2.2] H := wd
      refine lv_pop hx hb dX2_endLongElement_51 rfl ?_
      obtain ⟨x3, ex3⟩ : ∃ y : Int32, y = b28_l_3 + 1 := ⟨_, rfl⟩
      have hf := nm_at hf ex3
      refine lv_iinc (v := x3) (lv' := [(3, .int x3), (0, .ref a_h), (1, .int p1), (2, .int b28_l_2)]) hx hb dX2_endLongElement_52 hl (k := 3) rfl (by rw [ex3]; rfl) (by decide) rfl (fun ls hl => ?_)
      refine lv_goto (tgt := 28) hx hb dX2_endLongElement_55 (by decide) ?_
      exact ih x3 b28_l_2 o2.2 hf wd hS (lv_sub hl [1, 2, 3, 0] rfl)

set_option maxHeartbeats 4000000 in
set_option maxRecDepth 100000 in
theorem wX2_endLongElement {p : Program} {l : Launch} {e : Env} {s : State} {m : MethodId} {args : Array Value} {below : List Frame} {meth : Method} {c : Code} {A : Nat → Prop} (D : va_G) (Y : Y4) (C : CX p s m meth c args cX2_endLongElement 4 none wsX2_endLongElement RX2) (hA : ∀ q : Nat, s.heap.size ≤ q → A q) (hK : va_K D vwCl (TY Y) s) (F : Nat) (a_h : Nat) (a_t : Nat) (a_tw : Nat) (a_hk : Nat) (a_p : Nat) (h_lace : Int32) (h_mostPackets : Int32) (h_unknownSizes : Int32) (t_most : Int32) (t_length : Int32) (t_overfull : Int32) (tw_n : Nat) (c_tw : (Nat → Int32)) (p1 : Int32) (res : (Nat → Int32)) (hf : fX2_endLongElement F h_unknownSizes t_length tw_n c_tw p1 = some res) {H : Heap} {locs : List Loc} {ls : Array Slot} (wd : WD D A [oX2 a_h (.ref a_hk) (.ref a_p) (.ref a_t) h_lace h_mostPackets h_unknownSizes, oX8 a_t (.ref a_tw) t_most t_length t_overfull, aI Y a_tw tw_n c_tw] H) (hS : va_S A s.heap H locs) (hl : lv_has ls 4 [(0, .ref a_h), (1, .int p1)]) : W p l e { frames := 1, cells := 0, slots := 0, locals := 23 } s m args below meth c H locs 0 0 (MQ below (va_Qv (fun _ : Unit => True) (fun _ t => PST D Y A [oX2 a_h (.ref a_hk) (.ref a_p) (.ref a_t) h_lace h_mostPackets h_unknownSizes, oX8 a_t (.ref a_tw) t_most t_length t_overfull, aI Y a_tw tw_n res] t) A) args s 0 0 A) (F0 m 0 ls []) := by
  obtain ⟨hx, hb, hml, hr, hts, hown, hlocks⟩ := id C
  unfold fX2_endLongElement at hf
  refine lv_iload_n hx hb dX2_endLongElement_0 rfl (lv_at hl 1 rfl) ?_
  refine lv_iconst (v := (-1)) hx hb dX2_endLongElement_1 (by decide) ?_
  refine lv_icmp_eq (tgt := 12) hx hb dX2_endLongElement_2 (by decide) (fun q1 => ?_) (fun q1 => ?_)
  · have hf := ip hf q1
    obtain rfl := Option.some.inj hf
    exact W.vret hx hb hr (fun t ht hW => ⟨⟨(), rfl, trivial, WD.pst wd hK ht hW⟩, hS.F ht⟩) hS.2.2 dX2_endLongElement_12
  · have hf := ie hf q1
    refine lv_aload_n hx hb dX2_endLongElement_5 rfl (lv_at hl 0 rfl) ?_
    refine va_get (D := D) (ci := 1) (v := .int h_unknownSizes) (C := RX2) (T := TX2) (N := 6) hx hb hts iX2_endLongElement_X2 hown hK wd.1 0 rfl rfl 5 (by decide) (hts _ mX2_endLongElement_0) (fun _ h9 => h9) rfl dX2_endLongElement_6 ?_
    refine lv_if_eq (tgt := 13) hx hb dX2_endLongElement_9 (by decide) (fun q2 => ?_) (fun q2 => ?_)
    · have hf := ip hf q2
      refine lv_ldc hx hb hown (hts _ mX2_endLongElement_1) dX2_endLongElement_13 ?_
      refine lv_aload_n hx hb dX2_endLongElement_15 rfl (lv_at hl 0 rfl) ?_
      refine va_get (D := D) (ci := 1) (v := .ref a_t) (C := RX2) (T := TX2) (N := 6) hx hb hts iX2_endLongElement_X2 hown hK wd.1 0 rfl rfl 2 (by decide) (hts _ mX2_endLongElement_2) (fun _ h9 => h9) rfl dX2_endLongElement_16 ?_
      refine va_get (D := D) (ci := 6) (v := .int t_length) (C := RX8) (T := TX8) (N := 4) hx hb hts iX2_endLongElement_X8 hown hK wd.1 1 rfl rfl 2 (by decide) (hts _ mX2_endLongElement_3) (fun _ h9 => h9) rfl dX2_endLongElement_19 ?_
      refine lv_iload_n hx hb dX2_endLongElement_22 rfl (lv_at hl 1 rfl) ?_
      refine lv_isub hx hb dX2_endLongElement_23 ?_
      refine lv_ior hx hb dX2_endLongElement_24 ?_
      refine lv_topi (fun x3 ex3 => ?_)
      have hf := nm_at hf ex3
      refine lv_istore_n (lv' := [(2, .int x3), (0, .ref a_h), (1, .int p1)]) hx hb dX2_endLongElement_25 rfl hl (by decide) rfl (fun ls hl => ?_)
      refine lv_iconst (v := 0) hx hb dX2_endLongElement_26 (by decide) ?_
      refine lv_istore_n (lv' := [(3, .int 0), (2, .int x3), (0, .ref a_h), (1, .int p1)]) hx hb dX2_endLongElement_27 rfl hl (by decide) rfl (fun ls hl => ?_)
      exact wX2_endLongElement_b28 D Y C hA hK F a_h a_t a_tw a_hk a_p h_lace h_mostPackets h_unknownSizes t_most t_length t_overfull tw_n c_tw p1 _ F 0 x3 c_tw hf wd hS (lv_sub hl [2, 3, 1, 0] rfl)
    · have hf := ie hf q2
      obtain rfl := Option.some.inj hf
      exact W.vret hx hb hr (fun t ht hW => ⟨⟨(), rfl, trivial, WD.pst wd hK ht hW⟩, hS.F ht⟩) hS.2.2 dX2_endLongElement_12
set_option maxHeartbeats 4000000 in
set_option maxRecDepth 100000 in
theorem kX2_endLongElement (l : Launch) (D : va_G) (Y : Y4) (F : Nat) (a_h : Nat) (a_t : Nat) (a_tw : Nat) (a_hk : Nat) (a_p : Nat) (sz : Nat) (h_lace : Int32) (h_mostPackets : Int32) (h_unknownSizes : Int32) (t_most : Int32) (t_length : Int32) (t_overfull : Int32) (tw_n : Nat) (c_tw : (Nat → Int32)) (p1 : Int32) (res : (Nat → Int32)) (hf : fX2_endLongElement F h_unknownSizes t_length tw_n c_tw p1 = some res) : Met l yX2_endLongElement wsX2_endLongElement ({ frames := 1, cells := 0, slots := 0, locals := 23 }) (va_Pc [.ref a_h, .int p1] (PRE D Y [oX2 a_h (.ref a_hk) (.ref a_p) (.ref a_t) h_lace h_mostPackets h_unknownSizes, oX8 a_t (.ref a_tw) t_most t_length t_overfull, aI Y a_tw tw_n c_tw] sz)) (va_Qv (fun _ : Unit => True) (fun _ t => PST D Y (va_A [oX2 a_h (.ref a_hk) (.ref a_p) (.ref a_t) h_lace h_mostPackets h_unknownSizes, oX8 a_t (.ref a_tw) t_most t_length t_overfull, aI Y a_tw tw_n c_tw] sz) [oX2 a_h (.ref a_hk) (.ref a_p) (.ref a_t) h_lace h_mostPackets h_unknownSizes, oX8 a_t (.ref a_tw) t_most t_length t_overfull, aI Y a_tw tw_n res] t) (va_A [oX2 a_h (.ref a_hk) (.ref a_p) (.ref a_t) h_lace h_mostPackets h_unknownSizes, oX8 a_t (.ref a_tw) t_most t_length t_overfull, aI Y a_tw tw_n c_tw] sz)) 0 0 (va_A [oX2 a_h (.ref a_hk) (.ref a_p) (.ref a_t) h_lace h_mostPackets h_unknownSizes, oX8 a_t (.ref a_tw) t_most t_length t_overfull, aI Y a_tw tw_n c_tw] sz) := by
  refine Met.ofW (cc := cX2_endLongElement) (maxL := 4) (ret := none) (by decide) rfl ?_
  intro p e s m args below meth c s₁ B hml hv
  obtain ⟨rfl, rfl, hP, hK, hD0⟩ := hv
  have hl := lv_entry ([.ref a_h, .int p1]) (n := 4) (Nat.le_of_ble_eq_true rfl)
  rw [lg_entry_eq]
  exact wX2_endLongElement D Y ⟨B.exec, B.bytes, hml, B.returns, atoms_spec (ws := wsX2_endLongElement) B.pre, findClass_of_methodNamed B.named, B.notSynchronized⟩ (fun q h => Or.inr h) hK F a_h a_t a_tw a_hk a_p h_lace h_mostPackets h_unknownSizes t_most t_length t_overfull tw_n c_tw p1 res hf ⟨hP, hD0.self⟩ va_S.rf hl

set_option maxHeartbeats 4000000 in
set_option maxRecDepth 100000 in
theorem wX2_putSize_b23 {p : Program} {l : Launch} {e : Env} {s : State} {m : MethodId} {args : Array Value} {below : List Frame} {meth : Method} {c : Code} {A : Nat → Prop} (D : va_G) (Y : Y4) (C : CX p s m meth c args cX2_putSize 4 none wsX2_putSize RX2) (hA : ∀ q : Nat, s.heap.size ≤ q → A q) (hK : va_K D vwCl (TY Y) s) (F : Nat) (a_q : Nat) (a_qw : Nat) (q_most : Int32) (q_length : Int32) (q_overfull : Int32) (qw_n : Nat) (c_qw : (Nat → Int32)) (p1 : Int64) (res : Int32 × Int32 × (Nat → Int32)) (b23_l_3 : Int32) (hf : fX2_putSize_b23 F q_most q_length q_overfull qw_n c_qw p1 b23_l_3 = some res) {H : Heap} {locs : List Loc} {ls : Array Slot} (wd : WD D A [oX8 a_q (.ref a_qw) q_most q_length q_overfull, aI Y a_qw qw_n c_qw] H) (hS : va_S A s.heap H locs) (hl : lv_has ls 4 [(0, .ref a_q), (1, .long p1), (3, .int b23_l_3)]) : W p l e { frames := 3, cells := 0, slots := 0, locals := 68 } s m args below meth c H locs 0 0 (MQ below (va_Qv (fun _ : Unit => True) (fun _ t => PST D Y A [oX8 a_q (.ref a_qw) q_most res.1 res.2.1, aI Y a_qw qw_n res.2.2] t) A) args s 0 0 A) (F0 m 23 ls []) := by
  obtain ⟨hx, hb, hml, hr, hts, hown, hlocks⟩ := id C
  unfold fX2_putSize_b23 at hf
  refine lv_aload_n hx hb dX2_putSize_23 rfl (lv_at hl 0 rfl) ?_
  refine lv_lconst (v := 1) hx hb dX2_putSize_24 (by decide) ?_
  refine lv_bipush (v := 7) hx hb dX2_putSize_25 (by decide) ?_
  refine lv_iload_n hx hb dX2_putSize_27 rfl (lv_at hl 2 rfl) ?_
  refine lv_imul hx hb dX2_putSize_28 ?_
  refine lv_lshl (v := (shl64 1 ((7 : Int32) * b23_l_3))) hx hb dX2_putSize_29 rfl ?_
  refine lv_lload_n hx hb dX2_putSize_30 rfl (lv_at hl 1 rfl) ?_
  refine lv_lor hx hb dX2_putSize_31 ?_
  refine lv_iload_n hx hb dX2_putSize_32 rfl (lv_at hl 2 rfl) ?_
  obtain ⟨o1, ho1, hf⟩ := ob hf
  refine xj_v (va_runV (As := [.long ((shl64 1 ((7 : Int32) * b23_l_3)) ||| p1), .int b23_l_3]) (rest := []) ⟨hx, hb, hml, hown, hts⟩ (kX8_addHighFirst l D Y F a_q a_qw H.size q_most q_length q_overfull qw_n c_qw ((shl64 1 ((7 : Int32) * b23_l_3)) ||| p1) b23_l_3 o1 ho1) (cwV 2 hts gX2_putSize_X8_addHighFirst rfl rfl rfl (by decide +kernel) ⟨Nat.le_of_ble_eq_true rfl, Nat.le_of_ble_eq_true rfl⟩) (prev_w (ci := 6) rfl rfl hK wd [0, 1] rfl (by decide)) rfl rfl hl.1 rfl (lv_room (Nat.le_of_ble_eq_true rfl)) dX2_putSize_33 ⟨Nat.zero_le _, Nat.zero_le _⟩) wd hS hA [0, 1] [] rfl rfl (by decide) (by decide) (fun H locs wd hS => ?_)
  have wd : WD D A [oX8 a_q (.ref a_qw) q_most o1.1 o1.2.1, aI Y a_qw qw_n o1.2.2] H := wd
  obtain rfl := Option.some.inj hf
  exact W.vret hx hb hr (fun t ht hW => ⟨⟨(), rfl, trivial, WD.pst wd hK ht hW⟩, hS.F ht⟩) hS.2.2 dX2_putSize_36

set_option maxHeartbeats 4000000 in
set_option maxRecDepth 100000 in
theorem wX2_putSize_b2 {p : Program} {l : Launch} {e : Env} {s : State} {m : MethodId} {args : Array Value} {below : List Frame} {meth : Method} {c : Code} {A : Nat → Prop} (D : va_G) (Y : Y4) (C : CX p s m meth c args cX2_putSize 4 none wsX2_putSize RX2) (hA : ∀ q : Nat, s.heap.size ≤ q → A q) (hK : va_K D vwCl (TY Y) s) (F : Nat) (a_q : Nat) (a_qw : Nat) (q_most : Int32) (q_length : Int32) (q_overfull : Int32) (qw_n : Nat) (c_qw : (Nat → Int32)) (p1 : Int64) (res : Int32 × Int32 × (Nat → Int32)) : ∀ (n : Nat) (b2_l_3 : Int32), fX2_putSize_b2 F q_most q_length q_overfull qw_n c_qw p1 n b2_l_3 = some res → ∀ {H : Heap} {locs : List Loc} {ls : Array Slot}, WD D A [oX8 a_q (.ref a_qw) q_most q_length q_overfull, aI Y a_qw qw_n c_qw] H → va_S A s.heap H locs → lv_has ls 4 [(0, .ref a_q), (1, .long p1), (3, .int b2_l_3)] → W p l e { frames := 3, cells := 0, slots := 0, locals := 68 } s m args below meth c H locs 0 0 (MQ below (va_Qv (fun _ : Unit => True) (fun _ t => PST D Y A [oX8 a_q (.ref a_qw) q_most res.1 res.2.1, aI Y a_qw qw_n res.2.2] t) A) args s 0 0 A) (F0 m 2 ls []) := by
  obtain ⟨hx, hb, hml, hr, hts, hown, hlocks⟩ := id C
  intro n
  induction n with
  | zero => intro b2_l_3 hf; exact absurd hf (by simp [fX2_putSize_b2])
  | succ n ih =>
    intro b2_l_3 hf H locs ls wd hS hl
    unfold fX2_putSize_b2 at hf
    refine lv_iload_n hx hb dX2_putSize_2 rfl (lv_at hl 2 rfl) ?_
    refine lv_bipush (v := 8) hx hb dX2_putSize_3 (by decide) ?_
    refine lv_icmp_ge (tgt := 23) hx hb dX2_putSize_5 (by decide) (fun q1 => ?_) (fun q1 => ?_)
    · have hf := ip hf q1
      exact wX2_putSize_b23 D Y C hA hK F a_q a_qw q_most q_length q_overfull qw_n c_qw p1 _ b2_l_3 hf wd hS (lv_sub hl [0, 1, 2] rfl)
    · have hf := ie hf q1
      refine lv_lload_n hx hb dX2_putSize_8 rfl (lv_at hl 1 rfl) ?_
      refine lv_iload_n hx hb dX2_putSize_9 rfl (lv_at hl 2 rfl) ?_
      obtain ⟨o2, ho2, hf⟩ := ob hf
      refine xj_l (va_runS (As := [.int b2_l_3]) (rest := [.long p1]) ⟨hx, hb, hml, hown, hts⟩ (kX0_highestSize l D Y F H.size b2_l_3 o2 ho2) (va_cwS 1 hts gX2_putSize_X0_highestSize rfl rfl rfl (by decide +kernel) ⟨Nat.le_of_ble_eq_true rfl, Nat.le_of_ble_eq_true rfl⟩) (pres_w hK wd [] rfl (by decide)) rfl rfl hl.1 rfl (lv_room (Nat.le_of_ble_eq_true rfl)) dX2_putSize_10 ⟨Nat.zero_le _, Nat.zero_le _⟩) wd hS hA [] [0, 1] rfl rfl (by decide) (by decide) (fun H locs wd hS => ?_)
      have wd : WD D A [oX8 a_q (.ref a_qw) q_most q_length q_overfull, aI Y a_qw qw_n c_qw] H := wd
      refine xl_le (tgt := 23) hx hb dX2_putSize_13 dX2_putSize_14 (by decide) (fun q3 => ?_) (fun q3 => ?_)
      · have hf := ip hf q3
        exact wX2_putSize_b23 D Y C hA hK F a_q a_qw q_most q_length q_overfull qw_n c_qw p1 _ b2_l_3 hf wd hS (lv_sub hl [0, 1, 2] rfl)
      · have hf := ie hf q3
        obtain ⟨x4, ex4⟩ : ∃ y : Int32, y = b2_l_3 + 1 := ⟨_, rfl⟩
        have hf := nm_at hf ex4
        refine lv_iinc (v := x4) (lv' := [(3, .int x4), (0, .ref a_q), (1, .long p1)]) hx hb dX2_putSize_17 hl (k := 2) rfl (by rw [ex4]; rfl) (by decide) rfl (fun ls hl => ?_)
        refine lv_goto (tgt := 2) hx hb dX2_putSize_20 (by decide) ?_
        exact ih x4 hf wd hS (lv_sub hl [1, 2, 0] rfl)

set_option maxHeartbeats 4000000 in
set_option maxRecDepth 100000 in
theorem wX2_putSize {p : Program} {l : Launch} {e : Env} {s : State} {m : MethodId} {args : Array Value} {below : List Frame} {meth : Method} {c : Code} {A : Nat → Prop} (D : va_G) (Y : Y4) (C : CX p s m meth c args cX2_putSize 4 none wsX2_putSize RX2) (hA : ∀ q : Nat, s.heap.size ≤ q → A q) (hK : va_K D vwCl (TY Y) s) (F : Nat) (a_q : Nat) (a_qw : Nat) (q_most : Int32) (q_length : Int32) (q_overfull : Int32) (qw_n : Nat) (c_qw : (Nat → Int32)) (p1 : Int64) (res : Int32 × Int32 × (Nat → Int32)) (hf : fX2_putSize F q_most q_length q_overfull qw_n c_qw p1 = some res) {H : Heap} {locs : List Loc} {ls : Array Slot} (wd : WD D A [oX8 a_q (.ref a_qw) q_most q_length q_overfull, aI Y a_qw qw_n c_qw] H) (hS : va_S A s.heap H locs) (hl : lv_has ls 4 [(0, .ref a_q), (1, .long p1)]) : W p l e { frames := 3, cells := 0, slots := 0, locals := 68 } s m args below meth c H locs 0 0 (MQ below (va_Qv (fun _ : Unit => True) (fun _ t => PST D Y A [oX8 a_q (.ref a_qw) q_most res.1 res.2.1, aI Y a_qw qw_n res.2.2] t) A) args s 0 0 A) (F0 m 0 ls []) := by
  obtain ⟨hx, hb, hml, hr, hts, hown, hlocks⟩ := id C
  unfold fX2_putSize at hf
  refine lv_iconst (v := 1) hx hb dX2_putSize_0 (by decide) ?_
  refine lv_istore_n (lv' := [(3, .int 1), (0, .ref a_q), (1, .long p1)]) hx hb dX2_putSize_1 rfl hl (by decide) rfl (fun ls hl => ?_)
  exact wX2_putSize_b2 D Y C hA hK F a_q a_qw q_most q_length q_overfull qw_n c_qw p1 _ F 1 hf wd hS (lv_sub hl [1, 2, 0] rfl)
set_option maxHeartbeats 4000000 in
set_option maxRecDepth 100000 in
theorem kX2_putSize (l : Launch) (D : va_G) (Y : Y4) (F : Nat) (a_q : Nat) (a_qw : Nat) (sz : Nat) (q_most : Int32) (q_length : Int32) (q_overfull : Int32) (qw_n : Nat) (c_qw : (Nat → Int32)) (p1 : Int64) (res : Int32 × Int32 × (Nat → Int32)) (hf : fX2_putSize F q_most q_length q_overfull qw_n c_qw p1 = some res) : Met l yX2_putSize wsX2_putSize ({ frames := 3, cells := 0, slots := 0, locals := 68 }) (va_Pc [.ref a_q, .long p1] (PRE D Y [oX8 a_q (.ref a_qw) q_most q_length q_overfull, aI Y a_qw qw_n c_qw] sz)) (va_Qv (fun _ : Unit => True) (fun _ t => PST D Y (va_A [oX8 a_q (.ref a_qw) q_most q_length q_overfull, aI Y a_qw qw_n c_qw] sz) [oX8 a_q (.ref a_qw) q_most res.1 res.2.1, aI Y a_qw qw_n res.2.2] t) (va_A [oX8 a_q (.ref a_qw) q_most q_length q_overfull, aI Y a_qw qw_n c_qw] sz)) 0 0 (va_A [oX8 a_q (.ref a_qw) q_most q_length q_overfull, aI Y a_qw qw_n c_qw] sz) := by
  refine Met.ofW (cc := cX2_putSize) (maxL := 4) (ret := none) (by decide) rfl ?_
  intro p e s m args below meth c s₁ B hml hv
  obtain ⟨rfl, rfl, hP, hK, hD0⟩ := hv
  have hl := lv_entry ([.ref a_q, .long p1]) (n := 4) (Nat.le_of_ble_eq_true rfl)
  rw [lg_entry_eq]
  exact wX2_putSize D Y ⟨B.exec, B.bytes, hml, B.returns, atoms_spec (ws := wsX2_putSize) B.pre, findClass_of_methodNamed B.named, B.notSynchronized⟩ (fun q h => Or.inr h) hK F a_q a_qw q_most q_length q_overfull qw_n c_qw p1 res hf ⟨hP, hD0.self⟩ va_S.rf hl
theorem mX2_putClusterTime_0 : Cond.fieldLink RX2 24 "StreamRemuxer$ElementWriter" "target" "LStreamRemuxer$Row;" ∈ wsX2_putClusterTime := List.mem_cons_of_mem _ u_321
theorem iX2_putClusterTime_X2 : ∀ w ∈ wsX20, w ∈ wsX2_putClusterTime := fun w h => List.mem_cons_of_mem _ (inlX2 w h)
set_option maxHeartbeats 4000000 in
set_option maxRecDepth 100000 in
theorem wX2_putClusterTime_b29 {p : Program} {l : Launch} {e : Env} {s : State} {m : MethodId} {args : Array Value} {below : List Frame} {meth : Method} {c : Code} {A : Nat → Prop} (D : va_G) (Y : Y4) (C : CX p s m meth c args cX2_putClusterTime 5 none wsX2_putClusterTime RX2) (hA : ∀ q : Nat, s.heap.size ≤ q → A q) (hK : va_K D vwCl (TY Y) s) (F : Nat) (a_h : Nat) (a_t : Nat) (a_tw : Nat) (a_hk : Nat) (a_p : Nat) (h_lace : Int32) (h_mostPackets : Int32) (h_unknownSizes : Int32) (t_most : Int32) (t_length : Int32) (t_overfull : Int32) (tw_n : Nat) (c_tw : (Nat → Int32)) (p1 : Int64) (res : Int32 × Int32 × (Nat → Int32)) (rc5 : Int32 → Int32 → Option (Int32 × Int32 × (Nat → Int32))) (hrc5 : ∀ (b5_l_4 : Int32) (b5_l_3 : Int32), rc5 b5_l_4 b5_l_3 = some res → ∀ {H : Heap} {locs : List Loc} {ls : Array Slot}, WD D A [oX2 a_h (.ref a_hk) (.ref a_p) (.ref a_t) h_lace h_mostPackets h_unknownSizes, oX8 a_t (.ref a_tw) t_most t_length t_overfull, aI Y a_tw tw_n c_tw] H → va_S A s.heap H locs → lv_has ls 5 [(0, .ref a_h), (1, .long p1), (3, .int b5_l_3), (4, .int b5_l_4)] → W p l e { frames := 4, cells := 0, slots := 0, locals := 91 } s m args below meth c H locs 0 0 (MQ below (va_Qv (fun _ : Unit => True) (fun _ t => PST D Y A [oX2 a_h (.ref a_hk) (.ref a_p) (.ref a_t) h_lace h_mostPackets h_unknownSizes, oX8 a_t (.ref a_tw) t_most res.1 res.2.1, aI Y a_tw tw_n res.2.2] t) A) args s 0 0 A) (F0 m 5 ls [])) (b29_l_3 : Int32) (b29_l_4 : Int32) (hf : fX2_putClusterTime_b29 F rc5 b29_l_3 b29_l_4 = some res) {H : Heap} {locs : List Loc} {ls : Array Slot} (wd : WD D A [oX2 a_h (.ref a_hk) (.ref a_p) (.ref a_t) h_lace h_mostPackets h_unknownSizes, oX8 a_t (.ref a_tw) t_most t_length t_overfull, aI Y a_tw tw_n c_tw] H) (hS : va_S A s.heap H locs) (hl : lv_has ls 5 [(0, .ref a_h), (1, .long p1), (3, .int b29_l_3), (4, .int b29_l_4)]) : W p l e { frames := 4, cells := 0, slots := 0, locals := 91 } s m args below meth c H locs 0 0 (MQ below (va_Qv (fun _ : Unit => True) (fun _ t => PST D Y A [oX2 a_h (.ref a_hk) (.ref a_p) (.ref a_t) h_lace h_mostPackets h_unknownSizes, oX8 a_t (.ref a_tw) t_most res.1 res.2.1, aI Y a_tw tw_n res.2.2] t) A) args s 0 0 A) (F0 m 29 ls []) := by
  obtain ⟨hx, hb, hml, hr, hts, hown, hlocks⟩ := id C
  unfold fX2_putClusterTime_b29 at hf
  obtain ⟨x1, ex1⟩ : ∃ y : Int32, y = b29_l_4 + 1 := ⟨_, rfl⟩
  have hf := nm_at hf ex1
  refine lv_iinc (v := x1) (lv' := [(4, .int x1), (0, .ref a_h), (1, .long p1), (3, .int b29_l_3)]) hx hb dX2_putClusterTime_29 hl (k := 3) rfl (by rw [ex1]; rfl) (by decide) rfl (fun ls hl => ?_)
  refine lv_goto (tgt := 5) hx hb dX2_putClusterTime_32 (by decide) ?_
  exact hrc5 x1 b29_l_3 hf wd hS (lv_sub hl [1, 2, 3, 0] rfl)

set_option maxHeartbeats 4000000 in
set_option maxRecDepth 100000 in
theorem wX2_putClusterTime_b5 {p : Program} {l : Launch} {e : Env} {s : State} {m : MethodId} {args : Array Value} {below : List Frame} {meth : Method} {c : Code} {A : Nat → Prop} (D : va_G) (Y : Y4) (C : CX p s m meth c args cX2_putClusterTime 5 none wsX2_putClusterTime RX2) (hA : ∀ q : Nat, s.heap.size ≤ q → A q) (hK : va_K D vwCl (TY Y) s) (F : Nat) (a_h : Nat) (a_t : Nat) (a_tw : Nat) (a_hk : Nat) (a_p : Nat) (h_lace : Int32) (h_mostPackets : Int32) (h_unknownSizes : Int32) (t_most : Int32) (t_length : Int32) (t_overfull : Int32) (tw_n : Nat) (c_tw : (Nat → Int32)) (p1 : Int64) (res : Int32 × Int32 × (Nat → Int32)) : ∀ (n : Nat) (b5_l_4 : Int32) (b5_l_3 : Int32), fX2_putClusterTime_b5 F t_most t_length t_overfull tw_n c_tw p1 n b5_l_4 b5_l_3 = some res → ∀ {H : Heap} {locs : List Loc} {ls : Array Slot}, WD D A [oX2 a_h (.ref a_hk) (.ref a_p) (.ref a_t) h_lace h_mostPackets h_unknownSizes, oX8 a_t (.ref a_tw) t_most t_length t_overfull, aI Y a_tw tw_n c_tw] H → va_S A s.heap H locs → lv_has ls 5 [(0, .ref a_h), (1, .long p1), (3, .int b5_l_3), (4, .int b5_l_4)] → W p l e { frames := 4, cells := 0, slots := 0, locals := 91 } s m args below meth c H locs 0 0 (MQ below (va_Qv (fun _ : Unit => True) (fun _ t => PST D Y A [oX2 a_h (.ref a_hk) (.ref a_p) (.ref a_t) h_lace h_mostPackets h_unknownSizes, oX8 a_t (.ref a_tw) t_most res.1 res.2.1, aI Y a_tw tw_n res.2.2] t) A) args s 0 0 A) (F0 m 5 ls []) := by
  obtain ⟨hx, hb, hml, hr, hts, hown, hlocks⟩ := id C
  intro n
  induction n with
  | zero => intro b5_l_4 b5_l_3 hf; exact absurd hf (by simp [fX2_putClusterTime_b5])
  | succ n ih =>
    intro b5_l_4 b5_l_3 hf H locs ls wd hS hl
    unfold fX2_putClusterTime_b5 at hf
    refine lv_iload hx hb dX2_putClusterTime_5 (lv_at hl 3 rfl) ?_
    refine lv_bipush (v := 8) hx hb dX2_putClusterTime_7 (by decide) ?_
    refine lv_icmp_gt (tgt := 35) hx hb dX2_putClusterTime_9 (by decide) (fun q1 => ?_) (fun q1 => ?_)
    · have hf := ip hf q1
      refine lv_aload_n hx hb dX2_putClusterTime_35 rfl (lv_at hl 0 rfl) ?_
      refine va_get (D := D) (ci := 1) (v := .ref a_t) (C := RX2) (T := TX2) (N := 6) hx hb hts iX2_putClusterTime_X2 hown hK wd.1 0 rfl rfl 2 (by decide) (hts _ mX2_putClusterTime_0) (fun _ h9 => h9) rfl dX2_putClusterTime_36 ?_
      refine lv_sipush (v := 231) hx hb dX2_putClusterTime_39 (by decide) ?_
      obtain ⟨o2, ho2, hf⟩ := ob hf
      refine xj_v (va_runV (As := [.int 231]) (rest := []) ⟨hx, hb, hml, hown, hts⟩ (kX8_add l D Y F a_t a_tw H.size t_most t_length t_overfull tw_n c_tw 231 o2 ho2) (cwV 1 hts gX2_putClusterTime_X8_add rfl rfl rfl (by decide +kernel) ⟨Nat.le_of_ble_eq_true rfl, Nat.le_of_ble_eq_true rfl⟩) (prev_w (ci := 6) rfl rfl hK wd [1, 2] rfl (by decide)) rfl rfl hl.1 rfl (lv_room (Nat.le_of_ble_eq_true rfl)) dX2_putClusterTime_42 ⟨Nat.zero_le _, Nat.zero_le _⟩) wd hS hA [1, 2] [0] rfl rfl (by decide) (by decide) (fun H locs wd hS => ?_)
      have wd : WD D A [oX2 a_h (.ref a_hk) (.ref a_p) (.ref a_t) h_lace h_mostPackets h_unknownSizes, oX8 a_t (.ref a_tw) t_most o2.1 o2.2.1, aI Y a_tw tw_n o2.2.2] H := wd
      refine lv_aload_n hx hb dX2_putClusterTime_45 rfl (lv_at hl 0 rfl) ?_
      refine va_get (D := D) (ci := 1) (v := .ref a_t) (C := RX2) (T := TX2) (N := 6) hx hb hts iX2_putClusterTime_X2 hown hK wd.1 0 rfl rfl 2 (by decide) (hts _ mX2_putClusterTime_0) (fun _ h9 => h9) rfl dX2_putClusterTime_46 ?_
      refine lv_iload_n hx hb dX2_putClusterTime_49 rfl (lv_at hl 2 rfl) ?_
      refine lv_i2l (v := (b5_l_3.toInt64)) hx hb dX2_putClusterTime_50 rfl ?_
      obtain ⟨o3, ho3, hf⟩ := ob hf
      refine xj_v (va_runS (As := [.ref a_t, .long (b5_l_3.toInt64)]) (rest := []) ⟨hx, hb, hml, hown, hts⟩ (kX2_putSize l D Y F a_t a_tw H.size t_most o2.1 o2.2.1 tw_n o2.2.2 (b5_l_3.toInt64) o3 ho3) (va_cwS 2 hts gX2_putClusterTime_X2_putSize rfl rfl rfl (by decide +kernel) ⟨Nat.le_of_ble_eq_true rfl, Nat.le_of_ble_eq_true rfl⟩) (pres_w hK wd [1, 2] rfl (by decide)) rfl rfl hl.1 rfl (lv_room (Nat.le_of_ble_eq_true rfl)) dX2_putClusterTime_51 ⟨Nat.zero_le _, Nat.zero_le _⟩) wd hS hA [1, 2] [0] rfl rfl (by decide) (by decide) (fun H locs wd hS => ?_)
      have wd : WD D A [oX2 a_h (.ref a_hk) (.ref a_p) (.ref a_t) h_lace h_mostPackets h_unknownSizes, oX8 a_t (.ref a_tw) t_most o3.1 o3.2.1, aI Y a_tw tw_n o3.2.2] H := wd
      refine lv_aload_n hx hb dX2_putClusterTime_54 rfl (lv_at hl 0 rfl) ?_
      refine va_get (D := D) (ci := 1) (v := .ref a_t) (C := RX2) (T := TX2) (N := 6) hx hb hts iX2_putClusterTime_X2 hown hK wd.1 0 rfl rfl 2 (by decide) (hts _ mX2_putClusterTime_0) (fun _ h9 => h9) rfl dX2_putClusterTime_55 ?_
      refine lv_lload_n hx hb dX2_putClusterTime_58 rfl (lv_at hl 1 rfl) ?_
      refine lv_iload_n hx hb dX2_putClusterTime_59 rfl (lv_at hl 2 rfl) ?_
      obtain ⟨o4, ho4, hf⟩ := ob hf
      refine xj_v (va_runV (As := [.long p1, .int b5_l_3]) (rest := []) ⟨hx, hb, hml, hown, hts⟩ (kX8_addHighFirst l D Y F a_t a_tw H.size t_most o3.1 o3.2.1 tw_n o3.2.2 p1 b5_l_3 o4 ho4) (cwV 2 hts gX2_putClusterTime_X8_addHighFirst rfl rfl rfl (by decide +kernel) ⟨Nat.le_of_ble_eq_true rfl, Nat.le_of_ble_eq_true rfl⟩) (prev_w (ci := 6) rfl rfl hK wd [1, 2] rfl (by decide)) rfl rfl hl.1 rfl (lv_room (Nat.le_of_ble_eq_true rfl)) dX2_putClusterTime_60 ⟨Nat.zero_le _, Nat.zero_le _⟩) wd hS hA [1, 2] [0] rfl rfl (by decide) (by decide) (fun H locs wd hS => ?_)
      have wd : WD D A [oX2 a_h (.ref a_hk) (.ref a_p) (.ref a_t) h_lace h_mostPackets h_unknownSizes, oX8 a_t (.ref a_tw) t_most o4.1 o4.2.1, aI Y a_tw tw_n o4.2.2] H := wd
      obtain rfl := Option.some.inj hf
      exact W.vret hx hb hr (fun t ht hW => ⟨⟨(), rfl, trivial, WD.pst wd hK ht hW⟩, hS.F ht⟩) hS.2.2 dX2_putClusterTime_63
    · have hf := ie hf q1
      refine lv_lload_n hx hb dX2_putClusterTime_12 rfl (lv_at hl 1 rfl) ?_
      refine lv_bipush (v := 8) hx hb dX2_putClusterTime_13 (by decide) ?_
      refine lv_iload hx hb dX2_putClusterTime_15 (lv_at hl 3 rfl) ?_
      refine lv_iconst (v := 1) hx hb dX2_putClusterTime_17 (by decide) ?_
      refine lv_isub hx hb dX2_putClusterTime_18 ?_
      refine lv_imul hx hb dX2_putClusterTime_19 ?_
      refine lv_lushr (v := (ushr64 p1 ((8 : Int32) * (b5_l_4 - 1)))) hx hb dX2_putClusterTime_20 rfl ?_
      refine lv_lconst (v := 0) hx hb dX2_putClusterTime_21 (by decide) ?_
      refine xl_eq (tgt := 29) hx hb dX2_putClusterTime_22 dX2_putClusterTime_23 (by decide) (fun q5 => ?_) (fun q5 => ?_)
      · have hf := ip hf q5
        exact wX2_putClusterTime_b29 D Y C hA hK F a_h a_t a_tw a_hk a_p h_lace h_mostPackets h_unknownSizes t_most t_length t_overfull tw_n c_tw p1 _ (fX2_putClusterTime_b5 F t_most t_length t_overfull tw_n c_tw p1 n) ih b5_l_3 b5_l_4 hf wd hS (lv_sub hl [0, 1, 2, 3] rfl)
      · have hf := ie hf q5
        refine lv_iload hx hb dX2_putClusterTime_26 (lv_at hl 3 rfl) ?_
        refine lv_istore_n (lv' := [(3, .int b5_l_4), (0, .ref a_h), (1, .long p1), (4, .int b5_l_4)]) hx hb dX2_putClusterTime_28 rfl hl (by decide) rfl (fun ls hl => ?_)
        exact wX2_putClusterTime_b29 D Y C hA hK F a_h a_t a_tw a_hk a_p h_lace h_mostPackets h_unknownSizes t_most t_length t_overfull tw_n c_tw p1 _ (fX2_putClusterTime_b5 F t_most t_length t_overfull tw_n c_tw p1 n) ih b5_l_4 b5_l_4 hf wd hS (lv_sub hl [1, 2, 0, 3] rfl)

set_option maxHeartbeats 4000000 in
set_option maxRecDepth 100000 in
theorem wX2_putClusterTime {p : Program} {l : Launch} {e : Env} {s : State} {m : MethodId} {args : Array Value} {below : List Frame} {meth : Method} {c : Code} {A : Nat → Prop} (D : va_G) (Y : Y4) (C : CX p s m meth c args cX2_putClusterTime 5 none wsX2_putClusterTime RX2) (hA : ∀ q : Nat, s.heap.size ≤ q → A q) (hK : va_K D vwCl (TY Y) s) (F : Nat) (a_h : Nat) (a_t : Nat) (a_tw : Nat) (a_hk : Nat) (a_p : Nat) (h_lace : Int32) (h_mostPackets : Int32) (h_unknownSizes : Int32) (t_most : Int32) (t_length : Int32) (t_overfull : Int32) (tw_n : Nat) (c_tw : (Nat → Int32)) (p1 : Int64) (res : Int32 × Int32 × (Nat → Int32)) (hf : fX2_putClusterTime F t_most t_length t_overfull tw_n c_tw p1 = some res) {H : Heap} {locs : List Loc} {ls : Array Slot} (wd : WD D A [oX2 a_h (.ref a_hk) (.ref a_p) (.ref a_t) h_lace h_mostPackets h_unknownSizes, oX8 a_t (.ref a_tw) t_most t_length t_overfull, aI Y a_tw tw_n c_tw] H) (hS : va_S A s.heap H locs) (hl : lv_has ls 5 [(0, .ref a_h), (1, .long p1)]) : W p l e { frames := 4, cells := 0, slots := 0, locals := 91 } s m args below meth c H locs 0 0 (MQ below (va_Qv (fun _ : Unit => True) (fun _ t => PST D Y A [oX2 a_h (.ref a_hk) (.ref a_p) (.ref a_t) h_lace h_mostPackets h_unknownSizes, oX8 a_t (.ref a_tw) t_most res.1 res.2.1, aI Y a_tw tw_n res.2.2] t) A) args s 0 0 A) (F0 m 0 ls []) := by
  obtain ⟨hx, hb, hml, hr, hts, hown, hlocks⟩ := id C
  unfold fX2_putClusterTime at hf
  refine lv_iconst (v := 1) hx hb dX2_putClusterTime_0 (by decide) ?_
  refine lv_istore_n (lv' := [(3, .int 1), (0, .ref a_h), (1, .long p1)]) hx hb dX2_putClusterTime_1 rfl hl (by decide) rfl (fun ls hl => ?_)
  refine lv_iconst (v := 2) hx hb dX2_putClusterTime_2 (by decide) ?_
  refine lv_istore (lv' := [(4, .int 2), (3, .int 1), (0, .ref a_h), (1, .long p1)]) hx hb dX2_putClusterTime_3 hl (by decide) rfl (fun ls hl => ?_)
  exact wX2_putClusterTime_b5 D Y C hA hK F a_h a_t a_tw a_hk a_p h_lace h_mostPackets h_unknownSizes t_most t_length t_overfull tw_n c_tw p1 _ F 2 1 hf wd hS (lv_sub hl [2, 3, 1, 0] rfl)
set_option maxHeartbeats 4000000 in
set_option maxRecDepth 100000 in
theorem kX2_putClusterTime (l : Launch) (D : va_G) (Y : Y4) (F : Nat) (a_h : Nat) (a_t : Nat) (a_tw : Nat) (a_hk : Nat) (a_p : Nat) (sz : Nat) (h_lace : Int32) (h_mostPackets : Int32) (h_unknownSizes : Int32) (t_most : Int32) (t_length : Int32) (t_overfull : Int32) (tw_n : Nat) (c_tw : (Nat → Int32)) (p1 : Int64) (res : Int32 × Int32 × (Nat → Int32)) (hf : fX2_putClusterTime F t_most t_length t_overfull tw_n c_tw p1 = some res) : Met l yX2_putClusterTime wsX2_putClusterTime ({ frames := 4, cells := 0, slots := 0, locals := 91 }) (va_Pc [.ref a_h, .long p1] (PRE D Y [oX2 a_h (.ref a_hk) (.ref a_p) (.ref a_t) h_lace h_mostPackets h_unknownSizes, oX8 a_t (.ref a_tw) t_most t_length t_overfull, aI Y a_tw tw_n c_tw] sz)) (va_Qv (fun _ : Unit => True) (fun _ t => PST D Y (va_A [oX2 a_h (.ref a_hk) (.ref a_p) (.ref a_t) h_lace h_mostPackets h_unknownSizes, oX8 a_t (.ref a_tw) t_most t_length t_overfull, aI Y a_tw tw_n c_tw] sz) [oX2 a_h (.ref a_hk) (.ref a_p) (.ref a_t) h_lace h_mostPackets h_unknownSizes, oX8 a_t (.ref a_tw) t_most res.1 res.2.1, aI Y a_tw tw_n res.2.2] t) (va_A [oX2 a_h (.ref a_hk) (.ref a_p) (.ref a_t) h_lace h_mostPackets h_unknownSizes, oX8 a_t (.ref a_tw) t_most t_length t_overfull, aI Y a_tw tw_n c_tw] sz)) 0 0 (va_A [oX2 a_h (.ref a_hk) (.ref a_p) (.ref a_t) h_lace h_mostPackets h_unknownSizes, oX8 a_t (.ref a_tw) t_most t_length t_overfull, aI Y a_tw tw_n c_tw] sz) := by
  refine Met.ofW (cc := cX2_putClusterTime) (maxL := 5) (ret := none) (by decide) rfl ?_
  intro p e s m args below meth c s₁ B hml hv
  obtain ⟨rfl, rfl, hP, hK, hD0⟩ := hv
  have hl := lv_entry ([.ref a_h, .long p1]) (n := 5) (Nat.le_of_ble_eq_true rfl)
  rw [lg_entry_eq]
  exact wX2_putClusterTime D Y ⟨B.exec, B.bytes, hml, B.returns, atoms_spec (ws := wsX2_putClusterTime) B.pre, findClass_of_methodNamed B.named, B.notSynchronized⟩ (fun q h => Or.inr h) hK F a_h a_t a_tw a_hk a_p h_lace h_mostPackets h_unknownSizes t_most t_length t_overfull tw_n c_tw p1 res hf ⟨hP, hD0.self⟩ va_S.rf hl
theorem mX2_packetsOfBlock_0 : Cond.fieldLink RX2 20 "StreamRemuxer$ElementWriter" "source" "LStreamRemuxer$PacketList;" ∈ wsX2_packetsOfBlock := List.mem_cons_of_mem _ u_320
theorem mX2_packetsOfBlock_1 : Cond.fieldLink RX2 71 "StreamRemuxer$PacketList" "packets" "I" ∈ wsX2_packetsOfBlock := List.mem_cons_of_mem _ u_345
theorem mX2_packetsOfBlock_2 : Cond.fieldLink RX2 31 "StreamRemuxer$ElementWriter" "mostPackets" "I" ∈ wsX2_packetsOfBlock := List.mem_cons_of_mem _ u_323
theorem mX2_packetsOfBlock_3 : Cond.fieldLink RX2 27 "StreamRemuxer$ElementWriter" "lace" "I" ∈ wsX2_packetsOfBlock := List.mem_cons_of_mem _ u_322
theorem iX2_packetsOfBlock_X2 : ∀ w ∈ wsX20, w ∈ wsX2_packetsOfBlock := fun w h => List.mem_cons_of_mem _ (inlX2 w h)
theorem iX2_packetsOfBlock_X4 : ∀ w ∈ wsX40, w ∈ wsX2_packetsOfBlock := fun w h => List.mem_cons_of_mem _ (inlX4 w h)
set_option maxHeartbeats 4000000 in
set_option maxRecDepth 100000 in
theorem wX2_packetsOfBlock_b55 {p : Program} {l : Launch} {e : Env} {s : State} {m : MethodId} {args : Array Value} {below : List Frame} {meth : Method} {c : Code} {A : Nat → Prop} (D : va_G) (Y : Y4) (C : CX p s m meth c args cX2_packetsOfBlock 4 (some .int) wsX2_packetsOfBlock RX2) (hA : ∀ q : Nat, s.heap.size ≤ q → A q) (hK : va_K D vwCl (TY Y) s) (F : Nat) (a_h : Nat) (a_p : Nat) (a_pe : Nat) (a_hk : Nat) (a_t : Nat) (a_pb : Nat) (a_pt : Nat) (h_lace : Int32) (h_mostPackets : Int32) (h_unknownSizes : Int32) (p_packets : Int32) (c_pe : (Nat → Int32)) (p1 : Int32) (res : Int32) (rc6 : Int32 → Int32 → Option (Int32)) (hrc6 : ∀ (b6_l_3 : Int32) (b6_l_2 : Int32), rc6 b6_l_3 b6_l_2 = some res → ∀ {H : Heap} {locs : List Loc} {ls : Array Slot}, WD D A [oX2 a_h (.ref a_hk) (.ref a_p) (.ref a_t) h_lace h_mostPackets h_unknownSizes, oX4 a_p (.ref a_pb) (.ref a_pe) (.ref a_pt) p_packets, aI Y a_pe 64 c_pe] H → va_S A s.heap H locs → lv_has ls 4 [(0, .ref a_h), (1, .int p1), (2, .int b6_l_2), (3, .int b6_l_3)] → W p l e { frames := 3, cells := 0, slots := 0, locals := 63 } s m args below meth c H locs 0 0 (MQ below (va_Qi (fun r (_ : Unit) => r = res) (fun _ t => PST D Y A [oX2 a_h (.ref a_hk) (.ref a_p) (.ref a_t) h_lace h_mostPackets h_unknownSizes, oX4 a_p (.ref a_pb) (.ref a_pe) (.ref a_pt) p_packets, aI Y a_pe 64 c_pe] t) A) args s 0 0 A) (F0 m 6 ls [])) (b55_l_2 : Int32) (b55_l_3 : Int32) (hf : fX2_packetsOfBlock_b55 F rc6 b55_l_2 b55_l_3 = some res) {H : Heap} {locs : List Loc} {ls : Array Slot} (wd : WD D A [oX2 a_h (.ref a_hk) (.ref a_p) (.ref a_t) h_lace h_mostPackets h_unknownSizes, oX4 a_p (.ref a_pb) (.ref a_pe) (.ref a_pt) p_packets, aI Y a_pe 64 c_pe] H) (hS : va_S A s.heap H locs) (hl : lv_has ls 4 [(0, .ref a_h), (1, .int p1), (2, .int b55_l_2), (3, .int b55_l_3)]) : W p l e { frames := 3, cells := 0, slots := 0, locals := 63 } s m args below meth c H locs 0 0 (MQ below (va_Qi (fun r (_ : Unit) => r = res) (fun _ t => PST D Y A [oX2 a_h (.ref a_hk) (.ref a_p) (.ref a_t) h_lace h_mostPackets h_unknownSizes, oX4 a_p (.ref a_pb) (.ref a_pe) (.ref a_pt) p_packets, aI Y a_pe 64 c_pe] t) A) args s 0 0 A) (F0 m 55 ls []) := by
  obtain ⟨hx, hb, hml, hr, hts, hown, hlocks⟩ := id C
  unfold fX2_packetsOfBlock_b55 at hf
  obtain ⟨x1, ex1⟩ : ∃ y : Int32, y = b55_l_2 + 1 := ⟨_, rfl⟩
  have hf := nm_at hf ex1
  refine lv_iinc (v := x1) (lv' := [(2, .int x1), (0, .ref a_h), (1, .int p1), (3, .int b55_l_3)]) hx hb dX2_packetsOfBlock_55 hl (k := 2) rfl (by rw [ex1]; rfl) (by decide) rfl (fun ls hl => ?_)
  obtain ⟨x2, ex2⟩ : ∃ y : Int32, y = b55_l_3 + 1 := ⟨_, rfl⟩
  have hf := nm_at hf ex2
  refine lv_iinc (v := x2) (lv' := [(3, .int x2), (2, .int x1), (0, .ref a_h), (1, .int p1)]) hx hb dX2_packetsOfBlock_58 hl (k := 3) rfl (by rw [ex2]; rfl) (by decide) rfl (fun ls hl => ?_)
  refine lv_goto (tgt := 6) hx hb dX2_packetsOfBlock_61 (by decide) ?_
  exact hrc6 x2 x1 hf wd hS (lv_sub hl [2, 3, 1, 0] rfl)

set_option maxHeartbeats 4000000 in
set_option maxRecDepth 100000 in
theorem wX2_packetsOfBlock_b64 {p : Program} {l : Launch} {e : Env} {s : State} {m : MethodId} {args : Array Value} {below : List Frame} {meth : Method} {c : Code} {A : Nat → Prop} (D : va_G) (Y : Y4) (C : CX p s m meth c args cX2_packetsOfBlock 4 (some .int) wsX2_packetsOfBlock RX2) (hA : ∀ q : Nat, s.heap.size ≤ q → A q) (hK : va_K D vwCl (TY Y) s) (F : Nat) (a_h : Nat) (a_p : Nat) (a_pe : Nat) (a_hk : Nat) (a_t : Nat) (a_pb : Nat) (a_pt : Nat) (h_lace : Int32) (h_mostPackets : Int32) (h_unknownSizes : Int32) (p_packets : Int32) (c_pe : (Nat → Int32)) (p1 : Int32) (res : Int32) (b64_l_2 : Int32) (hf : fX2_packetsOfBlock_b64 F b64_l_2 = some res) {H : Heap} {locs : List Loc} {ls : Array Slot} (wd : WD D A [oX2 a_h (.ref a_hk) (.ref a_p) (.ref a_t) h_lace h_mostPackets h_unknownSizes, oX4 a_p (.ref a_pb) (.ref a_pe) (.ref a_pt) p_packets, aI Y a_pe 64 c_pe] H) (hS : va_S A s.heap H locs) (hl : lv_has ls 4 [(2, .int b64_l_2)]) : W p l e { frames := 3, cells := 0, slots := 0, locals := 63 } s m args below meth c H locs 0 0 (MQ below (va_Qi (fun r (_ : Unit) => r = res) (fun _ t => PST D Y A [oX2 a_h (.ref a_hk) (.ref a_p) (.ref a_t) h_lace h_mostPackets h_unknownSizes, oX4 a_p (.ref a_pb) (.ref a_pe) (.ref a_pt) p_packets, aI Y a_pe 64 c_pe] t) A) args s 0 0 A) (F0 m 64 ls []) := by
  obtain ⟨hx, hb, hml, hr, hts, hown, hlocks⟩ := id C
  unfold fX2_packetsOfBlock_b64 at hf
  refine lv_iload_n hx hb dX2_packetsOfBlock_64 rfl (lv_at hl 0 rfl) ?_
  obtain rfl := Option.some.inj hf
  exact W.iret (v := b64_l_2) hx hb hr (fun t ht hW => ⟨⟨_, (), rfl, rfl, WD.pst wd hK ht hW⟩, hS.F ht⟩) hS.2.2 dX2_packetsOfBlock_65

set_option maxHeartbeats 4000000 in
set_option maxRecDepth 100000 in
theorem wX2_packetsOfBlock_b6 {p : Program} {l : Launch} {e : Env} {s : State} {m : MethodId} {args : Array Value} {below : List Frame} {meth : Method} {c : Code} {A : Nat → Prop} (D : va_G) (Y : Y4) (C : CX p s m meth c args cX2_packetsOfBlock 4 (some .int) wsX2_packetsOfBlock RX2) (hA : ∀ q : Nat, s.heap.size ≤ q → A q) (hK : va_K D vwCl (TY Y) s) (F : Nat) (a_h : Nat) (a_p : Nat) (a_pe : Nat) (a_hk : Nat) (a_t : Nat) (a_pb : Nat) (a_pt : Nat) (h_lace : Int32) (h_mostPackets : Int32) (h_unknownSizes : Int32) (p_packets : Int32) (c_pe : (Nat → Int32)) (p1 : Int32) (res : Int32) : ∀ (n : Nat) (b6_l_3 : Int32) (b6_l_2 : Int32), fX2_packetsOfBlock_b6 F h_lace h_mostPackets p_packets c_pe p1 n b6_l_3 b6_l_2 = some res → ∀ {H : Heap} {locs : List Loc} {ls : Array Slot}, WD D A [oX2 a_h (.ref a_hk) (.ref a_p) (.ref a_t) h_lace h_mostPackets h_unknownSizes, oX4 a_p (.ref a_pb) (.ref a_pe) (.ref a_pt) p_packets, aI Y a_pe 64 c_pe] H → va_S A s.heap H locs → lv_has ls 4 [(0, .ref a_h), (1, .int p1), (2, .int b6_l_2), (3, .int b6_l_3)] → W p l e { frames := 3, cells := 0, slots := 0, locals := 63 } s m args below meth c H locs 0 0 (MQ below (va_Qi (fun r (_ : Unit) => r = res) (fun _ t => PST D Y A [oX2 a_h (.ref a_hk) (.ref a_p) (.ref a_t) h_lace h_mostPackets h_unknownSizes, oX4 a_p (.ref a_pb) (.ref a_pe) (.ref a_pt) p_packets, aI Y a_pe 64 c_pe] t) A) args s 0 0 A) (F0 m 6 ls []) := by
  obtain ⟨hx, hb, hml, hr, hts, hown, hlocks⟩ := id C
  intro n
  induction n with
  | zero => intro b6_l_3 b6_l_2 hf; exact absurd hf (by simp [fX2_packetsOfBlock_b6])
  | succ n ih =>
    intro b6_l_3 b6_l_2 hf H locs ls wd hS hl
    unfold fX2_packetsOfBlock_b6 at hf
    refine lv_iload_n hx hb dX2_packetsOfBlock_6 rfl (lv_at hl 3 rfl) ?_
    refine lv_aload_n hx hb dX2_packetsOfBlock_7 rfl (lv_at hl 0 rfl) ?_
    refine va_get (D := D) (ci := 1) (v := .ref a_p) (C := RX2) (T := TX2) (N := 6) hx hb hts iX2_packetsOfBlock_X2 hown hK wd.1 0 rfl rfl 1 (by decide) (hts _ mX2_packetsOfBlock_0) (fun _ h9 => h9) rfl dX2_packetsOfBlock_8 ?_
    refine va_get (D := D) (ci := 3) (v := .int p_packets) (C := RX4) (T := TX4) (N := 4) hx hb hts iX2_packetsOfBlock_X4 hown hK wd.1 1 rfl rfl 3 (by decide) (hts _ mX2_packetsOfBlock_1) (fun _ h9 => h9) rfl dX2_packetsOfBlock_11 ?_
    refine lv_icmp_ge (tgt := 64) hx hb dX2_packetsOfBlock_14 (by decide) (fun q1 => ?_) (fun q1 => ?_)
    · have hf := ip hf q1
      exact wX2_packetsOfBlock_b64 D Y C hA hK F a_h a_p a_pe a_hk a_t a_pb a_pt h_lace h_mostPackets h_unknownSizes p_packets c_pe p1 _ b6_l_2 hf wd hS (lv_sub hl [2] rfl)
    · have hf := ie hf q1
      refine lv_iload_n hx hb dX2_packetsOfBlock_17 rfl (lv_at hl 2 rfl) ?_
      refine lv_aload_n hx hb dX2_packetsOfBlock_18 rfl (lv_at hl 0 rfl) ?_
      refine va_get (D := D) (ci := 1) (v := .int h_mostPackets) (C := RX2) (T := TX2) (N := 6) hx hb hts iX2_packetsOfBlock_X2 hown hK wd.1 0 rfl rfl 4 (by decide) (hts _ mX2_packetsOfBlock_2) (fun _ h9 => h9) rfl dX2_packetsOfBlock_19 ?_
      refine lv_icmp_ge (tgt := 64) hx hb dX2_packetsOfBlock_22 (by decide) (fun q2 => ?_) (fun q2 => ?_)
      · have hf := ip hf q2
        exact wX2_packetsOfBlock_b64 D Y C hA hK F a_h a_p a_pe a_hk a_t a_pb a_pt h_lace h_mostPackets h_unknownSizes p_packets c_pe p1 _ b6_l_2 hf wd hS (lv_sub hl [2] rfl)
      · have hf := ie hf q2
        refine lv_aload_n hx hb dX2_packetsOfBlock_25 rfl (lv_at hl 0 rfl) ?_
        refine va_get (D := D) (ci := 1) (v := .int h_lace) (C := RX2) (T := TX2) (N := 6) hx hb hts iX2_packetsOfBlock_X2 hown hK wd.1 0 rfl rfl 3 (by decide) (hts _ mX2_packetsOfBlock_3) (fun _ h9 => h9) rfl dX2_packetsOfBlock_26 ?_
        refine lv_iconst (v := 2) hx hb dX2_packetsOfBlock_29 (by decide) ?_
        refine lv_icmp_ne (tgt := 55) hx hb dX2_packetsOfBlock_30 (by decide) (fun q3 => ?_) (fun q3 => ?_)
        · have hf := ie hf q3
          exact wX2_packetsOfBlock_b55 D Y C hA hK F a_h a_p a_pe a_hk a_t a_pb a_pt h_lace h_mostPackets h_unknownSizes p_packets c_pe p1 _ (fX2_packetsOfBlock_b6 F h_lace h_mostPackets p_packets c_pe p1 n) ih b6_l_2 b6_l_3 hf wd hS (lv_sub hl [0, 1, 2, 3] rfl)
        · have hf := ip hf q3
          refine lv_aload_n hx hb dX2_packetsOfBlock_33 rfl (lv_at hl 0 rfl) ?_
          refine va_get (D := D) (ci := 1) (v := .ref a_p) (C := RX2) (T := TX2) (N := 6) hx hb hts iX2_packetsOfBlock_X2 hown hK wd.1 0 rfl rfl 1 (by decide) (hts _ mX2_packetsOfBlock_0) (fun _ h9 => h9) rfl dX2_packetsOfBlock_34 ?_
          refine lv_iload_n hx hb dX2_packetsOfBlock_37 rfl (lv_at hl 3 rfl) ?_
          obtain ⟨o4, ho4, hf⟩ := ob hf
          refine xj_i (va_runV (As := [.int b6_l_3]) (rest := []) ⟨hx, hb, hml, hown, hts⟩ (kX4_bytesOf l D Y F a_p a_pe a_pb a_pt H.size p_packets c_pe b6_l_3 o4 ho4) (cwV 1 hts gX2_packetsOfBlock_X4_bytesOf rfl rfl rfl (by decide +kernel) ⟨Nat.le_of_ble_eq_true rfl, Nat.le_of_ble_eq_true rfl⟩) (prev_w (ci := 3) rfl rfl hK wd [1, 2] rfl (by decide)) rfl rfl hl.1 rfl (lv_room (Nat.le_of_ble_eq_true rfl)) dX2_packetsOfBlock_38 ⟨Nat.zero_le _, Nat.zero_le _⟩) wd hS hA [1, 2] [0] rfl rfl (by decide) (by decide) (fun H locs wd hS => ?_)
          have wd : WD D A [oX2 a_h (.ref a_hk) (.ref a_p) (.ref a_t) h_lace h_mostPackets h_unknownSizes, oX4 a_p (.ref a_pb) (.ref a_pe) (.ref a_pt) p_packets, aI Y a_pe 64 c_pe] H := wd
          refine lv_aload_n hx hb dX2_packetsOfBlock_41 rfl (lv_at hl 0 rfl) ?_
          refine va_get (D := D) (ci := 1) (v := .ref a_p) (C := RX2) (T := TX2) (N := 6) hx hb hts iX2_packetsOfBlock_X2 hown hK wd.1 0 rfl rfl 1 (by decide) (hts _ mX2_packetsOfBlock_0) (fun _ h9 => h9) rfl dX2_packetsOfBlock_42 ?_
          refine lv_iload_n hx hb dX2_packetsOfBlock_45 rfl (lv_at hl 1 rfl) ?_
          obtain ⟨o5, ho5, hf⟩ := ob hf
          refine xj_i (va_runV (As := [.int p1]) (rest := [.int o4]) ⟨hx, hb, hml, hown, hts⟩ (kX4_bytesOf l D Y F a_p a_pe a_pb a_pt H.size p_packets c_pe p1 o5 ho5) (cwV 1 hts gX2_packetsOfBlock_X4_bytesOf rfl rfl rfl (by decide +kernel) ⟨Nat.le_of_ble_eq_true rfl, Nat.le_of_ble_eq_true rfl⟩) (prev_w (ci := 3) rfl rfl hK wd [1, 2] rfl (by decide)) rfl rfl hl.1 rfl (lv_room (Nat.le_of_ble_eq_true rfl)) dX2_packetsOfBlock_46 ⟨Nat.zero_le _, Nat.zero_le _⟩) wd hS hA [1, 2] [0] rfl rfl (by decide) (by decide) (fun H locs wd hS => ?_)
          have wd : WD D A [oX2 a_h (.ref a_hk) (.ref a_p) (.ref a_t) h_lace h_mostPackets h_unknownSizes, oX4 a_p (.ref a_pb) (.ref a_pe) (.ref a_pt) p_packets, aI Y a_pe 64 c_pe] H := wd
          refine lv_icmp_eq (tgt := 55) hx hb dX2_packetsOfBlock_49 (by decide) (fun q6 => ?_) (fun q6 => ?_)
          · have hf := ip hf q6
            exact wX2_packetsOfBlock_b55 D Y C hA hK F a_h a_p a_pe a_hk a_t a_pb a_pt h_lace h_mostPackets h_unknownSizes p_packets c_pe p1 _ (fX2_packetsOfBlock_b6 F h_lace h_mostPackets p_packets c_pe p1 n) ih b6_l_2 b6_l_3 hf wd hS (lv_sub hl [0, 1, 2, 3] rfl)
          · have hf := ie hf q6
            refine lv_goto (tgt := 64) hx hb dX2_packetsOfBlock_52 (by decide) ?_
            exact wX2_packetsOfBlock_b64 D Y C hA hK F a_h a_p a_pe a_hk a_t a_pb a_pt h_lace h_mostPackets h_unknownSizes p_packets c_pe p1 _ b6_l_2 hf wd hS (lv_sub hl [2] rfl)

set_option maxHeartbeats 4000000 in
set_option maxRecDepth 100000 in
theorem wX2_packetsOfBlock {p : Program} {l : Launch} {e : Env} {s : State} {m : MethodId} {args : Array Value} {below : List Frame} {meth : Method} {c : Code} {A : Nat → Prop} (D : va_G) (Y : Y4) (C : CX p s m meth c args cX2_packetsOfBlock 4 (some .int) wsX2_packetsOfBlock RX2) (hA : ∀ q : Nat, s.heap.size ≤ q → A q) (hK : va_K D vwCl (TY Y) s) (F : Nat) (a_h : Nat) (a_p : Nat) (a_pe : Nat) (a_hk : Nat) (a_t : Nat) (a_pb : Nat) (a_pt : Nat) (h_lace : Int32) (h_mostPackets : Int32) (h_unknownSizes : Int32) (p_packets : Int32) (c_pe : (Nat → Int32)) (p1 : Int32) (res : Int32) (hf : fX2_packetsOfBlock F h_lace h_mostPackets p_packets c_pe p1 = some res) {H : Heap} {locs : List Loc} {ls : Array Slot} (wd : WD D A [oX2 a_h (.ref a_hk) (.ref a_p) (.ref a_t) h_lace h_mostPackets h_unknownSizes, oX4 a_p (.ref a_pb) (.ref a_pe) (.ref a_pt) p_packets, aI Y a_pe 64 c_pe] H) (hS : va_S A s.heap H locs) (hl : lv_has ls 4 [(0, .ref a_h), (1, .int p1)]) : W p l e { frames := 3, cells := 0, slots := 0, locals := 63 } s m args below meth c H locs 0 0 (MQ below (va_Qi (fun r (_ : Unit) => r = res) (fun _ t => PST D Y A [oX2 a_h (.ref a_hk) (.ref a_p) (.ref a_t) h_lace h_mostPackets h_unknownSizes, oX4 a_p (.ref a_pb) (.ref a_pe) (.ref a_pt) p_packets, aI Y a_pe 64 c_pe] t) A) args s 0 0 A) (F0 m 0 ls []) := by
  obtain ⟨hx, hb, hml, hr, hts, hown, hlocks⟩ := id C
  unfold fX2_packetsOfBlock at hf
  refine lv_iconst (v := 1) hx hb dX2_packetsOfBlock_0 (by decide) ?_
  refine lv_istore_n (lv' := [(2, .int 1), (0, .ref a_h), (1, .int p1)]) hx hb dX2_packetsOfBlock_1 rfl hl (by decide) rfl (fun ls hl => ?_)
  refine lv_iload_n hx hb dX2_packetsOfBlock_2 rfl (lv_at hl 2 rfl) ?_
  refine lv_iconst (v := 1) hx hb dX2_packetsOfBlock_3 (by decide) ?_
  refine lv_iadd hx hb dX2_packetsOfBlock_4 ?_
  refine lv_topi (fun x1 ex1 => ?_)
  have hf := nm_at hf ex1
  refine lv_istore_n (lv' := [(3, .int x1), (2, .int 1), (0, .ref a_h), (1, .int p1)]) hx hb dX2_packetsOfBlock_5 rfl hl (by decide) rfl (fun ls hl => ?_)
  exact wX2_packetsOfBlock_b6 D Y C hA hK F a_h a_p a_pe a_hk a_t a_pb a_pt h_lace h_mostPackets h_unknownSizes p_packets c_pe p1 _ F x1 1 hf wd hS (lv_sub hl [2, 3, 1, 0] rfl)
set_option maxHeartbeats 4000000 in
set_option maxRecDepth 100000 in
theorem kX2_packetsOfBlock (l : Launch) (D : va_G) (Y : Y4) (F : Nat) (a_h : Nat) (a_p : Nat) (a_pe : Nat) (a_hk : Nat) (a_t : Nat) (a_pb : Nat) (a_pt : Nat) (sz : Nat) (h_lace : Int32) (h_mostPackets : Int32) (h_unknownSizes : Int32) (p_packets : Int32) (c_pe : (Nat → Int32)) (p1 : Int32) (res : Int32) (hf : fX2_packetsOfBlock F h_lace h_mostPackets p_packets c_pe p1 = some res) : Met l yX2_packetsOfBlock wsX2_packetsOfBlock ({ frames := 3, cells := 0, slots := 0, locals := 63 }) (va_Pc [.ref a_h, .int p1] (PRE D Y [oX2 a_h (.ref a_hk) (.ref a_p) (.ref a_t) h_lace h_mostPackets h_unknownSizes, oX4 a_p (.ref a_pb) (.ref a_pe) (.ref a_pt) p_packets, aI Y a_pe 64 c_pe] sz)) (va_Qi (fun r (_ : Unit) => r = res) (fun _ t => PST D Y (va_A [oX2 a_h (.ref a_hk) (.ref a_p) (.ref a_t) h_lace h_mostPackets h_unknownSizes, oX4 a_p (.ref a_pb) (.ref a_pe) (.ref a_pt) p_packets, aI Y a_pe 64 c_pe] sz) [oX2 a_h (.ref a_hk) (.ref a_p) (.ref a_t) h_lace h_mostPackets h_unknownSizes, oX4 a_p (.ref a_pb) (.ref a_pe) (.ref a_pt) p_packets, aI Y a_pe 64 c_pe] t) (va_A [oX2 a_h (.ref a_hk) (.ref a_p) (.ref a_t) h_lace h_mostPackets h_unknownSizes, oX4 a_p (.ref a_pb) (.ref a_pe) (.ref a_pt) p_packets, aI Y a_pe 64 c_pe] sz)) 0 0 (va_A [oX2 a_h (.ref a_hk) (.ref a_p) (.ref a_t) h_lace h_mostPackets h_unknownSizes, oX4 a_p (.ref a_pb) (.ref a_pe) (.ref a_pt) p_packets, aI Y a_pe 64 c_pe] sz) := by
  refine Met.ofW (cc := cX2_packetsOfBlock) (maxL := 4) (ret := (some .int)) (by decide) rfl ?_
  intro p e s m args below meth c s₁ B hml hv
  obtain ⟨rfl, rfl, hP, hK, hD0⟩ := hv
  have hl := lv_entry ([.ref a_h, .int p1]) (n := 4) (Nat.le_of_ble_eq_true rfl)
  rw [lg_entry_eq]
  exact wX2_packetsOfBlock D Y ⟨B.exec, B.bytes, hml, B.returns, atoms_spec (ws := wsX2_packetsOfBlock) B.pre, findClass_of_methodNamed B.named, B.notSynchronized⟩ (fun q h => Or.inr h) hK F a_h a_p a_pe a_hk a_t a_pb a_pt h_lace h_mostPackets h_unknownSizes p_packets c_pe p1 res hf ⟨hP, hD0.self⟩ va_S.rf hl
theorem mX2_putSummedSize_0 : Cond.fieldLink RX2 16 "StreamRemuxer$ElementWriter" "blockHeader" "LStreamRemuxer$Row;" ∈ wsX2_putSummedSize := List.mem_cons_of_mem _ u_73
theorem iX2_putSummedSize_X2 : ∀ w ∈ wsX20, w ∈ wsX2_putSummedSize := fun w h => List.mem_cons_of_mem _ (inlX2 w h)
set_option maxHeartbeats 4000000 in
set_option maxRecDepth 100000 in
theorem wX2_putSummedSize_b8 {p : Program} {l : Launch} {e : Env} {s : State} {m : MethodId} {args : Array Value} {below : List Frame} {meth : Method} {c : Code} {A : Nat → Prop} (D : va_G) (Y : Y4) (C : CX p s m meth c args cX2_putSummedSize 4 none wsX2_putSummedSize RX2) (hA : ∀ q : Nat, s.heap.size ≤ q → A q) (hK : va_K D vwCl (TY Y) s) (F : Nat) (a_h : Nat) (a_hk : Nat) (a_hkw : Nat) (a_p : Nat) (a_t : Nat) (h_lace : Int32) (h_mostPackets : Int32) (h_unknownSizes : Int32) (hk_most : Int32) (hk_length : Int32) (hk_overfull : Int32) (hkw_n : Nat) (c_hkw : (Nat → Int32)) (p1 : Int32) (res : Int32 × Int32 × (Nat → Int32)) : ∀ (n : Nat) (b8_l_3 : Int32) (b8_l_2 : Int32) (b8_f_hk_2 : Int32) (b8_f_hk_3 : Int32) (b8_c_hkw : (Nat → Int32)), fX2_putSummedSize_b8 F hk_most hkw_n p1 n b8_l_3 b8_l_2 b8_f_hk_2 b8_f_hk_3 b8_c_hkw = some res → ∀ {H : Heap} {locs : List Loc} {ls : Array Slot}, WD D A [oX2 a_h (.ref a_hk) (.ref a_p) (.ref a_t) h_lace h_mostPackets h_unknownSizes, oX8 a_hk (.ref a_hkw) hk_most b8_f_hk_2 b8_f_hk_3, aI Y a_hkw hkw_n b8_c_hkw] H → va_S A s.heap H locs → lv_has ls 4 [(0, .ref a_h), (1, .int p1), (2, .int b8_l_2), (3, .int b8_l_3)] → W p l e { frames := 2, cells := 0, slots := 0, locals := 44 } s m args below meth c H locs 0 0 (MQ below (va_Qv (fun _ : Unit => True) (fun _ t => PST D Y A [oX2 a_h (.ref a_hk) (.ref a_p) (.ref a_t) h_lace h_mostPackets h_unknownSizes, oX8 a_hk (.ref a_hkw) hk_most res.1 res.2.1, aI Y a_hkw hkw_n res.2.2] t) A) args s 0 0 A) (F0 m 8 ls []) := by
  obtain ⟨hx, hb, hml, hr, hts, hown, hlocks⟩ := id C
  intro n
  induction n with
  | zero => intro b8_l_3 b8_l_2 b8_f_hk_2 b8_f_hk_3 b8_c_hkw hf; exact absurd hf (by simp [fX2_putSummedSize_b8])
  | succ n ih =>
    intro b8_l_3 b8_l_2 b8_f_hk_2 b8_f_hk_3 b8_c_hkw hf H locs ls wd hS hl
    unfold fX2_putSummedSize_b8 at hf
    refine lv_iload_n hx hb dX2_putSummedSize_8 rfl (lv_at hl 3 rfl) ?_
    refine lv_iload_n hx hb dX2_putSummedSize_9 rfl (lv_at hl 2 rfl) ?_
    refine lv_icmp_ge (tgt := 29) hx hb dX2_putSummedSize_10 (by decide) (fun q1 => ?_) (fun q1 => ?_)
    · have hf := ip hf q1
      refine lv_aload_n hx hb dX2_putSummedSize_29 rfl (lv_at hl 0 rfl) ?_
      refine va_get (D := D) (ci := 1) (v := .ref a_hk) (C := RX2) (T := TX2) (N := 6) hx hb hts iX2_putSummedSize_X2 hown hK wd.1 0 rfl rfl 0 (by decide) (hts _ mX2_putSummedSize_0) (fun _ h9 => h9) rfl dX2_putSummedSize_30 ?_
      refine lv_iload_n hx hb dX2_putSummedSize_33 rfl (lv_at hl 1 rfl) ?_
      refine lv_sipush (v := 255) hx hb dX2_putSummedSize_34 (by decide) ?_
      refine lv_iload_n hx hb dX2_putSummedSize_37 rfl (lv_at hl 2 rfl) ?_
      refine lv_imul hx hb dX2_putSummedSize_38 ?_
      refine lv_isub hx hb dX2_putSummedSize_39 ?_
      obtain ⟨o2, ho2, hf⟩ := ob hf
      refine xj_v (va_runV (As := [.int (p1 - ((255 : Int32) * b8_l_2))]) (rest := []) ⟨hx, hb, hml, hown, hts⟩ (kX8_add l D Y F a_hk a_hkw H.size hk_most b8_f_hk_2 b8_f_hk_3 hkw_n b8_c_hkw (p1 - ((255 : Int32) * b8_l_2)) o2 ho2) (cwV 1 hts gX2_putSummedSize_X8_add rfl rfl rfl (by decide +kernel) ⟨Nat.le_of_ble_eq_true rfl, Nat.le_of_ble_eq_true rfl⟩) (prev_w (ci := 6) rfl rfl hK wd [1, 2] rfl (by decide)) rfl rfl hl.1 rfl (lv_room (Nat.le_of_ble_eq_true rfl)) dX2_putSummedSize_40 ⟨Nat.zero_le _, Nat.zero_le _⟩) wd hS hA [1, 2] [0] rfl rfl (by decide) (by decide) (fun H locs wd hS => ?_)
      have wd : WD D A [oX2 a_h (.ref a_hk) (.ref a_p) (.ref a_t) h_lace h_mostPackets h_unknownSizes, oX8 a_hk (.ref a_hkw) hk_most o2.1 o2.2.1, aI Y a_hkw hkw_n o2.2.2] H := wd
      obtain rfl := Option.some.inj hf
      exact W.vret hx hb hr (fun t ht hW => ⟨⟨(), rfl, trivial, WD.pst wd hK ht hW⟩, hS.F ht⟩) hS.2.2 dX2_putSummedSize_43
    · have hf := ie hf q1
      refine lv_aload_n hx hb dX2_putSummedSize_13 rfl (lv_at hl 0 rfl) ?_
      refine va_get (D := D) (ci := 1) (v := .ref a_hk) (C := RX2) (T := TX2) (N := 6) hx hb hts iX2_putSummedSize_X2 hown hK wd.1 0 rfl rfl 0 (by decide) (hts _ mX2_putSummedSize_0) (fun _ h9 => h9) rfl dX2_putSummedSize_14 ?_
      refine lv_sipush (v := 255) hx hb dX2_putSummedSize_17 (by decide) ?_
      obtain ⟨o3, ho3, hf⟩ := ob hf
      refine xj_v (va_runV (As := [.int 255]) (rest := []) ⟨hx, hb, hml, hown, hts⟩ (kX8_add l D Y F a_hk a_hkw H.size hk_most b8_f_hk_2 b8_f_hk_3 hkw_n b8_c_hkw 255 o3 ho3) (cwV 1 hts gX2_putSummedSize_X8_add rfl rfl rfl (by decide +kernel) ⟨Nat.le_of_ble_eq_true rfl, Nat.le_of_ble_eq_true rfl⟩) (prev_w (ci := 6) rfl rfl hK wd [1, 2] rfl (by decide)) rfl rfl hl.1 rfl (lv_room (Nat.le_of_ble_eq_true rfl)) dX2_putSummedSize_20 ⟨Nat.zero_le _, Nat.zero_le _⟩) wd hS hA [1, 2] [0] rfl rfl (by decide) (by decide) (fun H locs wd hS => ?_)
      have wd : WD D A [oX2 a_h (.ref a_hk) (.ref a_p) (.ref a_t) h_lace h_mostPackets h_unknownSizes, oX8 a_hk (.ref a_hkw) hk_most o3.1 o3.2.1, aI Y a_hkw hkw_n o3.2.2] H := wd
      obtain ⟨x4, ex4⟩ : ∃ y : Int32, y = b8_l_3 + 1 := ⟨_, rfl⟩
      have hf := nm_at hf ex4
      refine lv_iinc (v := x4) (lv' := [(3, .int x4), (0, .ref a_h), (1, .int p1), (2, .int b8_l_2)]) hx hb dX2_putSummedSize_23 hl (k := 3) rfl (by rw [ex4]; rfl) (by decide) rfl (fun ls hl => ?_)
      refine lv_goto (tgt := 8) hx hb dX2_putSummedSize_26 (by decide) ?_
      exact ih x4 b8_l_2 o3.1 o3.2.1 o3.2.2 hf wd hS (lv_sub hl [1, 2, 3, 0] rfl)

set_option maxHeartbeats 4000000 in
set_option maxRecDepth 100000 in
theorem wX2_putSummedSize {p : Program} {l : Launch} {e : Env} {s : State} {m : MethodId} {args : Array Value} {below : List Frame} {meth : Method} {c : Code} {A : Nat → Prop} (D : va_G) (Y : Y4) (C : CX p s m meth c args cX2_putSummedSize 4 none wsX2_putSummedSize RX2) (hA : ∀ q : Nat, s.heap.size ≤ q → A q) (hK : va_K D vwCl (TY Y) s) (F : Nat) (a_h : Nat) (a_hk : Nat) (a_hkw : Nat) (a_p : Nat) (a_t : Nat) (h_lace : Int32) (h_mostPackets : Int32) (h_unknownSizes : Int32) (hk_most : Int32) (hk_length : Int32) (hk_overfull : Int32) (hkw_n : Nat) (c_hkw : (Nat → Int32)) (p1 : Int32) (res : Int32 × Int32 × (Nat → Int32)) (hf : fX2_putSummedSize F hk_most hk_length hk_overfull hkw_n c_hkw p1 = some res) {H : Heap} {locs : List Loc} {ls : Array Slot} (wd : WD D A [oX2 a_h (.ref a_hk) (.ref a_p) (.ref a_t) h_lace h_mostPackets h_unknownSizes, oX8 a_hk (.ref a_hkw) hk_most hk_length hk_overfull, aI Y a_hkw hkw_n c_hkw] H) (hS : va_S A s.heap H locs) (hl : lv_has ls 4 [(0, .ref a_h), (1, .int p1)]) : W p l e { frames := 2, cells := 0, slots := 0, locals := 44 } s m args below meth c H locs 0 0 (MQ below (va_Qv (fun _ : Unit => True) (fun _ t => PST D Y A [oX2 a_h (.ref a_hk) (.ref a_p) (.ref a_t) h_lace h_mostPackets h_unknownSizes, oX8 a_hk (.ref a_hkw) hk_most res.1 res.2.1, aI Y a_hkw hkw_n res.2.2] t) A) args s 0 0 A) (F0 m 0 ls []) := by
  obtain ⟨hx, hb, hml, hr, hts, hown, hlocks⟩ := id C
  unfold fX2_putSummedSize at hf
  refine lv_iload_n hx hb dX2_putSummedSize_0 rfl (lv_at hl 1 rfl) ?_
  refine lv_sipush (v := 255) hx hb dX2_putSummedSize_1 (by decide) ?_
  refine lv_idiv hx hb dX2_putSummedSize_4 (by decide) ?_
  refine lv_topi (fun x1 ex1 => ?_)
  have hf := nm_at hf ex1
  refine lv_istore_n (lv' := [(2, .int x1), (0, .ref a_h), (1, .int p1)]) hx hb dX2_putSummedSize_5 rfl hl (by decide) rfl (fun ls hl => ?_)
  refine lv_iconst (v := 0) hx hb dX2_putSummedSize_6 (by decide) ?_
  refine lv_istore_n (lv' := [(3, .int 0), (2, .int x1), (0, .ref a_h), (1, .int p1)]) hx hb dX2_putSummedSize_7 rfl hl (by decide) rfl (fun ls hl => ?_)
  exact wX2_putSummedSize_b8 D Y C hA hK F a_h a_hk a_hkw a_p a_t h_lace h_mostPackets h_unknownSizes hk_most hk_length hk_overfull hkw_n c_hkw p1 _ F 0 x1 hk_length hk_overfull c_hkw hf wd hS (lv_sub hl [2, 3, 1, 0] rfl)
set_option maxHeartbeats 4000000 in
set_option maxRecDepth 100000 in
theorem kX2_putSummedSize (l : Launch) (D : va_G) (Y : Y4) (F : Nat) (a_h : Nat) (a_hk : Nat) (a_hkw : Nat) (a_p : Nat) (a_t : Nat) (sz : Nat) (h_lace : Int32) (h_mostPackets : Int32) (h_unknownSizes : Int32) (hk_most : Int32) (hk_length : Int32) (hk_overfull : Int32) (hkw_n : Nat) (c_hkw : (Nat → Int32)) (p1 : Int32) (res : Int32 × Int32 × (Nat → Int32)) (hf : fX2_putSummedSize F hk_most hk_length hk_overfull hkw_n c_hkw p1 = some res) : Met l yX2_putSummedSize wsX2_putSummedSize ({ frames := 2, cells := 0, slots := 0, locals := 44 }) (va_Pc [.ref a_h, .int p1] (PRE D Y [oX2 a_h (.ref a_hk) (.ref a_p) (.ref a_t) h_lace h_mostPackets h_unknownSizes, oX8 a_hk (.ref a_hkw) hk_most hk_length hk_overfull, aI Y a_hkw hkw_n c_hkw] sz)) (va_Qv (fun _ : Unit => True) (fun _ t => PST D Y (va_A [oX2 a_h (.ref a_hk) (.ref a_p) (.ref a_t) h_lace h_mostPackets h_unknownSizes, oX8 a_hk (.ref a_hkw) hk_most hk_length hk_overfull, aI Y a_hkw hkw_n c_hkw] sz) [oX2 a_h (.ref a_hk) (.ref a_p) (.ref a_t) h_lace h_mostPackets h_unknownSizes, oX8 a_hk (.ref a_hkw) hk_most res.1 res.2.1, aI Y a_hkw hkw_n res.2.2] t) (va_A [oX2 a_h (.ref a_hk) (.ref a_p) (.ref a_t) h_lace h_mostPackets h_unknownSizes, oX8 a_hk (.ref a_hkw) hk_most hk_length hk_overfull, aI Y a_hkw hkw_n c_hkw] sz)) 0 0 (va_A [oX2 a_h (.ref a_hk) (.ref a_p) (.ref a_t) h_lace h_mostPackets h_unknownSizes, oX8 a_hk (.ref a_hkw) hk_most hk_length hk_overfull, aI Y a_hkw hkw_n c_hkw] sz) := by
  refine Met.ofW (cc := cX2_putSummedSize) (maxL := 4) (ret := none) (by decide) rfl ?_
  intro p e s m args below meth c s₁ B hml hv
  obtain ⟨rfl, rfl, hP, hK, hD0⟩ := hv
  have hl := lv_entry ([.ref a_h, .int p1]) (n := 4) (Nat.le_of_ble_eq_true rfl)
  rw [lg_entry_eq]
  exact wX2_putSummedSize D Y ⟨B.exec, B.bytes, hml, B.returns, atoms_spec (ws := wsX2_putSummedSize) B.pre, findClass_of_methodNamed B.named, B.notSynchronized⟩ (fun q h => Or.inr h) hK F a_h a_hk a_hkw a_p a_t h_lace h_mostPackets h_unknownSizes hk_most hk_length hk_overfull hkw_n c_hkw p1 res hf ⟨hP, hD0.self⟩ va_S.rf hl
theorem mX2_putDifference_0 : Cond.methodLink RX2 138 Lib.MathLoose.abs_long.x ∈ wsX2_putDifference := List.mem_cons_of_mem _ u_390
theorem mX2_putDifference_1 : Cond.static Lib.MathLoose.abs_long.x ∈ wsX2_putDifference := List.mem_cons_of_mem _ u_391
theorem mX2_putDifference_2 : Cond.initialized "java/lang/Math" ∈ wsX2_putDifference := List.mem_cons_of_mem _ u_48
theorem mX2_putDifference_3 : Cond.code Lib.MathLoose.abs_long.x Lib.MathLoose.abs_long.code 2 (some .long) ∈ wsX2_putDifference := List.mem_cons_of_mem _ u_392
theorem mX2_putDifference_4 : Cond.fieldLink RX2 16 "StreamRemuxer$ElementWriter" "blockHeader" "LStreamRemuxer$Row;" ∈ wsX2_putDifference := List.mem_cons_of_mem _ u_73
theorem iX2_putDifference_X2 : ∀ w ∈ wsX20, w ∈ wsX2_putDifference := fun w h => List.mem_cons_of_mem _ (inlX2 w h)
set_option maxHeartbeats 4000000 in
set_option maxRecDepth 100000 in
theorem wX2_putDifference_b26 {p : Program} {l : Launch} {e : Env} {s : State} {m : MethodId} {args : Array Value} {below : List Frame} {meth : Method} {c : Code} {A : Nat → Prop} (D : va_G) (Y : Y4) (C : CX p s m meth c args cX2_putDifference 6 none wsX2_putDifference RX2) (hA : ∀ q : Nat, s.heap.size ≤ q → A q) (hK : va_K D vwCl (TY Y) s) (F : Nat) (a_h : Nat) (a_hk : Nat) (a_hkw : Nat) (a_p : Nat) (a_t : Nat) (h_lace : Int32) (h_mostPackets : Int32) (h_unknownSizes : Int32) (hk_most : Int32) (hk_length : Int32) (hk_overfull : Int32) (hkw_n : Nat) (c_hkw : (Nat → Int32)) (p1 : Int64) (res : Int32 × Int32 × (Nat → Int32)) (b26_l_3 : Int32) (hf : fX2_putDifference_b26 F hk_most hk_length hk_overfull hkw_n c_hkw p1 b26_l_3 = some res) {H : Heap} {locs : List Loc} {ls : Array Slot} (wd : WD D A [oX2 a_h (.ref a_hk) (.ref a_p) (.ref a_t) h_lace h_mostPackets h_unknownSizes, oX8 a_hk (.ref a_hkw) hk_most hk_length hk_overfull, aI Y a_hkw hkw_n c_hkw] H) (hS : va_S A s.heap H locs) (hl : lv_has ls 6 [(0, .ref a_h), (1, .long p1), (3, .int b26_l_3)]) : W p l e { frames := 3, cells := 0, slots := 0, locals := 68 } s m args below meth c H locs 0 0 (MQ below (va_Qv (fun _ : Unit => True) (fun _ t => PST D Y A [oX2 a_h (.ref a_hk) (.ref a_p) (.ref a_t) h_lace h_mostPackets h_unknownSizes, oX8 a_hk (.ref a_hkw) hk_most res.1 res.2.1, aI Y a_hkw hkw_n res.2.2] t) A) args s 0 0 A) (F0 m 26 ls []) := by
  obtain ⟨hx, hb, hml, hr, hts, hown, hlocks⟩ := id C
  unfold fX2_putDifference_b26 at hf
  refine lv_lload_n hx hb dX2_putDifference_26 rfl (lv_at hl 1 rfl) ?_
  refine lv_iload_n hx hb dX2_putDifference_27 rfl (lv_at hl 2 rfl) ?_
  obtain ⟨o1, ho1, hf⟩ := ob hf
  refine xj_l (va_runS (As := [.int b26_l_3]) (rest := [.long p1]) ⟨hx, hb, hml, hown, hts⟩ (kX0_differenceShift l D Y F H.size b26_l_3 o1 ho1) (va_cwS 1 hts gX2_putDifference_X0_differenceShift rfl rfl rfl (by decide +kernel) ⟨Nat.le_of_ble_eq_true rfl, Nat.le_of_ble_eq_true rfl⟩) (pres_w hK wd [] rfl (by decide)) rfl rfl hl.1 rfl (lv_room (Nat.le_of_ble_eq_true rfl)) dX2_putDifference_28 ⟨Nat.zero_le _, Nat.zero_le _⟩) wd hS hA [] [0, 1, 2] rfl rfl (by decide) (by decide) (fun H locs wd hS => ?_)
  have wd : WD D A [oX2 a_h (.ref a_hk) (.ref a_p) (.ref a_t) h_lace h_mostPackets h_unknownSizes, oX8 a_hk (.ref a_hkw) hk_most hk_length hk_overfull, aI Y a_hkw hkw_n c_hkw] H := wd
  refine lv_ladd hx hb dX2_putDifference_31 ?_
  refine lv_topl (fun x2 ex2 => ?_)
  have hf := nm_at hf ex2
  refine lv_lstore (lv' := [(4, .long x2), (0, .ref a_h), (1, .long p1), (3, .int b26_l_3)]) hx hb dX2_putDifference_32 hl (by decide) rfl (fun ls hl => ?_)
  refine lv_aload_n hx hb dX2_putDifference_34 rfl (lv_at hl 1 rfl) ?_
  refine va_get (D := D) (ci := 1) (v := .ref a_hk) (C := RX2) (T := TX2) (N := 6) hx hb hts iX2_putDifference_X2 hown hK wd.1 0 rfl rfl 0 (by decide) (hts _ mX2_putDifference_4) (fun _ h9 => h9) rfl dX2_putDifference_35 ?_
  refine lv_lconst (v := 1) hx hb dX2_putDifference_38 (by decide) ?_
  refine lv_bipush (v := 7) hx hb dX2_putDifference_39 (by decide) ?_
  refine lv_iload_n hx hb dX2_putDifference_41 rfl (lv_at hl 3 rfl) ?_
  refine lv_imul hx hb dX2_putDifference_42 ?_
  refine lv_lshl (v := (shl64 1 ((7 : Int32) * b26_l_3))) hx hb dX2_putDifference_43 rfl ?_
  refine lv_lload hx hb dX2_putDifference_44 (lv_at hl 0 rfl) ?_
  refine lv_lor hx hb dX2_putDifference_46 ?_
  refine lv_iload_n hx hb dX2_putDifference_47 rfl (lv_at hl 3 rfl) ?_
  obtain ⟨o3, ho3, hf⟩ := ob hf
  refine xj_v (va_runV (As := [.long ((shl64 1 ((7 : Int32) * b26_l_3)) ||| x2), .int b26_l_3]) (rest := []) ⟨hx, hb, hml, hown, hts⟩ (kX8_addHighFirst l D Y F a_hk a_hkw H.size hk_most hk_length hk_overfull hkw_n c_hkw ((shl64 1 ((7 : Int32) * b26_l_3)) ||| x2) b26_l_3 o3 ho3) (cwV 2 hts gX2_putDifference_X8_addHighFirst rfl rfl rfl (by decide +kernel) ⟨Nat.le_of_ble_eq_true rfl, Nat.le_of_ble_eq_true rfl⟩) (prev_w (ci := 6) rfl rfl hK wd [1, 2] rfl (by decide)) rfl rfl hl.1 rfl (lv_room (Nat.le_of_ble_eq_true rfl)) dX2_putDifference_48 ⟨Nat.zero_le _, Nat.zero_le _⟩) wd hS hA [1, 2] [0] rfl rfl (by decide) (by decide) (fun H locs wd hS => ?_)
  have wd : WD D A [oX2 a_h (.ref a_hk) (.ref a_p) (.ref a_t) h_lace h_mostPackets h_unknownSizes, oX8 a_hk (.ref a_hkw) hk_most o3.1 o3.2.1, aI Y a_hkw hkw_n o3.2.2] H := wd
  obtain rfl := Option.some.inj hf
  exact W.vret hx hb hr (fun t ht hW => ⟨⟨(), rfl, trivial, WD.pst wd hK ht hW⟩, hS.F ht⟩) hS.2.2 dX2_putDifference_51

set_option maxHeartbeats 4000000 in
set_option maxRecDepth 100000 in
theorem wX2_putDifference_b2 {p : Program} {l : Launch} {e : Env} {s : State} {m : MethodId} {args : Array Value} {below : List Frame} {meth : Method} {c : Code} {A : Nat → Prop} (D : va_G) (Y : Y4) (C : CX p s m meth c args cX2_putDifference 6 none wsX2_putDifference RX2) (hA : ∀ q : Nat, s.heap.size ≤ q → A q) (hK : va_K D vwCl (TY Y) s) (F : Nat) (a_h : Nat) (a_hk : Nat) (a_hkw : Nat) (a_p : Nat) (a_t : Nat) (h_lace : Int32) (h_mostPackets : Int32) (h_unknownSizes : Int32) (hk_most : Int32) (hk_length : Int32) (hk_overfull : Int32) (hkw_n : Nat) (c_hkw : (Nat → Int32)) (p1 : Int64) (res : Int32 × Int32 × (Nat → Int32)) : ∀ (n : Nat) (b2_l_3 : Int32), fX2_putDifference_b2 F hk_most hk_length hk_overfull hkw_n c_hkw p1 n b2_l_3 = some res → ∀ {H : Heap} {locs : List Loc} {ls : Array Slot}, WD D A [oX2 a_h (.ref a_hk) (.ref a_p) (.ref a_t) h_lace h_mostPackets h_unknownSizes, oX8 a_hk (.ref a_hkw) hk_most hk_length hk_overfull, aI Y a_hkw hkw_n c_hkw] H → va_S A s.heap H locs → lv_has ls 6 [(0, .ref a_h), (1, .long p1), (3, .int b2_l_3)] → W p l e { frames := 3, cells := 0, slots := 0, locals := 68 } s m args below meth c H locs 0 0 (MQ below (va_Qv (fun _ : Unit => True) (fun _ t => PST D Y A [oX2 a_h (.ref a_hk) (.ref a_p) (.ref a_t) h_lace h_mostPackets h_unknownSizes, oX8 a_hk (.ref a_hkw) hk_most res.1 res.2.1, aI Y a_hkw hkw_n res.2.2] t) A) args s 0 0 A) (F0 m 2 ls []) := by
  obtain ⟨hx, hb, hml, hr, hts, hown, hlocks⟩ := id C
  intro n
  induction n with
  | zero => intro b2_l_3 hf; exact absurd hf (by simp [fX2_putDifference_b2])
  | succ n ih =>
    intro b2_l_3 hf H locs ls wd hS hl
    unfold fX2_putDifference_b2 at hf
    refine lv_iload_n hx hb dX2_putDifference_2 rfl (lv_at hl 2 rfl) ?_
    refine lv_bipush (v := 8) hx hb dX2_putDifference_3 (by decide) ?_
    refine lv_icmp_ge (tgt := 26) hx hb dX2_putDifference_5 (by decide) (fun q1 => ?_) (fun q1 => ?_)
    · have hf := ip hf q1
      exact wX2_putDifference_b26 D Y C hA hK F a_h a_hk a_hkw a_p a_t h_lace h_mostPackets h_unknownSizes hk_most hk_length hk_overfull hkw_n c_hkw p1 _ b2_l_3 hf wd hS (lv_sub hl [0, 1, 2] rfl)
    · have hf := ie hf q1
      refine lv_lload_n hx hb dX2_putDifference_8 rfl (lv_at hl 1 rfl) ?_
      refine va_mabs_long hx hb (by rw [hml]; exact hl.1.symm) hown (hts _ mX2_putDifference_0) (hts _ mX2_putDifference_1) (hts _ mX2_putDifference_2) (hts _ mX2_putDifference_3) (Nat.le_of_ble_eq_true rfl) (Nat.le_of_ble_eq_true rfl) (Nat.zero_le _) (Nat.zero_le _) dX2_putDifference_9 ?_
      refine lv_iload_n hx hb dX2_putDifference_12 rfl (lv_at hl 2 rfl) ?_
      obtain ⟨o2, ho2, hf⟩ := ob hf
      refine xj_l (va_runS (As := [.int b2_l_3]) (rest := [.long (if 0 < p1 then p1 else -p1)]) ⟨hx, hb, hml, hown, hts⟩ (kX0_differenceShift l D Y F H.size b2_l_3 o2 ho2) (va_cwS 1 hts gX2_putDifference_X0_differenceShift rfl rfl rfl (by decide +kernel) ⟨Nat.le_of_ble_eq_true rfl, Nat.le_of_ble_eq_true rfl⟩) (pres_w hK wd [] rfl (by decide)) rfl rfl hl.1 rfl (lv_room (Nat.le_of_ble_eq_true rfl)) dX2_putDifference_13 ⟨Nat.zero_le _, Nat.zero_le _⟩) wd hS hA [] [0, 1, 2] rfl rfl (by decide) (by decide) (fun H locs wd hS => ?_)
      have wd : WD D A [oX2 a_h (.ref a_hk) (.ref a_p) (.ref a_t) h_lace h_mostPackets h_unknownSizes, oX8 a_hk (.ref a_hkw) hk_most hk_length hk_overfull, aI Y a_hkw hkw_n c_hkw] H := wd
      refine xl_le (tgt := 26) hx hb dX2_putDifference_16 dX2_putDifference_17 (by decide) (fun q3 => ?_) (fun q3 => ?_)
      · have hf := ip hf q3
        exact wX2_putDifference_b26 D Y C hA hK F a_h a_hk a_hkw a_p a_t h_lace h_mostPackets h_unknownSizes hk_most hk_length hk_overfull hkw_n c_hkw p1 _ b2_l_3 hf wd hS (lv_sub hl [0, 1, 2] rfl)
      · have hf := ie hf q3
        obtain ⟨x4, ex4⟩ : ∃ y : Int32, y = b2_l_3 + 1 := ⟨_, rfl⟩
        have hf := nm_at hf ex4
        refine lv_iinc (v := x4) (lv' := [(3, .int x4), (0, .ref a_h), (1, .long p1)]) hx hb dX2_putDifference_20 hl (k := 2) rfl (by rw [ex4]; rfl) (by decide) rfl (fun ls hl => ?_)
        refine lv_goto (tgt := 2) hx hb dX2_putDifference_23 (by decide) ?_
        exact ih x4 hf wd hS (lv_sub hl [1, 2, 0] rfl)

set_option maxHeartbeats 4000000 in
set_option maxRecDepth 100000 in
theorem wX2_putDifference {p : Program} {l : Launch} {e : Env} {s : State} {m : MethodId} {args : Array Value} {below : List Frame} {meth : Method} {c : Code} {A : Nat → Prop} (D : va_G) (Y : Y4) (C : CX p s m meth c args cX2_putDifference 6 none wsX2_putDifference RX2) (hA : ∀ q : Nat, s.heap.size ≤ q → A q) (hK : va_K D vwCl (TY Y) s) (F : Nat) (a_h : Nat) (a_hk : Nat) (a_hkw : Nat) (a_p : Nat) (a_t : Nat) (h_lace : Int32) (h_mostPackets : Int32) (h_unknownSizes : Int32) (hk_most : Int32) (hk_length : Int32) (hk_overfull : Int32) (hkw_n : Nat) (c_hkw : (Nat → Int32)) (p1 : Int64) (res : Int32 × Int32 × (Nat → Int32)) (hf : fX2_putDifference F hk_most hk_length hk_overfull hkw_n c_hkw p1 = some res) {H : Heap} {locs : List Loc} {ls : Array Slot} (wd : WD D A [oX2 a_h (.ref a_hk) (.ref a_p) (.ref a_t) h_lace h_mostPackets h_unknownSizes, oX8 a_hk (.ref a_hkw) hk_most hk_length hk_overfull, aI Y a_hkw hkw_n c_hkw] H) (hS : va_S A s.heap H locs) (hl : lv_has ls 6 [(0, .ref a_h), (1, .long p1)]) : W p l e { frames := 3, cells := 0, slots := 0, locals := 68 } s m args below meth c H locs 0 0 (MQ below (va_Qv (fun _ : Unit => True) (fun _ t => PST D Y A [oX2 a_h (.ref a_hk) (.ref a_p) (.ref a_t) h_lace h_mostPackets h_unknownSizes, oX8 a_hk (.ref a_hkw) hk_most res.1 res.2.1, aI Y a_hkw hkw_n res.2.2] t) A) args s 0 0 A) (F0 m 0 ls []) := by
  obtain ⟨hx, hb, hml, hr, hts, hown, hlocks⟩ := id C
  unfold fX2_putDifference at hf
  refine lv_iconst (v := 1) hx hb dX2_putDifference_0 (by decide) ?_
  refine lv_istore_n (lv' := [(3, .int 1), (0, .ref a_h), (1, .long p1)]) hx hb dX2_putDifference_1 rfl hl (by decide) rfl (fun ls hl => ?_)
  exact wX2_putDifference_b2 D Y C hA hK F a_h a_hk a_hkw a_p a_t h_lace h_mostPackets h_unknownSizes hk_most hk_length hk_overfull hkw_n c_hkw p1 _ F 1 hf wd hS (lv_sub hl [1, 2, 0] rfl)
set_option maxHeartbeats 4000000 in
set_option maxRecDepth 100000 in
theorem kX2_putDifference (l : Launch) (D : va_G) (Y : Y4) (F : Nat) (a_h : Nat) (a_hk : Nat) (a_hkw : Nat) (a_p : Nat) (a_t : Nat) (sz : Nat) (h_lace : Int32) (h_mostPackets : Int32) (h_unknownSizes : Int32) (hk_most : Int32) (hk_length : Int32) (hk_overfull : Int32) (hkw_n : Nat) (c_hkw : (Nat → Int32)) (p1 : Int64) (res : Int32 × Int32 × (Nat → Int32)) (hf : fX2_putDifference F hk_most hk_length hk_overfull hkw_n c_hkw p1 = some res) : Met l yX2_putDifference wsX2_putDifference ({ frames := 3, cells := 0, slots := 0, locals := 68 }) (va_Pc [.ref a_h, .long p1] (PRE D Y [oX2 a_h (.ref a_hk) (.ref a_p) (.ref a_t) h_lace h_mostPackets h_unknownSizes, oX8 a_hk (.ref a_hkw) hk_most hk_length hk_overfull, aI Y a_hkw hkw_n c_hkw] sz)) (va_Qv (fun _ : Unit => True) (fun _ t => PST D Y (va_A [oX2 a_h (.ref a_hk) (.ref a_p) (.ref a_t) h_lace h_mostPackets h_unknownSizes, oX8 a_hk (.ref a_hkw) hk_most hk_length hk_overfull, aI Y a_hkw hkw_n c_hkw] sz) [oX2 a_h (.ref a_hk) (.ref a_p) (.ref a_t) h_lace h_mostPackets h_unknownSizes, oX8 a_hk (.ref a_hkw) hk_most res.1 res.2.1, aI Y a_hkw hkw_n res.2.2] t) (va_A [oX2 a_h (.ref a_hk) (.ref a_p) (.ref a_t) h_lace h_mostPackets h_unknownSizes, oX8 a_hk (.ref a_hkw) hk_most hk_length hk_overfull, aI Y a_hkw hkw_n c_hkw] sz)) 0 0 (va_A [oX2 a_h (.ref a_hk) (.ref a_p) (.ref a_t) h_lace h_mostPackets h_unknownSizes, oX8 a_hk (.ref a_hkw) hk_most hk_length hk_overfull, aI Y a_hkw hkw_n c_hkw] sz) := by
  refine Met.ofW (cc := cX2_putDifference) (maxL := 6) (ret := none) (by decide) rfl ?_
  intro p e s m args below meth c s₁ B hml hv
  obtain ⟨rfl, rfl, hP, hK, hD0⟩ := hv
  have hl := lv_entry ([.ref a_h, .long p1]) (n := 6) (Nat.le_of_ble_eq_true rfl)
  rw [lg_entry_eq]
  exact wX2_putDifference D Y ⟨B.exec, B.bytes, hml, B.returns, atoms_spec (ws := wsX2_putDifference) B.pre, findClass_of_methodNamed B.named, B.notSynchronized⟩ (fun q h => Or.inr h) hK F a_h a_hk a_hkw a_p a_t h_lace h_mostPackets h_unknownSizes hk_most hk_length hk_overfull hkw_n c_hkw p1 res hf ⟨hP, hD0.self⟩ va_S.rf hl
theorem mX2_putBlock_0 : Cond.fieldLink RX2 27 "StreamRemuxer$ElementWriter" "lace" "I" ∈ wsX2_putBlock := List.mem_cons_of_mem _ u_322
theorem mX2_putBlock_1 : Cond.fieldLink RX2 16 "StreamRemuxer$ElementWriter" "blockHeader" "LStreamRemuxer$Row;" ∈ wsX2_putBlock := List.mem_cons_of_mem _ u_73
theorem mX2_putBlock_2 : Cond.fieldLink RX2 20 "StreamRemuxer$ElementWriter" "source" "LStreamRemuxer$PacketList;" ∈ wsX2_putBlock := List.mem_cons_of_mem _ u_320
theorem mX2_putBlock_3 : Cond.fieldLink RX2 24 "StreamRemuxer$ElementWriter" "target" "LStreamRemuxer$Row;" ∈ wsX2_putBlock := List.mem_cons_of_mem _ u_321
theorem mX2_putBlock_4 : Cond.fieldLink RX2 104 "StreamRemuxer$Row" "length" "I" ∈ wsX2_putBlock := List.mem_cons_of_mem _ u_338
theorem mX2_putBlock_5 : Cond.fieldLink RX2 135 "StreamRemuxer$PacketList" "bytes" "LStreamRemuxer$Row;" ∈ wsX2_putBlock := List.mem_cons_of_mem _ u_380
theorem iX2_putBlock_X2 : ∀ w ∈ wsX20, w ∈ wsX2_putBlock := fun w h => List.mem_cons_of_mem _ (inlX2 w h)
theorem iX2_putBlock_X4 : ∀ w ∈ wsX40, w ∈ wsX2_putBlock := fun w h => List.mem_cons_of_mem _ (inlX4 w h)
theorem iX2_putBlock_X8 : ∀ w ∈ wsX80, w ∈ wsX2_putBlock := fun w h => List.mem_cons_of_mem _ (inlX8 w h)
set_option maxHeartbeats 4000000 in
set_option maxRecDepth 100000 in
theorem wX2_putBlock_b170 {p : Program} {l : Launch} {e : Env} {s : State} {m : MethodId} {args : Array Value} {below : List Frame} {meth : Method} {c : Code} {A : Nat → Prop} (D : va_G) (Y : Y4) (C : CX p s m meth c args cX2_putBlock 8 none wsX2_putBlock RX2) (hA : ∀ q : Nat, s.heap.size ≤ q → A q) (hK : va_K D vwCl (TY Y) s) (F : Nat) (a_h : Nat) (a_hk : Nat) (a_hkw : Nat) (a_p : Nat) (a_pb : Nat) (a_pbw : Nat) (a_pe : Nat) (a_t : Nat) (a_tw : Nat) (a_pt : Nat) (h_lace : Int32) (h_mostPackets : Int32) (h_unknownSizes : Int32) (hk_most : Int32) (hk_length : Int32) (hk_overfull : Int32) (hkw_n : Nat) (c_hkw : (Nat → Int32)) (p_packets : Int32) (pb_most : Int32) (pb_length : Int32) (pb_overfull : Int32) (pbw_n : Nat) (c_pbw : (Nat → Int32)) (c_pe : (Nat → Int32)) (t_most : Int32) (t_length : Int32) (t_overfull : Int32) (tw_n : Nat) (c_tw : (Nat → Int32)) (p1 : Int32) (p2 : Int32) (p3 : Int64) (res : Int32 × Int32 × (Nat → Int32) × Int32 × Int32 × (Nat → Int32)) (rc74 : Int32 → Int32 → Int32 → Int32 → (Nat → Int32) → Option (Int32 × Int32 × (Nat → Int32) × Int32 × Int32 × (Nat → Int32))) (hrc74 : ∀ (b74_l_6 : Int32) (b74_l_5 : Int32) (b74_f_hk_2 : Int32) (b74_f_hk_3 : Int32) (b74_c_hkw : (Nat → Int32)), rc74 b74_l_6 b74_l_5 b74_f_hk_2 b74_f_hk_3 b74_c_hkw = some res → ∀ {H : Heap} {locs : List Loc} {ls : Array Slot}, WD D A [oX2 a_h (.ref a_hk) (.ref a_p) (.ref a_t) h_lace h_mostPackets h_unknownSizes, oX8 a_hk (.ref a_hkw) hk_most b74_f_hk_2 b74_f_hk_3, aI Y a_hkw hkw_n b74_c_hkw, oX4 a_p (.ref a_pb) (.ref a_pe) (.ref a_pt) p_packets, oX8 a_pb (.ref a_pbw) pb_most pb_length pb_overfull, aI Y a_pbw pbw_n c_pbw, aI Y a_pe 64 c_pe, oX8 a_t (.ref a_tw) t_most t_length t_overfull, aI Y a_tw tw_n c_tw] H → va_S A s.heap H locs → lv_has ls 8 [(0, .ref a_h), (1, .int p1), (2, .int p2), (5, .int b74_l_5), (6, .int b74_l_6)] → W p l e { frames := 4, cells := 0, slots := 0, locals := 93 } s m args below meth c H locs 0 0 (MQ below (va_Qv (fun _ : Unit => True) (fun _ t => PST D Y A [oX2 a_h (.ref a_hk) (.ref a_p) (.ref a_t) h_lace h_mostPackets h_unknownSizes, oX8 a_hk (.ref a_hkw) hk_most res.1 res.2.1, aI Y a_hkw hkw_n res.2.2.1, oX4 a_p (.ref a_pb) (.ref a_pe) (.ref a_pt) p_packets, oX8 a_pb (.ref a_pbw) pb_most pb_length pb_overfull, aI Y a_pbw pbw_n c_pbw, aI Y a_pe 64 c_pe, oX8 a_t (.ref a_tw) t_most res.2.2.2.1 res.2.2.2.2.1, aI Y a_tw tw_n res.2.2.2.2.2] t) A) args s 0 0 A) (F0 m 74 ls [])) (b170_l_5 : Int32) (b170_l_6 : Int32) (b170_f_hk_2 : Int32) (b170_f_hk_3 : Int32) (b170_c_hkw : (Nat → Int32)) (hf : fX2_putBlock_b170 F rc74 b170_l_5 b170_l_6 b170_f_hk_2 b170_f_hk_3 b170_c_hkw = some res) {H : Heap} {locs : List Loc} {ls : Array Slot} (wd : WD D A [oX2 a_h (.ref a_hk) (.ref a_p) (.ref a_t) h_lace h_mostPackets h_unknownSizes, oX8 a_hk (.ref a_hkw) hk_most b170_f_hk_2 b170_f_hk_3, aI Y a_hkw hkw_n b170_c_hkw, oX4 a_p (.ref a_pb) (.ref a_pe) (.ref a_pt) p_packets, oX8 a_pb (.ref a_pbw) pb_most pb_length pb_overfull, aI Y a_pbw pbw_n c_pbw, aI Y a_pe 64 c_pe, oX8 a_t (.ref a_tw) t_most t_length t_overfull, aI Y a_tw tw_n c_tw] H) (hS : va_S A s.heap H locs) (hl : lv_has ls 8 [(0, .ref a_h), (1, .int p1), (2, .int p2), (5, .int b170_l_5), (6, .int b170_l_6)]) : W p l e { frames := 4, cells := 0, slots := 0, locals := 93 } s m args below meth c H locs 0 0 (MQ below (va_Qv (fun _ : Unit => True) (fun _ t => PST D Y A [oX2 a_h (.ref a_hk) (.ref a_p) (.ref a_t) h_lace h_mostPackets h_unknownSizes, oX8 a_hk (.ref a_hkw) hk_most res.1 res.2.1, aI Y a_hkw hkw_n res.2.2.1, oX4 a_p (.ref a_pb) (.ref a_pe) (.ref a_pt) p_packets, oX8 a_pb (.ref a_pbw) pb_most pb_length pb_overfull, aI Y a_pbw pbw_n c_pbw, aI Y a_pe 64 c_pe, oX8 a_t (.ref a_tw) t_most res.2.2.2.1 res.2.2.2.2.1, aI Y a_tw tw_n res.2.2.2.2.2] t) A) args s 0 0 A) (F0 m 170 ls []) := by
  obtain ⟨hx, hb, hml, hr, hts, hown, hlocks⟩ := id C
  unfold fX2_putBlock_b170 at hf
  obtain ⟨x1, ex1⟩ : ∃ y : Int32, y = b170_l_6 + 1 := ⟨_, rfl⟩
  have hf := nm_at hf ex1
  refine lv_iinc (v := x1) (lv' := [(6, .int x1), (0, .ref a_h), (1, .int p1), (2, .int p2), (5, .int b170_l_5)]) hx hb dX2_putBlock_170 hl (k := 4) rfl (by rw [ex1]; rfl) (by decide) rfl (fun ls hl => ?_)
  refine lv_goto (tgt := 74) hx hb dX2_putBlock_173 (by decide) ?_
  exact hrc74 x1 b170_l_5 b170_f_hk_2 b170_f_hk_3 b170_c_hkw hf wd hS (lv_sub hl [1, 2, 3, 4, 0] rfl)

set_option maxHeartbeats 4000000 in
set_option maxRecDepth 100000 in
theorem wX2_putBlock_b138 {p : Program} {l : Launch} {e : Env} {s : State} {m : MethodId} {args : Array Value} {below : List Frame} {meth : Method} {c : Code} {A : Nat → Prop} (D : va_G) (Y : Y4) (C : CX p s m meth c args cX2_putBlock 8 none wsX2_putBlock RX2) (hA : ∀ q : Nat, s.heap.size ≤ q → A q) (hK : va_K D vwCl (TY Y) s) (F : Nat) (a_h : Nat) (a_hk : Nat) (a_hkw : Nat) (a_p : Nat) (a_pb : Nat) (a_pbw : Nat) (a_pe : Nat) (a_t : Nat) (a_tw : Nat) (a_pt : Nat) (h_lace : Int32) (h_mostPackets : Int32) (h_unknownSizes : Int32) (hk_most : Int32) (hk_length : Int32) (hk_overfull : Int32) (hkw_n : Nat) (c_hkw : (Nat → Int32)) (p_packets : Int32) (pb_most : Int32) (pb_length : Int32) (pb_overfull : Int32) (pbw_n : Nat) (c_pbw : (Nat → Int32)) (c_pe : (Nat → Int32)) (t_most : Int32) (t_length : Int32) (t_overfull : Int32) (tw_n : Nat) (c_tw : (Nat → Int32)) (p1 : Int32) (p2 : Int32) (p3 : Int64) (res : Int32 × Int32 × (Nat → Int32) × Int32 × Int32 × (Nat → Int32)) (rc74 : Int32 → Int32 → Int32 → Int32 → (Nat → Int32) → Option (Int32 × Int32 × (Nat → Int32) × Int32 × Int32 × (Nat → Int32))) (hrc74 : ∀ (b74_l_6 : Int32) (b74_l_5 : Int32) (b74_f_hk_2 : Int32) (b74_f_hk_3 : Int32) (b74_c_hkw : (Nat → Int32)), rc74 b74_l_6 b74_l_5 b74_f_hk_2 b74_f_hk_3 b74_c_hkw = some res → ∀ {H : Heap} {locs : List Loc} {ls : Array Slot}, WD D A [oX2 a_h (.ref a_hk) (.ref a_p) (.ref a_t) h_lace h_mostPackets h_unknownSizes, oX8 a_hk (.ref a_hkw) hk_most b74_f_hk_2 b74_f_hk_3, aI Y a_hkw hkw_n b74_c_hkw, oX4 a_p (.ref a_pb) (.ref a_pe) (.ref a_pt) p_packets, oX8 a_pb (.ref a_pbw) pb_most pb_length pb_overfull, aI Y a_pbw pbw_n c_pbw, aI Y a_pe 64 c_pe, oX8 a_t (.ref a_tw) t_most t_length t_overfull, aI Y a_tw tw_n c_tw] H → va_S A s.heap H locs → lv_has ls 8 [(0, .ref a_h), (1, .int p1), (2, .int p2), (5, .int b74_l_5), (6, .int b74_l_6)] → W p l e { frames := 4, cells := 0, slots := 0, locals := 93 } s m args below meth c H locs 0 0 (MQ below (va_Qv (fun _ : Unit => True) (fun _ t => PST D Y A [oX2 a_h (.ref a_hk) (.ref a_p) (.ref a_t) h_lace h_mostPackets h_unknownSizes, oX8 a_hk (.ref a_hkw) hk_most res.1 res.2.1, aI Y a_hkw hkw_n res.2.2.1, oX4 a_p (.ref a_pb) (.ref a_pe) (.ref a_pt) p_packets, oX8 a_pb (.ref a_pbw) pb_most pb_length pb_overfull, aI Y a_pbw pbw_n c_pbw, aI Y a_pe 64 c_pe, oX8 a_t (.ref a_tw) t_most res.2.2.2.1 res.2.2.2.2.1, aI Y a_tw tw_n res.2.2.2.2.2] t) A) args s 0 0 A) (F0 m 74 ls [])) (b138_l_5 : Int32) (b138_l_6 : Int32) (b138_f_hk_2 : Int32) (b138_f_hk_3 : Int32) (b138_c_hkw : (Nat → Int32)) (hf : fX2_putBlock_b138 F hk_most hkw_n p_packets c_pe rc74 b138_l_5 b138_l_6 b138_f_hk_2 b138_f_hk_3 b138_c_hkw = some res) {H : Heap} {locs : List Loc} {ls : Array Slot} (wd : WD D A [oX2 a_h (.ref a_hk) (.ref a_p) (.ref a_t) h_lace h_mostPackets h_unknownSizes, oX8 a_hk (.ref a_hkw) hk_most b138_f_hk_2 b138_f_hk_3, aI Y a_hkw hkw_n b138_c_hkw, oX4 a_p (.ref a_pb) (.ref a_pe) (.ref a_pt) p_packets, oX8 a_pb (.ref a_pbw) pb_most pb_length pb_overfull, aI Y a_pbw pbw_n c_pbw, aI Y a_pe 64 c_pe, oX8 a_t (.ref a_tw) t_most t_length t_overfull, aI Y a_tw tw_n c_tw] H) (hS : va_S A s.heap H locs) (hl : lv_has ls 8 [(0, .ref a_h), (1, .int p1), (2, .int p2), (5, .int b138_l_5), (6, .int b138_l_6)]) : W p l e { frames := 4, cells := 0, slots := 0, locals := 93 } s m args below meth c H locs 0 0 (MQ below (va_Qv (fun _ : Unit => True) (fun _ t => PST D Y A [oX2 a_h (.ref a_hk) (.ref a_p) (.ref a_t) h_lace h_mostPackets h_unknownSizes, oX8 a_hk (.ref a_hkw) hk_most res.1 res.2.1, aI Y a_hkw hkw_n res.2.2.1, oX4 a_p (.ref a_pb) (.ref a_pe) (.ref a_pt) p_packets, oX8 a_pb (.ref a_pbw) pb_most pb_length pb_overfull, aI Y a_pbw pbw_n c_pbw, aI Y a_pe 64 c_pe, oX8 a_t (.ref a_tw) t_most res.2.2.2.1 res.2.2.2.2.1, aI Y a_tw tw_n res.2.2.2.2.2] t) A) args s 0 0 A) (F0 m 138 ls []) := by
  obtain ⟨hx, hb, hml, hr, hts, hown, hlocks⟩ := id C
  unfold fX2_putBlock_b138 at hf
  refine lv_iload hx hb dX2_putBlock_138 (lv_at hl 3 rfl) ?_
  refine lv_iconst (v := 3) hx hb dX2_putBlock_140 (by decide) ?_
  refine lv_icmp_ne (tgt := 170) hx hb dX2_putBlock_141 (by decide) (fun q1 => ?_) (fun q1 => ?_)
  · have hf := ie hf q1
    exact wX2_putBlock_b170 D Y C hA hK F a_h a_hk a_hkw a_p a_pb a_pbw a_pe a_t a_tw a_pt h_lace h_mostPackets h_unknownSizes hk_most hk_length hk_overfull hkw_n c_hkw p_packets pb_most pb_length pb_overfull pbw_n c_pbw c_pe t_most t_length t_overfull tw_n c_tw p1 p2 p3 _ rc74 hrc74 b138_l_5 b138_l_6 b138_f_hk_2 b138_f_hk_3 b138_c_hkw hf wd hS (lv_sub hl [0, 1, 2, 3, 4] rfl)
  · have hf := ip hf q1
    refine lv_aload_n hx hb dX2_putBlock_144 rfl (lv_at hl 0 rfl) ?_
    refine lv_aload_n hx hb dX2_putBlock_145 rfl (lv_at hl 0 rfl) ?_
    refine va_get (D := D) (ci := 1) (v := .ref a_p) (C := RX2) (T := TX2) (N := 6) hx hb hts iX2_putBlock_X2 hown hK wd.1 0 rfl rfl 1 (by decide) (hts _ mX2_putBlock_2) (fun _ h9 => h9) rfl dX2_putBlock_146 ?_
    refine lv_iload hx hb dX2_putBlock_149 (lv_at hl 4 rfl) ?_
    obtain ⟨o2, ho2, hf⟩ := ob hf
    refine xj_i (va_runV (As := [.int b138_l_6]) (rest := [.ref a_h]) ⟨hx, hb, hml, hown, hts⟩ (kX4_bytesOf l D Y F a_p a_pe a_pb a_pt H.size p_packets c_pe b138_l_6 o2 ho2) (cwV 1 hts gX2_putBlock_X4_bytesOf rfl rfl rfl (by decide +kernel) ⟨Nat.le_of_ble_eq_true rfl, Nat.le_of_ble_eq_true rfl⟩) (prev_w (ci := 3) rfl rfl hK wd [3, 6] rfl (by decide)) rfl rfl hl.1 rfl (lv_room (Nat.le_of_ble_eq_true rfl)) dX2_putBlock_151 ⟨Nat.zero_le _, Nat.zero_le _⟩) wd hS hA [3, 6] [0, 1, 2, 4, 5, 7, 8] rfl rfl (by decide) (by decide) (fun H locs wd hS => ?_)
    have wd : WD D A [oX2 a_h (.ref a_hk) (.ref a_p) (.ref a_t) h_lace h_mostPackets h_unknownSizes, oX8 a_hk (.ref a_hkw) hk_most b138_f_hk_2 b138_f_hk_3, aI Y a_hkw hkw_n b138_c_hkw, oX8 a_pb (.ref a_pbw) pb_most pb_length pb_overfull, aI Y a_pbw pbw_n c_pbw, oX8 a_t (.ref a_tw) t_most t_length t_overfull, aI Y a_tw tw_n c_tw, oX4 a_p (.ref a_pb) (.ref a_pe) (.ref a_pt) p_packets, aI Y a_pe 64 c_pe] H := wd
    refine lv_aload_n hx hb dX2_putBlock_154 rfl (lv_at hl 0 rfl) ?_
    refine va_get (D := D) (ci := 1) (v := .ref a_p) (C := RX2) (T := TX2) (N := 6) hx hb hts iX2_putBlock_X2 hown hK wd.1 0 rfl rfl 1 (by decide) (hts _ mX2_putBlock_2) (fun _ h9 => h9) rfl dX2_putBlock_155 ?_
    refine lv_iload hx hb dX2_putBlock_158 (lv_at hl 4 rfl) ?_
    refine lv_iconst (v := 1) hx hb dX2_putBlock_160 (by decide) ?_
    refine lv_isub hx hb dX2_putBlock_161 ?_
    obtain ⟨o3, ho3, hf⟩ := ob hf
    refine xj_i (va_runV (As := [.int (b138_l_6 - 1)]) (rest := [.int o2, .ref a_h]) ⟨hx, hb, hml, hown, hts⟩ (kX4_bytesOf l D Y F a_p a_pe a_pb a_pt H.size p_packets c_pe (b138_l_6 - 1) o3 ho3) (cwV 1 hts gX2_putBlock_X4_bytesOf rfl rfl rfl (by decide +kernel) ⟨Nat.le_of_ble_eq_true rfl, Nat.le_of_ble_eq_true rfl⟩) (prev_w (ci := 3) rfl rfl hK wd [7, 8] rfl (by decide)) rfl rfl hl.1 rfl (lv_room (Nat.le_of_ble_eq_true rfl)) dX2_putBlock_162 ⟨Nat.zero_le _, Nat.zero_le _⟩) wd hS hA [7, 8] [0, 1, 2, 3, 4, 5, 6] rfl rfl (by decide) (by decide) (fun H locs wd hS => ?_)
    have wd : WD D A [oX2 a_h (.ref a_hk) (.ref a_p) (.ref a_t) h_lace h_mostPackets h_unknownSizes, oX8 a_hk (.ref a_hkw) hk_most b138_f_hk_2 b138_f_hk_3, aI Y a_hkw hkw_n b138_c_hkw, oX8 a_pb (.ref a_pbw) pb_most pb_length pb_overfull, aI Y a_pbw pbw_n c_pbw, oX8 a_t (.ref a_tw) t_most t_length t_overfull, aI Y a_tw tw_n c_tw, oX4 a_p (.ref a_pb) (.ref a_pe) (.ref a_pt) p_packets, aI Y a_pe 64 c_pe] H := wd
    refine lv_isub hx hb dX2_putBlock_165 ?_
    refine lv_i2l (v := ((o2 - o3).toInt64)) hx hb dX2_putBlock_166 rfl ?_
    obtain ⟨o4, ho4, hf⟩ := ob hf
    refine xj_v (va_runV (As := [.long ((o2 - o3).toInt64)]) (rest := []) ⟨hx, hb, hml, hown, hts⟩ (kX2_putDifference l D Y F a_h a_hk a_hkw a_p a_t H.size h_lace h_mostPackets h_unknownSizes hk_most b138_f_hk_2 b138_f_hk_3 hkw_n b138_c_hkw ((o2 - o3).toInt64) o4 ho4) (cwV 1 hts gX2_putBlock_X2_putDifference rfl rfl rfl (by decide +kernel) ⟨Nat.le_of_ble_eq_true rfl, Nat.le_of_ble_eq_true rfl⟩) (prev_w (ci := 1) rfl rfl hK wd [0, 1, 2] rfl (by decide)) rfl rfl hl.1 rfl (lv_room (Nat.le_of_ble_eq_true rfl)) dX2_putBlock_167 ⟨Nat.zero_le _, Nat.zero_le _⟩) wd hS hA [0, 1, 2] [3, 4, 5, 6, 7, 8] rfl rfl (by decide) (by decide) (fun H locs wd hS => ?_)
    have wd : WD D A [oX8 a_pb (.ref a_pbw) pb_most pb_length pb_overfull, aI Y a_pbw pbw_n c_pbw, oX8 a_t (.ref a_tw) t_most t_length t_overfull, aI Y a_tw tw_n c_tw, oX4 a_p (.ref a_pb) (.ref a_pe) (.ref a_pt) p_packets, aI Y a_pe 64 c_pe, oX2 a_h (.ref a_hk) (.ref a_p) (.ref a_t) h_lace h_mostPackets h_unknownSizes, oX8 a_hk (.ref a_hkw) hk_most o4.1 o4.2.1, aI Y a_hkw hkw_n o4.2.2] H := wd
    exact wX2_putBlock_b170 D Y C hA hK F a_h a_hk a_hkw a_p a_pb a_pbw a_pe a_t a_tw a_pt h_lace h_mostPackets h_unknownSizes hk_most hk_length hk_overfull hkw_n c_hkw p_packets pb_most pb_length pb_overfull pbw_n c_pbw c_pe t_most t_length t_overfull tw_n c_tw p1 p2 p3 _ rc74 hrc74 b138_l_5 b138_l_6 o4.1 o4.2.1 o4.2.2 hf (wd.sub [6, 7, 8, 4, 0, 1, 5, 2, 3] rfl (by decide)) hS (lv_sub hl [0, 1, 2, 3, 4] rfl)

set_option maxHeartbeats 4000000 in
set_option maxRecDepth 100000 in
theorem wX2_putBlock_b74 {p : Program} {l : Launch} {e : Env} {s : State} {m : MethodId} {args : Array Value} {below : List Frame} {meth : Method} {c : Code} {A : Nat → Prop} (D : va_G) (Y : Y4) (C : CX p s m meth c args cX2_putBlock 8 none wsX2_putBlock RX2) (hA : ∀ q : Nat, s.heap.size ≤ q → A q) (hK : va_K D vwCl (TY Y) s) (F : Nat) (a_h : Nat) (a_hk : Nat) (a_hkw : Nat) (a_p : Nat) (a_pb : Nat) (a_pbw : Nat) (a_pe : Nat) (a_t : Nat) (a_tw : Nat) (a_pt : Nat) (h_lace : Int32) (h_mostPackets : Int32) (h_unknownSizes : Int32) (hk_most : Int32) (hk_length : Int32) (hk_overfull : Int32) (hkw_n : Nat) (c_hkw : (Nat → Int32)) (p_packets : Int32) (pb_most : Int32) (pb_length : Int32) (pb_overfull : Int32) (pbw_n : Nat) (c_pbw : (Nat → Int32)) (c_pe : (Nat → Int32)) (t_most : Int32) (t_length : Int32) (t_overfull : Int32) (tw_n : Nat) (c_tw : (Nat → Int32)) (p1 : Int32) (p2 : Int32) (p3 : Int64) (res : Int32 × Int32 × (Nat → Int32) × Int32 × Int32 × (Nat → Int32)) : ∀ (n : Nat) (b74_l_6 : Int32) (b74_l_5 : Int32) (b74_f_hk_2 : Int32) (b74_f_hk_3 : Int32) (b74_c_hkw : (Nat → Int32)), fX2_putBlock_b74 F hk_most hkw_n p_packets pb_length pbw_n c_pbw c_pe t_most t_length t_overfull tw_n c_tw p1 p2 n b74_l_6 b74_l_5 b74_f_hk_2 b74_f_hk_3 b74_c_hkw = some res → ∀ {H : Heap} {locs : List Loc} {ls : Array Slot}, WD D A [oX2 a_h (.ref a_hk) (.ref a_p) (.ref a_t) h_lace h_mostPackets h_unknownSizes, oX8 a_hk (.ref a_hkw) hk_most b74_f_hk_2 b74_f_hk_3, aI Y a_hkw hkw_n b74_c_hkw, oX4 a_p (.ref a_pb) (.ref a_pe) (.ref a_pt) p_packets, oX8 a_pb (.ref a_pbw) pb_most pb_length pb_overfull, aI Y a_pbw pbw_n c_pbw, aI Y a_pe 64 c_pe, oX8 a_t (.ref a_tw) t_most t_length t_overfull, aI Y a_tw tw_n c_tw] H → va_S A s.heap H locs → lv_has ls 8 [(0, .ref a_h), (1, .int p1), (2, .int p2), (5, .int b74_l_5), (6, .int b74_l_6)] → W p l e { frames := 4, cells := 0, slots := 0, locals := 93 } s m args below meth c H locs 0 0 (MQ below (va_Qv (fun _ : Unit => True) (fun _ t => PST D Y A [oX2 a_h (.ref a_hk) (.ref a_p) (.ref a_t) h_lace h_mostPackets h_unknownSizes, oX8 a_hk (.ref a_hkw) hk_most res.1 res.2.1, aI Y a_hkw hkw_n res.2.2.1, oX4 a_p (.ref a_pb) (.ref a_pe) (.ref a_pt) p_packets, oX8 a_pb (.ref a_pbw) pb_most pb_length pb_overfull, aI Y a_pbw pbw_n c_pbw, aI Y a_pe 64 c_pe, oX8 a_t (.ref a_tw) t_most res.2.2.2.1 res.2.2.2.2.1, aI Y a_tw tw_n res.2.2.2.2.2] t) A) args s 0 0 A) (F0 m 74 ls []) := by
  obtain ⟨hx, hb, hml, hr, hts, hown, hlocks⟩ := id C
  intro n
  induction n with
  | zero => intro b74_l_6 b74_l_5 b74_f_hk_2 b74_f_hk_3 b74_c_hkw hf; exact absurd hf (by simp [fX2_putBlock_b74])
  | succ n ih =>
    intro b74_l_6 b74_l_5 b74_f_hk_2 b74_f_hk_3 b74_c_hkw hf H locs ls wd hS hl
    unfold fX2_putBlock_b74 at hf
    refine lv_iload hx hb dX2_putBlock_74 (lv_at hl 4 rfl) ?_
    refine lv_iload_n hx hb dX2_putBlock_76 rfl (lv_at hl 1 rfl) ?_
    refine lv_iload_n hx hb dX2_putBlock_77 rfl (lv_at hl 2 rfl) ?_
    refine lv_iadd hx hb dX2_putBlock_78 ?_
    refine lv_iconst (v := 1) hx hb dX2_putBlock_79 (by decide) ?_
    refine lv_isub hx hb dX2_putBlock_80 ?_
    refine lv_icmp_ge (tgt := 176) hx hb dX2_putBlock_81 (by decide) (fun q1 => ?_) (fun q1 => ?_)
    · have hf := ip hf q1
      refine lv_aload_n hx hb dX2_putBlock_176 rfl (lv_at hl 0 rfl) ?_
      refine va_get (D := D) (ci := 1) (v := .ref a_p) (C := RX2) (T := TX2) (N := 6) hx hb hts iX2_putBlock_X2 hown hK wd.1 0 rfl rfl 1 (by decide) (hts _ mX2_putBlock_2) (fun _ h9 => h9) rfl dX2_putBlock_177 ?_
      refine lv_iload_n hx hb dX2_putBlock_180 rfl (lv_at hl 1 rfl) ?_
      obtain ⟨o2, ho2, hf⟩ := ob hf
      refine xj_i (va_runV (As := [.int p1]) (rest := []) ⟨hx, hb, hml, hown, hts⟩ (kX4_beginOf l D Y F a_p a_pe a_pb a_pt H.size p_packets c_pe p1 o2 ho2) (cwV 1 hts gX2_putBlock_X4_beginOf rfl rfl rfl (by decide +kernel) ⟨Nat.le_of_ble_eq_true rfl, Nat.le_of_ble_eq_true rfl⟩) (prev_w (ci := 3) rfl rfl hK wd [3, 6] rfl (by decide)) rfl rfl hl.1 rfl (lv_room (Nat.le_of_ble_eq_true rfl)) dX2_putBlock_181 ⟨Nat.zero_le _, Nat.zero_le _⟩) wd hS hA [3, 6] [0, 1, 2, 4, 5, 7, 8] rfl rfl (by decide) (by decide) (fun H locs wd hS => ?_)
      have wd : WD D A [oX2 a_h (.ref a_hk) (.ref a_p) (.ref a_t) h_lace h_mostPackets h_unknownSizes, oX8 a_hk (.ref a_hkw) hk_most b74_f_hk_2 b74_f_hk_3, aI Y a_hkw hkw_n b74_c_hkw, oX8 a_pb (.ref a_pbw) pb_most pb_length pb_overfull, aI Y a_pbw pbw_n c_pbw, oX8 a_t (.ref a_tw) t_most t_length t_overfull, aI Y a_tw tw_n c_tw, oX4 a_p (.ref a_pb) (.ref a_pe) (.ref a_pt) p_packets, aI Y a_pe 64 c_pe] H := wd
      refine lv_istore (lv' := [(6, .int o2), (0, .ref a_h), (1, .int p1), (2, .int p2), (5, .int b74_l_5)]) hx hb dX2_putBlock_184 hl (by decide) rfl (fun ls hl => ?_)
      refine lv_aload_n hx hb dX2_putBlock_186 rfl (lv_at hl 1 rfl) ?_
      refine va_get (D := D) (ci := 1) (v := .ref a_p) (C := RX2) (T := TX2) (N := 6) hx hb hts iX2_putBlock_X2 hown hK wd.1 0 rfl rfl 1 (by decide) (hts _ mX2_putBlock_2) (fun _ h9 => h9) rfl dX2_putBlock_187 ?_
      refine lv_iload_n hx hb dX2_putBlock_190 rfl (lv_at hl 2 rfl) ?_
      refine lv_iload_n hx hb dX2_putBlock_191 rfl (lv_at hl 3 rfl) ?_
      refine lv_iadd hx hb dX2_putBlock_192 ?_
      obtain ⟨o3, ho3, hf⟩ := ob hf
      refine xj_i (va_runV (As := [.int (p1 + p2)]) (rest := []) ⟨hx, hb, hml, hown, hts⟩ (kX4_beginOf l D Y F a_p a_pe a_pb a_pt H.size p_packets c_pe (p1 + p2) o3 ho3) (cwV 1 hts gX2_putBlock_X4_beginOf rfl rfl rfl (by decide +kernel) ⟨Nat.le_of_ble_eq_true rfl, Nat.le_of_ble_eq_true rfl⟩) (prev_w (ci := 3) rfl rfl hK wd [7, 8] rfl (by decide)) rfl rfl hl.1 rfl (lv_room (Nat.le_of_ble_eq_true rfl)) dX2_putBlock_193 ⟨Nat.zero_le _, Nat.zero_le _⟩) wd hS hA [7, 8] [0, 1, 2, 3, 4, 5, 6] rfl rfl (by decide) (by decide) (fun H locs wd hS => ?_)
      have wd : WD D A [oX2 a_h (.ref a_hk) (.ref a_p) (.ref a_t) h_lace h_mostPackets h_unknownSizes, oX8 a_hk (.ref a_hkw) hk_most b74_f_hk_2 b74_f_hk_3, aI Y a_hkw hkw_n b74_c_hkw, oX8 a_pb (.ref a_pbw) pb_most pb_length pb_overfull, aI Y a_pbw pbw_n c_pbw, oX8 a_t (.ref a_tw) t_most t_length t_overfull, aI Y a_tw tw_n c_tw, oX4 a_p (.ref a_pb) (.ref a_pe) (.ref a_pt) p_packets, aI Y a_pe 64 c_pe] H := wd
      refine lv_iload hx hb dX2_putBlock_196 (lv_at hl 0 rfl) ?_
      refine lv_isub hx hb dX2_putBlock_198 ?_
      refine lv_topi (fun x4 ex4 => ?_)
      have hf := nm_at hf ex4
      refine lv_istore (lv' := [(7, .int x4), (6, .int o2), (0, .ref a_h), (1, .int p1), (2, .int p2), (5, .int b74_l_5)]) hx hb dX2_putBlock_199 hl (by decide) rfl (fun ls hl => ?_)
      refine lv_aload_n hx hb dX2_putBlock_201 rfl (lv_at hl 2 rfl) ?_
      refine va_get (D := D) (ci := 1) (v := .ref a_t) (C := RX2) (T := TX2) (N := 6) hx hb hts iX2_putBlock_X2 hown hK wd.1 0 rfl rfl 2 (by decide) (hts _ mX2_putBlock_3) (fun _ h9 => h9) rfl dX2_putBlock_202 ?_
      refine lv_sipush (v := 163) hx hb dX2_putBlock_205 (by decide) ?_
      obtain ⟨o5, ho5, hf⟩ := ob hf
      refine xj_v (va_runV (As := [.int 163]) (rest := []) ⟨hx, hb, hml, hown, hts⟩ (kX8_add l D Y F a_t a_tw H.size t_most t_length t_overfull tw_n c_tw 163 o5 ho5) (cwV 1 hts gX2_putBlock_X8_add rfl rfl rfl (by decide +kernel) ⟨Nat.le_of_ble_eq_true rfl, Nat.le_of_ble_eq_true rfl⟩) (prev_w (ci := 6) rfl rfl hK wd [5, 6] rfl (by decide)) rfl rfl hl.1 rfl (lv_room (Nat.le_of_ble_eq_true rfl)) dX2_putBlock_208 ⟨Nat.zero_le _, Nat.zero_le _⟩) wd hS hA [5, 6] [0, 1, 2, 3, 4, 7, 8] rfl rfl (by decide) (by decide) (fun H locs wd hS => ?_)
      have wd : WD D A [oX2 a_h (.ref a_hk) (.ref a_p) (.ref a_t) h_lace h_mostPackets h_unknownSizes, oX8 a_hk (.ref a_hkw) hk_most b74_f_hk_2 b74_f_hk_3, aI Y a_hkw hkw_n b74_c_hkw, oX8 a_pb (.ref a_pbw) pb_most pb_length pb_overfull, aI Y a_pbw pbw_n c_pbw, oX4 a_p (.ref a_pb) (.ref a_pe) (.ref a_pt) p_packets, aI Y a_pe 64 c_pe, oX8 a_t (.ref a_tw) t_most o5.1 o5.2.1, aI Y a_tw tw_n o5.2.2] H := wd
      refine lv_aload_n hx hb dX2_putBlock_211 rfl (lv_at hl 2 rfl) ?_
      refine va_get (D := D) (ci := 1) (v := .ref a_t) (C := RX2) (T := TX2) (N := 6) hx hb hts iX2_putBlock_X2 hown hK wd.1 0 rfl rfl 2 (by decide) (hts _ mX2_putBlock_3) (fun _ h9 => h9) rfl dX2_putBlock_212 ?_
      refine lv_aload_n hx hb dX2_putBlock_215 rfl (lv_at hl 2 rfl) ?_
      refine va_get (D := D) (ci := 1) (v := .ref a_hk) (C := RX2) (T := TX2) (N := 6) hx hb hts iX2_putBlock_X2 hown hK wd.1 0 rfl rfl 0 (by decide) (hts _ mX2_putBlock_1) (fun _ h9 => h9) rfl dX2_putBlock_216 ?_
      refine va_get (D := D) (ci := 6) (v := .int b74_f_hk_2) (C := RX8) (T := TX8) (N := 4) hx hb hts iX2_putBlock_X8 hown hK wd.1 1 rfl rfl 2 (by decide) (hts _ mX2_putBlock_4) (fun _ h9 => h9) rfl dX2_putBlock_219 ?_
      refine lv_iload hx hb dX2_putBlock_222 (lv_at hl 0 rfl) ?_
      refine lv_iadd hx hb dX2_putBlock_224 ?_
      refine lv_i2l (v := ((b74_f_hk_2 + x4).toInt64)) hx hb dX2_putBlock_225 rfl ?_
      obtain ⟨o6, ho6, hf⟩ := ob hf
      refine xj_v (va_runS (As := [.ref a_t, .long ((b74_f_hk_2 + x4).toInt64)]) (rest := []) ⟨hx, hb, hml, hown, hts⟩ (kX2_putSize l D Y F a_t a_tw H.size t_most o5.1 o5.2.1 tw_n o5.2.2 ((b74_f_hk_2 + x4).toInt64) o6 ho6) (va_cwS 2 hts gX2_putBlock_X2_putSize rfl rfl rfl (by decide +kernel) ⟨Nat.le_of_ble_eq_true rfl, Nat.le_of_ble_eq_true rfl⟩) (pres_w hK wd [7, 8] rfl (by decide)) rfl rfl hl.1 rfl (lv_room (Nat.le_of_ble_eq_true rfl)) dX2_putBlock_226 ⟨Nat.zero_le _, Nat.zero_le _⟩) wd hS hA [7, 8] [0, 1, 2, 3, 4, 5, 6] rfl rfl (by decide) (by decide) (fun H locs wd hS => ?_)
      have wd : WD D A [oX2 a_h (.ref a_hk) (.ref a_p) (.ref a_t) h_lace h_mostPackets h_unknownSizes, oX8 a_hk (.ref a_hkw) hk_most b74_f_hk_2 b74_f_hk_3, aI Y a_hkw hkw_n b74_c_hkw, oX8 a_pb (.ref a_pbw) pb_most pb_length pb_overfull, aI Y a_pbw pbw_n c_pbw, oX4 a_p (.ref a_pb) (.ref a_pe) (.ref a_pt) p_packets, aI Y a_pe 64 c_pe, oX8 a_t (.ref a_tw) t_most o6.1 o6.2.1, aI Y a_tw tw_n o6.2.2] H := wd
      refine lv_aload_n hx hb dX2_putBlock_229 rfl (lv_at hl 2 rfl) ?_
      refine va_get (D := D) (ci := 1) (v := .ref a_t) (C := RX2) (T := TX2) (N := 6) hx hb hts iX2_putBlock_X2 hown hK wd.1 0 rfl rfl 2 (by decide) (hts _ mX2_putBlock_3) (fun _ h9 => h9) rfl dX2_putBlock_230 ?_
      refine lv_aload_n hx hb dX2_putBlock_233 rfl (lv_at hl 2 rfl) ?_
      refine va_get (D := D) (ci := 1) (v := .ref a_hk) (C := RX2) (T := TX2) (N := 6) hx hb hts iX2_putBlock_X2 hown hK wd.1 0 rfl rfl 0 (by decide) (hts _ mX2_putBlock_1) (fun _ h9 => h9) rfl dX2_putBlock_234 ?_
      refine lv_iconst (v := 0) hx hb dX2_putBlock_237 (by decide) ?_
      refine lv_aload_n hx hb dX2_putBlock_238 rfl (lv_at hl 2 rfl) ?_
      refine va_get (D := D) (ci := 1) (v := .ref a_hk) (C := RX2) (T := TX2) (N := 6) hx hb hts iX2_putBlock_X2 hown hK wd.1 0 rfl rfl 0 (by decide) (hts _ mX2_putBlock_1) (fun _ h9 => h9) rfl dX2_putBlock_239 ?_
      refine va_get (D := D) (ci := 6) (v := .int b74_f_hk_2) (C := RX8) (T := TX8) (N := 4) hx hb hts iX2_putBlock_X8 hown hK wd.1 1 rfl rfl 2 (by decide) (hts _ mX2_putBlock_4) (fun _ h9 => h9) rfl dX2_putBlock_242 ?_
      obtain ⟨o7, ho7, hf⟩ := ob hf
      refine xj_v (va_runV (As := [.ref a_hk, .int 0, .int b74_f_hk_2]) (rest := []) ⟨hx, hb, hml, hown, hts⟩ (kX8_addPart l D Y F a_t a_tw a_hk a_hkw H.size t_most o6.1 o6.2.1 tw_n o6.2.2 hk_most b74_f_hk_2 b74_f_hk_3 hkw_n b74_c_hkw 0 b74_f_hk_2 o7 ho7) (cwV 3 hts gX2_putBlock_X8_addPart rfl rfl rfl (by decide +kernel) ⟨Nat.le_of_ble_eq_true rfl, Nat.le_of_ble_eq_true rfl⟩) (prev_w (ci := 6) rfl rfl hK wd [7, 8, 1, 2] rfl (by decide)) rfl rfl hl.1 rfl (lv_room (Nat.le_of_ble_eq_true rfl)) dX2_putBlock_245 ⟨Nat.zero_le _, Nat.zero_le _⟩) wd hS hA [7, 8, 1, 2] [0, 3, 4, 5, 6] rfl rfl (by decide) (by decide) (fun H locs wd hS => ?_)
      have wd : WD D A [oX2 a_h (.ref a_hk) (.ref a_p) (.ref a_t) h_lace h_mostPackets h_unknownSizes, oX8 a_pb (.ref a_pbw) pb_most pb_length pb_overfull, aI Y a_pbw pbw_n c_pbw, oX4 a_p (.ref a_pb) (.ref a_pe) (.ref a_pt) p_packets, aI Y a_pe 64 c_pe, oX8 a_t (.ref a_tw) t_most o7.1 o7.2.1, aI Y a_tw tw_n o7.2.2, oX8 a_hk (.ref a_hkw) hk_most b74_f_hk_2 b74_f_hk_3, aI Y a_hkw hkw_n b74_c_hkw] H := wd
      refine lv_aload_n hx hb dX2_putBlock_248 rfl (lv_at hl 2 rfl) ?_
      refine va_get (D := D) (ci := 1) (v := .ref a_t) (C := RX2) (T := TX2) (N := 6) hx hb hts iX2_putBlock_X2 hown hK wd.1 0 rfl rfl 2 (by decide) (hts _ mX2_putBlock_3) (fun _ h9 => h9) rfl dX2_putBlock_249 ?_
      refine lv_aload_n hx hb dX2_putBlock_252 rfl (lv_at hl 2 rfl) ?_
      refine va_get (D := D) (ci := 1) (v := .ref a_p) (C := RX2) (T := TX2) (N := 6) hx hb hts iX2_putBlock_X2 hown hK wd.1 0 rfl rfl 1 (by decide) (hts _ mX2_putBlock_2) (fun _ h9 => h9) rfl dX2_putBlock_253 ?_
      refine va_get (D := D) (ci := 3) (v := .ref a_pb) (C := RX4) (T := TX4) (N := 4) hx hb hts iX2_putBlock_X4 hown hK wd.1 3 rfl rfl 0 (by decide) (hts _ mX2_putBlock_5) (fun _ h9 => h9) rfl dX2_putBlock_256 ?_
      refine lv_iload hx hb dX2_putBlock_259 (lv_at hl 1 rfl) ?_
      refine lv_iload hx hb dX2_putBlock_261 (lv_at hl 0 rfl) ?_
      obtain ⟨o8, ho8, hf⟩ := ob hf
      refine xj_v (va_runV (As := [.ref a_pb, .int o2, .int x4]) (rest := []) ⟨hx, hb, hml, hown, hts⟩ (kX8_addPart l D Y F a_t a_tw a_pb a_pbw H.size t_most o7.1 o7.2.1 tw_n o7.2.2 pb_most pb_length pb_overfull pbw_n c_pbw o2 x4 o8 ho8) (cwV 3 hts gX2_putBlock_X8_addPart rfl rfl rfl (by decide +kernel) ⟨Nat.le_of_ble_eq_true rfl, Nat.le_of_ble_eq_true rfl⟩) (prev_w (ci := 6) rfl rfl hK wd [5, 6, 1, 2] rfl (by decide)) rfl rfl hl.1 rfl (lv_room (Nat.le_of_ble_eq_true rfl)) dX2_putBlock_263 ⟨Nat.zero_le _, Nat.zero_le _⟩) wd hS hA [5, 6, 1, 2] [0, 3, 4, 7, 8] rfl rfl (by decide) (by decide) (fun H locs wd hS => ?_)
      have wd : WD D A [oX2 a_h (.ref a_hk) (.ref a_p) (.ref a_t) h_lace h_mostPackets h_unknownSizes, oX4 a_p (.ref a_pb) (.ref a_pe) (.ref a_pt) p_packets, aI Y a_pe 64 c_pe, oX8 a_hk (.ref a_hkw) hk_most b74_f_hk_2 b74_f_hk_3, aI Y a_hkw hkw_n b74_c_hkw, oX8 a_t (.ref a_tw) t_most o8.1 o8.2.1, aI Y a_tw tw_n o8.2.2, oX8 a_pb (.ref a_pbw) pb_most pb_length pb_overfull, aI Y a_pbw pbw_n c_pbw] H := wd
      obtain rfl := Option.some.inj hf
      exact W.vret hx hb hr (fun t ht hW => ⟨⟨(), rfl, trivial, WD.pst (wd.sub [0, 3, 4, 1, 7, 8, 2, 5, 6] rfl (by decide)) hK ht hW⟩, hS.F ht⟩) hS.2.2 dX2_putBlock_266
    · have hf := ie hf q1
      refine lv_iload hx hb dX2_putBlock_84 (lv_at hl 3 rfl) ?_
      refine lv_iconst (v := 1) hx hb dX2_putBlock_86 (by decide) ?_
      refine lv_icmp_ne (tgt := 106) hx hb dX2_putBlock_87 (by decide) (fun q9 => ?_) (fun q9 => ?_)
      · have hf := ie hf q9
        refine lv_iload hx hb dX2_putBlock_106 (lv_at hl 3 rfl) ?_
        refine lv_iconst (v := 3) hx hb dX2_putBlock_108 (by decide) ?_
        refine lv_icmp_ne (tgt := 138) hx hb dX2_putBlock_109 (by decide) (fun q10 => ?_) (fun q10 => ?_)
        · have hf := ie hf q10
          exact wX2_putBlock_b138 D Y C hA hK F a_h a_hk a_hkw a_p a_pb a_pbw a_pe a_t a_tw a_pt h_lace h_mostPackets h_unknownSizes hk_most hk_length hk_overfull hkw_n c_hkw p_packets pb_most pb_length pb_overfull pbw_n c_pbw c_pe t_most t_length t_overfull tw_n c_tw p1 p2 p3 _ (fX2_putBlock_b74 F hk_most hkw_n p_packets pb_length pbw_n c_pbw c_pe t_most t_length t_overfull tw_n c_tw p1 p2 n) ih b74_l_5 b74_l_6 b74_f_hk_2 b74_f_hk_3 b74_c_hkw hf wd hS (lv_sub hl [0, 1, 2, 3, 4] rfl)
        · have hf := ip hf q10
          refine lv_iload hx hb dX2_putBlock_112 (lv_at hl 4 rfl) ?_
          refine lv_iload_n hx hb dX2_putBlock_114 rfl (lv_at hl 1 rfl) ?_
          refine lv_icmp_ne (tgt := 138) hx hb dX2_putBlock_115 (by decide) (fun q11 => ?_) (fun q11 => ?_)
          · have hf := ie hf q11
            exact wX2_putBlock_b138 D Y C hA hK F a_h a_hk a_hkw a_p a_pb a_pbw a_pe a_t a_tw a_pt h_lace h_mostPackets h_unknownSizes hk_most hk_length hk_overfull hkw_n c_hkw p_packets pb_most pb_length pb_overfull pbw_n c_pbw c_pe t_most t_length t_overfull tw_n c_tw p1 p2 p3 _ (fX2_putBlock_b74 F hk_most hkw_n p_packets pb_length pbw_n c_pbw c_pe t_most t_length t_overfull tw_n c_tw p1 p2 n) ih b74_l_5 b74_l_6 b74_f_hk_2 b74_f_hk_3 b74_c_hkw hf wd hS (lv_sub hl [0, 1, 2, 3, 4] rfl)
          · have hf := ip hf q11
            refine lv_aload_n hx hb dX2_putBlock_118 rfl (lv_at hl 0 rfl) ?_
            refine va_get (D := D) (ci := 1) (v := .ref a_hk) (C := RX2) (T := TX2) (N := 6) hx hb hts iX2_putBlock_X2 hown hK wd.1 0 rfl rfl 0 (by decide) (hts _ mX2_putBlock_1) (fun _ h9 => h9) rfl dX2_putBlock_119 ?_
            refine lv_aload_n hx hb dX2_putBlock_122 rfl (lv_at hl 0 rfl) ?_
            refine va_get (D := D) (ci := 1) (v := .ref a_p) (C := RX2) (T := TX2) (N := 6) hx hb hts iX2_putBlock_X2 hown hK wd.1 0 rfl rfl 1 (by decide) (hts _ mX2_putBlock_2) (fun _ h9 => h9) rfl dX2_putBlock_123 ?_
            refine lv_iload hx hb dX2_putBlock_126 (lv_at hl 4 rfl) ?_
            obtain ⟨o12, ho12, hf⟩ := ob hf
            refine xj_i (va_runV (As := [.int b74_l_6]) (rest := [.ref a_hk]) ⟨hx, hb, hml, hown, hts⟩ (kX4_bytesOf l D Y F a_p a_pe a_pb a_pt H.size p_packets c_pe b74_l_6 o12 ho12) (cwV 1 hts gX2_putBlock_X4_bytesOf rfl rfl rfl (by decide +kernel) ⟨Nat.le_of_ble_eq_true rfl, Nat.le_of_ble_eq_true rfl⟩) (prev_w (ci := 3) rfl rfl hK wd [3, 6] rfl (by decide)) rfl rfl hl.1 rfl (lv_room (Nat.le_of_ble_eq_true rfl)) dX2_putBlock_128 ⟨Nat.zero_le _, Nat.zero_le _⟩) wd hS hA [3, 6] [0, 1, 2, 4, 5, 7, 8] rfl rfl (by decide) (by decide) (fun H locs wd hS => ?_)
            have wd : WD D A [oX2 a_h (.ref a_hk) (.ref a_p) (.ref a_t) h_lace h_mostPackets h_unknownSizes, oX8 a_hk (.ref a_hkw) hk_most b74_f_hk_2 b74_f_hk_3, aI Y a_hkw hkw_n b74_c_hkw, oX8 a_pb (.ref a_pbw) pb_most pb_length pb_overfull, aI Y a_pbw pbw_n c_pbw, oX8 a_t (.ref a_tw) t_most t_length t_overfull, aI Y a_tw tw_n c_tw, oX4 a_p (.ref a_pb) (.ref a_pe) (.ref a_pt) p_packets, aI Y a_pe 64 c_pe] H := wd
            refine lv_i2l (v := (o12.toInt64)) hx hb dX2_putBlock_131 rfl ?_
            obtain ⟨o13, ho13, hf⟩ := ob hf
            refine xj_v (va_runS (As := [.ref a_hk, .long (o12.toInt64)]) (rest := []) ⟨hx, hb, hml, hown, hts⟩ (kX2_putSize l D Y F a_hk a_hkw H.size hk_most b74_f_hk_2 b74_f_hk_3 hkw_n b74_c_hkw (o12.toInt64) o13 ho13) (va_cwS 2 hts gX2_putBlock_X2_putSize rfl rfl rfl (by decide +kernel) ⟨Nat.le_of_ble_eq_true rfl, Nat.le_of_ble_eq_true rfl⟩) (pres_w hK wd [1, 2] rfl (by decide)) rfl rfl hl.1 rfl (lv_room (Nat.le_of_ble_eq_true rfl)) dX2_putBlock_132 ⟨Nat.zero_le _, Nat.zero_le _⟩) wd hS hA [1, 2] [0, 3, 4, 5, 6, 7, 8] rfl rfl (by decide) (by decide) (fun H locs wd hS => ?_)
            have wd : WD D A [oX2 a_h (.ref a_hk) (.ref a_p) (.ref a_t) h_lace h_mostPackets h_unknownSizes, oX8 a_pb (.ref a_pbw) pb_most pb_length pb_overfull, aI Y a_pbw pbw_n c_pbw, oX8 a_t (.ref a_tw) t_most t_length t_overfull, aI Y a_tw tw_n c_tw, oX4 a_p (.ref a_pb) (.ref a_pe) (.ref a_pt) p_packets, aI Y a_pe 64 c_pe, oX8 a_hk (.ref a_hkw) hk_most o13.1 o13.2.1, aI Y a_hkw hkw_n o13.2.2] H := wd
            refine lv_goto (tgt := 170) hx hb dX2_putBlock_135 (by decide) ?_
            exact wX2_putBlock_b170 D Y C hA hK F a_h a_hk a_hkw a_p a_pb a_pbw a_pe a_t a_tw a_pt h_lace h_mostPackets h_unknownSizes hk_most hk_length hk_overfull hkw_n c_hkw p_packets pb_most pb_length pb_overfull pbw_n c_pbw c_pe t_most t_length t_overfull tw_n c_tw p1 p2 p3 _ (fX2_putBlock_b74 F hk_most hkw_n p_packets pb_length pbw_n c_pbw c_pe t_most t_length t_overfull tw_n c_tw p1 p2 n) ih b74_l_5 b74_l_6 o13.1 o13.2.1 o13.2.2 hf (wd.sub [0, 7, 8, 5, 1, 2, 6, 3, 4] rfl (by decide)) hS (lv_sub hl [0, 1, 2, 3, 4] rfl)
      · have hf := ip hf q9
        refine lv_aload_n hx hb dX2_putBlock_90 rfl (lv_at hl 0 rfl) ?_
        refine lv_aload_n hx hb dX2_putBlock_91 rfl (lv_at hl 0 rfl) ?_
        refine va_get (D := D) (ci := 1) (v := .ref a_p) (C := RX2) (T := TX2) (N := 6) hx hb hts iX2_putBlock_X2 hown hK wd.1 0 rfl rfl 1 (by decide) (hts _ mX2_putBlock_2) (fun _ h9 => h9) rfl dX2_putBlock_92 ?_
        refine lv_iload hx hb dX2_putBlock_95 (lv_at hl 4 rfl) ?_
        obtain ⟨o14, ho14, hf⟩ := ob hf
        refine xj_i (va_runV (As := [.int b74_l_6]) (rest := [.ref a_h]) ⟨hx, hb, hml, hown, hts⟩ (kX4_bytesOf l D Y F a_p a_pe a_pb a_pt H.size p_packets c_pe b74_l_6 o14 ho14) (cwV 1 hts gX2_putBlock_X4_bytesOf rfl rfl rfl (by decide +kernel) ⟨Nat.le_of_ble_eq_true rfl, Nat.le_of_ble_eq_true rfl⟩) (prev_w (ci := 3) rfl rfl hK wd [3, 6] rfl (by decide)) rfl rfl hl.1 rfl (lv_room (Nat.le_of_ble_eq_true rfl)) dX2_putBlock_97 ⟨Nat.zero_le _, Nat.zero_le _⟩) wd hS hA [3, 6] [0, 1, 2, 4, 5, 7, 8] rfl rfl (by decide) (by decide) (fun H locs wd hS => ?_)
        have wd : WD D A [oX2 a_h (.ref a_hk) (.ref a_p) (.ref a_t) h_lace h_mostPackets h_unknownSizes, oX8 a_hk (.ref a_hkw) hk_most b74_f_hk_2 b74_f_hk_3, aI Y a_hkw hkw_n b74_c_hkw, oX8 a_pb (.ref a_pbw) pb_most pb_length pb_overfull, aI Y a_pbw pbw_n c_pbw, oX8 a_t (.ref a_tw) t_most t_length t_overfull, aI Y a_tw tw_n c_tw, oX4 a_p (.ref a_pb) (.ref a_pe) (.ref a_pt) p_packets, aI Y a_pe 64 c_pe] H := wd
        obtain ⟨o15, ho15, hf⟩ := ob hf
        refine xj_v (va_runV (As := [.int o14]) (rest := []) ⟨hx, hb, hml, hown, hts⟩ (kX2_putSummedSize l D Y F a_h a_hk a_hkw a_p a_t H.size h_lace h_mostPackets h_unknownSizes hk_most b74_f_hk_2 b74_f_hk_3 hkw_n b74_c_hkw o14 o15 ho15) (cwV 1 hts gX2_putBlock_X2_putSummedSize rfl rfl rfl (by decide +kernel) ⟨Nat.le_of_ble_eq_true rfl, Nat.le_of_ble_eq_true rfl⟩) (prev_w (ci := 1) rfl rfl hK wd [0, 1, 2] rfl (by decide)) rfl rfl hl.1 rfl (lv_room (Nat.le_of_ble_eq_true rfl)) dX2_putBlock_100 ⟨Nat.zero_le _, Nat.zero_le _⟩) wd hS hA [0, 1, 2] [3, 4, 5, 6, 7, 8] rfl rfl (by decide) (by decide) (fun H locs wd hS => ?_)
        have wd : WD D A [oX8 a_pb (.ref a_pbw) pb_most pb_length pb_overfull, aI Y a_pbw pbw_n c_pbw, oX8 a_t (.ref a_tw) t_most t_length t_overfull, aI Y a_tw tw_n c_tw, oX4 a_p (.ref a_pb) (.ref a_pe) (.ref a_pt) p_packets, aI Y a_pe 64 c_pe, oX2 a_h (.ref a_hk) (.ref a_p) (.ref a_t) h_lace h_mostPackets h_unknownSizes, oX8 a_hk (.ref a_hkw) hk_most o15.1 o15.2.1, aI Y a_hkw hkw_n o15.2.2] H := wd
        refine lv_goto (tgt := 170) hx hb dX2_putBlock_103 (by decide) ?_
        exact wX2_putBlock_b170 D Y C hA hK F a_h a_hk a_hkw a_p a_pb a_pbw a_pe a_t a_tw a_pt h_lace h_mostPackets h_unknownSizes hk_most hk_length hk_overfull hkw_n c_hkw p_packets pb_most pb_length pb_overfull pbw_n c_pbw c_pe t_most t_length t_overfull tw_n c_tw p1 p2 p3 _ (fX2_putBlock_b74 F hk_most hkw_n p_packets pb_length pbw_n c_pbw c_pe t_most t_length t_overfull tw_n c_tw p1 p2 n) ih b74_l_5 b74_l_6 o15.1 o15.2.1 o15.2.2 hf (wd.sub [6, 7, 8, 4, 0, 1, 5, 2, 3] rfl (by decide)) hS (lv_sub hl [0, 1, 2, 3, 4] rfl)

set_option maxHeartbeats 4000000 in
set_option maxRecDepth 100000 in
theorem wX2_putBlock_b71 {p : Program} {l : Launch} {e : Env} {s : State} {m : MethodId} {args : Array Value} {below : List Frame} {meth : Method} {c : Code} {A : Nat → Prop} (D : va_G) (Y : Y4) (C : CX p s m meth c args cX2_putBlock 8 none wsX2_putBlock RX2) (hA : ∀ q : Nat, s.heap.size ≤ q → A q) (hK : va_K D vwCl (TY Y) s) (F : Nat) (a_h : Nat) (a_hk : Nat) (a_hkw : Nat) (a_p : Nat) (a_pb : Nat) (a_pbw : Nat) (a_pe : Nat) (a_t : Nat) (a_tw : Nat) (a_pt : Nat) (h_lace : Int32) (h_mostPackets : Int32) (h_unknownSizes : Int32) (hk_most : Int32) (hk_length : Int32) (hk_overfull : Int32) (hkw_n : Nat) (c_hkw : (Nat → Int32)) (p_packets : Int32) (pb_most : Int32) (pb_length : Int32) (pb_overfull : Int32) (pbw_n : Nat) (c_pbw : (Nat → Int32)) (c_pe : (Nat → Int32)) (t_most : Int32) (t_length : Int32) (t_overfull : Int32) (tw_n : Nat) (c_tw : (Nat → Int32)) (p1 : Int32) (p2 : Int32) (p3 : Int64) (res : Int32 × Int32 × (Nat → Int32) × Int32 × Int32 × (Nat → Int32)) (b71_l_5 : Int32) (b71_f_hk_2 : Int32) (b71_f_hk_3 : Int32) (b71_c_hkw : (Nat → Int32)) (hf : fX2_putBlock_b71 F hk_most hkw_n p_packets pb_length pbw_n c_pbw c_pe t_most t_length t_overfull tw_n c_tw p1 p2 b71_l_5 b71_f_hk_2 b71_f_hk_3 b71_c_hkw = some res) {H : Heap} {locs : List Loc} {ls : Array Slot} (wd : WD D A [oX2 a_h (.ref a_hk) (.ref a_p) (.ref a_t) h_lace h_mostPackets h_unknownSizes, oX8 a_hk (.ref a_hkw) hk_most b71_f_hk_2 b71_f_hk_3, aI Y a_hkw hkw_n b71_c_hkw, oX4 a_p (.ref a_pb) (.ref a_pe) (.ref a_pt) p_packets, oX8 a_pb (.ref a_pbw) pb_most pb_length pb_overfull, aI Y a_pbw pbw_n c_pbw, aI Y a_pe 64 c_pe, oX8 a_t (.ref a_tw) t_most t_length t_overfull, aI Y a_tw tw_n c_tw] H) (hS : va_S A s.heap H locs) (hl : lv_has ls 8 [(0, .ref a_h), (1, .int p1), (2, .int p2), (5, .int b71_l_5)]) : W p l e { frames := 4, cells := 0, slots := 0, locals := 93 } s m args below meth c H locs 0 0 (MQ below (va_Qv (fun _ : Unit => True) (fun _ t => PST D Y A [oX2 a_h (.ref a_hk) (.ref a_p) (.ref a_t) h_lace h_mostPackets h_unknownSizes, oX8 a_hk (.ref a_hkw) hk_most res.1 res.2.1, aI Y a_hkw hkw_n res.2.2.1, oX4 a_p (.ref a_pb) (.ref a_pe) (.ref a_pt) p_packets, oX8 a_pb (.ref a_pbw) pb_most pb_length pb_overfull, aI Y a_pbw pbw_n c_pbw, aI Y a_pe 64 c_pe, oX8 a_t (.ref a_tw) t_most res.2.2.2.1 res.2.2.2.2.1, aI Y a_tw tw_n res.2.2.2.2.2] t) A) args s 0 0 A) (F0 m 71 ls []) := by
  obtain ⟨hx, hb, hml, hr, hts, hown, hlocks⟩ := id C
  unfold fX2_putBlock_b71 at hf
  refine lv_iload_n hx hb dX2_putBlock_71 rfl (lv_at hl 1 rfl) ?_
  refine lv_istore (lv' := [(6, .int p1), (0, .ref a_h), (1, .int p1), (2, .int p2), (5, .int b71_l_5)]) hx hb dX2_putBlock_72 hl (by decide) rfl (fun ls hl => ?_)
  exact wX2_putBlock_b74 D Y C hA hK F a_h a_hk a_hkw a_p a_pb a_pbw a_pe a_t a_tw a_pt h_lace h_mostPackets h_unknownSizes hk_most hk_length hk_overfull hkw_n c_hkw p_packets pb_most pb_length pb_overfull pbw_n c_pbw c_pe t_most t_length t_overfull tw_n c_tw p1 p2 p3 _ F p1 b71_l_5 b71_f_hk_2 b71_f_hk_3 b71_c_hkw hf wd hS (lv_sub hl [1, 2, 3, 4, 0] rfl)

set_option maxHeartbeats 4000000 in
set_option maxRecDepth 100000 in
theorem wX2_putBlock_b13 {p : Program} {l : Launch} {e : Env} {s : State} {m : MethodId} {args : Array Value} {below : List Frame} {meth : Method} {c : Code} {A : Nat → Prop} (D : va_G) (Y : Y4) (C : CX p s m meth c args cX2_putBlock 8 none wsX2_putBlock RX2) (hA : ∀ q : Nat, s.heap.size ≤ q → A q) (hK : va_K D vwCl (TY Y) s) (F : Nat) (a_h : Nat) (a_hk : Nat) (a_hkw : Nat) (a_p : Nat) (a_pb : Nat) (a_pbw : Nat) (a_pe : Nat) (a_t : Nat) (a_tw : Nat) (a_pt : Nat) (h_lace : Int32) (h_mostPackets : Int32) (h_unknownSizes : Int32) (hk_most : Int32) (hk_length : Int32) (hk_overfull : Int32) (hkw_n : Nat) (c_hkw : (Nat → Int32)) (p_packets : Int32) (pb_most : Int32) (pb_length : Int32) (pb_overfull : Int32) (pbw_n : Nat) (c_pbw : (Nat → Int32)) (c_pe : (Nat → Int32)) (t_most : Int32) (t_length : Int32) (t_overfull : Int32) (tw_n : Nat) (c_tw : (Nat → Int32)) (p1 : Int32) (p2 : Int32) (p3 : Int64) (res : Int32 × Int32 × (Nat → Int32) × Int32 × Int32 × (Nat → Int32)) (b13_s_0 : Int32) (hf : fX2_putBlock_b13 F hk_most hkw_n c_hkw p_packets pb_length pbw_n c_pbw c_pe t_most t_length t_overfull tw_n c_tw p1 p2 p3 b13_s_0 = some res) {H : Heap} {locs : List Loc} {ls : Array Slot} (wd : WD D A [oX2 a_h (.ref a_hk) (.ref a_p) (.ref a_t) h_lace h_mostPackets h_unknownSizes, oX8 a_hk (.ref a_hkw) hk_most hk_length hk_overfull, aI Y a_hkw hkw_n c_hkw, oX4 a_p (.ref a_pb) (.ref a_pe) (.ref a_pt) p_packets, oX8 a_pb (.ref a_pbw) pb_most pb_length pb_overfull, aI Y a_pbw pbw_n c_pbw, aI Y a_pe 64 c_pe, oX8 a_t (.ref a_tw) t_most t_length t_overfull, aI Y a_tw tw_n c_tw] H) (hS : va_S A s.heap H locs) (hl : lv_has ls 8 [(0, .ref a_h), (1, .int p1), (2, .int p2), (3, .long p3)]) : W p l e { frames := 4, cells := 0, slots := 0, locals := 93 } s m args below meth c H locs 0 0 (MQ below (va_Qv (fun _ : Unit => True) (fun _ t => PST D Y A [oX2 a_h (.ref a_hk) (.ref a_p) (.ref a_t) h_lace h_mostPackets h_unknownSizes, oX8 a_hk (.ref a_hkw) hk_most res.1 res.2.1, aI Y a_hkw hkw_n res.2.2.1, oX4 a_p (.ref a_pb) (.ref a_pe) (.ref a_pt) p_packets, oX8 a_pb (.ref a_pbw) pb_most pb_length pb_overfull, aI Y a_pbw pbw_n c_pbw, aI Y a_pe 64 c_pe, oX8 a_t (.ref a_tw) t_most res.2.2.2.1 res.2.2.2.2.1, aI Y a_tw tw_n res.2.2.2.2.2] t) A) args s 0 0 A) (F0 m 13 ls [.int b13_s_0]) := by
  obtain ⟨hx, hb, hml, hr, hts, hown, hlocks⟩ := id C
  unfold fX2_putBlock_b13 at hf
  refine lv_istore (lv' := [(5, .int b13_s_0), (0, .ref a_h), (1, .int p1), (2, .int p2), (3, .long p3)]) hx hb dX2_putBlock_13 hl (by decide) rfl (fun ls hl => ?_)
  refine lv_aload_n hx hb dX2_putBlock_15 rfl (lv_at hl 1 rfl) ?_
  refine va_get (D := D) (ci := 1) (v := .ref a_hk) (C := RX2) (T := TX2) (N := 6) hx hb hts iX2_putBlock_X2 hown hK wd.1 0 rfl rfl 0 (by decide) (hts _ mX2_putBlock_1) (fun _ h9 => h9) rfl dX2_putBlock_16 ?_
  obtain ⟨o1, ho1, hf⟩ := ob hf
  refine xj_v (va_runV (As := []) (rest := []) ⟨hx, hb, hml, hown, hts⟩ (kX8_empty l D Y F a_hk a_hkw H.size hk_most hk_length hk_overfull o1 ho1) (cwV 0 hts gX2_putBlock_X8_empty rfl rfl rfl (by decide +kernel) ⟨Nat.le_of_ble_eq_true rfl, Nat.le_of_ble_eq_true rfl⟩) (prev_w (ci := 6) rfl rfl hK wd [1] rfl (by decide)) rfl rfl hl.1 rfl (lv_room (Nat.le_of_ble_eq_true rfl)) dX2_putBlock_19 ⟨Nat.zero_le _, Nat.zero_le _⟩) wd hS hA [1] [0, 2, 3, 4, 5, 6, 7, 8] rfl rfl (by decide) (by decide) (fun H locs wd hS => ?_)
  have wd : WD D A [oX2 a_h (.ref a_hk) (.ref a_p) (.ref a_t) h_lace h_mostPackets h_unknownSizes, aI Y a_hkw hkw_n c_hkw, oX4 a_p (.ref a_pb) (.ref a_pe) (.ref a_pt) p_packets, oX8 a_pb (.ref a_pbw) pb_most pb_length pb_overfull, aI Y a_pbw pbw_n c_pbw, aI Y a_pe 64 c_pe, oX8 a_t (.ref a_tw) t_most t_length t_overfull, aI Y a_tw tw_n c_tw, oX8 a_hk (.ref a_hkw) hk_most o1.1 o1.2] H := wd
  refine lv_aload_n hx hb dX2_putBlock_22 rfl (lv_at hl 1 rfl) ?_
  refine va_get (D := D) (ci := 1) (v := .ref a_hk) (C := RX2) (T := TX2) (N := 6) hx hb hts iX2_putBlock_X2 hown hK wd.1 0 rfl rfl 0 (by decide) (hts _ mX2_putBlock_1) (fun _ h9 => h9) rfl dX2_putBlock_23 ?_
  refine lv_sipush (v := 129) hx hb dX2_putBlock_26 (by decide) ?_
  obtain ⟨o2, ho2, hf⟩ := ob hf
  refine xj_v (va_runV (As := [.int 129]) (rest := []) ⟨hx, hb, hml, hown, hts⟩ (kX8_add l D Y F a_hk a_hkw H.size hk_most o1.1 o1.2 hkw_n c_hkw 129 o2 ho2) (cwV 1 hts gX2_putBlock_X8_add rfl rfl rfl (by decide +kernel) ⟨Nat.le_of_ble_eq_true rfl, Nat.le_of_ble_eq_true rfl⟩) (prev_w (ci := 6) rfl rfl hK wd [8, 1] rfl (by decide)) rfl rfl hl.1 rfl (lv_room (Nat.le_of_ble_eq_true rfl)) dX2_putBlock_29 ⟨Nat.zero_le _, Nat.zero_le _⟩) wd hS hA [8, 1] [0, 2, 3, 4, 5, 6, 7] rfl rfl (by decide) (by decide) (fun H locs wd hS => ?_)
  have wd : WD D A [oX2 a_h (.ref a_hk) (.ref a_p) (.ref a_t) h_lace h_mostPackets h_unknownSizes, oX4 a_p (.ref a_pb) (.ref a_pe) (.ref a_pt) p_packets, oX8 a_pb (.ref a_pbw) pb_most pb_length pb_overfull, aI Y a_pbw pbw_n c_pbw, aI Y a_pe 64 c_pe, oX8 a_t (.ref a_tw) t_most t_length t_overfull, aI Y a_tw tw_n c_tw, oX8 a_hk (.ref a_hkw) hk_most o2.1 o2.2.1, aI Y a_hkw hkw_n o2.2.2] H := wd
  refine lv_aload_n hx hb dX2_putBlock_32 rfl (lv_at hl 1 rfl) ?_
  refine va_get (D := D) (ci := 1) (v := .ref a_hk) (C := RX2) (T := TX2) (N := 6) hx hb hts iX2_putBlock_X2 hown hK wd.1 0 rfl rfl 0 (by decide) (hts _ mX2_putBlock_1) (fun _ h9 => h9) rfl dX2_putBlock_33 ?_
  refine lv_lload_n hx hb dX2_putBlock_36 rfl (lv_at hl 4 rfl) ?_
  refine lv_iconst (v := 2) hx hb dX2_putBlock_37 (by decide) ?_
  obtain ⟨o3, ho3, hf⟩ := ob hf
  refine xj_v (va_runV (As := [.long p3, .int 2]) (rest := []) ⟨hx, hb, hml, hown, hts⟩ (kX8_addHighFirst l D Y F a_hk a_hkw H.size hk_most o2.1 o2.2.1 hkw_n o2.2.2 p3 2 o3 ho3) (cwV 2 hts gX2_putBlock_X8_addHighFirst rfl rfl rfl (by decide +kernel) ⟨Nat.le_of_ble_eq_true rfl, Nat.le_of_ble_eq_true rfl⟩) (prev_w (ci := 6) rfl rfl hK wd [7, 8] rfl (by decide)) rfl rfl hl.1 rfl (lv_room (Nat.le_of_ble_eq_true rfl)) dX2_putBlock_38 ⟨Nat.zero_le _, Nat.zero_le _⟩) wd hS hA [7, 8] [0, 1, 2, 3, 4, 5, 6] rfl rfl (by decide) (by decide) (fun H locs wd hS => ?_)
  have wd : WD D A [oX2 a_h (.ref a_hk) (.ref a_p) (.ref a_t) h_lace h_mostPackets h_unknownSizes, oX4 a_p (.ref a_pb) (.ref a_pe) (.ref a_pt) p_packets, oX8 a_pb (.ref a_pbw) pb_most pb_length pb_overfull, aI Y a_pbw pbw_n c_pbw, aI Y a_pe 64 c_pe, oX8 a_t (.ref a_tw) t_most t_length t_overfull, aI Y a_tw tw_n c_tw, oX8 a_hk (.ref a_hkw) hk_most o3.1 o3.2.1, aI Y a_hkw hkw_n o3.2.2] H := wd
  refine lv_aload_n hx hb dX2_putBlock_41 rfl (lv_at hl 1 rfl) ?_
  refine va_get (D := D) (ci := 1) (v := .ref a_hk) (C := RX2) (T := TX2) (N := 6) hx hb hts iX2_putBlock_X2 hown hK wd.1 0 rfl rfl 0 (by decide) (hts _ mX2_putBlock_1) (fun _ h9 => h9) rfl dX2_putBlock_42 ?_
  refine lv_sipush (v := 128) hx hb dX2_putBlock_45 (by decide) ?_
  refine lv_iload hx hb dX2_putBlock_48 (lv_at hl 0 rfl) ?_
  refine lv_iconst (v := 1) hx hb dX2_putBlock_50 (by decide) ?_
  refine lv_ishl hx hb dX2_putBlock_51 ?_
  refine lv_ior hx hb dX2_putBlock_52 ?_
  obtain ⟨o4, ho4, hf⟩ := ob hf
  refine xj_v (va_runV (As := [.int ((128 : Int32) ||| (b13_s_0 <<< ((1 : Int32) &&& 31)))]) (rest := []) ⟨hx, hb, hml, hown, hts⟩ (kX8_add l D Y F a_hk a_hkw H.size hk_most o3.1 o3.2.1 hkw_n o3.2.2 ((128 : Int32) ||| (b13_s_0 <<< ((1 : Int32) &&& 31))) o4 ho4) (cwV 1 hts gX2_putBlock_X8_add rfl rfl rfl (by decide +kernel) ⟨Nat.le_of_ble_eq_true rfl, Nat.le_of_ble_eq_true rfl⟩) (prev_w (ci := 6) rfl rfl hK wd [7, 8] rfl (by decide)) rfl rfl hl.1 rfl (lv_room (Nat.le_of_ble_eq_true rfl)) dX2_putBlock_53 ⟨Nat.zero_le _, Nat.zero_le _⟩) wd hS hA [7, 8] [0, 1, 2, 3, 4, 5, 6] rfl rfl (by decide) (by decide) (fun H locs wd hS => ?_)
  have wd : WD D A [oX2 a_h (.ref a_hk) (.ref a_p) (.ref a_t) h_lace h_mostPackets h_unknownSizes, oX4 a_p (.ref a_pb) (.ref a_pe) (.ref a_pt) p_packets, oX8 a_pb (.ref a_pbw) pb_most pb_length pb_overfull, aI Y a_pbw pbw_n c_pbw, aI Y a_pe 64 c_pe, oX8 a_t (.ref a_tw) t_most t_length t_overfull, aI Y a_tw tw_n c_tw, oX8 a_hk (.ref a_hkw) hk_most o4.1 o4.2.1, aI Y a_hkw hkw_n o4.2.2] H := wd
  refine lv_iload hx hb dX2_putBlock_56 (lv_at hl 0 rfl) ?_
  refine lv_if_eq (tgt := 71) hx hb dX2_putBlock_58 (by decide) (fun q5 => ?_) (fun q5 => ?_)
  · have hf := ip hf q5
    exact wX2_putBlock_b71 D Y C hA hK F a_h a_hk a_hkw a_p a_pb a_pbw a_pe a_t a_tw a_pt h_lace h_mostPackets h_unknownSizes hk_most hk_length hk_overfull hkw_n c_hkw p_packets pb_most pb_length pb_overfull pbw_n c_pbw c_pe t_most t_length t_overfull tw_n c_tw p1 p2 p3 _ b13_s_0 o4.1 o4.2.1 o4.2.2 hf (wd.sub [0, 7, 8, 1, 2, 3, 4, 5, 6] rfl (by decide)) hS (lv_sub hl [1, 2, 3, 0] rfl)
  · have hf := ie hf q5
    refine lv_aload_n hx hb dX2_putBlock_61 rfl (lv_at hl 1 rfl) ?_
    refine va_get (D := D) (ci := 1) (v := .ref a_hk) (C := RX2) (T := TX2) (N := 6) hx hb hts iX2_putBlock_X2 hown hK wd.1 0 rfl rfl 0 (by decide) (hts _ mX2_putBlock_1) (fun _ h9 => h9) rfl dX2_putBlock_62 ?_
    refine lv_iload_n hx hb dX2_putBlock_65 rfl (lv_at hl 3 rfl) ?_
    refine lv_iconst (v := 1) hx hb dX2_putBlock_66 (by decide) ?_
    refine lv_isub hx hb dX2_putBlock_67 ?_
    obtain ⟨o6, ho6, hf⟩ := ob hf
    refine xj_v (va_runV (As := [.int (p2 - 1)]) (rest := []) ⟨hx, hb, hml, hown, hts⟩ (kX8_add l D Y F a_hk a_hkw H.size hk_most o4.1 o4.2.1 hkw_n o4.2.2 (p2 - 1) o6 ho6) (cwV 1 hts gX2_putBlock_X8_add rfl rfl rfl (by decide +kernel) ⟨Nat.le_of_ble_eq_true rfl, Nat.le_of_ble_eq_true rfl⟩) (prev_w (ci := 6) rfl rfl hK wd [7, 8] rfl (by decide)) rfl rfl hl.1 rfl (lv_room (Nat.le_of_ble_eq_true rfl)) dX2_putBlock_68 ⟨Nat.zero_le _, Nat.zero_le _⟩) wd hS hA [7, 8] [0, 1, 2, 3, 4, 5, 6] rfl rfl (by decide) (by decide) (fun H locs wd hS => ?_)
    have wd : WD D A [oX2 a_h (.ref a_hk) (.ref a_p) (.ref a_t) h_lace h_mostPackets h_unknownSizes, oX4 a_p (.ref a_pb) (.ref a_pe) (.ref a_pt) p_packets, oX8 a_pb (.ref a_pbw) pb_most pb_length pb_overfull, aI Y a_pbw pbw_n c_pbw, aI Y a_pe 64 c_pe, oX8 a_t (.ref a_tw) t_most t_length t_overfull, aI Y a_tw tw_n c_tw, oX8 a_hk (.ref a_hkw) hk_most o6.1 o6.2.1, aI Y a_hkw hkw_n o6.2.2] H := wd
    exact wX2_putBlock_b71 D Y C hA hK F a_h a_hk a_hkw a_p a_pb a_pbw a_pe a_t a_tw a_pt h_lace h_mostPackets h_unknownSizes hk_most hk_length hk_overfull hkw_n c_hkw p_packets pb_most pb_length pb_overfull pbw_n c_pbw c_pe t_most t_length t_overfull tw_n c_tw p1 p2 p3 _ b13_s_0 o6.1 o6.2.1 o6.2.2 hf (wd.sub [0, 7, 8, 1, 2, 3, 4, 5, 6] rfl (by decide)) hS (lv_sub hl [1, 2, 3, 0] rfl)

set_option maxHeartbeats 4000000 in
set_option maxRecDepth 100000 in
theorem wX2_putBlock {p : Program} {l : Launch} {e : Env} {s : State} {m : MethodId} {args : Array Value} {below : List Frame} {meth : Method} {c : Code} {A : Nat → Prop} (D : va_G) (Y : Y4) (C : CX p s m meth c args cX2_putBlock 8 none wsX2_putBlock RX2) (hA : ∀ q : Nat, s.heap.size ≤ q → A q) (hK : va_K D vwCl (TY Y) s) (F : Nat) (a_h : Nat) (a_hk : Nat) (a_hkw : Nat) (a_p : Nat) (a_pb : Nat) (a_pbw : Nat) (a_pe : Nat) (a_t : Nat) (a_tw : Nat) (a_pt : Nat) (h_lace : Int32) (h_mostPackets : Int32) (h_unknownSizes : Int32) (hk_most : Int32) (hk_length : Int32) (hk_overfull : Int32) (hkw_n : Nat) (c_hkw : (Nat → Int32)) (p_packets : Int32) (pb_most : Int32) (pb_length : Int32) (pb_overfull : Int32) (pbw_n : Nat) (c_pbw : (Nat → Int32)) (c_pe : (Nat → Int32)) (t_most : Int32) (t_length : Int32) (t_overfull : Int32) (tw_n : Nat) (c_tw : (Nat → Int32)) (p1 : Int32) (p2 : Int32) (p3 : Int64) (res : Int32 × Int32 × (Nat → Int32) × Int32 × Int32 × (Nat → Int32)) (hf : fX2_putBlock F h_lace hk_most hkw_n c_hkw p_packets pb_length pbw_n c_pbw c_pe t_most t_length t_overfull tw_n c_tw p1 p2 p3 = some res) {H : Heap} {locs : List Loc} {ls : Array Slot} (wd : WD D A [oX2 a_h (.ref a_hk) (.ref a_p) (.ref a_t) h_lace h_mostPackets h_unknownSizes, oX8 a_hk (.ref a_hkw) hk_most hk_length hk_overfull, aI Y a_hkw hkw_n c_hkw, oX4 a_p (.ref a_pb) (.ref a_pe) (.ref a_pt) p_packets, oX8 a_pb (.ref a_pbw) pb_most pb_length pb_overfull, aI Y a_pbw pbw_n c_pbw, aI Y a_pe 64 c_pe, oX8 a_t (.ref a_tw) t_most t_length t_overfull, aI Y a_tw tw_n c_tw] H) (hS : va_S A s.heap H locs) (hl : lv_has ls 8 [(0, .ref a_h), (1, .int p1), (2, .int p2), (3, .long p3)]) : W p l e { frames := 4, cells := 0, slots := 0, locals := 93 } s m args below meth c H locs 0 0 (MQ below (va_Qv (fun _ : Unit => True) (fun _ t => PST D Y A [oX2 a_h (.ref a_hk) (.ref a_p) (.ref a_t) h_lace h_mostPackets h_unknownSizes, oX8 a_hk (.ref a_hkw) hk_most res.1 res.2.1, aI Y a_hkw hkw_n res.2.2.1, oX4 a_p (.ref a_pb) (.ref a_pe) (.ref a_pt) p_packets, oX8 a_pb (.ref a_pbw) pb_most pb_length pb_overfull, aI Y a_pbw pbw_n c_pbw, aI Y a_pe 64 c_pe, oX8 a_t (.ref a_tw) t_most res.2.2.2.1 res.2.2.2.2.1, aI Y a_tw tw_n res.2.2.2.2.2] t) A) args s 0 0 A) (F0 m 0 ls []) := by
  obtain ⟨hx, hb, hml, hr, hts, hown, hlocks⟩ := id C
  unfold fX2_putBlock at hf
  refine lv_iload_n hx hb dX2_putBlock_0 rfl (lv_at hl 2 rfl) ?_
  refine lv_iconst (v := 1) hx hb dX2_putBlock_1 (by decide) ?_
  refine lv_icmp_ne (tgt := 9) hx hb dX2_putBlock_2 (by decide) (fun q1 => ?_) (fun q1 => ?_)
  · have hf := ie hf q1
    refine lv_aload_n hx hb dX2_putBlock_9 rfl (lv_at hl 0 rfl) ?_
    refine va_get (D := D) (ci := 1) (v := .int h_lace) (C := RX2) (T := TX2) (N := 6) hx hb hts iX2_putBlock_X2 hown hK wd.1 0 rfl rfl 3 (by decide) (hts _ mX2_putBlock_0) (fun _ h9 => h9) rfl dX2_putBlock_10 ?_
    exact wX2_putBlock_b13 D Y C hA hK F a_h a_hk a_hkw a_p a_pb a_pbw a_pe a_t a_tw a_pt h_lace h_mostPackets h_unknownSizes hk_most hk_length hk_overfull hkw_n c_hkw p_packets pb_most pb_length pb_overfull pbw_n c_pbw c_pe t_most t_length t_overfull tw_n c_tw p1 p2 p3 _ h_lace hf wd hS (lv_sub hl [0, 1, 2, 3] rfl)
  · have hf := ip hf q1
    refine lv_iconst (v := 0) hx hb dX2_putBlock_5 (by decide) ?_
    refine lv_goto (tgt := 13) hx hb dX2_putBlock_6 (by decide) ?_
    exact wX2_putBlock_b13 D Y C hA hK F a_h a_hk a_hkw a_p a_pb a_pbw a_pe a_t a_tw a_pt h_lace h_mostPackets h_unknownSizes hk_most hk_length hk_overfull hkw_n c_hkw p_packets pb_most pb_length pb_overfull pbw_n c_pbw c_pe t_most t_length t_overfull tw_n c_tw p1 p2 p3 _ 0 hf wd hS (lv_sub hl [0, 1, 2, 3] rfl)
set_option maxHeartbeats 4000000 in
set_option maxRecDepth 100000 in
theorem kX2_putBlock (l : Launch) (D : va_G) (Y : Y4) (F : Nat) (a_h : Nat) (a_hk : Nat) (a_hkw : Nat) (a_p : Nat) (a_pb : Nat) (a_pbw : Nat) (a_pe : Nat) (a_t : Nat) (a_tw : Nat) (a_pt : Nat) (sz : Nat) (h_lace : Int32) (h_mostPackets : Int32) (h_unknownSizes : Int32) (hk_most : Int32) (hk_length : Int32) (hk_overfull : Int32) (hkw_n : Nat) (c_hkw : (Nat → Int32)) (p_packets : Int32) (pb_most : Int32) (pb_length : Int32) (pb_overfull : Int32) (pbw_n : Nat) (c_pbw : (Nat → Int32)) (c_pe : (Nat → Int32)) (t_most : Int32) (t_length : Int32) (t_overfull : Int32) (tw_n : Nat) (c_tw : (Nat → Int32)) (p1 : Int32) (p2 : Int32) (p3 : Int64) (res : Int32 × Int32 × (Nat → Int32) × Int32 × Int32 × (Nat → Int32)) (hf : fX2_putBlock F h_lace hk_most hkw_n c_hkw p_packets pb_length pbw_n c_pbw c_pe t_most t_length t_overfull tw_n c_tw p1 p2 p3 = some res) : Met l yX2_putBlock wsX2_putBlock ({ frames := 4, cells := 0, slots := 0, locals := 93 }) (va_Pc [.ref a_h, .int p1, .int p2, .long p3] (PRE D Y [oX2 a_h (.ref a_hk) (.ref a_p) (.ref a_t) h_lace h_mostPackets h_unknownSizes, oX8 a_hk (.ref a_hkw) hk_most hk_length hk_overfull, aI Y a_hkw hkw_n c_hkw, oX4 a_p (.ref a_pb) (.ref a_pe) (.ref a_pt) p_packets, oX8 a_pb (.ref a_pbw) pb_most pb_length pb_overfull, aI Y a_pbw pbw_n c_pbw, aI Y a_pe 64 c_pe, oX8 a_t (.ref a_tw) t_most t_length t_overfull, aI Y a_tw tw_n c_tw] sz)) (va_Qv (fun _ : Unit => True) (fun _ t => PST D Y (va_A [oX2 a_h (.ref a_hk) (.ref a_p) (.ref a_t) h_lace h_mostPackets h_unknownSizes, oX8 a_hk (.ref a_hkw) hk_most hk_length hk_overfull, aI Y a_hkw hkw_n c_hkw, oX4 a_p (.ref a_pb) (.ref a_pe) (.ref a_pt) p_packets, oX8 a_pb (.ref a_pbw) pb_most pb_length pb_overfull, aI Y a_pbw pbw_n c_pbw, aI Y a_pe 64 c_pe, oX8 a_t (.ref a_tw) t_most t_length t_overfull, aI Y a_tw tw_n c_tw] sz) [oX2 a_h (.ref a_hk) (.ref a_p) (.ref a_t) h_lace h_mostPackets h_unknownSizes, oX8 a_hk (.ref a_hkw) hk_most res.1 res.2.1, aI Y a_hkw hkw_n res.2.2.1, oX4 a_p (.ref a_pb) (.ref a_pe) (.ref a_pt) p_packets, oX8 a_pb (.ref a_pbw) pb_most pb_length pb_overfull, aI Y a_pbw pbw_n c_pbw, aI Y a_pe 64 c_pe, oX8 a_t (.ref a_tw) t_most res.2.2.2.1 res.2.2.2.2.1, aI Y a_tw tw_n res.2.2.2.2.2] t) (va_A [oX2 a_h (.ref a_hk) (.ref a_p) (.ref a_t) h_lace h_mostPackets h_unknownSizes, oX8 a_hk (.ref a_hkw) hk_most hk_length hk_overfull, aI Y a_hkw hkw_n c_hkw, oX4 a_p (.ref a_pb) (.ref a_pe) (.ref a_pt) p_packets, oX8 a_pb (.ref a_pbw) pb_most pb_length pb_overfull, aI Y a_pbw pbw_n c_pbw, aI Y a_pe 64 c_pe, oX8 a_t (.ref a_tw) t_most t_length t_overfull, aI Y a_tw tw_n c_tw] sz)) 0 0 (va_A [oX2 a_h (.ref a_hk) (.ref a_p) (.ref a_t) h_lace h_mostPackets h_unknownSizes, oX8 a_hk (.ref a_hkw) hk_most hk_length hk_overfull, aI Y a_hkw hkw_n c_hkw, oX4 a_p (.ref a_pb) (.ref a_pe) (.ref a_pt) p_packets, oX8 a_pb (.ref a_pbw) pb_most pb_length pb_overfull, aI Y a_pbw pbw_n c_pbw, aI Y a_pe 64 c_pe, oX8 a_t (.ref a_tw) t_most t_length t_overfull, aI Y a_tw tw_n c_tw] sz) := by
  refine Met.ofW (cc := cX2_putBlock) (maxL := 8) (ret := none) (by decide) rfl ?_
  intro p e s m args below meth c s₁ B hml hv
  obtain ⟨rfl, rfl, hP, hK, hD0⟩ := hv
  have hl := lv_entry ([.ref a_h, .int p1, .int p2, .long p3]) (n := 8) (Nat.le_of_ble_eq_true rfl)
  rw [lg_entry_eq]
  exact wX2_putBlock D Y ⟨B.exec, B.bytes, hml, B.returns, atoms_spec (ws := wsX2_putBlock) B.pre, findClass_of_methodNamed B.named, B.notSynchronized⟩ (fun q h => Or.inr h) hK F a_h a_hk a_hkw a_p a_pb a_pbw a_pe a_t a_tw a_pt h_lace h_mostPackets h_unknownSizes hk_most hk_length hk_overfull hkw_n c_hkw p_packets pb_most pb_length pb_overfull pbw_n c_pbw c_pe t_most t_length t_overfull tw_n c_tw p1 p2 p3 res hf ⟨hP, hD0.self⟩ va_S.rf hl
theorem mX2_putClusters_0 : Cond.fieldLink RX2 20 "StreamRemuxer$ElementWriter" "source" "LStreamRemuxer$PacketList;" ∈ wsX2_putClusters := List.mem_cons_of_mem _ u_320
theorem mX2_putClusters_1 : Cond.fieldLink RX2 71 "StreamRemuxer$PacketList" "packets" "I" ∈ wsX2_putClusters := List.mem_cons_of_mem _ u_345
theorem mX2_putClusters_2 : Cond.constant RX2 84 (524531317) ∈ wsX2_putClusters := List.mem_cons_of_mem _ u_346
theorem iX2_putClusters_X2 : ∀ w ∈ wsX20, w ∈ wsX2_putClusters := fun w h => List.mem_cons_of_mem _ (inlX2 w h)
theorem iX2_putClusters_X4 : ∀ w ∈ wsX40, w ∈ wsX2_putClusters := fun w h => List.mem_cons_of_mem _ (inlX4 w h)
set_option maxHeartbeats 4000000 in
set_option maxRecDepth 100000 in
theorem wX2_putClusters_b92 {p : Program} {l : Launch} {e : Env} {s : State} {m : MethodId} {args : Array Value} {below : List Frame} {meth : Method} {c : Code} {A : Nat → Prop} (D : va_G) (Y : Y4) (C : CX p s m meth c args cX2_putClusters 11 none wsX2_putClusters RX2) (hA : ∀ q : Nat, s.heap.size ≤ q → A q) (hK : va_K D vwCl (TY Y) s) (F : Nat) (a_h : Nat) (a_hk : Nat) (a_hkw : Nat) (a_p : Nat) (a_pb : Nat) (a_pbw : Nat) (a_pe : Nat) (a_pt : Nat) (a_t : Nat) (a_tw : Nat) (h_lace : Int32) (h_mostPackets : Int32) (h_unknownSizes : Int32) (hk_most : Int32) (hk_length : Int32) (hk_overfull : Int32) (hkw_n : Nat) (c_hkw : (Nat → Int32)) (p_packets : Int32) (pb_most : Int32) (pb_length : Int32) (pb_overfull : Int32) (pbw_n : Nat) (c_pbw : (Nat → Int32)) (c_pe : (Nat → Int32)) (c_pt : (Nat → Int64)) (t_most : Int32) (t_length : Int32) (t_overfull : Int32) (tw_n : Nat) (c_tw : (Nat → Int32)) (p1 : Int32) (res : Int32 × Int32 × (Nat → Int32) × Int32 × Int32 × (Nat → Int32)) (rc13 : Int32 → Int32 → Int32 → Int64 → Int32 → Int32 → Int32 → (Nat → Int32) → Int32 → Int32 → (Nat → Int32) → Option (Int32 × Int32 × (Nat → Int32) × Int32 × Int32 × (Nat → Int32))) (hrc13 : ∀ (b13_l_7 : Int32) (b13_l_6 : Int32) (b13_l_5 : Int32) (b13_l_3 : Int64) (b13_l_2 : Int32) (b13_f_hk_2 : Int32) (b13_f_hk_3 : Int32) (b13_c_hkw : (Nat → Int32)) (b13_f_t_2 : Int32) (b13_f_t_3 : Int32) (b13_c_tw : (Nat → Int32)), rc13 b13_l_7 b13_l_6 b13_l_5 b13_l_3 b13_l_2 b13_f_hk_2 b13_f_hk_3 b13_c_hkw b13_f_t_2 b13_f_t_3 b13_c_tw = some res → ∀ {H : Heap} {locs : List Loc} {ls : Array Slot}, WD D A [oX2 a_h (.ref a_hk) (.ref a_p) (.ref a_t) h_lace h_mostPackets h_unknownSizes, oX8 a_hk (.ref a_hkw) hk_most b13_f_hk_2 b13_f_hk_3, aI Y a_hkw hkw_n b13_c_hkw, oX4 a_p (.ref a_pb) (.ref a_pe) (.ref a_pt) p_packets, oX8 a_pb (.ref a_pbw) pb_most pb_length pb_overfull, aI Y a_pbw pbw_n c_pbw, aI Y a_pe 64 c_pe, aJ Y a_pt 64 c_pt, oX8 a_t (.ref a_tw) t_most b13_f_t_2 b13_f_t_3, aI Y a_tw tw_n b13_c_tw] H → va_S A s.heap H locs → lv_has ls 11 [(0, .ref a_h), (1, .int p1), (2, .int b13_l_2), (3, .long b13_l_3), (5, .int b13_l_5), (6, .int b13_l_6), (7, .int b13_l_7)] → W p l e { frames := 5, cells := 0, slots := 0, locals := 120 } s m args below meth c H locs 0 0 (MQ below (va_Qv (fun _ : Unit => True) (fun _ t => PST D Y A [oX2 a_h (.ref a_hk) (.ref a_p) (.ref a_t) h_lace h_mostPackets h_unknownSizes, oX8 a_hk (.ref a_hkw) hk_most res.1 res.2.1, aI Y a_hkw hkw_n res.2.2.1, oX4 a_p (.ref a_pb) (.ref a_pe) (.ref a_pt) p_packets, oX8 a_pb (.ref a_pbw) pb_most pb_length pb_overfull, aI Y a_pbw pbw_n c_pbw, aI Y a_pe 64 c_pe, aJ Y a_pt 64 c_pt, oX8 a_t (.ref a_tw) t_most res.2.2.2.1 res.2.2.2.2.1, aI Y a_tw tw_n res.2.2.2.2.2] t) A) args s 0 0 A) (F0 m 13 ls [])) (b92_l_8 : Int64) (b92_l_2 : Int32) (b92_l_3 : Int64) (b92_l_5 : Int32) (b92_l_6 : Int32) (b92_l_7 : Int32) (b92_f_hk_2 : Int32) (b92_f_hk_3 : Int32) (b92_c_hkw : (Nat → Int32)) (b92_f_t_2 : Int32) (b92_f_t_3 : Int32) (b92_c_tw : (Nat → Int32)) (hf : fX2_putClusters_b92 F h_lace h_mostPackets hk_most hkw_n p_packets pb_length pbw_n c_pbw c_pe t_most tw_n rc13 b92_l_8 b92_l_2 b92_l_3 b92_l_5 b92_l_6 b92_l_7 b92_f_hk_2 b92_f_hk_3 b92_c_hkw b92_f_t_2 b92_f_t_3 b92_c_tw = some res) {H : Heap} {locs : List Loc} {ls : Array Slot} (wd : WD D A [oX2 a_h (.ref a_hk) (.ref a_p) (.ref a_t) h_lace h_mostPackets h_unknownSizes, oX8 a_hk (.ref a_hkw) hk_most b92_f_hk_2 b92_f_hk_3, aI Y a_hkw hkw_n b92_c_hkw, oX4 a_p (.ref a_pb) (.ref a_pe) (.ref a_pt) p_packets, oX8 a_pb (.ref a_pbw) pb_most pb_length pb_overfull, aI Y a_pbw pbw_n c_pbw, aI Y a_pe 64 c_pe, aJ Y a_pt 64 c_pt, oX8 a_t (.ref a_tw) t_most b92_f_t_2 b92_f_t_3, aI Y a_tw tw_n b92_c_tw] H) (hS : va_S A s.heap H locs) (hl : lv_has ls 11 [(0, .ref a_h), (1, .int p1), (2, .int b92_l_2), (3, .long b92_l_3), (5, .int b92_l_5), (6, .int b92_l_6), (7, .int b92_l_7), (8, .long b92_l_8)]) : W p l e { frames := 5, cells := 0, slots := 0, locals := 120 } s m args below meth c H locs 0 0 (MQ below (va_Qv (fun _ : Unit => True) (fun _ t => PST D Y A [oX2 a_h (.ref a_hk) (.ref a_p) (.ref a_t) h_lace h_mostPackets h_unknownSizes, oX8 a_hk (.ref a_hkw) hk_most res.1 res.2.1, aI Y a_hkw hkw_n res.2.2.1, oX4 a_p (.ref a_pb) (.ref a_pe) (.ref a_pt) p_packets, oX8 a_pb (.ref a_pbw) pb_most pb_length pb_overfull, aI Y a_pbw pbw_n c_pbw, aI Y a_pe 64 c_pe, aJ Y a_pt 64 c_pt, oX8 a_t (.ref a_tw) t_most res.2.2.2.1 res.2.2.2.2.1, aI Y a_tw tw_n res.2.2.2.2.2] t) A) args s 0 0 A) (F0 m 92 ls []) := by
  obtain ⟨hx, hb, hml, hr, hts, hown, hlocks⟩ := id C
  unfold fX2_putClusters_b92 at hf
  refine lv_aload_n hx hb dX2_putClusters_92 rfl (lv_at hl 0 rfl) ?_
  refine lv_iload hx hb dX2_putClusters_93 (lv_at hl 5 rfl) ?_
  obtain ⟨o1, ho1, hf⟩ := ob hf
  refine xj_i (va_runV (As := [.int b92_l_6]) (rest := []) ⟨hx, hb, hml, hown, hts⟩ (kX2_packetsOfBlock l D Y F a_h a_p a_pe a_hk a_t a_pb a_pt H.size h_lace h_mostPackets h_unknownSizes p_packets c_pe b92_l_6 o1 ho1) (cwV 1 hts gX2_putClusters_X2_packetsOfBlock rfl rfl rfl (by decide +kernel) ⟨Nat.le_of_ble_eq_true rfl, Nat.le_of_ble_eq_true rfl⟩) (prev_w (ci := 1) rfl rfl hK wd [0, 3, 6] rfl (by decide)) rfl rfl hl.1 rfl (lv_room (Nat.le_of_ble_eq_true rfl)) dX2_putClusters_95 ⟨Nat.zero_le _, Nat.zero_le _⟩) wd hS hA [0, 3, 6] [1, 2, 4, 5, 7, 8, 9] rfl rfl (by decide) (by decide) (fun H locs wd hS => ?_)
  have wd : WD D A [oX8 a_hk (.ref a_hkw) hk_most b92_f_hk_2 b92_f_hk_3, aI Y a_hkw hkw_n b92_c_hkw, oX8 a_pb (.ref a_pbw) pb_most pb_length pb_overfull, aI Y a_pbw pbw_n c_pbw, aJ Y a_pt 64 c_pt, oX8 a_t (.ref a_tw) t_most b92_f_t_2 b92_f_t_3, aI Y a_tw tw_n b92_c_tw, oX2 a_h (.ref a_hk) (.ref a_p) (.ref a_t) h_lace h_mostPackets h_unknownSizes, oX4 a_p (.ref a_pb) (.ref a_pe) (.ref a_pt) p_packets, aI Y a_pe 64 c_pe] H := wd
  refine lv_istore (lv' := [(10, .int o1), (0, .ref a_h), (1, .int p1), (2, .int b92_l_2), (3, .long b92_l_3), (5, .int b92_l_5), (6, .int b92_l_6), (7, .int b92_l_7), (8, .long b92_l_8)]) hx hb dX2_putClusters_98 hl (by decide) rfl (fun ls hl => ?_)
  refine lv_aload_n hx hb dX2_putClusters_100 rfl (lv_at hl 1 rfl) ?_
  refine lv_iload hx hb dX2_putClusters_101 (lv_at hl 6 rfl) ?_
  refine lv_iload hx hb dX2_putClusters_103 (lv_at hl 0 rfl) ?_
  refine lv_lload hx hb dX2_putClusters_105 (lv_at hl 8 rfl) ?_
  refine lv_lload_n hx hb dX2_putClusters_107 rfl (lv_at hl 4 rfl) ?_
  refine lv_lsub hx hb dX2_putClusters_108 ?_
  obtain ⟨o2, ho2, hf⟩ := ob hf
  refine xj_v (va_runV (As := [.int b92_l_6, .int o1, .long (b92_l_8 - b92_l_3)]) (rest := []) ⟨hx, hb, hml, hown, hts⟩ (kX2_putBlock l D Y F a_h a_hk a_hkw a_p a_pb a_pbw a_pe a_t a_tw a_pt H.size h_lace h_mostPackets h_unknownSizes hk_most b92_f_hk_2 b92_f_hk_3 hkw_n b92_c_hkw p_packets pb_most pb_length pb_overfull pbw_n c_pbw c_pe t_most b92_f_t_2 b92_f_t_3 tw_n b92_c_tw b92_l_6 o1 (b92_l_8 - b92_l_3) o2 ho2) (cwV 3 hts gX2_putClusters_X2_putBlock rfl rfl rfl (by decide +kernel) ⟨Nat.le_of_ble_eq_true rfl, Nat.le_of_ble_eq_true rfl⟩) (prev_w (ci := 1) rfl rfl hK wd [7, 0, 1, 8, 2, 3, 9, 5, 6] rfl (by decide)) rfl rfl hl.1 rfl (lv_room (Nat.le_of_ble_eq_true rfl)) dX2_putClusters_109 ⟨Nat.zero_le _, Nat.zero_le _⟩) wd hS hA [7, 0, 1, 8, 2, 3, 9, 5, 6] [4] rfl rfl (by decide) (by decide) (fun H locs wd hS => ?_)
  have wd : WD D A [aJ Y a_pt 64 c_pt, oX2 a_h (.ref a_hk) (.ref a_p) (.ref a_t) h_lace h_mostPackets h_unknownSizes, oX8 a_hk (.ref a_hkw) hk_most o2.1 o2.2.1, aI Y a_hkw hkw_n o2.2.2.1, oX4 a_p (.ref a_pb) (.ref a_pe) (.ref a_pt) p_packets, oX8 a_pb (.ref a_pbw) pb_most pb_length pb_overfull, aI Y a_pbw pbw_n c_pbw, aI Y a_pe 64 c_pe, oX8 a_t (.ref a_tw) t_most o2.2.2.2.1 o2.2.2.2.2.1, aI Y a_tw tw_n o2.2.2.2.2.2] H := wd
  obtain ⟨x3, ex3⟩ : ∃ y : Int32, y = b92_l_5 + 1 := ⟨_, rfl⟩
  have hf := nm_at hf ex3
  refine lv_iinc (v := x3) (lv' := [(5, .int x3), (10, .int o1), (0, .ref a_h), (1, .int p1), (2, .int b92_l_2), (3, .long b92_l_3), (6, .int b92_l_6), (7, .int b92_l_7), (8, .long b92_l_8)]) hx hb dX2_putClusters_112 hl (k := 5) rfl (by rw [ex3]; rfl) (by decide) rfl (fun ls hl => ?_)
  refine lv_iload hx hb dX2_putClusters_115 (lv_at hl 6 rfl) ?_
  refine lv_iload hx hb dX2_putClusters_117 (lv_at hl 1 rfl) ?_
  refine lv_iadd hx hb dX2_putClusters_119 ?_
  refine lv_topi (fun x4 ex4 => ?_)
  have hf := nm_at hf ex4
  refine lv_istore (lv' := [(6, .int x4), (5, .int x3), (10, .int o1), (0, .ref a_h), (1, .int p1), (2, .int b92_l_2), (3, .long b92_l_3), (7, .int b92_l_7), (8, .long b92_l_8)]) hx hb dX2_putClusters_120 hl (by decide) rfl (fun ls hl => ?_)
  obtain ⟨x5, ex5⟩ : ∃ y : Int32, y = b92_l_7 + 1 := ⟨_, rfl⟩
  have hf := nm_at hf ex5
  refine lv_iinc (v := x5) (lv' := [(7, .int x5), (6, .int x4), (5, .int x3), (10, .int o1), (0, .ref a_h), (1, .int p1), (2, .int b92_l_2), (3, .long b92_l_3), (8, .long b92_l_8)]) hx hb dX2_putClusters_122 hl (k := 7) rfl (by rw [ex5]; rfl) (by decide) rfl (fun ls hl => ?_)
  refine lv_goto (tgt := 13) hx hb dX2_putClusters_125 (by decide) ?_
  exact hrc13 x5 x4 x3 b92_l_3 b92_l_2 o2.1 o2.2.1 o2.2.2.1 o2.2.2.2.1 o2.2.2.2.2.1 o2.2.2.2.2.2 hf (wd.sub [1, 2, 3, 4, 5, 6, 7, 0, 8, 9] rfl (by decide)) hS (lv_sub hl [4, 5, 6, 7, 2, 1, 0] rfl)

set_option maxHeartbeats 4000000 in
set_option maxRecDepth 100000 in
theorem wX2_putClusters_b69 {p : Program} {l : Launch} {e : Env} {s : State} {m : MethodId} {args : Array Value} {below : List Frame} {meth : Method} {c : Code} {A : Nat → Prop} (D : va_G) (Y : Y4) (C : CX p s m meth c args cX2_putClusters 11 none wsX2_putClusters RX2) (hA : ∀ q : Nat, s.heap.size ≤ q → A q) (hK : va_K D vwCl (TY Y) s) (F : Nat) (a_h : Nat) (a_hk : Nat) (a_hkw : Nat) (a_p : Nat) (a_pb : Nat) (a_pbw : Nat) (a_pe : Nat) (a_pt : Nat) (a_t : Nat) (a_tw : Nat) (h_lace : Int32) (h_mostPackets : Int32) (h_unknownSizes : Int32) (hk_most : Int32) (hk_length : Int32) (hk_overfull : Int32) (hkw_n : Nat) (c_hkw : (Nat → Int32)) (p_packets : Int32) (pb_most : Int32) (pb_length : Int32) (pb_overfull : Int32) (pbw_n : Nat) (c_pbw : (Nat → Int32)) (c_pe : (Nat → Int32)) (c_pt : (Nat → Int64)) (t_most : Int32) (t_length : Int32) (t_overfull : Int32) (tw_n : Nat) (c_tw : (Nat → Int32)) (p1 : Int32) (res : Int32 × Int32 × (Nat → Int32) × Int32 × Int32 × (Nat → Int32)) (rc13 : Int32 → Int32 → Int32 → Int64 → Int32 → Int32 → Int32 → (Nat → Int32) → Int32 → Int32 → (Nat → Int32) → Option (Int32 × Int32 × (Nat → Int32) × Int32 × Int32 × (Nat → Int32))) (hrc13 : ∀ (b13_l_7 : Int32) (b13_l_6 : Int32) (b13_l_5 : Int32) (b13_l_3 : Int64) (b13_l_2 : Int32) (b13_f_hk_2 : Int32) (b13_f_hk_3 : Int32) (b13_c_hkw : (Nat → Int32)) (b13_f_t_2 : Int32) (b13_f_t_3 : Int32) (b13_c_tw : (Nat → Int32)), rc13 b13_l_7 b13_l_6 b13_l_5 b13_l_3 b13_l_2 b13_f_hk_2 b13_f_hk_3 b13_c_hkw b13_f_t_2 b13_f_t_3 b13_c_tw = some res → ∀ {H : Heap} {locs : List Loc} {ls : Array Slot}, WD D A [oX2 a_h (.ref a_hk) (.ref a_p) (.ref a_t) h_lace h_mostPackets h_unknownSizes, oX8 a_hk (.ref a_hkw) hk_most b13_f_hk_2 b13_f_hk_3, aI Y a_hkw hkw_n b13_c_hkw, oX4 a_p (.ref a_pb) (.ref a_pe) (.ref a_pt) p_packets, oX8 a_pb (.ref a_pbw) pb_most pb_length pb_overfull, aI Y a_pbw pbw_n c_pbw, aI Y a_pe 64 c_pe, aJ Y a_pt 64 c_pt, oX8 a_t (.ref a_tw) t_most b13_f_t_2 b13_f_t_3, aI Y a_tw tw_n b13_c_tw] H → va_S A s.heap H locs → lv_has ls 11 [(0, .ref a_h), (1, .int p1), (2, .int b13_l_2), (3, .long b13_l_3), (5, .int b13_l_5), (6, .int b13_l_6), (7, .int b13_l_7)] → W p l e { frames := 5, cells := 0, slots := 0, locals := 120 } s m args below meth c H locs 0 0 (MQ below (va_Qv (fun _ : Unit => True) (fun _ t => PST D Y A [oX2 a_h (.ref a_hk) (.ref a_p) (.ref a_t) h_lace h_mostPackets h_unknownSizes, oX8 a_hk (.ref a_hkw) hk_most res.1 res.2.1, aI Y a_hkw hkw_n res.2.2.1, oX4 a_p (.ref a_pb) (.ref a_pe) (.ref a_pt) p_packets, oX8 a_pb (.ref a_pbw) pb_most pb_length pb_overfull, aI Y a_pbw pbw_n c_pbw, aI Y a_pe 64 c_pe, aJ Y a_pt 64 c_pt, oX8 a_t (.ref a_tw) t_most res.2.2.2.1 res.2.2.2.2.1, aI Y a_tw tw_n res.2.2.2.2.2] t) A) args s 0 0 A) (F0 m 13 ls [])) (b69_l_8 : Int64) (b69_l_2 : Int32) (b69_l_6 : Int32) (b69_l_7 : Int32) (b69_f_hk_2 : Int32) (b69_f_hk_3 : Int32) (b69_c_hkw : (Nat → Int32)) (b69_f_t_2 : Int32) (b69_f_t_3 : Int32) (b69_c_tw : (Nat → Int32)) (hf : fX2_putClusters_b69 F h_lace h_mostPackets h_unknownSizes hk_most hkw_n p_packets pb_length pbw_n c_pbw c_pe t_most tw_n rc13 b69_l_8 b69_l_2 b69_l_6 b69_l_7 b69_f_hk_2 b69_f_hk_3 b69_c_hkw b69_f_t_2 b69_f_t_3 b69_c_tw = some res) {H : Heap} {locs : List Loc} {ls : Array Slot} (wd : WD D A [oX2 a_h (.ref a_hk) (.ref a_p) (.ref a_t) h_lace h_mostPackets h_unknownSizes, oX8 a_hk (.ref a_hkw) hk_most b69_f_hk_2 b69_f_hk_3, aI Y a_hkw hkw_n b69_c_hkw, oX4 a_p (.ref a_pb) (.ref a_pe) (.ref a_pt) p_packets, oX8 a_pb (.ref a_pbw) pb_most pb_length pb_overfull, aI Y a_pbw pbw_n c_pbw, aI Y a_pe 64 c_pe, aJ Y a_pt 64 c_pt, oX8 a_t (.ref a_tw) t_most b69_f_t_2 b69_f_t_3, aI Y a_tw tw_n b69_c_tw] H) (hS : va_S A s.heap H locs) (hl : lv_has ls 11 [(0, .ref a_h), (1, .int p1), (2, .int b69_l_2), (6, .int b69_l_6), (7, .int b69_l_7), (8, .long b69_l_8)]) : W p l e { frames := 5, cells := 0, slots := 0, locals := 120 } s m args below meth c H locs 0 0 (MQ below (va_Qv (fun _ : Unit => True) (fun _ t => PST D Y A [oX2 a_h (.ref a_hk) (.ref a_p) (.ref a_t) h_lace h_mostPackets h_unknownSizes, oX8 a_hk (.ref a_hkw) hk_most res.1 res.2.1, aI Y a_hkw hkw_n res.2.2.1, oX4 a_p (.ref a_pb) (.ref a_pe) (.ref a_pt) p_packets, oX8 a_pb (.ref a_pbw) pb_most pb_length pb_overfull, aI Y a_pbw pbw_n c_pbw, aI Y a_pe 64 c_pe, aJ Y a_pt 64 c_pt, oX8 a_t (.ref a_tw) t_most res.2.2.2.1 res.2.2.2.2.1, aI Y a_tw tw_n res.2.2.2.2.2] t) A) args s 0 0 A) (F0 m 69 ls []) := by
  obtain ⟨hx, hb, hml, hr, hts, hown, hlocks⟩ := id C
  unfold fX2_putClusters_b69 at hf
  refine lv_aload_n hx hb dX2_putClusters_69 rfl (lv_at hl 0 rfl) ?_
  refine lv_iload_n hx hb dX2_putClusters_70 rfl (lv_at hl 2 rfl) ?_
  obtain ⟨o1, ho1, hf⟩ := ob hf
  refine xj_v (va_runV (As := [.int b69_l_2]) (rest := []) ⟨hx, hb, hml, hown, hts⟩ (kX2_endLongElement l D Y F a_h a_t a_tw a_hk a_p H.size h_lace h_mostPackets h_unknownSizes t_most b69_f_t_2 b69_f_t_3 tw_n b69_c_tw b69_l_2 o1 ho1) (cwV 1 hts gX2_putClusters_X2_endLongElement rfl rfl rfl (by decide +kernel) ⟨Nat.le_of_ble_eq_true rfl, Nat.le_of_ble_eq_true rfl⟩) (prev_w (ci := 1) rfl rfl hK wd [0, 8, 9] rfl (by decide)) rfl rfl hl.1 rfl (lv_room (Nat.le_of_ble_eq_true rfl)) dX2_putClusters_71 ⟨Nat.zero_le _, Nat.zero_le _⟩) wd hS hA [0, 8, 9] [1, 2, 3, 4, 5, 6, 7] rfl rfl (by decide) (by decide) (fun H locs wd hS => ?_)
  have wd : WD D A [oX8 a_hk (.ref a_hkw) hk_most b69_f_hk_2 b69_f_hk_3, aI Y a_hkw hkw_n b69_c_hkw, oX4 a_p (.ref a_pb) (.ref a_pe) (.ref a_pt) p_packets, oX8 a_pb (.ref a_pbw) pb_most pb_length pb_overfull, aI Y a_pbw pbw_n c_pbw, aI Y a_pe 64 c_pe, aJ Y a_pt 64 c_pt, oX2 a_h (.ref a_hk) (.ref a_p) (.ref a_t) h_lace h_mostPackets h_unknownSizes, oX8 a_t (.ref a_tw) t_most b69_f_t_2 b69_f_t_3, aI Y a_tw tw_n o1] H := wd
  refine lv_aload_n hx hb dX2_putClusters_74 rfl (lv_at hl 0 rfl) ?_
  refine lv_ldc hx hb hown (hts _ mX2_putClusters_2) dX2_putClusters_75 ?_
  obtain ⟨o2, ho2, hf⟩ := ob hf
  refine xj_i (va_runV (As := [.int 524531317]) (rest := []) ⟨hx, hb, hml, hown, hts⟩ (kX2_beginLongElement l D Y F a_h a_t a_tw a_hk a_p H.size h_lace h_mostPackets h_unknownSizes t_most b69_f_t_2 b69_f_t_3 tw_n o1 524531317 o2 ho2) (cwV 1 hts gX2_putClusters_X2_beginLongElement rfl rfl rfl (by decide +kernel) ⟨Nat.le_of_ble_eq_true rfl, Nat.le_of_ble_eq_true rfl⟩) (prev_w (ci := 1) rfl rfl hK wd [7, 8, 9] rfl (by decide)) rfl rfl hl.1 rfl (lv_room (Nat.le_of_ble_eq_true rfl)) dX2_putClusters_77 ⟨Nat.zero_le _, Nat.zero_le _⟩) wd hS hA [7, 8, 9] [0, 1, 2, 3, 4, 5, 6] rfl rfl (by decide) (by decide) (fun H locs wd hS => ?_)
  have wd : WD D A [oX8 a_hk (.ref a_hkw) hk_most b69_f_hk_2 b69_f_hk_3, aI Y a_hkw hkw_n b69_c_hkw, oX4 a_p (.ref a_pb) (.ref a_pe) (.ref a_pt) p_packets, oX8 a_pb (.ref a_pbw) pb_most pb_length pb_overfull, aI Y a_pbw pbw_n c_pbw, aI Y a_pe 64 c_pe, aJ Y a_pt 64 c_pt, oX2 a_h (.ref a_hk) (.ref a_p) (.ref a_t) h_lace h_mostPackets h_unknownSizes, oX8 a_t (.ref a_tw) t_most o2.2.1 o2.2.2.1, aI Y a_tw tw_n o2.2.2.2] H := wd
  refine lv_istore_n (lv' := [(2, .int o2.1), (0, .ref a_h), (1, .int p1), (6, .int b69_l_6), (7, .int b69_l_7), (8, .long b69_l_8)]) hx hb dX2_putClusters_80 rfl hl (by decide) rfl (fun ls hl => ?_)
  refine lv_lload hx hb dX2_putClusters_81 (lv_at hl 5 rfl) ?_
  refine lv_lstore_n (lv' := [(3, .long b69_l_8), (2, .int o2.1), (0, .ref a_h), (1, .int p1), (6, .int b69_l_6), (7, .int b69_l_7), (8, .long b69_l_8)]) hx hb dX2_putClusters_83 rfl hl (by decide) rfl (fun ls hl => ?_)
  refine lv_iconst (v := 0) hx hb dX2_putClusters_84 (by decide) ?_
  refine lv_istore (lv' := [(5, .int 0), (3, .long b69_l_8), (2, .int o2.1), (0, .ref a_h), (1, .int p1), (6, .int b69_l_6), (7, .int b69_l_7), (8, .long b69_l_8)]) hx hb dX2_putClusters_85 hl (by decide) rfl (fun ls hl => ?_)
  refine lv_aload_n hx hb dX2_putClusters_87 rfl (lv_at hl 3 rfl) ?_
  refine lv_lload_n hx hb dX2_putClusters_88 rfl (lv_at hl 1 rfl) ?_
  obtain ⟨o3, ho3, hf⟩ := ob hf
  refine xj_v (va_runV (As := [.long b69_l_8]) (rest := []) ⟨hx, hb, hml, hown, hts⟩ (kX2_putClusterTime l D Y F a_h a_t a_tw a_hk a_p H.size h_lace h_mostPackets h_unknownSizes t_most o2.2.1 o2.2.2.1 tw_n o2.2.2.2 b69_l_8 o3 ho3) (cwV 1 hts gX2_putClusters_X2_putClusterTime rfl rfl rfl (by decide +kernel) ⟨Nat.le_of_ble_eq_true rfl, Nat.le_of_ble_eq_true rfl⟩) (prev_w (ci := 1) rfl rfl hK wd [7, 8, 9] rfl (by decide)) rfl rfl hl.1 rfl (lv_room (Nat.le_of_ble_eq_true rfl)) dX2_putClusters_89 ⟨Nat.zero_le _, Nat.zero_le _⟩) wd hS hA [7, 8, 9] [0, 1, 2, 3, 4, 5, 6] rfl rfl (by decide) (by decide) (fun H locs wd hS => ?_)
  have wd : WD D A [oX8 a_hk (.ref a_hkw) hk_most b69_f_hk_2 b69_f_hk_3, aI Y a_hkw hkw_n b69_c_hkw, oX4 a_p (.ref a_pb) (.ref a_pe) (.ref a_pt) p_packets, oX8 a_pb (.ref a_pbw) pb_most pb_length pb_overfull, aI Y a_pbw pbw_n c_pbw, aI Y a_pe 64 c_pe, aJ Y a_pt 64 c_pt, oX2 a_h (.ref a_hk) (.ref a_p) (.ref a_t) h_lace h_mostPackets h_unknownSizes, oX8 a_t (.ref a_tw) t_most o3.1 o3.2.1, aI Y a_tw tw_n o3.2.2] H := wd
  exact wX2_putClusters_b92 D Y C hA hK F a_h a_hk a_hkw a_p a_pb a_pbw a_pe a_pt a_t a_tw h_lace h_mostPackets h_unknownSizes hk_most hk_length hk_overfull hkw_n c_hkw p_packets pb_most pb_length pb_overfull pbw_n c_pbw c_pe c_pt t_most t_length t_overfull tw_n c_tw p1 _ rc13 hrc13 b69_l_8 o2.1 b69_l_8 0 b69_l_6 b69_l_7 b69_f_hk_2 b69_f_hk_3 b69_c_hkw o3.1 o3.2.1 o3.2.2 hf (wd.sub [7, 0, 1, 2, 3, 4, 5, 6, 8, 9] rfl (by decide)) hS (lv_sub hl [3, 4, 2, 1, 0, 5, 6, 7] rfl)

set_option maxHeartbeats 4000000 in
set_option maxRecDepth 100000 in
theorem wX2_putClusters_b128 {p : Program} {l : Launch} {e : Env} {s : State} {m : MethodId} {args : Array Value} {below : List Frame} {meth : Method} {c : Code} {A : Nat → Prop} (D : va_G) (Y : Y4) (C : CX p s m meth c args cX2_putClusters 11 none wsX2_putClusters RX2) (hA : ∀ q : Nat, s.heap.size ≤ q → A q) (hK : va_K D vwCl (TY Y) s) (F : Nat) (a_h : Nat) (a_hk : Nat) (a_hkw : Nat) (a_p : Nat) (a_pb : Nat) (a_pbw : Nat) (a_pe : Nat) (a_pt : Nat) (a_t : Nat) (a_tw : Nat) (h_lace : Int32) (h_mostPackets : Int32) (h_unknownSizes : Int32) (hk_most : Int32) (hk_length : Int32) (hk_overfull : Int32) (hkw_n : Nat) (c_hkw : (Nat → Int32)) (p_packets : Int32) (pb_most : Int32) (pb_length : Int32) (pb_overfull : Int32) (pbw_n : Nat) (c_pbw : (Nat → Int32)) (c_pe : (Nat → Int32)) (c_pt : (Nat → Int64)) (t_most : Int32) (t_length : Int32) (t_overfull : Int32) (tw_n : Nat) (c_tw : (Nat → Int32)) (p1 : Int32) (res : Int32 × Int32 × (Nat → Int32) × Int32 × Int32 × (Nat → Int32)) (b128_l_2 : Int32) (b128_f_hk_2 : Int32) (b128_f_hk_3 : Int32) (b128_c_hkw : (Nat → Int32)) (b128_f_t_2 : Int32) (b128_f_t_3 : Int32) (b128_c_tw : (Nat → Int32)) (hf : fX2_putClusters_b128 F h_unknownSizes tw_n b128_l_2 b128_f_hk_2 b128_f_hk_3 b128_c_hkw b128_f_t_2 b128_f_t_3 b128_c_tw = some res) {H : Heap} {locs : List Loc} {ls : Array Slot} (wd : WD D A [oX2 a_h (.ref a_hk) (.ref a_p) (.ref a_t) h_lace h_mostPackets h_unknownSizes, oX8 a_hk (.ref a_hkw) hk_most b128_f_hk_2 b128_f_hk_3, aI Y a_hkw hkw_n b128_c_hkw, oX4 a_p (.ref a_pb) (.ref a_pe) (.ref a_pt) p_packets, oX8 a_pb (.ref a_pbw) pb_most pb_length pb_overfull, aI Y a_pbw pbw_n c_pbw, aI Y a_pe 64 c_pe, aJ Y a_pt 64 c_pt, oX8 a_t (.ref a_tw) t_most b128_f_t_2 b128_f_t_3, aI Y a_tw tw_n b128_c_tw] H) (hS : va_S A s.heap H locs) (hl : lv_has ls 11 [(0, .ref a_h), (2, .int b128_l_2)]) : W p l e { frames := 5, cells := 0, slots := 0, locals := 120 } s m args below meth c H locs 0 0 (MQ below (va_Qv (fun _ : Unit => True) (fun _ t => PST D Y A [oX2 a_h (.ref a_hk) (.ref a_p) (.ref a_t) h_lace h_mostPackets h_unknownSizes, oX8 a_hk (.ref a_hkw) hk_most res.1 res.2.1, aI Y a_hkw hkw_n res.2.2.1, oX4 a_p (.ref a_pb) (.ref a_pe) (.ref a_pt) p_packets, oX8 a_pb (.ref a_pbw) pb_most pb_length pb_overfull, aI Y a_pbw pbw_n c_pbw, aI Y a_pe 64 c_pe, aJ Y a_pt 64 c_pt, oX8 a_t (.ref a_tw) t_most res.2.2.2.1 res.2.2.2.2.1, aI Y a_tw tw_n res.2.2.2.2.2] t) A) args s 0 0 A) (F0 m 128 ls []) := by
  obtain ⟨hx, hb, hml, hr, hts, hown, hlocks⟩ := id C
  unfold fX2_putClusters_b128 at hf
  refine lv_aload_n hx hb dX2_putClusters_128 rfl (lv_at hl 0 rfl) ?_
  refine lv_iload_n hx hb dX2_putClusters_129 rfl (lv_at hl 1 rfl) ?_
  obtain ⟨o1, ho1, hf⟩ := ob hf
  refine xj_v (va_runV (As := [.int b128_l_2]) (rest := []) ⟨hx, hb, hml, hown, hts⟩ (kX2_endLongElement l D Y F a_h a_t a_tw a_hk a_p H.size h_lace h_mostPackets h_unknownSizes t_most b128_f_t_2 b128_f_t_3 tw_n b128_c_tw b128_l_2 o1 ho1) (cwV 1 hts gX2_putClusters_X2_endLongElement rfl rfl rfl (by decide +kernel) ⟨Nat.le_of_ble_eq_true rfl, Nat.le_of_ble_eq_true rfl⟩) (prev_w (ci := 1) rfl rfl hK wd [0, 8, 9] rfl (by decide)) rfl rfl hl.1 rfl (lv_room (Nat.le_of_ble_eq_true rfl)) dX2_putClusters_130 ⟨Nat.zero_le _, Nat.zero_le _⟩) wd hS hA [0, 8, 9] [1, 2, 3, 4, 5, 6, 7] rfl rfl (by decide) (by decide) (fun H locs wd hS => ?_)
  have wd : WD D A [oX8 a_hk (.ref a_hkw) hk_most b128_f_hk_2 b128_f_hk_3, aI Y a_hkw hkw_n b128_c_hkw, oX4 a_p (.ref a_pb) (.ref a_pe) (.ref a_pt) p_packets, oX8 a_pb (.ref a_pbw) pb_most pb_length pb_overfull, aI Y a_pbw pbw_n c_pbw, aI Y a_pe 64 c_pe, aJ Y a_pt 64 c_pt, oX2 a_h (.ref a_hk) (.ref a_p) (.ref a_t) h_lace h_mostPackets h_unknownSizes, oX8 a_t (.ref a_tw) t_most b128_f_t_2 b128_f_t_3, aI Y a_tw tw_n o1] H := wd
  obtain rfl := Option.some.inj hf
  exact W.vret hx hb hr (fun t ht hW => ⟨⟨(), rfl, trivial, WD.pst (wd.sub [7, 0, 1, 2, 3, 4, 5, 6, 8, 9] rfl (by decide)) hK ht hW⟩, hS.F ht⟩) hS.2.2 dX2_putClusters_133

set_option maxHeartbeats 4000000 in
set_option maxRecDepth 100000 in
theorem wX2_putClusters_b13 {p : Program} {l : Launch} {e : Env} {s : State} {m : MethodId} {args : Array Value} {below : List Frame} {meth : Method} {c : Code} {A : Nat → Prop} (D : va_G) (Y : Y4) (C : CX p s m meth c args cX2_putClusters 11 none wsX2_putClusters RX2) (hA : ∀ q : Nat, s.heap.size ≤ q → A q) (hK : va_K D vwCl (TY Y) s) (F : Nat) (a_h : Nat) (a_hk : Nat) (a_hkw : Nat) (a_p : Nat) (a_pb : Nat) (a_pbw : Nat) (a_pe : Nat) (a_pt : Nat) (a_t : Nat) (a_tw : Nat) (h_lace : Int32) (h_mostPackets : Int32) (h_unknownSizes : Int32) (hk_most : Int32) (hk_length : Int32) (hk_overfull : Int32) (hkw_n : Nat) (c_hkw : (Nat → Int32)) (p_packets : Int32) (pb_most : Int32) (pb_length : Int32) (pb_overfull : Int32) (pbw_n : Nat) (c_pbw : (Nat → Int32)) (c_pe : (Nat → Int32)) (c_pt : (Nat → Int64)) (t_most : Int32) (t_length : Int32) (t_overfull : Int32) (tw_n : Nat) (c_tw : (Nat → Int32)) (p1 : Int32) (res : Int32 × Int32 × (Nat → Int32) × Int32 × Int32 × (Nat → Int32)) : ∀ (n : Nat) (b13_l_7 : Int32) (b13_l_6 : Int32) (b13_l_5 : Int32) (b13_l_3 : Int64) (b13_l_2 : Int32) (b13_f_hk_2 : Int32) (b13_f_hk_3 : Int32) (b13_c_hkw : (Nat → Int32)) (b13_f_t_2 : Int32) (b13_f_t_3 : Int32) (b13_c_tw : (Nat → Int32)), fX2_putClusters_b13 F h_lace h_mostPackets h_unknownSizes hk_most hkw_n p_packets pb_length pbw_n c_pbw c_pe c_pt t_most tw_n p1 n b13_l_7 b13_l_6 b13_l_5 b13_l_3 b13_l_2 b13_f_hk_2 b13_f_hk_3 b13_c_hkw b13_f_t_2 b13_f_t_3 b13_c_tw = some res → ∀ {H : Heap} {locs : List Loc} {ls : Array Slot}, WD D A [oX2 a_h (.ref a_hk) (.ref a_p) (.ref a_t) h_lace h_mostPackets h_unknownSizes, oX8 a_hk (.ref a_hkw) hk_most b13_f_hk_2 b13_f_hk_3, aI Y a_hkw hkw_n b13_c_hkw, oX4 a_p (.ref a_pb) (.ref a_pe) (.ref a_pt) p_packets, oX8 a_pb (.ref a_pbw) pb_most pb_length pb_overfull, aI Y a_pbw pbw_n c_pbw, aI Y a_pe 64 c_pe, aJ Y a_pt 64 c_pt, oX8 a_t (.ref a_tw) t_most b13_f_t_2 b13_f_t_3, aI Y a_tw tw_n b13_c_tw] H → va_S A s.heap H locs → lv_has ls 11 [(0, .ref a_h), (1, .int p1), (2, .int b13_l_2), (3, .long b13_l_3), (5, .int b13_l_5), (6, .int b13_l_6), (7, .int b13_l_7)] → W p l e { frames := 5, cells := 0, slots := 0, locals := 120 } s m args below meth c H locs 0 0 (MQ below (va_Qv (fun _ : Unit => True) (fun _ t => PST D Y A [oX2 a_h (.ref a_hk) (.ref a_p) (.ref a_t) h_lace h_mostPackets h_unknownSizes, oX8 a_hk (.ref a_hkw) hk_most res.1 res.2.1, aI Y a_hkw hkw_n res.2.2.1, oX4 a_p (.ref a_pb) (.ref a_pe) (.ref a_pt) p_packets, oX8 a_pb (.ref a_pbw) pb_most pb_length pb_overfull, aI Y a_pbw pbw_n c_pbw, aI Y a_pe 64 c_pe, aJ Y a_pt 64 c_pt, oX8 a_t (.ref a_tw) t_most res.2.2.2.1 res.2.2.2.2.1, aI Y a_tw tw_n res.2.2.2.2.2] t) A) args s 0 0 A) (F0 m 13 ls []) := by
  obtain ⟨hx, hb, hml, hr, hts, hown, hlocks⟩ := id C
  intro n
  induction n with
  | zero => intro b13_l_7 b13_l_6 b13_l_5 b13_l_3 b13_l_2 b13_f_hk_2 b13_f_hk_3 b13_c_hkw b13_f_t_2 b13_f_t_3 b13_c_tw hf; exact absurd hf (by simp [fX2_putClusters_b13])
  | succ n ih =>
    intro b13_l_7 b13_l_6 b13_l_5 b13_l_3 b13_l_2 b13_f_hk_2 b13_f_hk_3 b13_c_hkw b13_f_t_2 b13_f_t_3 b13_c_tw hf H locs ls wd hS hl
    unfold fX2_putClusters_b13 at hf
    refine lv_iload hx hb dX2_putClusters_13 (lv_at hl 6 rfl) ?_
    refine lv_aload_n hx hb dX2_putClusters_15 rfl (lv_at hl 0 rfl) ?_
    refine va_get (D := D) (ci := 1) (v := .ref a_p) (C := RX2) (T := TX2) (N := 6) hx hb hts iX2_putClusters_X2 hown hK wd.1 0 rfl rfl 1 (by decide) (hts _ mX2_putClusters_0) (fun _ h9 => h9) rfl dX2_putClusters_16 ?_
    refine va_get (D := D) (ci := 3) (v := .int p_packets) (C := RX4) (T := TX4) (N := 4) hx hb hts iX2_putClusters_X4 hown hK wd.1 3 rfl rfl 3 (by decide) (hts _ mX2_putClusters_1) (fun _ h9 => h9) rfl dX2_putClusters_19 ?_
    refine lv_icmp_ge (tgt := 128) hx hb dX2_putClusters_22 (by decide) (fun q1 => ?_) (fun q1 => ?_)
    · have hf := ip hf q1
      exact wX2_putClusters_b128 D Y C hA hK F a_h a_hk a_hkw a_p a_pb a_pbw a_pe a_pt a_t a_tw h_lace h_mostPackets h_unknownSizes hk_most hk_length hk_overfull hkw_n c_hkw p_packets pb_most pb_length pb_overfull pbw_n c_pbw c_pe c_pt t_most t_length t_overfull tw_n c_tw p1 _ b13_l_2 b13_f_hk_2 b13_f_hk_3 b13_c_hkw b13_f_t_2 b13_f_t_3 b13_c_tw hf wd hS (lv_sub hl [0, 2] rfl)
    · have hf := ie hf q1
      refine lv_iload hx hb dX2_putClusters_25 (lv_at hl 5 rfl) ?_
      refine lv_aload_n hx hb dX2_putClusters_27 rfl (lv_at hl 0 rfl) ?_
      refine va_get (D := D) (ci := 1) (v := .ref a_p) (C := RX2) (T := TX2) (N := 6) hx hb hts iX2_putClusters_X2 hown hK wd.1 0 rfl rfl 1 (by decide) (hts _ mX2_putClusters_0) (fun _ h9 => h9) rfl dX2_putClusters_28 ?_
      refine va_get (D := D) (ci := 3) (v := .int p_packets) (C := RX4) (T := TX4) (N := 4) hx hb hts iX2_putClusters_X4 hown hK wd.1 3 rfl rfl 3 (by decide) (hts _ mX2_putClusters_1) (fun _ h9 => h9) rfl dX2_putClusters_31 ?_
      refine lv_icmp_ge (tgt := 128) hx hb dX2_putClusters_34 (by decide) (fun q2 => ?_) (fun q2 => ?_)
      · have hf := ip hf q2
        exact wX2_putClusters_b128 D Y C hA hK F a_h a_hk a_hkw a_p a_pb a_pbw a_pe a_pt a_t a_tw h_lace h_mostPackets h_unknownSizes hk_most hk_length hk_overfull hkw_n c_hkw p_packets pb_most pb_length pb_overfull pbw_n c_pbw c_pe c_pt t_most t_length t_overfull tw_n c_tw p1 _ b13_l_2 b13_f_hk_2 b13_f_hk_3 b13_c_hkw b13_f_t_2 b13_f_t_3 b13_c_tw hf wd hS (lv_sub hl [0, 2] rfl)
      · have hf := ie hf q2
        refine lv_aload_n hx hb dX2_putClusters_37 rfl (lv_at hl 0 rfl) ?_
        refine va_get (D := D) (ci := 1) (v := .ref a_p) (C := RX2) (T := TX2) (N := 6) hx hb hts iX2_putClusters_X2 hown hK wd.1 0 rfl rfl 1 (by decide) (hts _ mX2_putClusters_0) (fun _ h9 => h9) rfl dX2_putClusters_38 ?_
        refine lv_iload hx hb dX2_putClusters_41 (lv_at hl 5 rfl) ?_
        obtain ⟨o3, ho3, hf⟩ := ob hf
        refine xj_l (va_runV (As := [.int b13_l_6]) (rest := []) ⟨hx, hb, hml, hown, hts⟩ (kX4_timeToWrite l D Y F a_p a_pt a_pb a_pe H.size p_packets c_pt b13_l_6 o3 ho3) (cwV 1 hts gX2_putClusters_X4_timeToWrite rfl rfl rfl (by decide +kernel) ⟨Nat.le_of_ble_eq_true rfl, Nat.le_of_ble_eq_true rfl⟩) (prev_w (ci := 3) rfl rfl hK wd [3, 7] rfl (by decide)) rfl rfl hl.1 rfl (lv_room (Nat.le_of_ble_eq_true rfl)) dX2_putClusters_43 ⟨Nat.zero_le _, Nat.zero_le _⟩) wd hS hA [3, 7] [0, 1, 2, 4, 5, 6, 8, 9] rfl rfl (by decide) (by decide) (fun H locs wd hS => ?_)
        have wd : WD D A [oX2 a_h (.ref a_hk) (.ref a_p) (.ref a_t) h_lace h_mostPackets h_unknownSizes, oX8 a_hk (.ref a_hkw) hk_most b13_f_hk_2 b13_f_hk_3, aI Y a_hkw hkw_n b13_c_hkw, oX8 a_pb (.ref a_pbw) pb_most pb_length pb_overfull, aI Y a_pbw pbw_n c_pbw, aI Y a_pe 64 c_pe, oX8 a_t (.ref a_tw) t_most b13_f_t_2 b13_f_t_3, aI Y a_tw tw_n b13_c_tw, oX4 a_p (.ref a_pb) (.ref a_pe) (.ref a_pt) p_packets, aJ Y a_pt 64 c_pt] H := wd
        refine lv_lstore (lv' := [(8, .long o3), (0, .ref a_h), (1, .int p1), (2, .int b13_l_2), (3, .long b13_l_3), (5, .int b13_l_5), (6, .int b13_l_6), (7, .int b13_l_7)]) hx hb dX2_putClusters_46 hl (by decide) rfl (fun ls hl => ?_)
        refine lv_iload_n hx hb dX2_putClusters_48 rfl (lv_at hl 3 rfl) ?_
        refine lv_iconst (v := (-1)) hx hb dX2_putClusters_49 (by decide) ?_
        refine lv_icmp_eq (tgt := 69) hx hb dX2_putClusters_50 (by decide) (fun q4 => ?_) (fun q4 => ?_)
        · have hf := ip hf q4
          exact wX2_putClusters_b69 D Y C hA hK F a_h a_hk a_hkw a_p a_pb a_pbw a_pe a_pt a_t a_tw h_lace h_mostPackets h_unknownSizes hk_most hk_length hk_overfull hkw_n c_hkw p_packets pb_most pb_length pb_overfull pbw_n c_pbw c_pe c_pt t_most t_length t_overfull tw_n c_tw p1 _ (fX2_putClusters_b13 F h_lace h_mostPackets h_unknownSizes hk_most hkw_n p_packets pb_length pbw_n c_pbw c_pe c_pt t_most tw_n p1 n) ih o3 b13_l_2 b13_l_6 b13_l_7 b13_f_hk_2 b13_f_hk_3 b13_c_hkw b13_f_t_2 b13_f_t_3 b13_c_tw hf (wd.sub [0, 1, 2, 8, 3, 4, 5, 9, 6, 7] rfl (by decide)) hS (lv_sub hl [1, 2, 3, 6, 7, 0] rfl)
        · have hf := ie hf q4
          refine lv_iload hx hb dX2_putClusters_53 (lv_at hl 5 rfl) ?_
          refine lv_iload_n hx hb dX2_putClusters_55 rfl (lv_at hl 2 rfl) ?_
          refine lv_icmp_ge (tgt := 69) hx hb dX2_putClusters_56 (by decide) (fun q5 => ?_) (fun q5 => ?_)
          · have hf := ip hf q5
            exact wX2_putClusters_b69 D Y C hA hK F a_h a_hk a_hkw a_p a_pb a_pbw a_pe a_pt a_t a_tw h_lace h_mostPackets h_unknownSizes hk_most hk_length hk_overfull hkw_n c_hkw p_packets pb_most pb_length pb_overfull pbw_n c_pbw c_pe c_pt t_most t_length t_overfull tw_n c_tw p1 _ (fX2_putClusters_b13 F h_lace h_mostPackets h_unknownSizes hk_most hkw_n p_packets pb_length pbw_n c_pbw c_pe c_pt t_most tw_n p1 n) ih o3 b13_l_2 b13_l_6 b13_l_7 b13_f_hk_2 b13_f_hk_3 b13_c_hkw b13_f_t_2 b13_f_t_3 b13_c_tw hf (wd.sub [0, 1, 2, 8, 3, 4, 5, 9, 6, 7] rfl (by decide)) hS (lv_sub hl [1, 2, 3, 6, 7, 0] rfl)
          · have hf := ie hf q5
            refine lv_lload hx hb dX2_putClusters_59 (lv_at hl 0 rfl) ?_
            refine lv_lload_n hx hb dX2_putClusters_61 rfl (lv_at hl 4 rfl) ?_
            refine lv_lsub hx hb dX2_putClusters_62 ?_
            obtain ⟨o6, ho6, hf⟩ := ob hf
            refine xj_i (va_runS (As := [.long (o3 - b13_l_3)]) (rest := []) ⟨hx, hb, hml, hown, hts⟩ (kX2_fitsBlock l D Y F H.size (o3 - b13_l_3) o6 ho6) (va_cwS 1 hts gX2_putClusters_X2_fitsBlock rfl rfl rfl (by decide +kernel) ⟨Nat.le_of_ble_eq_true rfl, Nat.le_of_ble_eq_true rfl⟩) (pres_w hK wd [] rfl (by decide)) rfl rfl hl.1 rfl (lv_room (Nat.le_of_ble_eq_true rfl)) dX2_putClusters_63 ⟨Nat.zero_le _, Nat.zero_le _⟩) wd hS hA [] [0, 1, 2, 3, 4, 5, 6, 7, 8, 9] rfl rfl (by decide) (by decide) (fun H locs wd hS => ?_)
            have wd : WD D A [oX2 a_h (.ref a_hk) (.ref a_p) (.ref a_t) h_lace h_mostPackets h_unknownSizes, oX8 a_hk (.ref a_hkw) hk_most b13_f_hk_2 b13_f_hk_3, aI Y a_hkw hkw_n b13_c_hkw, oX8 a_pb (.ref a_pbw) pb_most pb_length pb_overfull, aI Y a_pbw pbw_n c_pbw, aI Y a_pe 64 c_pe, oX8 a_t (.ref a_tw) t_most b13_f_t_2 b13_f_t_3, aI Y a_tw tw_n b13_c_tw, oX4 a_p (.ref a_pb) (.ref a_pe) (.ref a_pt) p_packets, aJ Y a_pt 64 c_pt] H := wd
            refine lv_if_ne (tgt := 92) hx hb dX2_putClusters_66 (by decide) (fun q7 => ?_) (fun q7 => ?_)
            · have hf := ie hf q7
              exact wX2_putClusters_b92 D Y C hA hK F a_h a_hk a_hkw a_p a_pb a_pbw a_pe a_pt a_t a_tw h_lace h_mostPackets h_unknownSizes hk_most hk_length hk_overfull hkw_n c_hkw p_packets pb_most pb_length pb_overfull pbw_n c_pbw c_pe c_pt t_most t_length t_overfull tw_n c_tw p1 _ (fX2_putClusters_b13 F h_lace h_mostPackets h_unknownSizes hk_most hkw_n p_packets pb_length pbw_n c_pbw c_pe c_pt t_most tw_n p1 n) ih o3 b13_l_2 b13_l_3 b13_l_5 b13_l_6 b13_l_7 b13_f_hk_2 b13_f_hk_3 b13_c_hkw b13_f_t_2 b13_f_t_3 b13_c_tw hf (wd.sub [0, 1, 2, 8, 3, 4, 5, 9, 6, 7] rfl (by decide)) hS (lv_sub hl [1, 2, 3, 4, 5, 6, 7, 0] rfl)
            · have hf := ip hf q7
              exact wX2_putClusters_b69 D Y C hA hK F a_h a_hk a_hkw a_p a_pb a_pbw a_pe a_pt a_t a_tw h_lace h_mostPackets h_unknownSizes hk_most hk_length hk_overfull hkw_n c_hkw p_packets pb_most pb_length pb_overfull pbw_n c_pbw c_pe c_pt t_most t_length t_overfull tw_n c_tw p1 _ (fX2_putClusters_b13 F h_lace h_mostPackets h_unknownSizes hk_most hkw_n p_packets pb_length pbw_n c_pbw c_pe c_pt t_most tw_n p1 n) ih o3 b13_l_2 b13_l_6 b13_l_7 b13_f_hk_2 b13_f_hk_3 b13_c_hkw b13_f_t_2 b13_f_t_3 b13_c_tw hf (wd.sub [0, 1, 2, 8, 3, 4, 5, 9, 6, 7] rfl (by decide)) hS (lv_sub hl [1, 2, 3, 6, 7, 0] rfl)

set_option maxHeartbeats 4000000 in
set_option maxRecDepth 100000 in
theorem wX2_putClusters {p : Program} {l : Launch} {e : Env} {s : State} {m : MethodId} {args : Array Value} {below : List Frame} {meth : Method} {c : Code} {A : Nat → Prop} (D : va_G) (Y : Y4) (C : CX p s m meth c args cX2_putClusters 11 none wsX2_putClusters RX2) (hA : ∀ q : Nat, s.heap.size ≤ q → A q) (hK : va_K D vwCl (TY Y) s) (F : Nat) (a_h : Nat) (a_hk : Nat) (a_hkw : Nat) (a_p : Nat) (a_pb : Nat) (a_pbw : Nat) (a_pe : Nat) (a_pt : Nat) (a_t : Nat) (a_tw : Nat) (h_lace : Int32) (h_mostPackets : Int32) (h_unknownSizes : Int32) (hk_most : Int32) (hk_length : Int32) (hk_overfull : Int32) (hkw_n : Nat) (c_hkw : (Nat → Int32)) (p_packets : Int32) (pb_most : Int32) (pb_length : Int32) (pb_overfull : Int32) (pbw_n : Nat) (c_pbw : (Nat → Int32)) (c_pe : (Nat → Int32)) (c_pt : (Nat → Int64)) (t_most : Int32) (t_length : Int32) (t_overfull : Int32) (tw_n : Nat) (c_tw : (Nat → Int32)) (p1 : Int32) (res : Int32 × Int32 × (Nat → Int32) × Int32 × Int32 × (Nat → Int32)) (hf : fX2_putClusters F h_lace h_mostPackets h_unknownSizes hk_most hk_length hk_overfull hkw_n c_hkw p_packets pb_length pbw_n c_pbw c_pe c_pt t_most t_length t_overfull tw_n c_tw p1 = some res) {H : Heap} {locs : List Loc} {ls : Array Slot} (wd : WD D A [oX2 a_h (.ref a_hk) (.ref a_p) (.ref a_t) h_lace h_mostPackets h_unknownSizes, oX8 a_hk (.ref a_hkw) hk_most hk_length hk_overfull, aI Y a_hkw hkw_n c_hkw, oX4 a_p (.ref a_pb) (.ref a_pe) (.ref a_pt) p_packets, oX8 a_pb (.ref a_pbw) pb_most pb_length pb_overfull, aI Y a_pbw pbw_n c_pbw, aI Y a_pe 64 c_pe, aJ Y a_pt 64 c_pt, oX8 a_t (.ref a_tw) t_most t_length t_overfull, aI Y a_tw tw_n c_tw] H) (hS : va_S A s.heap H locs) (hl : lv_has ls 11 [(0, .ref a_h), (1, .int p1)]) : W p l e { frames := 5, cells := 0, slots := 0, locals := 120 } s m args below meth c H locs 0 0 (MQ below (va_Qv (fun _ : Unit => True) (fun _ t => PST D Y A [oX2 a_h (.ref a_hk) (.ref a_p) (.ref a_t) h_lace h_mostPackets h_unknownSizes, oX8 a_hk (.ref a_hkw) hk_most res.1 res.2.1, aI Y a_hkw hkw_n res.2.2.1, oX4 a_p (.ref a_pb) (.ref a_pe) (.ref a_pt) p_packets, oX8 a_pb (.ref a_pbw) pb_most pb_length pb_overfull, aI Y a_pbw pbw_n c_pbw, aI Y a_pe 64 c_pe, aJ Y a_pt 64 c_pt, oX8 a_t (.ref a_tw) t_most res.2.2.2.1 res.2.2.2.2.1, aI Y a_tw tw_n res.2.2.2.2.2] t) A) args s 0 0 A) (F0 m 0 ls []) := by
  obtain ⟨hx, hb, hml, hr, hts, hown, hlocks⟩ := id C
  unfold fX2_putClusters at hf
  refine lv_iconst (v := (-1)) hx hb dX2_putClusters_0 (by decide) ?_
  refine lv_istore_n (lv' := [(2, .int (-1)), (0, .ref a_h), (1, .int p1)]) hx hb dX2_putClusters_1 rfl hl (by decide) rfl (fun ls hl => ?_)
  refine lv_lconst (v := 0) hx hb dX2_putClusters_2 (by decide) ?_
  refine lv_lstore_n (lv' := [(3, .long 0), (2, .int (-1)), (0, .ref a_h), (1, .int p1)]) hx hb dX2_putClusters_3 rfl hl (by decide) rfl (fun ls hl => ?_)
  refine lv_iconst (v := 0) hx hb dX2_putClusters_4 (by decide) ?_
  refine lv_istore (lv' := [(5, .int 0), (3, .long 0), (2, .int (-1)), (0, .ref a_h), (1, .int p1)]) hx hb dX2_putClusters_5 hl (by decide) rfl (fun ls hl => ?_)
  refine lv_iconst (v := 0) hx hb dX2_putClusters_7 (by decide) ?_
  refine lv_istore (lv' := [(6, .int 0), (5, .int 0), (3, .long 0), (2, .int (-1)), (0, .ref a_h), (1, .int p1)]) hx hb dX2_putClusters_8 hl (by decide) rfl (fun ls hl => ?_)
  refine lv_iconst (v := 0) hx hb dX2_putClusters_10 (by decide) ?_
  refine lv_istore (lv' := [(7, .int 0), (6, .int 0), (5, .int 0), (3, .long 0), (2, .int (-1)), (0, .ref a_h), (1, .int p1)]) hx hb dX2_putClusters_11 hl (by decide) rfl (fun ls hl => ?_)
  exact wX2_putClusters_b13 D Y C hA hK F a_h a_hk a_hkw a_p a_pb a_pbw a_pe a_pt a_t a_tw h_lace h_mostPackets h_unknownSizes hk_most hk_length hk_overfull hkw_n c_hkw p_packets pb_most pb_length pb_overfull pbw_n c_pbw c_pe c_pt t_most t_length t_overfull tw_n c_tw p1 _ F 0 0 0 0 (-1) hk_length hk_overfull c_hkw t_length t_overfull c_tw hf wd hS (lv_sub hl [5, 6, 4, 3, 2, 1, 0] rfl)
set_option maxHeartbeats 4000000 in
set_option maxRecDepth 100000 in
theorem kX2_putClusters (l : Launch) (D : va_G) (Y : Y4) (F : Nat) (a_h : Nat) (a_hk : Nat) (a_hkw : Nat) (a_p : Nat) (a_pb : Nat) (a_pbw : Nat) (a_pe : Nat) (a_pt : Nat) (a_t : Nat) (a_tw : Nat) (sz : Nat) (h_lace : Int32) (h_mostPackets : Int32) (h_unknownSizes : Int32) (hk_most : Int32) (hk_length : Int32) (hk_overfull : Int32) (hkw_n : Nat) (c_hkw : (Nat → Int32)) (p_packets : Int32) (pb_most : Int32) (pb_length : Int32) (pb_overfull : Int32) (pbw_n : Nat) (c_pbw : (Nat → Int32)) (c_pe : (Nat → Int32)) (c_pt : (Nat → Int64)) (t_most : Int32) (t_length : Int32) (t_overfull : Int32) (tw_n : Nat) (c_tw : (Nat → Int32)) (p1 : Int32) (res : Int32 × Int32 × (Nat → Int32) × Int32 × Int32 × (Nat → Int32)) (hf : fX2_putClusters F h_lace h_mostPackets h_unknownSizes hk_most hk_length hk_overfull hkw_n c_hkw p_packets pb_length pbw_n c_pbw c_pe c_pt t_most t_length t_overfull tw_n c_tw p1 = some res) : Met l yX2_putClusters wsX2_putClusters ({ frames := 5, cells := 0, slots := 0, locals := 120 }) (va_Pc [.ref a_h, .int p1] (PRE D Y [oX2 a_h (.ref a_hk) (.ref a_p) (.ref a_t) h_lace h_mostPackets h_unknownSizes, oX8 a_hk (.ref a_hkw) hk_most hk_length hk_overfull, aI Y a_hkw hkw_n c_hkw, oX4 a_p (.ref a_pb) (.ref a_pe) (.ref a_pt) p_packets, oX8 a_pb (.ref a_pbw) pb_most pb_length pb_overfull, aI Y a_pbw pbw_n c_pbw, aI Y a_pe 64 c_pe, aJ Y a_pt 64 c_pt, oX8 a_t (.ref a_tw) t_most t_length t_overfull, aI Y a_tw tw_n c_tw] sz)) (va_Qv (fun _ : Unit => True) (fun _ t => PST D Y (va_A [oX2 a_h (.ref a_hk) (.ref a_p) (.ref a_t) h_lace h_mostPackets h_unknownSizes, oX8 a_hk (.ref a_hkw) hk_most hk_length hk_overfull, aI Y a_hkw hkw_n c_hkw, oX4 a_p (.ref a_pb) (.ref a_pe) (.ref a_pt) p_packets, oX8 a_pb (.ref a_pbw) pb_most pb_length pb_overfull, aI Y a_pbw pbw_n c_pbw, aI Y a_pe 64 c_pe, aJ Y a_pt 64 c_pt, oX8 a_t (.ref a_tw) t_most t_length t_overfull, aI Y a_tw tw_n c_tw] sz) [oX2 a_h (.ref a_hk) (.ref a_p) (.ref a_t) h_lace h_mostPackets h_unknownSizes, oX8 a_hk (.ref a_hkw) hk_most res.1 res.2.1, aI Y a_hkw hkw_n res.2.2.1, oX4 a_p (.ref a_pb) (.ref a_pe) (.ref a_pt) p_packets, oX8 a_pb (.ref a_pbw) pb_most pb_length pb_overfull, aI Y a_pbw pbw_n c_pbw, aI Y a_pe 64 c_pe, aJ Y a_pt 64 c_pt, oX8 a_t (.ref a_tw) t_most res.2.2.2.1 res.2.2.2.2.1, aI Y a_tw tw_n res.2.2.2.2.2] t) (va_A [oX2 a_h (.ref a_hk) (.ref a_p) (.ref a_t) h_lace h_mostPackets h_unknownSizes, oX8 a_hk (.ref a_hkw) hk_most hk_length hk_overfull, aI Y a_hkw hkw_n c_hkw, oX4 a_p (.ref a_pb) (.ref a_pe) (.ref a_pt) p_packets, oX8 a_pb (.ref a_pbw) pb_most pb_length pb_overfull, aI Y a_pbw pbw_n c_pbw, aI Y a_pe 64 c_pe, aJ Y a_pt 64 c_pt, oX8 a_t (.ref a_tw) t_most t_length t_overfull, aI Y a_tw tw_n c_tw] sz)) 0 0 (va_A [oX2 a_h (.ref a_hk) (.ref a_p) (.ref a_t) h_lace h_mostPackets h_unknownSizes, oX8 a_hk (.ref a_hkw) hk_most hk_length hk_overfull, aI Y a_hkw hkw_n c_hkw, oX4 a_p (.ref a_pb) (.ref a_pe) (.ref a_pt) p_packets, oX8 a_pb (.ref a_pbw) pb_most pb_length pb_overfull, aI Y a_pbw pbw_n c_pbw, aI Y a_pe 64 c_pe, aJ Y a_pt 64 c_pt, oX8 a_t (.ref a_tw) t_most t_length t_overfull, aI Y a_tw tw_n c_tw] sz) := by
  refine Met.ofW (cc := cX2_putClusters) (maxL := 11) (ret := none) (by decide) rfl ?_
  intro p e s m args below meth c s₁ B hml hv
  obtain ⟨rfl, rfl, hP, hK, hD0⟩ := hv
  have hl := lv_entry ([.ref a_h, .int p1]) (n := 11) (Nat.le_of_ble_eq_true rfl)
  rw [lg_entry_eq]
  exact wX2_putClusters D Y ⟨B.exec, B.bytes, hml, B.returns, atoms_spec (ws := wsX2_putClusters) B.pre, findClass_of_methodNamed B.named, B.notSynchronized⟩ (fun q h => Or.inr h) hK F a_h a_hk a_hkw a_p a_pb a_pbw a_pe a_pt a_t a_tw h_lace h_mostPackets h_unknownSizes hk_most hk_length hk_overfull hkw_n c_hkw p_packets pb_most pb_length pb_overfull pbw_n c_pbw c_pe c_pt t_most t_length t_overfull tw_n c_tw p1 res hf ⟨hP, hD0.self⟩ va_S.rf hl
theorem mX2_write_0 : Cond.fieldLink RX2 20 "StreamRemuxer$ElementWriter" "source" "LStreamRemuxer$PacketList;" ∈ wsX2_write := List.mem_cons_of_mem _ u_320
theorem mX2_write_1 : Cond.fieldLink RX2 24 "StreamRemuxer$ElementWriter" "target" "LStreamRemuxer$Row;" ∈ wsX2_write := List.mem_cons_of_mem _ u_321
theorem mX2_write_2 : Cond.fieldLink RX2 27 "StreamRemuxer$ElementWriter" "lace" "I" ∈ wsX2_write := List.mem_cons_of_mem _ u_322
theorem mX2_write_3 : Cond.fieldLink RX2 31 "StreamRemuxer$ElementWriter" "mostPackets" "I" ∈ wsX2_write := List.mem_cons_of_mem _ u_323
theorem mX2_write_4 : Cond.fieldLink RX2 34 "StreamRemuxer$ElementWriter" "unknownSizes" "Z" ∈ wsX2_write := List.mem_cons_of_mem _ u_324
theorem mX2_write_5 : Cond.fieldLink RX2 38 "StreamRemuxer$ElementWriter" "HEAD_BYTES" "[I" ∈ wsX2_write := List.mem_cons_of_mem _ u_325
theorem mX2_write_6 : Cond.constant RX2 48 (408125543) ∈ wsX2_write := List.mem_cons_of_mem _ u_326
theorem mX2_write_7 : Cond.fieldLink RX2 53 "StreamRemuxer$ElementWriter" "INFO_BYTES" "[I" ∈ wsX2_write := List.mem_cons_of_mem _ u_327
theorem mX2_write_8 : Cond.fieldLink RX2 56 "StreamRemuxer$ElementWriter" "TRACKS_BYTES_TO_LACING" "[I" ∈ wsX2_write := List.mem_cons_of_mem _ u_328
theorem mX2_write_9 : Cond.fieldLink RX2 62 "StreamRemuxer$ElementWriter" "TRACKS_BYTES_BEHIND" "[I" ∈ wsX2_write := List.mem_cons_of_mem _ u_329
theorem iX2_write_X2 : ∀ w ∈ wsX20, w ∈ wsX2_write := fun w h => List.mem_cons_of_mem _ (inlX2 w h)
set_option maxHeartbeats 4000000 in
set_option maxRecDepth 100000 in
theorem wX2_write_b81 {p : Program} {l : Launch} {e : Env} {s : State} {m : MethodId} {args : Array Value} {below : List Frame} {meth : Method} {c : Code} {A : Nat → Prop} (D : va_G) (Y : Y4) (C : CX p s m meth c args cX2_write 8 none wsX2_write RX2) (hA : ∀ q : Nat, s.heap.size ≤ q → A q) (hK : va_K D vwCl (TY Y) s) (F : Nat) (a_h : Nat) (a_hk : Nat) (a_hkw : Nat) (a_p : Nat) (a_pb : Nat) (a_pbw : Nat) (a_pe : Nat) (a_pt : Nat) (a_t : Nat) (a_tw : Nat) (a_sB : Nat) (a_sH : Nat) (a_sI : Nat) (a_sL : Nat) (h_source : Value) (h_target : Value) (h_lace : Int32) (h_mostPackets : Int32) (h_unknownSizes : Int32) (hk_most : Int32) (hk_length : Int32) (hk_overfull : Int32) (hkw_n : Nat) (c_hkw : (Nat → Int32)) (p_packets : Int32) (pb_most : Int32) (pb_length : Int32) (pb_overfull : Int32) (pbw_n : Nat) (c_pbw : (Nat → Int32)) (c_pe : (Nat → Int32)) (c_pt : (Nat → Int64)) (t_most : Int32) (t_length : Int32) (t_overfull : Int32) (tw_n : Nat) (c_tw : (Nat → Int32)) (p3 : Int32) (p4 : Int32) (p5 : Int32) (p6 : Int32) (hX : ST [e_sB a_sB, e_sH a_sH, e_sI a_sI, e_sL a_sL] A s) (res : Value × Value × Int32 × Int32 × Int32 × Int32 × Int32 × (Nat → Int32) × Int32 × Int32 × (Nat → Int32)) (b81_l_7 : Int32) (b81_s_0 : Int32) (b81_f_t_2 : Int32) (b81_f_t_3 : Int32) (b81_c_tw : (Nat → Int32)) (hf : fX2_write_b81 F hk_most hk_length hk_overfull hkw_n c_hkw p_packets pb_length pbw_n c_pbw c_pe c_pt t_most tw_n p3 p4 p5 p6 a_p a_t b81_l_7 b81_s_0 b81_f_t_2 b81_f_t_3 b81_c_tw = some res) {H : Heap} {locs : List Loc} {ls : Array Slot} (wd : WD D A [oX2 a_h (.ref a_hk) (.ref a_p) (.ref a_t) p3 p4 p6, oX8 a_hk (.ref a_hkw) hk_most hk_length hk_overfull, aI Y a_hkw hkw_n c_hkw, oX4 a_p (.ref a_pb) (.ref a_pe) (.ref a_pt) p_packets, oX8 a_pb (.ref a_pbw) pb_most pb_length pb_overfull, aI Y a_pbw pbw_n c_pbw, aI Y a_pe 64 c_pe, aJ Y a_pt 64 c_pt, oX8 a_t (.ref a_tw) t_most b81_f_t_2 b81_f_t_3, aI Y a_tw tw_n b81_c_tw] H) (hS : va_S A s.heap H locs) (hl : lv_has ls 8 [(0, .ref a_h), (5, .int p5), (7, .int b81_l_7)]) : W p l e { frames := 6, cells := 0, slots := 0, locals := 150 } s m args below meth c H locs 0 0 (MQ below (va_Qv (fun _ : Unit => True) (fun _ t => PST D Y A [oX2 a_h (.ref a_hk) (res.1) (res.2.1) res.2.2.1 res.2.2.2.1 res.2.2.2.2.1, oX8 a_hk (.ref a_hkw) hk_most res.2.2.2.2.2.1 res.2.2.2.2.2.2.1, aI Y a_hkw hkw_n res.2.2.2.2.2.2.2.1, oX4 a_p (.ref a_pb) (.ref a_pe) (.ref a_pt) p_packets, oX8 a_pb (.ref a_pbw) pb_most pb_length pb_overfull, aI Y a_pbw pbw_n c_pbw, aI Y a_pe 64 c_pe, aJ Y a_pt 64 c_pt, oX8 a_t (.ref a_tw) t_most res.2.2.2.2.2.2.2.2.1 res.2.2.2.2.2.2.2.2.2.1, aI Y a_tw tw_n res.2.2.2.2.2.2.2.2.2.2] t) A) args s 0 0 A) (F0 m 81 ls [.int b81_s_0, .ref a_t]) := by
  obtain ⟨hx, hb, hml, hr, hts, hown, hlocks⟩ := id C
  obtain ⟨hZ_sB, hT_sB⟩ := (hX _ (List.mem_of_getElem? (i := 0) rfl)).2
  obtain ⟨hZ_sH, hT_sH⟩ := (hX _ (List.mem_of_getElem? (i := 1) rfl)).2
  obtain ⟨hZ_sI, hT_sI⟩ := (hX _ (List.mem_of_getElem? (i := 2) rfl)).2
  obtain ⟨hZ_sL, hT_sL⟩ := (hX _ (List.mem_of_getElem? (i := 3) rfl)).2
  unfold fX2_write_b81 at hf
  obtain ⟨o1, ho1, hf⟩ := ob hf
  refine xj_v (va_runV (As := [.int b81_s_0]) (rest := []) ⟨hx, hb, hml, hown, hts⟩ (kX8_add l D Y F a_t a_tw H.size t_most b81_f_t_2 b81_f_t_3 tw_n b81_c_tw b81_s_0 o1 ho1) (cwV 1 hts gX2_write_X8_add rfl rfl rfl (by decide +kernel) ⟨Nat.le_of_ble_eq_true rfl, Nat.le_of_ble_eq_true rfl⟩) (prev_w (ci := 6) rfl rfl hK wd [8, 9] rfl (by decide)) rfl rfl hl.1 rfl (lv_room (Nat.le_of_ble_eq_true rfl)) dX2_write_81 ⟨Nat.zero_le _, Nat.zero_le _⟩) wd hS hA [8, 9] [0, 1, 2, 3, 4, 5, 6, 7] rfl rfl (by decide) (by decide) (fun H locs wd hS => ?_)
  have wd : WD D A [oX2 a_h (.ref a_hk) (.ref a_p) (.ref a_t) p3 p4 p6, oX8 a_hk (.ref a_hkw) hk_most hk_length hk_overfull, aI Y a_hkw hkw_n c_hkw, oX4 a_p (.ref a_pb) (.ref a_pe) (.ref a_pt) p_packets, oX8 a_pb (.ref a_pbw) pb_most pb_length pb_overfull, aI Y a_pbw pbw_n c_pbw, aI Y a_pe 64 c_pe, aJ Y a_pt 64 c_pt, oX8 a_t (.ref a_tw) t_most o1.1 o1.2.1, aI Y a_tw tw_n o1.2.2] H := wd
  refine lv_aload_n hx hb dX2_write_84 rfl (lv_at hl 0 rfl) ?_
  refine va_get (D := D) (ci := 1) (v := .ref a_t) (C := RX2) (T := TX2) (N := 6) hx hb hts iX2_write_X2 hown hK wd.1 0 rfl rfl 2 (by decide) (hts _ mX2_write_1) (fun _ h9 => h9) rfl dX2_write_85 ?_
  refine va_gets (v := .ref a_sB) hx hb hZ_sB hS hown (hts _ mX2_write_9) (fun _ h9 => h9) dX2_write_88 ?_
  obtain ⟨o2, ho2, hf⟩ := ob hf
  refine xj_v (va_runV (As := [.ref a_sB]) (rest := []) ⟨hx, hb, hml, hown, hts⟩ (kX8_addEach l D Y F a_t a_tw a_sB H.size t_most o1.1 o1.2.1 tw_n o1.2.2 8 kBeh ("StreamRemuxer$ElementWriter") ("TRACKS_BYTES_BEHIND") ("[I") o2 ho2) (cwV 1 hts gX2_write_X8_addEach rfl rfl rfl (by decide +kernel) ⟨Nat.le_of_ble_eq_true rfl, Nat.le_of_ble_eq_true rfl⟩) (prev_wx (ci := 6) rfl rfl hK wd [8, 9] rfl (by decide) hA hX (st_in [0] rfl) hS) rfl rfl hl.1 rfl (lv_room (Nat.le_of_ble_eq_true rfl)) dX2_write_91 ⟨Nat.zero_le _, Nat.zero_le _⟩) wd hS hA [8, 9] [0, 1, 2, 3, 4, 5, 6, 7] rfl rfl (by decide) (by decide) (fun H locs wd hS => ?_)
  have wd : WD D A [oX2 a_h (.ref a_hk) (.ref a_p) (.ref a_t) p3 p4 p6, oX8 a_hk (.ref a_hkw) hk_most hk_length hk_overfull, aI Y a_hkw hkw_n c_hkw, oX4 a_p (.ref a_pb) (.ref a_pe) (.ref a_pt) p_packets, oX8 a_pb (.ref a_pbw) pb_most pb_length pb_overfull, aI Y a_pbw pbw_n c_pbw, aI Y a_pe 64 c_pe, aJ Y a_pt 64 c_pt, oX8 a_t (.ref a_tw) t_most o2.1 o2.2.1, aI Y a_tw tw_n o2.2.2] H := wd
  refine lv_aload_n hx hb dX2_write_94 rfl (lv_at hl 0 rfl) ?_
  refine lv_iload hx hb dX2_write_95 (lv_at hl 1 rfl) ?_
  obtain ⟨o3, ho3, hf⟩ := ob hf
  refine xj_v (va_runV (As := [.int p5]) (rest := []) ⟨hx, hb, hml, hown, hts⟩ (kX2_putClusters l D Y F a_h a_hk a_hkw a_p a_pb a_pbw a_pe a_pt a_t a_tw H.size p3 p4 p6 hk_most hk_length hk_overfull hkw_n c_hkw p_packets pb_most pb_length pb_overfull pbw_n c_pbw c_pe c_pt t_most o2.1 o2.2.1 tw_n o2.2.2 p5 o3 ho3) (cwV 1 hts gX2_write_X2_putClusters rfl rfl rfl (by decide +kernel) ⟨Nat.le_of_ble_eq_true rfl, Nat.le_of_ble_eq_true rfl⟩) (prev_w (ci := 1) rfl rfl hK wd [0, 1, 2, 3, 4, 5, 6, 7, 8, 9] rfl (by decide)) rfl rfl hl.1 rfl (lv_room (Nat.le_of_ble_eq_true rfl)) dX2_write_97 ⟨Nat.zero_le _, Nat.zero_le _⟩) wd hS hA [0, 1, 2, 3, 4, 5, 6, 7, 8, 9] [] rfl rfl (by decide) (by decide) (fun H locs wd hS => ?_)
  have wd : WD D A [oX2 a_h (.ref a_hk) (.ref a_p) (.ref a_t) p3 p4 p6, oX8 a_hk (.ref a_hkw) hk_most o3.1 o3.2.1, aI Y a_hkw hkw_n o3.2.2.1, oX4 a_p (.ref a_pb) (.ref a_pe) (.ref a_pt) p_packets, oX8 a_pb (.ref a_pbw) pb_most pb_length pb_overfull, aI Y a_pbw pbw_n c_pbw, aI Y a_pe 64 c_pe, aJ Y a_pt 64 c_pt, oX8 a_t (.ref a_tw) t_most o3.2.2.2.1 o3.2.2.2.2.1, aI Y a_tw tw_n o3.2.2.2.2.2] H := wd
  refine lv_aload_n hx hb dX2_write_100 rfl (lv_at hl 0 rfl) ?_
  refine lv_iload hx hb dX2_write_101 (lv_at hl 2 rfl) ?_
  obtain ⟨o4, ho4, hf⟩ := ob hf
  refine xj_v (va_runV (As := [.int b81_l_7]) (rest := []) ⟨hx, hb, hml, hown, hts⟩ (kX2_endLongElement l D Y F a_h a_t a_tw a_hk a_p H.size p3 p4 p6 t_most o3.2.2.2.1 o3.2.2.2.2.1 tw_n o3.2.2.2.2.2 b81_l_7 o4 ho4) (cwV 1 hts gX2_write_X2_endLongElement rfl rfl rfl (by decide +kernel) ⟨Nat.le_of_ble_eq_true rfl, Nat.le_of_ble_eq_true rfl⟩) (prev_w (ci := 1) rfl rfl hK wd [0, 8, 9] rfl (by decide)) rfl rfl hl.1 rfl (lv_room (Nat.le_of_ble_eq_true rfl)) dX2_write_103 ⟨Nat.zero_le _, Nat.zero_le _⟩) wd hS hA [0, 8, 9] [1, 2, 3, 4, 5, 6, 7] rfl rfl (by decide) (by decide) (fun H locs wd hS => ?_)
  have wd : WD D A [oX8 a_hk (.ref a_hkw) hk_most o3.1 o3.2.1, aI Y a_hkw hkw_n o3.2.2.1, oX4 a_p (.ref a_pb) (.ref a_pe) (.ref a_pt) p_packets, oX8 a_pb (.ref a_pbw) pb_most pb_length pb_overfull, aI Y a_pbw pbw_n c_pbw, aI Y a_pe 64 c_pe, aJ Y a_pt 64 c_pt, oX2 a_h (.ref a_hk) (.ref a_p) (.ref a_t) p3 p4 p6, oX8 a_t (.ref a_tw) t_most o3.2.2.2.1 o3.2.2.2.2.1, aI Y a_tw tw_n o4] H := wd
  obtain rfl := Option.some.inj hf
  exact W.vret hx hb hr (fun t ht hW => ⟨⟨(), rfl, trivial, WD.pst (wd.sub [7, 0, 1, 2, 3, 4, 5, 6, 8, 9] rfl (by decide)) hK ht hW⟩, hS.F ht⟩) hS.2.2 dX2_write_106

set_option maxHeartbeats 4000000 in
set_option maxRecDepth 100000 in
theorem wX2_write {p : Program} {l : Launch} {e : Env} {s : State} {m : MethodId} {args : Array Value} {below : List Frame} {meth : Method} {c : Code} {A : Nat → Prop} (D : va_G) (Y : Y4) (C : CX p s m meth c args cX2_write 8 none wsX2_write RX2) (hA : ∀ q : Nat, s.heap.size ≤ q → A q) (hK : va_K D vwCl (TY Y) s) (F : Nat) (a_h : Nat) (a_hk : Nat) (a_hkw : Nat) (a_p : Nat) (a_pb : Nat) (a_pbw : Nat) (a_pe : Nat) (a_pt : Nat) (a_t : Nat) (a_tw : Nat) (a_sB : Nat) (a_sH : Nat) (a_sI : Nat) (a_sL : Nat) (h_source : Value) (h_target : Value) (h_lace : Int32) (h_mostPackets : Int32) (h_unknownSizes : Int32) (hk_most : Int32) (hk_length : Int32) (hk_overfull : Int32) (hkw_n : Nat) (c_hkw : (Nat → Int32)) (p_packets : Int32) (pb_most : Int32) (pb_length : Int32) (pb_overfull : Int32) (pbw_n : Nat) (c_pbw : (Nat → Int32)) (c_pe : (Nat → Int32)) (c_pt : (Nat → Int64)) (t_most : Int32) (t_length : Int32) (t_overfull : Int32) (tw_n : Nat) (c_tw : (Nat → Int32)) (p3 : Int32) (p4 : Int32) (p5 : Int32) (p6 : Int32) (hX : ST [e_sB a_sB, e_sH a_sH, e_sI a_sI, e_sL a_sL] A s) (res : Value × Value × Int32 × Int32 × Int32 × Int32 × Int32 × (Nat → Int32) × Int32 × Int32 × (Nat → Int32)) (hf : fX2_write F hk_most hk_length hk_overfull hkw_n c_hkw p_packets pb_length pbw_n c_pbw c_pe c_pt t_most t_length t_overfull tw_n c_tw p3 p4 p5 p6 a_p a_t = some res) {H : Heap} {locs : List Loc} {ls : Array Slot} (wd : WD D A [oX2 a_h (.ref a_hk) (h_source) (h_target) h_lace h_mostPackets h_unknownSizes, oX8 a_hk (.ref a_hkw) hk_most hk_length hk_overfull, aI Y a_hkw hkw_n c_hkw, oX4 a_p (.ref a_pb) (.ref a_pe) (.ref a_pt) p_packets, oX8 a_pb (.ref a_pbw) pb_most pb_length pb_overfull, aI Y a_pbw pbw_n c_pbw, aI Y a_pe 64 c_pe, aJ Y a_pt 64 c_pt, oX8 a_t (.ref a_tw) t_most t_length t_overfull, aI Y a_tw tw_n c_tw] H) (hS : va_S A s.heap H locs) (hl : lv_has ls 8 [(0, .ref a_h), (1, .ref a_p), (2, .ref a_t), (3, .int p3), (4, .int p4), (5, .int p5), (6, .int p6)]) : W p l e { frames := 6, cells := 0, slots := 0, locals := 150 } s m args below meth c H locs 0 0 (MQ below (va_Qv (fun _ : Unit => True) (fun _ t => PST D Y A [oX2 a_h (.ref a_hk) (res.1) (res.2.1) res.2.2.1 res.2.2.2.1 res.2.2.2.2.1, oX8 a_hk (.ref a_hkw) hk_most res.2.2.2.2.2.1 res.2.2.2.2.2.2.1, aI Y a_hkw hkw_n res.2.2.2.2.2.2.2.1, oX4 a_p (.ref a_pb) (.ref a_pe) (.ref a_pt) p_packets, oX8 a_pb (.ref a_pbw) pb_most pb_length pb_overfull, aI Y a_pbw pbw_n c_pbw, aI Y a_pe 64 c_pe, aJ Y a_pt 64 c_pt, oX8 a_t (.ref a_tw) t_most res.2.2.2.2.2.2.2.2.1 res.2.2.2.2.2.2.2.2.2.1, aI Y a_tw tw_n res.2.2.2.2.2.2.2.2.2.2] t) A) args s 0 0 A) (F0 m 0 ls []) := by
  obtain ⟨hx, hb, hml, hr, hts, hown, hlocks⟩ := id C
  obtain ⟨hZ_sB, hT_sB⟩ := (hX _ (List.mem_of_getElem? (i := 0) rfl)).2
  obtain ⟨hZ_sH, hT_sH⟩ := (hX _ (List.mem_of_getElem? (i := 1) rfl)).2
  obtain ⟨hZ_sI, hT_sI⟩ := (hX _ (List.mem_of_getElem? (i := 2) rfl)).2
  obtain ⟨hZ_sL, hT_sL⟩ := (hX _ (List.mem_of_getElem? (i := 3) rfl)).2
  unfold fX2_write at hf
  refine lv_aload_n hx hb dX2_write_0 rfl (lv_at hl 0 rfl) ?_
  refine lv_aload_n hx hb dX2_write_1 rfl (lv_at hl 1 rfl) ?_
  refine va_put (D := D) (ci := 1) (v := .ref a_p) (ty := .object "StreamRemuxer$PacketList") (C := RX2) (T := TX2) (N := 6) hx hb hts iX2_write_X2 tyX2 tyX2_ok nmX2 hown hK wd.1 wd.2 hS 0 rfl rfl 1 (by decide) (hts _ mX2_write_0) (fun _ h9 => h9) rfl (by decide +kernel) rfl rfl (Nat.le_of_ble_eq_true rfl) dX2_write_2 (fun H locs hP hD hS => ?_)
  have wd : WD D A [oX2 a_h (.ref a_hk) (.ref a_p) (h_target) h_lace h_mostPackets h_unknownSizes, oX8 a_hk (.ref a_hkw) hk_most hk_length hk_overfull, aI Y a_hkw hkw_n c_hkw, oX4 a_p (.ref a_pb) (.ref a_pe) (.ref a_pt) p_packets, oX8 a_pb (.ref a_pbw) pb_most pb_length pb_overfull, aI Y a_pbw pbw_n c_pbw, aI Y a_pe 64 c_pe, aJ Y a_pt 64 c_pt, oX8 a_t (.ref a_tw) t_most t_length t_overfull, aI Y a_tw tw_n c_tw] H := ⟨hP, hD⟩
  clear hP hD
  refine lv_aload_n hx hb dX2_write_5 rfl (lv_at hl 0 rfl) ?_
  refine lv_aload_n hx hb dX2_write_6 rfl (lv_at hl 2 rfl) ?_
  refine va_put (D := D) (ci := 1) (v := .ref a_t) (ty := .object "StreamRemuxer$Row") (C := RX2) (T := TX2) (N := 6) hx hb hts iX2_write_X2 tyX2 tyX2_ok nmX2 hown hK wd.1 wd.2 hS 0 rfl rfl 2 (by decide) (hts _ mX2_write_1) (fun _ h9 => h9) rfl (by decide +kernel) rfl rfl (Nat.le_of_ble_eq_true rfl) dX2_write_7 (fun H locs hP hD hS => ?_)
  have wd : WD D A [oX2 a_h (.ref a_hk) (.ref a_p) (.ref a_t) h_lace h_mostPackets h_unknownSizes, oX8 a_hk (.ref a_hkw) hk_most hk_length hk_overfull, aI Y a_hkw hkw_n c_hkw, oX4 a_p (.ref a_pb) (.ref a_pe) (.ref a_pt) p_packets, oX8 a_pb (.ref a_pbw) pb_most pb_length pb_overfull, aI Y a_pbw pbw_n c_pbw, aI Y a_pe 64 c_pe, aJ Y a_pt 64 c_pt, oX8 a_t (.ref a_tw) t_most t_length t_overfull, aI Y a_tw tw_n c_tw] H := ⟨hP, hD⟩
  clear hP hD
  refine lv_aload_n hx hb dX2_write_10 rfl (lv_at hl 0 rfl) ?_
  refine lv_iload_n hx hb dX2_write_11 rfl (lv_at hl 3 rfl) ?_
  refine va_put (D := D) (ci := 1) (v := .int p3) (ty := .int) (C := RX2) (T := TX2) (N := 6) hx hb hts iX2_write_X2 tyX2 tyX2_ok nmX2 hown hK wd.1 wd.2 hS 0 rfl rfl 3 (by decide) (hts _ mX2_write_2) (fun _ h9 => h9) rfl (by decide +kernel) rfl rfl (Nat.le_of_ble_eq_true rfl) dX2_write_12 (fun H locs hP hD hS => ?_)
  have wd : WD D A [oX2 a_h (.ref a_hk) (.ref a_p) (.ref a_t) p3 h_mostPackets h_unknownSizes, oX8 a_hk (.ref a_hkw) hk_most hk_length hk_overfull, aI Y a_hkw hkw_n c_hkw, oX4 a_p (.ref a_pb) (.ref a_pe) (.ref a_pt) p_packets, oX8 a_pb (.ref a_pbw) pb_most pb_length pb_overfull, aI Y a_pbw pbw_n c_pbw, aI Y a_pe 64 c_pe, aJ Y a_pt 64 c_pt, oX8 a_t (.ref a_tw) t_most t_length t_overfull, aI Y a_tw tw_n c_tw] H := ⟨hP, hD⟩
  clear hP hD
  refine lv_aload_n hx hb dX2_write_15 rfl (lv_at hl 0 rfl) ?_
  refine lv_iload hx hb dX2_write_16 (lv_at hl 4 rfl) ?_
  refine va_put (D := D) (ci := 1) (v := .int p4) (ty := .int) (C := RX2) (T := TX2) (N := 6) hx hb hts iX2_write_X2 tyX2 tyX2_ok nmX2 hown hK wd.1 wd.2 hS 0 rfl rfl 4 (by decide) (hts _ mX2_write_3) (fun _ h9 => h9) rfl (by decide +kernel) rfl rfl (Nat.le_of_ble_eq_true rfl) dX2_write_18 (fun H locs hP hD hS => ?_)
  have wd : WD D A [oX2 a_h (.ref a_hk) (.ref a_p) (.ref a_t) p3 p4 h_unknownSizes, oX8 a_hk (.ref a_hkw) hk_most hk_length hk_overfull, aI Y a_hkw hkw_n c_hkw, oX4 a_p (.ref a_pb) (.ref a_pe) (.ref a_pt) p_packets, oX8 a_pb (.ref a_pbw) pb_most pb_length pb_overfull, aI Y a_pbw pbw_n c_pbw, aI Y a_pe 64 c_pe, aJ Y a_pt 64 c_pt, oX8 a_t (.ref a_tw) t_most t_length t_overfull, aI Y a_tw tw_n c_tw] H := ⟨hP, hD⟩
  clear hP hD
  refine lv_aload_n hx hb dX2_write_21 rfl (lv_at hl 0 rfl) ?_
  refine lv_iload hx hb dX2_write_22 (lv_at hl 6 rfl) ?_
  obtain ⟨hz1, hf⟩ := gd hf
  refine va_put (D := D) (ci := 1) (v := .int p6) (ty := .boolean) (C := RX2) (T := TX2) (N := 6) hx hb hts iX2_write_X2 tyX2 tyX2_ok nmX2 hown hK wd.1 wd.2 hS 0 rfl rfl 5 (by decide) (hts _ mX2_write_4) (fun _ h9 => h9) rfl (by decide +kernel) (isb_nar hz1) (isb_fit hz1) (Nat.le_of_ble_eq_true rfl) dX2_write_24 (fun H locs hP hD hS => ?_)
  have wd : WD D A [oX2 a_h (.ref a_hk) (.ref a_p) (.ref a_t) p3 p4 p6, oX8 a_hk (.ref a_hkw) hk_most hk_length hk_overfull, aI Y a_hkw hkw_n c_hkw, oX4 a_p (.ref a_pb) (.ref a_pe) (.ref a_pt) p_packets, oX8 a_pb (.ref a_pbw) pb_most pb_length pb_overfull, aI Y a_pbw pbw_n c_pbw, aI Y a_pe 64 c_pe, aJ Y a_pt 64 c_pt, oX8 a_t (.ref a_tw) t_most t_length t_overfull, aI Y a_tw tw_n c_tw] H := ⟨hP, hD⟩
  clear hP hD
  refine lv_aload_n hx hb dX2_write_27 rfl (lv_at hl 0 rfl) ?_
  refine va_get (D := D) (ci := 1) (v := .ref a_t) (C := RX2) (T := TX2) (N := 6) hx hb hts iX2_write_X2 hown hK wd.1 0 rfl rfl 2 (by decide) (hts _ mX2_write_1) (fun _ h9 => h9) rfl dX2_write_28 ?_
  refine va_gets (v := .ref a_sH) hx hb hZ_sH hS hown (hts _ mX2_write_5) (fun _ h9 => h9) dX2_write_31 ?_
  obtain ⟨o2, ho2, hf⟩ := ob hf
  refine xj_v (va_runV (As := [.ref a_sH]) (rest := []) ⟨hx, hb, hml, hown, hts⟩ (kX8_addEach l D Y F a_t a_tw a_sH H.size t_most t_length t_overfull tw_n c_tw 40 kHead ("StreamRemuxer$ElementWriter") ("HEAD_BYTES") ("[I") o2 ho2) (cwV 1 hts gX2_write_X8_addEach rfl rfl rfl (by decide +kernel) ⟨Nat.le_of_ble_eq_true rfl, Nat.le_of_ble_eq_true rfl⟩) (prev_wx (ci := 6) rfl rfl hK wd [8, 9] rfl (by decide) hA hX (st_in [1] rfl) hS) rfl rfl hl.1 rfl (lv_room (Nat.le_of_ble_eq_true rfl)) dX2_write_34 ⟨Nat.zero_le _, Nat.zero_le _⟩) wd hS hA [8, 9] [0, 1, 2, 3, 4, 5, 6, 7] rfl rfl (by decide) (by decide) (fun H locs wd hS => ?_)
  have wd : WD D A [oX2 a_h (.ref a_hk) (.ref a_p) (.ref a_t) p3 p4 p6, oX8 a_hk (.ref a_hkw) hk_most hk_length hk_overfull, aI Y a_hkw hkw_n c_hkw, oX4 a_p (.ref a_pb) (.ref a_pe) (.ref a_pt) p_packets, oX8 a_pb (.ref a_pbw) pb_most pb_length pb_overfull, aI Y a_pbw pbw_n c_pbw, aI Y a_pe 64 c_pe, aJ Y a_pt 64 c_pt, oX8 a_t (.ref a_tw) t_most o2.1 o2.2.1, aI Y a_tw tw_n o2.2.2] H := wd
  refine lv_aload_n hx hb dX2_write_37 rfl (lv_at hl 0 rfl) ?_
  refine lv_ldc hx hb hown (hts _ mX2_write_6) dX2_write_38 ?_
  obtain ⟨o3, ho3, hf⟩ := ob hf
  refine xj_i (va_runV (As := [.int 408125543]) (rest := []) ⟨hx, hb, hml, hown, hts⟩ (kX2_beginLongElement l D Y F a_h a_t a_tw a_hk a_p H.size p3 p4 p6 t_most o2.1 o2.2.1 tw_n o2.2.2 408125543 o3 ho3) (cwV 1 hts gX2_write_X2_beginLongElement rfl rfl rfl (by decide +kernel) ⟨Nat.le_of_ble_eq_true rfl, Nat.le_of_ble_eq_true rfl⟩) (prev_w (ci := 1) rfl rfl hK wd [0, 8, 9] rfl (by decide)) rfl rfl hl.1 rfl (lv_room (Nat.le_of_ble_eq_true rfl)) dX2_write_40 ⟨Nat.zero_le _, Nat.zero_le _⟩) wd hS hA [0, 8, 9] [1, 2, 3, 4, 5, 6, 7] rfl rfl (by decide) (by decide) (fun H locs wd hS => ?_)
  have wd : WD D A [oX8 a_hk (.ref a_hkw) hk_most hk_length hk_overfull, aI Y a_hkw hkw_n c_hkw, oX4 a_p (.ref a_pb) (.ref a_pe) (.ref a_pt) p_packets, oX8 a_pb (.ref a_pbw) pb_most pb_length pb_overfull, aI Y a_pbw pbw_n c_pbw, aI Y a_pe 64 c_pe, aJ Y a_pt 64 c_pt, oX2 a_h (.ref a_hk) (.ref a_p) (.ref a_t) p3 p4 p6, oX8 a_t (.ref a_tw) t_most o3.2.1 o3.2.2.1, aI Y a_tw tw_n o3.2.2.2] H := wd
  refine lv_istore (lv' := [(7, .int o3.1), (0, .ref a_h), (1, .ref a_p), (2, .ref a_t), (3, .int p3), (4, .int p4), (5, .int p5), (6, .int p6)]) hx hb dX2_write_43 hl (by decide) rfl (fun ls hl => ?_)
  refine lv_aload_n hx hb dX2_write_45 rfl (lv_at hl 1 rfl) ?_
  refine va_get (D := D) (ci := 1) (v := .ref a_t) (C := RX2) (T := TX2) (N := 6) hx hb hts iX2_write_X2 hown hK wd.1 7 rfl rfl 2 (by decide) (hts _ mX2_write_1) (fun _ h9 => h9) rfl dX2_write_46 ?_
  refine va_gets (v := .ref a_sI) hx hb hZ_sI hS hown (hts _ mX2_write_7) (fun _ h9 => h9) dX2_write_49 ?_
  obtain ⟨o4, ho4, hf⟩ := ob hf
  refine xj_v (va_runV (As := [.ref a_sI]) (rest := []) ⟨hx, hb, hml, hown, hts⟩ (kX8_addEach l D Y F a_t a_tw a_sI H.size t_most o3.2.1 o3.2.2.1 tw_n o3.2.2.2 20 kInfo ("StreamRemuxer$ElementWriter") ("INFO_BYTES") ("[I") o4 ho4) (cwV 1 hts gX2_write_X8_addEach rfl rfl rfl (by decide +kernel) ⟨Nat.le_of_ble_eq_true rfl, Nat.le_of_ble_eq_true rfl⟩) (prev_wx (ci := 6) rfl rfl hK wd [8, 9] rfl (by decide) hA hX (st_in [2] rfl) hS) rfl rfl hl.1 rfl (lv_room (Nat.le_of_ble_eq_true rfl)) dX2_write_52 ⟨Nat.zero_le _, Nat.zero_le _⟩) wd hS hA [8, 9] [0, 1, 2, 3, 4, 5, 6, 7] rfl rfl (by decide) (by decide) (fun H locs wd hS => ?_)
  have wd : WD D A [oX8 a_hk (.ref a_hkw) hk_most hk_length hk_overfull, aI Y a_hkw hkw_n c_hkw, oX4 a_p (.ref a_pb) (.ref a_pe) (.ref a_pt) p_packets, oX8 a_pb (.ref a_pbw) pb_most pb_length pb_overfull, aI Y a_pbw pbw_n c_pbw, aI Y a_pe 64 c_pe, aJ Y a_pt 64 c_pt, oX2 a_h (.ref a_hk) (.ref a_p) (.ref a_t) p3 p4 p6, oX8 a_t (.ref a_tw) t_most o4.1 o4.2.1, aI Y a_tw tw_n o4.2.2] H := wd
  refine lv_aload_n hx hb dX2_write_55 rfl (lv_at hl 1 rfl) ?_
  refine va_get (D := D) (ci := 1) (v := .ref a_t) (C := RX2) (T := TX2) (N := 6) hx hb hts iX2_write_X2 hown hK wd.1 7 rfl rfl 2 (by decide) (hts _ mX2_write_1) (fun _ h9 => h9) rfl dX2_write_56 ?_
  refine va_gets (v := .ref a_sL) hx hb hZ_sL hS hown (hts _ mX2_write_8) (fun _ h9 => h9) dX2_write_59 ?_
  obtain ⟨o5, ho5, hf⟩ := ob hf
  refine xj_v (va_runV (As := [.ref a_sL]) (rest := []) ⟨hx, hb, hml, hown, hts⟩ (kX8_addEach l D Y F a_t a_tw a_sL H.size t_most o4.1 o4.2.1 tw_n o4.2.2 19 kTrk ("StreamRemuxer$ElementWriter") ("TRACKS_BYTES_TO_LACING") ("[I") o5 ho5) (cwV 1 hts gX2_write_X8_addEach rfl rfl rfl (by decide +kernel) ⟨Nat.le_of_ble_eq_true rfl, Nat.le_of_ble_eq_true rfl⟩) (prev_wx (ci := 6) rfl rfl hK wd [8, 9] rfl (by decide) hA hX (st_in [3] rfl) hS) rfl rfl hl.1 rfl (lv_room (Nat.le_of_ble_eq_true rfl)) dX2_write_62 ⟨Nat.zero_le _, Nat.zero_le _⟩) wd hS hA [8, 9] [0, 1, 2, 3, 4, 5, 6, 7] rfl rfl (by decide) (by decide) (fun H locs wd hS => ?_)
  have wd : WD D A [oX8 a_hk (.ref a_hkw) hk_most hk_length hk_overfull, aI Y a_hkw hkw_n c_hkw, oX4 a_p (.ref a_pb) (.ref a_pe) (.ref a_pt) p_packets, oX8 a_pb (.ref a_pbw) pb_most pb_length pb_overfull, aI Y a_pbw pbw_n c_pbw, aI Y a_pe 64 c_pe, aJ Y a_pt 64 c_pt, oX2 a_h (.ref a_hk) (.ref a_p) (.ref a_t) p3 p4 p6, oX8 a_t (.ref a_tw) t_most o5.1 o5.2.1, aI Y a_tw tw_n o5.2.2] H := wd
  refine lv_aload_n hx hb dX2_write_65 rfl (lv_at hl 1 rfl) ?_
  refine va_get (D := D) (ci := 1) (v := .ref a_t) (C := RX2) (T := TX2) (N := 6) hx hb hts iX2_write_X2 hown hK wd.1 7 rfl rfl 2 (by decide) (hts _ mX2_write_1) (fun _ h9 => h9) rfl dX2_write_66 ?_
  refine lv_aload_n hx hb dX2_write_69 rfl (lv_at hl 1 rfl) ?_
  refine va_get (D := D) (ci := 1) (v := .int p3) (C := RX2) (T := TX2) (N := 6) hx hb hts iX2_write_X2 hown hK wd.1 7 rfl rfl 3 (by decide) (hts _ mX2_write_2) (fun _ h9 => h9) rfl dX2_write_70 ?_
  refine lv_if_le (tgt := 80) hx hb dX2_write_73 (by decide) (fun q6 => ?_) (fun q6 => ?_)
  · have hf := ip hf q6
    refine lv_iconst (v := 0) hx hb dX2_write_80 (by decide) ?_
    exact wX2_write_b81 D Y C hA hK F a_h a_hk a_hkw a_p a_pb a_pbw a_pe a_pt a_t a_tw a_sB a_sH a_sI a_sL h_source h_target h_lace h_mostPackets h_unknownSizes hk_most hk_length hk_overfull hkw_n c_hkw p_packets pb_most pb_length pb_overfull pbw_n c_pbw c_pe c_pt t_most t_length t_overfull tw_n c_tw p3 p4 p5 p6 hX _ o3.1 0 o5.1 o5.2.1 o5.2.2 hf (wd.sub [7, 0, 1, 2, 3, 4, 5, 6, 8, 9] rfl (by decide)) hS (lv_sub hl [1, 6, 0] rfl)
  · have hf := ie hf q6
    refine lv_iconst (v := 1) hx hb dX2_write_76 (by decide) ?_
    refine lv_goto (tgt := 81) hx hb dX2_write_77 (by decide) ?_
    exact wX2_write_b81 D Y C hA hK F a_h a_hk a_hkw a_p a_pb a_pbw a_pe a_pt a_t a_tw a_sB a_sH a_sI a_sL h_source h_target h_lace h_mostPackets h_unknownSizes hk_most hk_length hk_overfull hkw_n c_hkw p_packets pb_most pb_length pb_overfull pbw_n c_pbw c_pe c_pt t_most t_length t_overfull tw_n c_tw p3 p4 p5 p6 hX _ o3.1 1 o5.1 o5.2.1 o5.2.2 hf (wd.sub [7, 0, 1, 2, 3, 4, 5, 6, 8, 9] rfl (by decide)) hS (lv_sub hl [1, 6, 0] rfl)
set_option maxHeartbeats 4000000 in
set_option maxRecDepth 100000 in
theorem kX2_write (l : Launch) (D : va_G) (Y : Y4) (F : Nat) (a_h : Nat) (a_hk : Nat) (a_hkw : Nat) (a_p : Nat) (a_pb : Nat) (a_pbw : Nat) (a_pe : Nat) (a_pt : Nat) (a_t : Nat) (a_tw : Nat) (a_sB : Nat) (a_sH : Nat) (a_sI : Nat) (a_sL : Nat) (sz : Nat) (h_source : Value) (h_target : Value) (h_lace : Int32) (h_mostPackets : Int32) (h_unknownSizes : Int32) (hk_most : Int32) (hk_length : Int32) (hk_overfull : Int32) (hkw_n : Nat) (c_hkw : (Nat → Int32)) (p_packets : Int32) (pb_most : Int32) (pb_length : Int32) (pb_overfull : Int32) (pbw_n : Nat) (c_pbw : (Nat → Int32)) (c_pe : (Nat → Int32)) (c_pt : (Nat → Int64)) (t_most : Int32) (t_length : Int32) (t_overfull : Int32) (tw_n : Nat) (c_tw : (Nat → Int32)) (p3 : Int32) (p4 : Int32) (p5 : Int32) (p6 : Int32) (res : Value × Value × Int32 × Int32 × Int32 × Int32 × Int32 × (Nat → Int32) × Int32 × Int32 × (Nat → Int32)) (hf : fX2_write F hk_most hk_length hk_overfull hkw_n c_hkw p_packets pb_length pbw_n c_pbw c_pe c_pt t_most t_length t_overfull tw_n c_tw p3 p4 p5 p6 a_p a_t = some res) : Met l yX2_write wsX2_write ({ frames := 6, cells := 0, slots := 0, locals := 150 }) (va_Pc [.ref a_h, .ref a_p, .ref a_t, .int p3, .int p4, .int p5, .int p6] (PREX D Y [oX2 a_h (.ref a_hk) (h_source) (h_target) h_lace h_mostPackets h_unknownSizes, oX8 a_hk (.ref a_hkw) hk_most hk_length hk_overfull, aI Y a_hkw hkw_n c_hkw, oX4 a_p (.ref a_pb) (.ref a_pe) (.ref a_pt) p_packets, oX8 a_pb (.ref a_pbw) pb_most pb_length pb_overfull, aI Y a_pbw pbw_n c_pbw, aI Y a_pe 64 c_pe, aJ Y a_pt 64 c_pt, oX8 a_t (.ref a_tw) t_most t_length t_overfull, aI Y a_tw tw_n c_tw] sz [e_sB a_sB, e_sH a_sH, e_sI a_sI, e_sL a_sL])) (va_Qv (fun _ : Unit => True) (fun _ t => PST D Y (va_A [oX2 a_h (.ref a_hk) (h_source) (h_target) h_lace h_mostPackets h_unknownSizes, oX8 a_hk (.ref a_hkw) hk_most hk_length hk_overfull, aI Y a_hkw hkw_n c_hkw, oX4 a_p (.ref a_pb) (.ref a_pe) (.ref a_pt) p_packets, oX8 a_pb (.ref a_pbw) pb_most pb_length pb_overfull, aI Y a_pbw pbw_n c_pbw, aI Y a_pe 64 c_pe, aJ Y a_pt 64 c_pt, oX8 a_t (.ref a_tw) t_most t_length t_overfull, aI Y a_tw tw_n c_tw] sz) [oX2 a_h (.ref a_hk) (res.1) (res.2.1) res.2.2.1 res.2.2.2.1 res.2.2.2.2.1, oX8 a_hk (.ref a_hkw) hk_most res.2.2.2.2.2.1 res.2.2.2.2.2.2.1, aI Y a_hkw hkw_n res.2.2.2.2.2.2.2.1, oX4 a_p (.ref a_pb) (.ref a_pe) (.ref a_pt) p_packets, oX8 a_pb (.ref a_pbw) pb_most pb_length pb_overfull, aI Y a_pbw pbw_n c_pbw, aI Y a_pe 64 c_pe, aJ Y a_pt 64 c_pt, oX8 a_t (.ref a_tw) t_most res.2.2.2.2.2.2.2.2.1 res.2.2.2.2.2.2.2.2.2.1, aI Y a_tw tw_n res.2.2.2.2.2.2.2.2.2.2] t) (va_A [oX2 a_h (.ref a_hk) (h_source) (h_target) h_lace h_mostPackets h_unknownSizes, oX8 a_hk (.ref a_hkw) hk_most hk_length hk_overfull, aI Y a_hkw hkw_n c_hkw, oX4 a_p (.ref a_pb) (.ref a_pe) (.ref a_pt) p_packets, oX8 a_pb (.ref a_pbw) pb_most pb_length pb_overfull, aI Y a_pbw pbw_n c_pbw, aI Y a_pe 64 c_pe, aJ Y a_pt 64 c_pt, oX8 a_t (.ref a_tw) t_most t_length t_overfull, aI Y a_tw tw_n c_tw] sz)) 0 0 (va_A [oX2 a_h (.ref a_hk) (h_source) (h_target) h_lace h_mostPackets h_unknownSizes, oX8 a_hk (.ref a_hkw) hk_most hk_length hk_overfull, aI Y a_hkw hkw_n c_hkw, oX4 a_p (.ref a_pb) (.ref a_pe) (.ref a_pt) p_packets, oX8 a_pb (.ref a_pbw) pb_most pb_length pb_overfull, aI Y a_pbw pbw_n c_pbw, aI Y a_pe 64 c_pe, aJ Y a_pt 64 c_pt, oX8 a_t (.ref a_tw) t_most t_length t_overfull, aI Y a_tw tw_n c_tw] sz) := by
  refine Met.ofW (cc := cX2_write) (maxL := 8) (ret := none) (by decide) rfl ?_
  intro p e s m args below meth c s₁ B hml hv
  obtain ⟨rfl, ⟨rfl, hP, hK, hD0⟩, hX⟩ := hv
  have hl := lv_entry ([.ref a_h, .ref a_p, .ref a_t, .int p3, .int p4, .int p5, .int p6]) (n := 8) (Nat.le_of_ble_eq_true rfl)
  rw [lg_entry_eq]
  exact wX2_write D Y ⟨B.exec, B.bytes, hml, B.returns, atoms_spec (ws := wsX2_write) B.pre, findClass_of_methodNamed B.named, B.notSynchronized⟩ (fun q h => Or.inr h) hK F a_h a_hk a_hkw a_p a_pb a_pbw a_pe a_pt a_t a_tw a_sB a_sH a_sI a_sL h_source h_target h_lace h_mostPackets h_unknownSizes hk_most hk_length hk_overfull hkw_n c_hkw p_packets pb_most pb_length pb_overfull pbw_n c_pbw c_pe c_pt t_most t_length t_overfull tw_n c_tw p3 p4 p5 p6 hX res hf ⟨hP, hD0.self⟩ va_S.rf hl
