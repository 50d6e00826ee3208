theorem mX1_fail_0 : Cond.fieldLink RX1 32 "StreamRemuxer$ElementReader" "fault" "I" ∈ wsX1_fail := List.mem_cons_of_mem _ u_589
theorem mX1_fail_1 : Cond.fieldLink RX1 36 "StreamRemuxer$ElementReader" "place" "I" ∈ wsX1_fail := List.mem_cons_of_mem _ u_590
theorem iX1_fail_X1 : ∀ w ∈ wsX10, w ∈ wsX1_fail := fun w h => List.mem_cons_of_mem _ (inlX1 w h)
set_option maxHeartbeats 4000000 in
set_option maxRecDepth 100000 in
theorem wX1_fail {p : Program} {l : Launch} {e : Env} {s : State} {m : MethodId} {args : Array Value} {below : List Frame} {meth : Method} {c : Code} {A : Nat → Prop} (D : va_G) (Y : Y4) (C : CX p s m meth c args cX1_fail 3 (some .int) wsX1_fail RX1) (hA : ∀ q : Nat, s.heap.size ≤ q → A q) (hK : va_K D vwCl (TY Y) s) (F : Nat) (a_h : Nat) (a_hz : Nat) (a_hv : Nat) (a_f : Nat) (a_p : Nat) (h_fault : Int32) (h_place : Int32) (h_clusters : Int32) (h_blocks : Int32) (h_depth : Int32) (h_trackNumber : Int64) (h_clusterTime : Int64) (h_bodySize : Int64) (h_lacingAt : Int32) (p1 : Int32) (p2 : Int32) (res : Int32 × Int32 × Int32) (hf : fX1_fail F p1 p2 = some res) {H : Heap} {locs : List Loc} {ls : Array Slot} (wd : WD D A [oX1 a_h h_fault h_place h_clusters h_blocks (.ref a_hz) (.ref a_hv) h_depth (.ref a_f) (.ref a_p) h_trackNumber h_clusterTime h_bodySize h_lacingAt] H) (hS : va_S A s.heap H locs) (hl : lv_has ls 3 [(0, .ref a_h), (1, .int p1), (2, .int p2)]) : W p l e { frames := 0, cells := 0, slots := 0, locals := 0 } s m args below meth c H locs 0 0 (MQ below (va_Qi (fun r (_ : Unit) => r = res.1) (fun _ t => PST D Y A [oX1 a_h res.2.1 res.2.2 h_clusters h_blocks (.ref a_hz) (.ref a_hv) h_depth (.ref a_f) (.ref a_p) h_trackNumber h_clusterTime h_bodySize h_lacingAt] t) A) args s 0 0 A) (F0 m 0 ls []) := by
  obtain ⟨hx, hb, hml, hr, hts, hown, hlocks⟩ := id C
  unfold fX1_fail at hf
  refine lv_aload_n hx hb dX1_fail_0 rfl (lv_at hl 0 rfl) ?_
  refine lv_iload_n hx hb dX1_fail_1 rfl (lv_at hl 1 rfl) ?_
  refine va_put (D := D) (ci := 0) (v := .int p1) (ty := .int) (C := RX1) (T := TX1) (N := 13) hx hb hts iX1_fail_X1 tyX1 tyX1_ok nmX1 hown hK wd.1 wd.2 hS 0 rfl rfl 0 (by decide) (hts _ mX1_fail_0) (fun _ h9 => h9) rfl (by decide +kernel) rfl rfl (Nat.le_of_ble_eq_true rfl) dX1_fail_2 (fun H locs hP hD hS => ?_)
  have wd : WD D A [oX1 a_h p1 h_place h_clusters h_blocks (.ref a_hz) (.ref a_hv) h_depth (.ref a_f) (.ref a_p) h_trackNumber h_clusterTime h_bodySize h_lacingAt] H := ⟨hP, hD⟩
  clear hP hD
  refine lv_aload_n hx hb dX1_fail_5 rfl (lv_at hl 0 rfl) ?_
  refine lv_iload_n hx hb dX1_fail_6 rfl (lv_at hl 2 rfl) ?_
  refine va_put (D := D) (ci := 0) (v := .int p2) (ty := .int) (C := RX1) (T := TX1) (N := 13) hx hb hts iX1_fail_X1 tyX1 tyX1_ok nmX1 hown hK wd.1 wd.2 hS 0 rfl rfl 1 (by decide) (hts _ mX1_fail_1) (fun _ h9 => h9) rfl (by decide +kernel) rfl rfl (Nat.le_of_ble_eq_true rfl) dX1_fail_7 (fun H locs hP hD hS => ?_)
  have wd : WD D A [oX1 a_h p1 p2 h_clusters h_blocks (.ref a_hz) (.ref a_hv) h_depth (.ref a_f) (.ref a_p) h_trackNumber h_clusterTime h_bodySize h_lacingAt] H := ⟨hP, hD⟩
  clear hP hD
  refine lv_iconst (v := (-1)) hx hb dX1_fail_10 (by decide) ?_
  obtain rfl := Option.some.inj hf
  exact W.iret (v := (-1)) hx hb hr (fun t ht hW => ⟨⟨_, (), rfl, rfl, WD.pst wd hK ht hW⟩, hS.F ht⟩) hS.2.2 dX1_fail_11
set_option maxHeartbeats 4000000 in
set_option maxRecDepth 100000 in
theorem kX1_fail (l : Launch) (D : va_G) (Y : Y4) (F : Nat) (a_h : Nat) (a_hz : Nat) (a_hv : Nat) (a_f : Nat) (a_p : Nat) (sz : Nat) (h_fault : Int32) (h_place : Int32) (h_clusters : Int32) (h_blocks : Int32) (h_depth : Int32) (h_trackNumber : Int64) (h_clusterTime : Int64) (h_bodySize : Int64) (h_lacingAt : Int32) (p1 : Int32) (p2 : Int32) (res : Int32 × Int32 × Int32) (hf : fX1_fail F p1 p2 = some res) : Met l yX1_fail wsX1_fail ({ frames := 0, cells := 0, slots := 0, locals := 0 }) (va_Pc [.ref a_h, .int p1, .int p2] (PRE D Y [oX1 a_h h_fault h_place h_clusters h_blocks (.ref a_hz) (.ref a_hv) h_depth (.ref a_f) (.ref a_p) h_trackNumber h_clusterTime h_bodySize h_lacingAt] sz)) (va_Qi (fun r (_ : Unit) => r = res.1) (fun _ t => PST D Y (va_A [oX1 a_h h_fault h_place h_clusters h_blocks (.ref a_hz) (.ref a_hv) h_depth (.ref a_f) (.ref a_p) h_trackNumber h_clusterTime h_bodySize h_lacingAt] sz) [oX1 a_h res.2.1 res.2.2 h_clusters h_blocks (.ref a_hz) (.ref a_hv) h_depth (.ref a_f) (.ref a_p) h_trackNumber h_clusterTime h_bodySize h_lacingAt] t) (va_A [oX1 a_h h_fault h_place h_clusters h_blocks (.ref a_hz) (.ref a_hv) h_depth (.ref a_f) (.ref a_p) h_trackNumber h_clusterTime h_bodySize h_lacingAt] sz)) 0 0 (va_A [oX1 a_h h_fault h_place h_clusters h_blocks (.ref a_hz) (.ref a_hv) h_depth (.ref a_f) (.ref a_p) h_trackNumber h_clusterTime h_bodySize h_lacingAt] sz) := by
  refine Met.ofW (cc := cX1_fail) (maxL := 3) (ret := (some .int)) (by decide) rfl ?_
  intro p e s m args below meth c s₁ B hml hv
  obtain ⟨rfl, rfl, hP, hK, hD0⟩ := hv
  have hl := lv_entry ([.ref a_h, .int p1, .int p2]) (n := 3) (Nat.le_of_ble_eq_true rfl)
  rw [lg_entry_eq]
  exact wX1_fail D Y ⟨B.exec, B.bytes, hml, B.returns, atoms_spec (ws := wsX1_fail) B.pre, findClass_of_methodNamed B.named, B.notSynchronized⟩ (fun q h => Or.inr h) hK F a_h a_hz a_hv a_f a_p h_fault h_place h_clusters h_blocks h_depth h_trackNumber h_clusterTime h_bodySize h_lacingAt p1 p2 res hf ⟨hP, hD0.self⟩ va_S.rf hl
theorem mX1_openLevel_0 : Cond.fieldLink RX1 54 "StreamRemuxer$ElementReader" "depth" "I" ∈ wsX1_openLevel := List.mem_cons_of_mem _ u_596
theorem mX1_openLevel_1 : Cond.fieldLink RX1 19 "StreamRemuxer$ElementReader" "levels" "[LStreamRemuxer$Level;" ∈ wsX1_openLevel := List.mem_cons_of_mem _ u_81
theorem mX1_openLevel_2 : Cond.fieldLink RX1 75 "StreamRemuxer$Level" "id" "I" ∈ wsX1_openLevel := List.mem_cons_of_mem _ u_602
theorem mX1_openLevel_3 : Cond.fieldLink RX1 78 "StreamRemuxer$Level" "missingPlace" "I" ∈ wsX1_openLevel := List.mem_cons_of_mem _ u_603
theorem mX1_openLevel_4 : Cond.fieldLink RX1 61 "StreamRemuxer$Level" "end" "I" ∈ wsX1_openLevel := List.mem_cons_of_mem _ u_597
theorem mX1_openLevel_5 : Cond.fieldLink RX1 81 "StreamRemuxer$Level" "seen" "I" ∈ wsX1_openLevel := List.mem_cons_of_mem _ u_604
theorem mX1_openLevel_6 : Cond.fieldLink RX1 84 "StreamRemuxer$Level" "tillCluster" "Z" ∈ wsX1_openLevel := List.mem_cons_of_mem _ u_605
theorem mX1_openLevel_7 : Cond.constant RX1 88 (524531317) ∈ wsX1_openLevel := List.mem_cons_of_mem _ u_606
theorem mX1_openLevel_8 : Cond.fieldLink RX1 89 "StreamRemuxer$ElementReader" "bodySize" "J" ∈ wsX1_openLevel := List.mem_cons_of_mem _ u_607
theorem mX1_openLevel_9 : Cond.constantLong RX1 45 (-1) ∈ wsX1_openLevel := List.mem_cons_of_mem _ u_593
theorem mX1_openLevel_10 : Cond.fieldLink RX1 39 "StreamRemuxer$ElementReader" "clusters" "I" ∈ wsX1_openLevel := List.mem_cons_of_mem _ u_591
theorem mX1_openLevel_11 : Cond.fieldLink RX1 51 "StreamRemuxer$ElementReader" "clusterTime" "J" ∈ wsX1_openLevel := List.mem_cons_of_mem _ u_595
theorem iX1_openLevel_X1 : ∀ w ∈ wsX10, w ∈ wsX1_openLevel := fun w h => List.mem_cons_of_mem _ (inlX1 w h)
theorem iX1_openLevel_X3 : ∀ w ∈ wsX30, w ∈ wsX1_openLevel := fun w h => List.mem_cons_of_mem _ (inlX3 w h)
set_option maxHeartbeats 4000000 in
set_option maxRecDepth 100000 in
theorem wX1_openLevel_b115 {p : Program} {l : Launch} {e : Env} {s : State} {m : MethodId} {args : Array Value} {below : List Frame} {meth : Method} {c : Code} {A : Nat → Prop} (D : va_G) (Y : Y4) (C : CX p s m meth c args cX1_openLevel 6 (some .int) wsX1_openLevel RX1) (hA : ∀ q : Nat, s.heap.size ≤ q → A q) (hK : va_K D vwCl (TY Y) s) (F : Nat) (a_h : Nat) (a_hv : Nat) (a_hg : (Nat → Nat)) (a_hz : Nat) (a_f : Nat) (a_p : Nat) (h_fault : Int32) (h_place : Int32) (h_clusters : Int32) (h_blocks : Int32) (h_depth : Int32) (h_trackNumber : Int64) (h_clusterTime : Int64) (h_bodySize : Int64) (h_lacingAt : Int32) (hg_id : (Nat → Int32)) (hg_missingPlace : (Nat → Int32)) (hg_end : (Nat → Int32)) (hg_seen : (Nat → Int32)) (hg_tillCluster : (Nat → Int32)) (p1 : Int32) (p2 : Int32) (p3 : Int32) (p4 : Int32) (res : Int32 × Int32 × Int32 × Int32 × Int32 × Int64 × (Nat → Int32) × (Nat → Int32) × (Nat → Int32) × (Nat → Int32) × (Nat → Int32)) (b115_f_h_2 : Int32) (b115_f_h_6 : Int32) (b115_f_h_10 : Int64) (b115_f_hg_0 : (Nat → Int32)) (b115_f_hg_1 : (Nat → Int32)) (b115_f_hg_2 : (Nat → Int32)) (b115_f_hg_3 : (Nat → Int32)) (b115_f_hg_4 : (Nat → Int32)) (hf : fX1_openLevel_b115 F h_fault h_place p3 b115_f_h_2 b115_f_h_6 b115_f_h_10 b115_f_hg_0 b115_f_hg_1 b115_f_hg_2 b115_f_hg_3 b115_f_hg_4 = some res) {H : Heap} {locs : List Loc} {ls : Array Slot} (wd : WD D A [oX1 a_h h_fault h_place b115_f_h_2 h_blocks (.ref a_hz) (.ref a_hv) b115_f_h_6 (.ref a_f) (.ref a_p) h_trackNumber b115_f_h_10 h_bodySize h_lacingAt, aV Y a_hv 5 (lvc a_hg), (oX3 (a_hg 0) (b115_f_hg_0 0) (b115_f_hg_1 0) (b115_f_hg_2 0) (b115_f_hg_3 0) (b115_f_hg_4 0)), (oX3 (a_hg 1) (b115_f_hg_0 1) (b115_f_hg_1 1) (b115_f_hg_2 1) (b115_f_hg_3 1) (b115_f_hg_4 1)), (oX3 (a_hg 2) (b115_f_hg_0 2) (b115_f_hg_1 2) (b115_f_hg_2 2) (b115_f_hg_3 2) (b115_f_hg_4 2)), (oX3 (a_hg 3) (b115_f_hg_0 3) (b115_f_hg_1 3) (b115_f_hg_2 3) (b115_f_hg_3 3) (b115_f_hg_4 3)), (oX3 (a_hg 4) (b115_f_hg_0 4) (b115_f_hg_1 4) (b115_f_hg_2 4) (b115_f_hg_3 4) (b115_f_hg_4 4))] H) (hS : va_S A s.heap H locs) (hl : lv_has ls 6 [(3, .int p3)]) : W p l e { frames := 1, cells := 0, slots := 0, locals := 22 } s m args below meth c H locs 0 0 (MQ below (va_Qi (fun r (_ : Unit) => r = res.1) (fun _ t => PST D Y A [oX1 a_h res.2.1 res.2.2.1 res.2.2.2.1 h_blocks (.ref a_hz) (.ref a_hv) res.2.2.2.2.1 (.ref a_f) (.ref a_p) h_trackNumber res.2.2.2.2.2.1 h_bodySize h_lacingAt, aV Y a_hv 5 (lvc a_hg), (oX3 (a_hg 0) (res.2.2.2.2.2.2.1 0) (res.2.2.2.2.2.2.2.1 0) (res.2.2.2.2.2.2.2.2.1 0) (res.2.2.2.2.2.2.2.2.2.1 0) (res.2.2.2.2.2.2.2.2.2.2 0)), (oX3 (a_hg 1) (res.2.2.2.2.2.2.1 1) (res.2.2.2.2.2.2.2.1 1) (res.2.2.2.2.2.2.2.2.1 1) (res.2.2.2.2.2.2.2.2.2.1 1) (res.2.2.2.2.2.2.2.2.2.2 1)), (oX3 (a_hg 2) (res.2.2.2.2.2.2.1 2) (res.2.2.2.2.2.2.2.1 2) (res.2.2.2.2.2.2.2.2.1 2) (res.2.2.2.2.2.2.2.2.2.1 2) (res.2.2.2.2.2.2.2.2.2.2 2)), (oX3 (a_hg 3) (res.2.2.2.2.2.2.1 3) (res.2.2.2.2.2.2.2.1 3) (res.2.2.2.2.2.2.2.2.1 3) (res.2.2.2.2.2.2.2.2.2.1 3) (res.2.2.2.2.2.2.2.2.2.2 3)), (oX3 (a_hg 4) (res.2.2.2.2.2.2.1 4) (res.2.2.2.2.2.2.2.1 4) (res.2.2.2.2.2.2.2.2.1 4) (res.2.2.2.2.2.2.2.2.2.1 4) (res.2.2.2.2.2.2.2.2.2.2 4))] t) A) args s 0 0 A) (F0 m 115 ls []) := by
  obtain ⟨hx, hb, hml, hr, hts, hown, hlocks⟩ := id C
  unfold fX1_openLevel_b115 at hf
  refine lv_iload_n hx hb dX1_openLevel_115 rfl (lv_at hl 0 rfl) ?_
  obtain rfl := Option.some.inj hf
  exact W.iret (v := p3) hx hb hr (fun t ht hW => ⟨⟨_, (), rfl, rfl, WD.pst wd hK ht hW⟩, hS.F ht⟩) hS.2.2 dX1_openLevel_116

set_option maxHeartbeats 4000000 in
set_option maxRecDepth 100000 in
theorem wX1_openLevel_b95 {p : Program} {l : Launch} {e : Env} {s : State} {m : MethodId} {args : Array Value} {below : List Frame} {meth : Method} {c : Code} {A : Nat → Prop} (D : va_G) (Y : Y4) (C : CX p s m meth c args cX1_openLevel 6 (some .int) wsX1_openLevel RX1) (hA : ∀ q : Nat, s.heap.size ≤ q → A q) (hK : va_K D vwCl (TY Y) s) (F : Nat) (a_h : Nat) (a_hv : Nat) (a_hg : (Nat → Nat)) (a_hz : Nat) (a_f : Nat) (a_p : Nat) (h_fault : Int32) (h_place : Int32) (h_clusters : Int32) (h_blocks : Int32) (h_depth : Int32) (h_trackNumber : Int64) (h_clusterTime : Int64) (h_bodySize : Int64) (h_lacingAt : Int32) (hg_id : (Nat → Int32)) (hg_missingPlace : (Nat → Int32)) (hg_end : (Nat → Int32)) (hg_seen : (Nat → Int32)) (hg_tillCluster : (Nat → Int32)) (p1 : Int32) (p2 : Int32) (p3 : Int32) (p4 : Int32) (res : Int32 × Int32 × Int32 × Int32 × Int32 × Int64 × (Nat → Int32) × (Nat → Int32) × (Nat → Int32) × (Nat → Int32) × (Nat → Int32)) (b95_s_0 : Int32) (b95_s_1 : Nat) (b95_f_h_6 : Int32) (b95_f_hg_0 : (Nat → Int32)) (b95_f_hg_1 : (Nat → Int32)) (b95_f_hg_2 : (Nat → Int32)) (b95_f_hg_3 : (Nat → Int32)) (b95_f_hg_4 : (Nat → Int32)) (hb95_s_1 : b95_s_1 < 5) (hf : fX1_openLevel_b95 F h_fault h_place h_clusters p3 b95_s_0 b95_s_1 b95_f_h_6 b95_f_hg_0 b95_f_hg_1 b95_f_hg_2 b95_f_hg_3 b95_f_hg_4 = some res) {H : Heap} {locs : List Loc} {ls : Array Slot} (wd : WD D A [oX1 a_h h_fault h_place h_clusters h_blocks (.ref a_hz) (.ref a_hv) b95_f_h_6 (.ref a_f) (.ref a_p) h_trackNumber h_clusterTime h_bodySize h_lacingAt, aV Y a_hv 5 (lvc a_hg), (oX3 (a_hg 0) (b95_f_hg_0 0) (b95_f_hg_1 0) (b95_f_hg_2 0) (b95_f_hg_3 0) (b95_f_hg_4 0)), (oX3 (a_hg 1) (b95_f_hg_0 1) (b95_f_hg_1 1) (b95_f_hg_2 1) (b95_f_hg_3 1) (b95_f_hg_4 1)), (oX3 (a_hg 2) (b95_f_hg_0 2) (b95_f_hg_1 2) (b95_f_hg_2 2) (b95_f_hg_3 2) (b95_f_hg_4 2)), (oX3 (a_hg 3) (b95_f_hg_0 3) (b95_f_hg_1 3) (b95_f_hg_2 3) (b95_f_hg_3 3) (b95_f_hg_4 3)), (oX3 (a_hg 4) (b95_f_hg_0 4) (b95_f_hg_1 4) (b95_f_hg_2 4) (b95_f_hg_3 4) (b95_f_hg_4 4))] H) (hS : va_S A s.heap H locs) (hl : lv_has ls 6 [(0, .ref a_h), (3, .int p3)]) : W p l e { frames := 1, cells := 0, slots := 0, locals := 22 } s m args below meth c H locs 0 0 (MQ below (va_Qi (fun r (_ : Unit) => r = res.1) (fun _ t => PST D Y A [oX1 a_h res.2.1 res.2.2.1 res.2.2.2.1 h_blocks (.ref a_hz) (.ref a_hv) res.2.2.2.2.1 (.ref a_f) (.ref a_p) h_trackNumber res.2.2.2.2.2.1 h_bodySize h_lacingAt, aV Y a_hv 5 (lvc a_hg), (oX3 (a_hg 0) (res.2.2.2.2.2.2.1 0) (res.2.2.2.2.2.2.2.1 0) (res.2.2.2.2.2.2.2.2.1 0) (res.2.2.2.2.2.2.2.2.2.1 0) (res.2.2.2.2.2.2.2.2.2.2 0)), (oX3 (a_hg 1) (res.2.2.2.2.2.2.1 1) (res.2.2.2.2.2.2.2.1 1) (res.2.2.2.2.2.2.2.2.1 1) (res.2.2.2.2.2.2.2.2.2.1 1) (res.2.2.2.2.2.2.2.2.2.2 1)), (oX3 (a_hg 2) (res.2.2.2.2.2.2.1 2) (res.2.2.2.2.2.2.2.1 2) (res.2.2.2.2.2.2.2.2.1 2) (res.2.2.2.2.2.2.2.2.2.1 2) (res.2.2.2.2.2.2.2.2.2.2 2)), (oX3 (a_hg 3) (res.2.2.2.2.2.2.1 3) (res.2.2.2.2.2.2.2.1 3) (res.2.2.2.2.2.2.2.2.1 3) (res.2.2.2.2.2.2.2.2.2.1 3) (res.2.2.2.2.2.2.2.2.2.2 3)), (oX3 (a_hg 4) (res.2.2.2.2.2.2.1 4) (res.2.2.2.2.2.2.2.1 4) (res.2.2.2.2.2.2.2.2.1 4) (res.2.2.2.2.2.2.2.2.2.1 4) (res.2.2.2.2.2.2.2.2.2.2 4))] t) A) args s 0 0 A) (F0 m 95 ls [.int b95_s_0, .ref (a_hg b95_s_1)]) := by
  obtain ⟨hx, hb, hml, hr, hts, hown, hlocks⟩ := id C
  unfold fX1_openLevel_b95 at hf
  obtain ⟨hz1, hf⟩ := gd hf
  have hv2 : ([oX1 a_h h_fault h_place h_clusters h_blocks (.ref a_hz) (.ref a_hv) b95_f_h_6 (.ref a_f) (.ref a_p) h_trackNumber h_clusterTime h_bodySize h_lacingAt, aV Y a_hv 5 (lvc a_hg), (oX3 (a_hg 0) (b95_f_hg_0 0) (b95_f_hg_1 0) (b95_f_hg_2 0) (b95_f_hg_3 0) (b95_f_hg_4 0)), (oX3 (a_hg 1) (b95_f_hg_0 1) (b95_f_hg_1 1) (b95_f_hg_2 1) (b95_f_hg_3 1) (b95_f_hg_4 1)), (oX3 (a_hg 2) (b95_f_hg_0 2) (b95_f_hg_1 2) (b95_f_hg_2 2) (b95_f_hg_3 2) (b95_f_hg_4 2)), (oX3 (a_hg 3) (b95_f_hg_0 3) (b95_f_hg_1 3) (b95_f_hg_2 3) (b95_f_hg_3 3) (b95_f_hg_4 3)), (oX3 (a_hg 4) (b95_f_hg_0 4) (b95_f_hg_1 4) (b95_f_hg_2 4) (b95_f_hg_3 4) (b95_f_hg_4 4))] : va_W)[2 + b95_s_1]? = some (oX3 (a_hg b95_s_1) (b95_f_hg_0 b95_s_1) (b95_f_hg_1 b95_s_1) (b95_f_hg_2 b95_s_1) (b95_f_hg_3 b95_s_1) (b95_f_hg_4 b95_s_1)) := by rcases lt5 hb95_s_1 with rfl | rfl | rfl | rfl | rfl <;> rfl
  refine va_put (D := D) (ci := 2) (v := .int b95_s_0) (ty := .boolean) (C := RX3) (T := TX3) (N := 5) hx hb hts iX1_openLevel_X3 tyX3 tyX3_ok nmX3 hown hK wd.1 wd.2 hS (2 + b95_s_1) hv2 rfl 4 (by decide) (hts _ mX1_openLevel_6) (fun _ h9 => h9) rfl (by decide +kernel) (isb_nar hz1) (isb_fit hz1) (Nat.le_of_ble_eq_true rfl) dX1_openLevel_95 (fun H locs hP hD hS => ?_)
  have hw3 : ([oX1 a_h h_fault h_place h_clusters h_blocks (.ref a_hz) (.ref a_hv) b95_f_h_6 (.ref a_f) (.ref a_p) h_trackNumber h_clusterTime h_bodySize h_lacingAt, aV Y a_hv 5 (lvc a_hg), (oX3 (a_hg 0) (b95_f_hg_0 0) (b95_f_hg_1 0) (b95_f_hg_2 0) (b95_f_hg_3 0) (b95_f_hg_4 0)), (oX3 (a_hg 1) (b95_f_hg_0 1) (b95_f_hg_1 1) (b95_f_hg_2 1) (b95_f_hg_3 1) (b95_f_hg_4 1)), (oX3 (a_hg 2) (b95_f_hg_0 2) (b95_f_hg_1 2) (b95_f_hg_2 2) (b95_f_hg_3 2) (b95_f_hg_4 2)), (oX3 (a_hg 3) (b95_f_hg_0 3) (b95_f_hg_1 3) (b95_f_hg_2 3) (b95_f_hg_3 3) (b95_f_hg_4 3)), (oX3 (a_hg 4) (b95_f_hg_0 4) (b95_f_hg_1 4) (b95_f_hg_2 4) (b95_f_hg_3 4) (b95_f_hg_4 4))] : va_W).set (2 + b95_s_1) (oX3 (a_hg b95_s_1) (b95_f_hg_0 b95_s_1) (b95_f_hg_1 b95_s_1) (b95_f_hg_2 b95_s_1) (b95_f_hg_3 b95_s_1) b95_s_0) = [oX1 a_h h_fault h_place h_clusters h_blocks (.ref a_hz) (.ref a_hv) b95_f_h_6 (.ref a_f) (.ref a_p) h_trackNumber h_clusterTime h_bodySize h_lacingAt, aV Y a_hv 5 (lvc a_hg), (oX3 (a_hg 0) (b95_f_hg_0 0) (b95_f_hg_1 0) (b95_f_hg_2 0) (b95_f_hg_3 0) ((upd b95_f_hg_4 b95_s_1 b95_s_0) 0)), (oX3 (a_hg 1) (b95_f_hg_0 1) (b95_f_hg_1 1) (b95_f_hg_2 1) (b95_f_hg_3 1) ((upd b95_f_hg_4 b95_s_1 b95_s_0) 1)), (oX3 (a_hg 2) (b95_f_hg_0 2) (b95_f_hg_1 2) (b95_f_hg_2 2) (b95_f_hg_3 2) ((upd b95_f_hg_4 b95_s_1 b95_s_0) 2)), (oX3 (a_hg 3) (b95_f_hg_0 3) (b95_f_hg_1 3) (b95_f_hg_2 3) (b95_f_hg_3 3) ((upd b95_f_hg_4 b95_s_1 b95_s_0) 3)), (oX3 (a_hg 4) (b95_f_hg_0 4) (b95_f_hg_1 4) (b95_f_hg_2 4) (b95_f_hg_3 4) ((upd b95_f_hg_4 b95_s_1 b95_s_0) 4))] := by rcases lt5 hb95_s_1 with rfl | rfl | rfl | rfl | rfl <;> rfl
  obtain ⟨z4, ez4⟩ : ∃ y : Nat → Int32, y = upd b95_f_hg_4 b95_s_1 b95_s_0 := ⟨_, rfl⟩
  have hf := nm_at hf ez4
  have wd : WD D A [oX1 a_h h_fault h_place h_clusters h_blocks (.ref a_hz) (.ref a_hv) b95_f_h_6 (.ref a_f) (.ref a_p) h_trackNumber h_clusterTime h_bodySize h_lacingAt, aV Y a_hv 5 (lvc a_hg), (oX3 (a_hg 0) (b95_f_hg_0 0) (b95_f_hg_1 0) (b95_f_hg_2 0) (b95_f_hg_3 0) (z4 0)), (oX3 (a_hg 1) (b95_f_hg_0 1) (b95_f_hg_1 1) (b95_f_hg_2 1) (b95_f_hg_3 1) (z4 1)), (oX3 (a_hg 2) (b95_f_hg_0 2) (b95_f_hg_1 2) (b95_f_hg_2 2) (b95_f_hg_3 2) (z4 2)), (oX3 (a_hg 3) (b95_f_hg_0 3) (b95_f_hg_1 3) (b95_f_hg_2 3) (b95_f_hg_3 3) (z4 3)), (oX3 (a_hg 4) (b95_f_hg_0 4) (b95_f_hg_1 4) (b95_f_hg_2 4) (b95_f_hg_3 4) (z4 4))] H := by rw [ez4, ← hw3]; exact ⟨hP, hD⟩
  clear hP hD
  refine lv_aload_n hx hb dX1_openLevel_98 rfl (lv_at hl 0 rfl) ?_
  refine lv_dup hx hb dX1_openLevel_99 rfl ?_
  refine va_get (D := D) (ci := 0) (v := .int h_clusters) (C := RX1) (T := TX1) (N := 13) hx hb hts iX1_openLevel_X1 hown hK wd.1 0 rfl rfl 2 (by decide) (hts _ mX1_openLevel_10) (fun _ h9 => h9) rfl dX1_openLevel_100 ?_
  refine lv_iconst (v := 1) hx hb dX1_openLevel_103 (by decide) ?_
  refine lv_iadd hx hb dX1_openLevel_104 ?_
  refine lv_topi (fun x5 ex5 => ?_)
  have hf := nm_at hf ex5
  refine va_put (D := D) (ci := 0) (v := .int x5) (ty := .int) (C := RX1) (T := TX1) (N := 13) hx hb hts iX1_openLevel_X1 tyX1 tyX1_ok nmX1 hown hK wd.1 wd.2 hS 0 rfl rfl 2 (by decide) (hts _ mX1_openLevel_10) (fun _ h9 => h9) rfl (by decide +kernel) rfl rfl (Nat.le_of_ble_eq_true rfl) dX1_openLevel_105 (fun H locs hP hD hS => ?_)
  have wd : WD D A [oX1 a_h h_fault h_place x5 h_blocks (.ref a_hz) (.ref a_hv) b95_f_h_6 (.ref a_f) (.ref a_p) h_trackNumber h_clusterTime h_bodySize h_lacingAt, aV Y a_hv 5 (lvc a_hg), (oX3 (a_hg 0) (b95_f_hg_0 0) (b95_f_hg_1 0) (b95_f_hg_2 0) (b95_f_hg_3 0) (z4 0)), (oX3 (a_hg 1) (b95_f_hg_0 1) (b95_f_hg_1 1) (b95_f_hg_2 1) (b95_f_hg_3 1) (z4 1)), (oX3 (a_hg 2) (b95_f_hg_0 2) (b95_f_hg_1 2) (b95_f_hg_2 2) (b95_f_hg_3 2) (z4 2)), (oX3 (a_hg 3) (b95_f_hg_0 3) (b95_f_hg_1 3) (b95_f_hg_2 3) (b95_f_hg_3 3) (z4 3)), (oX3 (a_hg 4) (b95_f_hg_0 4) (b95_f_hg_1 4) (b95_f_hg_2 4) (b95_f_hg_3 4) (z4 4))] H := ⟨hP, hD⟩
  clear hP hD
  refine lv_aload_n hx hb dX1_openLevel_108 rfl (lv_at hl 0 rfl) ?_
  refine lv_ldc2 hx hb hown (hts _ mX1_openLevel_9) dX1_openLevel_109 ?_
  refine va_put (D := D) (ci := 0) (v := .long (-1)) (ty := .long) (C := RX1) (T := TX1) (N := 13) hx hb hts iX1_openLevel_X1 tyX1 tyX1_ok nmX1 hown hK wd.1 wd.2 hS 0 rfl rfl 10 (by decide) (hts _ mX1_openLevel_11) (fun _ h9 => h9) rfl (by decide +kernel) rfl rfl (Nat.le_of_ble_eq_true rfl) dX1_openLevel_112 (fun H locs hP hD hS => ?_)
  have wd : WD D A [oX1 a_h h_fault h_place x5 h_blocks (.ref a_hz) (.ref a_hv) b95_f_h_6 (.ref a_f) (.ref a_p) h_trackNumber (-1) h_bodySize h_lacingAt, aV Y a_hv 5 (lvc a_hg), (oX3 (a_hg 0) (b95_f_hg_0 0) (b95_f_hg_1 0) (b95_f_hg_2 0) (b95_f_hg_3 0) (z4 0)), (oX3 (a_hg 1) (b95_f_hg_0 1) (b95_f_hg_1 1) (b95_f_hg_2 1) (b95_f_hg_3 1) (z4 1)), (oX3 (a_hg 2) (b95_f_hg_0 2) (b95_f_hg_1 2) (b95_f_hg_2 2) (b95_f_hg_3 2) (z4 2)), (oX3 (a_hg 3) (b95_f_hg_0 3) (b95_f_hg_1 3) (b95_f_hg_2 3) (b95_f_hg_3 3) (z4 3)), (oX3 (a_hg 4) (b95_f_hg_0 4) (b95_f_hg_1 4) (b95_f_hg_2 4) (b95_f_hg_3 4) (z4 4))] H := ⟨hP, hD⟩
  clear hP hD
  exact wX1_openLevel_b115 D Y C hA hK F a_h a_hv a_hg a_hz a_f a_p h_fault h_place h_clusters h_blocks h_depth h_trackNumber h_clusterTime h_bodySize h_lacingAt hg_id hg_missingPlace hg_end hg_seen hg_tillCluster p1 p2 p3 p4 _ x5 b95_f_h_6 (-1) b95_f_hg_0 b95_f_hg_1 b95_f_hg_2 b95_f_hg_3 z4 hf wd hS (lv_sub hl [1] rfl)

set_option maxHeartbeats 4000000 in
set_option maxRecDepth 100000 in
theorem wX1_openLevel {p : Program} {l : Launch} {e : Env} {s : State} {m : MethodId} {args : Array Value} {below : List Frame} {meth : Method} {c : Code} {A : Nat → Prop} (D : va_G) (Y : Y4) (C : CX p s m meth c args cX1_openLevel 6 (some .int) wsX1_openLevel RX1) (hA : ∀ q : Nat, s.heap.size ≤ q → A q) (hK : va_K D vwCl (TY Y) s) (F : Nat) (a_h : Nat) (a_hv : Nat) (a_hg : (Nat → Nat)) (a_hz : Nat) (a_f : Nat) (a_p : Nat) (h_fault : Int32) (h_place : Int32) (h_clusters : Int32) (h_blocks : Int32) (h_depth : Int32) (h_trackNumber : Int64) (h_clusterTime : Int64) (h_bodySize : Int64) (h_lacingAt : Int32) (hg_id : (Nat → Int32)) (hg_missingPlace : (Nat → Int32)) (hg_end : (Nat → Int32)) (hg_seen : (Nat → Int32)) (hg_tillCluster : (Nat → Int32)) (p1 : Int32) (p2 : Int32) (p3 : Int32) (p4 : Int32) (res : Int32 × Int32 × Int32 × Int32 × Int32 × Int64 × (Nat → Int32) × (Nat → Int32) × (Nat → Int32) × (Nat → Int32) × (Nat → Int32)) (hf : fX1_openLevel F h_fault h_place h_clusters h_depth h_clusterTime h_bodySize hg_id hg_missingPlace hg_end hg_seen hg_tillCluster p1 p2 p3 p4 = some res) {H : Heap} {locs : List Loc} {ls : Array Slot} (wd : WD D A [oX1 a_h h_fault h_place h_clusters h_blocks (.ref a_hz) (.ref a_hv) h_depth (.ref a_f) (.ref a_p) h_trackNumber h_clusterTime h_bodySize h_lacingAt, aV Y a_hv 5 (lvc a_hg), (oX3 (a_hg 0) (hg_id 0) (hg_missingPlace 0) (hg_end 0) (hg_seen 0) (hg_tillCluster 0)), (oX3 (a_hg 1) (hg_id 1) (hg_missingPlace 1) (hg_end 1) (hg_seen 1) (hg_tillCluster 1)), (oX3 (a_hg 2) (hg_id 2) (hg_missingPlace 2) (hg_end 2) (hg_seen 2) (hg_tillCluster 2)), (oX3 (a_hg 3) (hg_id 3) (hg_missingPlace 3) (hg_end 3) (hg_seen 3) (hg_tillCluster 3)), (oX3 (a_hg 4) (hg_id 4) (hg_missingPlace 4) (hg_end 4) (hg_seen 4) (hg_tillCluster 4))] H) (hS : va_S A s.heap H locs) (hl : lv_has ls 6 [(0, .ref a_h), (1, .int p1), (2, .int p2), (3, .int p3), (4, .int p4)]) : W p l e { frames := 1, cells := 0, slots := 0, locals := 22 } s m args below meth c H locs 0 0 (MQ below (va_Qi (fun r (_ : Unit) => r = res.1) (fun _ t => PST D Y A [oX1 a_h res.2.1 res.2.2.1 res.2.2.2.1 h_blocks (.ref a_hz) (.ref a_hv) res.2.2.2.2.1 (.ref a_f) (.ref a_p) h_trackNumber res.2.2.2.2.2.1 h_bodySize h_lacingAt, aV Y a_hv 5 (lvc a_hg), (oX3 (a_hg 0) (res.2.2.2.2.2.2.1 0) (res.2.2.2.2.2.2.2.1 0) (res.2.2.2.2.2.2.2.2.1 0) (res.2.2.2.2.2.2.2.2.2.1 0) (res.2.2.2.2.2.2.2.2.2.2 0)), (oX3 (a_hg 1) (res.2.2.2.2.2.2.1 1) (res.2.2.2.2.2.2.2.1 1) (res.2.2.2.2.2.2.2.2.1 1) (res.2.2.2.2.2.2.2.2.2.1 1) (res.2.2.2.2.2.2.2.2.2.2 1)), (oX3 (a_hg 2) (res.2.2.2.2.2.2.1 2) (res.2.2.2.2.2.2.2.1 2) (res.2.2.2.2.2.2.2.2.1 2) (res.2.2.2.2.2.2.2.2.2.1 2) (res.2.2.2.2.2.2.2.2.2.2 2)), (oX3 (a_hg 3) (res.2.2.2.2.2.2.1 3) (res.2.2.2.2.2.2.2.1 3) (res.2.2.2.2.2.2.2.2.1 3) (res.2.2.2.2.2.2.2.2.2.1 3) (res.2.2.2.2.2.2.2.2.2.2 3)), (oX3 (a_hg 4) (res.2.2.2.2.2.2.1 4) (res.2.2.2.2.2.2.2.1 4) (res.2.2.2.2.2.2.2.2.1 4) (res.2.2.2.2.2.2.2.2.2.1 4) (res.2.2.2.2.2.2.2.2.2.2 4))] t) A) args s 0 0 A) (F0 m 0 ls []) := by
  obtain ⟨hx, hb, hml, hr, hts, hown, hlocks⟩ := id C
  unfold fX1_openLevel at hf
  refine lv_aload_n hx hb dX1_openLevel_0 rfl (lv_at hl 0 rfl) ?_
  refine va_get (D := D) (ci := 0) (v := .int h_depth) (C := RX1) (T := TX1) (N := 13) hx hb hts iX1_openLevel_X1 hown hK wd.1 0 rfl rfl 6 (by decide) (hts _ mX1_openLevel_0) (fun _ h9 => h9) rfl dX1_openLevel_1 ?_
  refine lv_aload_n hx hb dX1_openLevel_4 rfl (lv_at hl 0 rfl) ?_
  refine va_get (D := D) (ci := 0) (v := .ref a_hv) (C := RX1) (T := TX1) (N := 13) hx hb hts iX1_openLevel_X1 hown hK wd.1 0 rfl rfl 5 (by decide) (hts _ mX1_openLevel_1) (fun _ h9 => h9) rfl dX1_openLevel_5 ?_
  refine va_alen hx hb hK wd.1 1 3 rfl rfl (v := 5) rfl dX1_openLevel_8 ?_
  refine lv_icmp_lt (tgt := 19) hx hb dX1_openLevel_9 (by decide) (fun q1 => ?_) (fun q1 => ?_)
  · have hf := ip hf q1
    refine lv_aload_n hx hb dX1_openLevel_19 rfl (lv_at hl 0 rfl) ?_
    refine va_get (D := D) (ci := 0) (v := .ref a_hv) (C := RX1) (T := TX1) (N := 13) hx hb hts iX1_openLevel_X1 hown hK wd.1 0 rfl rfl 5 (by decide) (hts _ mX1_openLevel_1) (fun _ h9 => h9) rfl dX1_openLevel_20 ?_
    refine lv_aload_n hx hb dX1_openLevel_23 rfl (lv_at hl 0 rfl) ?_
    refine va_get (D := D) (ci := 0) (v := .int h_depth) (C := RX1) (T := TX1) (N := 13) hx hb hts iX1_openLevel_X1 hown hK wd.1 0 rfl rfl 6 (by decide) (hts _ mX1_openLevel_0) (fun _ h9 => h9) rfl dX1_openLevel_24 ?_
    obtain ⟨hg2, hf⟩ := gd hf
    obtain ⟨j3, ej3⟩ : ∃ y : Nat, y = h_depth.toNatClampNeg := ⟨_, rfl⟩
    have hf := nm_at hf ej3
    have hj3 : j3 < 5 := by rw [ej3]; exact gin_lt hg2
    refine xlev hx hb hK wd.1 1 3 rfl rfl hg2 ej3 dX1_openLevel_27 ?_
    refine lv_astore (lv' := [(5, .ref (a_hg j3)), (0, .ref a_h), (1, .int p1), (2, .int p2), (3, .int p3), (4, .int p4)]) hx hb dX1_openLevel_28 hl (by decide) rfl (fun ls hl => ?_)
    refine lv_aload hx hb dX1_openLevel_30 (lv_at hl 0 rfl) ?_
    refine lv_iload_n hx hb dX1_openLevel_32 rfl (lv_at hl 2 rfl) ?_
    have hv4 : ([oX1 a_h h_fault h_place h_clusters h_blocks (.ref a_hz) (.ref a_hv) h_depth (.ref a_f) (.ref a_p) h_trackNumber h_clusterTime h_bodySize h_lacingAt, aV Y a_hv 5 (lvc a_hg), (oX3 (a_hg 0) (hg_id 0) (hg_missingPlace 0) (hg_end 0) (hg_seen 0) (hg_tillCluster 0)), (oX3 (a_hg 1) (hg_id 1) (hg_missingPlace 1) (hg_end 1) (hg_seen 1) (hg_tillCluster 1)), (oX3 (a_hg 2) (hg_id 2) (hg_missingPlace 2) (hg_end 2) (hg_seen 2) (hg_tillCluster 2)), (oX3 (a_hg 3) (hg_id 3) (hg_missingPlace 3) (hg_end 3) (hg_seen 3) (hg_tillCluster 3)), (oX3 (a_hg 4) (hg_id 4) (hg_missingPlace 4) (hg_end 4) (hg_seen 4) (hg_tillCluster 4))] : va_W)[2 + j3]? = some (oX3 (a_hg j3) (hg_id j3) (hg_missingPlace j3) (hg_end j3) (hg_seen j3) (hg_tillCluster j3)) := by rcases lt5 hj3 with rfl | rfl | rfl | rfl | rfl <;> rfl
    refine va_put (D := D) (ci := 2) (v := .int p1) (ty := .int) (C := RX3) (T := TX3) (N := 5) hx hb hts iX1_openLevel_X3 tyX3 tyX3_ok nmX3 hown hK wd.1 wd.2 hS (2 + j3) hv4 rfl 0 (by decide) (hts _ mX1_openLevel_2) (fun _ h9 => h9) rfl (by decide +kernel) rfl rfl (Nat.le_of_ble_eq_true rfl) dX1_openLevel_33 (fun H locs hP hD hS => ?_)
    have hw5 : ([oX1 a_h h_fault h_place h_clusters h_blocks (.ref a_hz) (.ref a_hv) h_depth (.ref a_f) (.ref a_p) h_trackNumber h_clusterTime h_bodySize h_lacingAt, aV Y a_hv 5 (lvc a_hg), (oX3 (a_hg 0) (hg_id 0) (hg_missingPlace 0) (hg_end 0) (hg_seen 0) (hg_tillCluster 0)), (oX3 (a_hg 1) (hg_id 1) (hg_missingPlace 1) (hg_end 1) (hg_seen 1) (hg_tillCluster 1)), (oX3 (a_hg 2) (hg_id 2) (hg_missingPlace 2) (hg_end 2) (hg_seen 2) (hg_tillCluster 2)), (oX3 (a_hg 3) (hg_id 3) (hg_missingPlace 3) (hg_end 3) (hg_seen 3) (hg_tillCluster 3)), (oX3 (a_hg 4) (hg_id 4) (hg_missingPlace 4) (hg_end 4) (hg_seen 4) (hg_tillCluster 4))] : va_W).set (2 + j3) (oX3 (a_hg j3) p1 (hg_missingPlace j3) (hg_end j3) (hg_seen j3) (hg_tillCluster j3)) = [oX1 a_h h_fault h_place h_clusters h_blocks (.ref a_hz) (.ref a_hv) h_depth (.ref a_f) (.ref a_p) h_trackNumber h_clusterTime h_bodySize h_lacingAt, aV Y a_hv 5 (lvc a_hg), (oX3 (a_hg 0) ((upd hg_id j3 p1) 0) (hg_missingPlace 0) (hg_end 0) (hg_seen 0) (hg_tillCluster 0)), (oX3 (a_hg 1) ((upd hg_id j3 p1) 1) (hg_missingPlace 1) (hg_end 1) (hg_seen 1) (hg_tillCluster 1)), (oX3 (a_hg 2) ((upd hg_id j3 p1) 2) (hg_missingPlace 2) (hg_end 2) (hg_seen 2) (hg_tillCluster 2)), (oX3 (a_hg 3) ((upd hg_id j3 p1) 3) (hg_missingPlace 3) (hg_end 3) (hg_seen 3) (hg_tillCluster 3)), (oX3 (a_hg 4) ((upd hg_id j3 p1) 4) (hg_missingPlace 4) (hg_end 4) (hg_seen 4) (hg_tillCluster 4))] := by rcases lt5 hj3 with rfl | rfl | rfl | rfl | rfl <;> rfl
    obtain ⟨z6, ez6⟩ : ∃ y : Nat → Int32, y = upd hg_id j3 p1 := ⟨_, rfl⟩
    have hf := nm_at hf ez6
    have wd : WD D A [oX1 a_h h_fault h_place h_clusters h_blocks (.ref a_hz) (.ref a_hv) h_depth (.ref a_f) (.ref a_p) h_trackNumber h_clusterTime h_bodySize h_lacingAt, aV Y a_hv 5 (lvc a_hg), (oX3 (a_hg 0) (z6 0) (hg_missingPlace 0) (hg_end 0) (hg_seen 0) (hg_tillCluster 0)), (oX3 (a_hg 1) (z6 1) (hg_missingPlace 1) (hg_end 1) (hg_seen 1) (hg_tillCluster 1)), (oX3 (a_hg 2) (z6 2) (hg_missingPlace 2) (hg_end 2) (hg_seen 2) (hg_tillCluster 2)), (oX3 (a_hg 3) (z6 3) (hg_missingPlace 3) (hg_end 3) (hg_seen 3) (hg_tillCluster 3)), (oX3 (a_hg 4) (z6 4) (hg_missingPlace 4) (hg_end 4) (hg_seen 4) (hg_tillCluster 4))] H := by rw [ez6, ← hw5]; exact ⟨hP, hD⟩
    clear hP hD
    refine lv_aload hx hb dX1_openLevel_36 (lv_at hl 0 rfl) ?_
    refine lv_iload_n hx hb dX1_openLevel_38 rfl (lv_at hl 3 rfl) ?_
    have hv7 : ([oX1 a_h h_fault h_place h_clusters h_blocks (.ref a_hz) (.ref a_hv) h_depth (.ref a_f) (.ref a_p) h_trackNumber h_clusterTime h_bodySize h_lacingAt, aV Y a_hv 5 (lvc a_hg), (oX3 (a_hg 0) (z6 0) (hg_missingPlace 0) (hg_end 0) (hg_seen 0) (hg_tillCluster 0)), (oX3 (a_hg 1) (z6 1) (hg_missingPlace 1) (hg_end 1) (hg_seen 1) (hg_tillCluster 1)), (oX3 (a_hg 2) (z6 2) (hg_missingPlace 2) (hg_end 2) (hg_seen 2) (hg_tillCluster 2)), (oX3 (a_hg 3) (z6 3) (hg_missingPlace 3) (hg_end 3) (hg_seen 3) (hg_tillCluster 3)), (oX3 (a_hg 4) (z6 4) (hg_missingPlace 4) (hg_end 4) (hg_seen 4) (hg_tillCluster 4))] : va_W)[2 + j3]? = some (oX3 (a_hg j3) (z6 j3) (hg_missingPlace j3) (hg_end j3) (hg_seen j3) (hg_tillCluster j3)) := by rcases lt5 hj3 with rfl | rfl | rfl | rfl | rfl <;> rfl
    refine va_put (D := D) (ci := 2) (v := .int p2) (ty := .int) (C := RX3) (T := TX3) (N := 5) hx hb hts iX1_openLevel_X3 tyX3 tyX3_ok nmX3 hown hK wd.1 wd.2 hS (2 + j3) hv7 rfl 1 (by decide) (hts _ mX1_openLevel_3) (fun _ h9 => h9) rfl (by decide +kernel) rfl rfl (Nat.le_of_ble_eq_true rfl) dX1_openLevel_39 (fun H locs hP hD hS => ?_)
    have hw8 : ([oX1 a_h h_fault h_place h_clusters h_blocks (.ref a_hz) (.ref a_hv) h_depth (.ref a_f) (.ref a_p) h_trackNumber h_clusterTime h_bodySize h_lacingAt, aV Y a_hv 5 (lvc a_hg), (oX3 (a_hg 0) (z6 0) (hg_missingPlace 0) (hg_end 0) (hg_seen 0) (hg_tillCluster 0)), (oX3 (a_hg 1) (z6 1) (hg_missingPlace 1) (hg_end 1) (hg_seen 1) (hg_tillCluster 1)), (oX3 (a_hg 2) (z6 2) (hg_missingPlace 2) (hg_end 2) (hg_seen 2) (hg_tillCluster 2)), (oX3 (a_hg 3) (z6 3) (hg_missingPlace 3) (hg_end 3) (hg_seen 3) (hg_tillCluster 3)), (oX3 (a_hg 4) (z6 4) (hg_missingPlace 4) (hg_end 4) (hg_seen 4) (hg_tillCluster 4))] : va_W).set (2 + j3) (oX3 (a_hg j3) (z6 j3) p2 (hg_end j3) (hg_seen j3) (hg_tillCluster j3)) = [oX1 a_h h_fault h_place h_clusters h_blocks (.ref a_hz) (.ref a_hv) h_depth (.ref a_f) (.ref a_p) h_trackNumber h_clusterTime h_bodySize h_lacingAt, aV Y a_hv 5 (lvc a_hg), (oX3 (a_hg 0) (z6 0) ((upd hg_missingPlace j3 p2) 0) (hg_end 0) (hg_seen 0) (hg_tillCluster 0)), (oX3 (a_hg 1) (z6 1) ((upd hg_missingPlace j3 p2) 1) (hg_end 1) (hg_seen 1) (hg_tillCluster 1)), (oX3 (a_hg 2) (z6 2) ((upd hg_missingPlace j3 p2) 2) (hg_end 2) (hg_seen 2) (hg_tillCluster 2)), (oX3 (a_hg 3) (z6 3) ((upd hg_missingPlace j3 p2) 3) (hg_end 3) (hg_seen 3) (hg_tillCluster 3)), (oX3 (a_hg 4) (z6 4) ((upd hg_missingPlace j3 p2) 4) (hg_end 4) (hg_seen 4) (hg_tillCluster 4))] := by rcases lt5 hj3 with rfl | rfl | rfl | rfl | rfl <;> rfl
    obtain ⟨z9, ez9⟩ : ∃ y : Nat → Int32, y = upd hg_missingPlace j3 p2 := ⟨_, rfl⟩
    have hf := nm_at hf ez9
    have wd : WD D A [oX1 a_h h_fault h_place h_clusters h_blocks (.ref a_hz) (.ref a_hv) h_depth (.ref a_f) (.ref a_p) h_trackNumber h_clusterTime h_bodySize h_lacingAt, aV Y a_hv 5 (lvc a_hg), (oX3 (a_hg 0) (z6 0) (z9 0) (hg_end 0) (hg_seen 0) (hg_tillCluster 0)), (oX3 (a_hg 1) (z6 1) (z9 1) (hg_end 1) (hg_seen 1) (hg_tillCluster 1)), (oX3 (a_hg 2) (z6 2) (z9 2) (hg_end 2) (hg_seen 2) (hg_tillCluster 2)), (oX3 (a_hg 3) (z6 3) (z9 3) (hg_end 3) (hg_seen 3) (hg_tillCluster 3)), (oX3 (a_hg 4) (z6 4) (z9 4) (hg_end 4) (hg_seen 4) (hg_tillCluster 4))] H := by rw [ez9, ← hw8]; exact ⟨hP, hD⟩
    clear hP hD
    refine lv_aload hx hb dX1_openLevel_42 (lv_at hl 0 rfl) ?_
    refine lv_iload hx hb dX1_openLevel_44 (lv_at hl 5 rfl) ?_
    have hv10 : ([oX1 a_h h_fault h_place h_clusters h_blocks (.ref a_hz) (.ref a_hv) h_depth (.ref a_f) (.ref a_p) h_trackNumber h_clusterTime h_bodySize h_lacingAt, aV Y a_hv 5 (lvc a_hg), (oX3 (a_hg 0) (z6 0) (z9 0) (hg_end 0) (hg_seen 0) (hg_tillCluster 0)), (oX3 (a_hg 1) (z6 1) (z9 1) (hg_end 1) (hg_seen 1) (hg_tillCluster 1)), (oX3 (a_hg 2) (z6 2) (z9 2) (hg_end 2) (hg_seen 2) (hg_tillCluster 2)), (oX3 (a_hg 3) (z6 3) (z9 3) (hg_end 3) (hg_seen 3) (hg_tillCluster 3)), (oX3 (a_hg 4) (z6 4) (z9 4) (hg_end 4) (hg_seen 4) (hg_tillCluster 4))] : va_W)[2 + j3]? = some (oX3 (a_hg j3) (z6 j3) (z9 j3) (hg_end j3) (hg_seen j3) (hg_tillCluster j3)) := by rcases lt5 hj3 with rfl | rfl | rfl | rfl | rfl <;> rfl
    refine va_put (D := D) (ci := 2) (v := .int p4) (ty := .int) (C := RX3) (T := TX3) (N := 5) hx hb hts iX1_openLevel_X3 tyX3 tyX3_ok nmX3 hown hK wd.1 wd.2 hS (2 + j3) hv10 rfl 2 (by decide) (hts _ mX1_openLevel_4) (fun _ h9 => h9) rfl (by decide +kernel) rfl rfl (Nat.le_of_ble_eq_true rfl) dX1_openLevel_46 (fun H locs hP hD hS => ?_)
    have hw11 : ([oX1 a_h h_fault h_place h_clusters h_blocks (.ref a_hz) (.ref a_hv) h_depth (.ref a_f) (.ref a_p) h_trackNumber h_clusterTime h_bodySize h_lacingAt, aV Y a_hv 5 (lvc a_hg), (oX3 (a_hg 0) (z6 0) (z9 0) (hg_end 0) (hg_seen 0) (hg_tillCluster 0)), (oX3 (a_hg 1) (z6 1) (z9 1) (hg_end 1) (hg_seen 1) (hg_tillCluster 1)), (oX3 (a_hg 2) (z6 2) (z9 2) (hg_end 2) (hg_seen 2) (hg_tillCluster 2)), (oX3 (a_hg 3) (z6 3) (z9 3) (hg_end 3) (hg_seen 3) (hg_tillCluster 3)), (oX3 (a_hg 4) (z6 4) (z9 4) (hg_end 4) (hg_seen 4) (hg_tillCluster 4))] : va_W).set (2 + j3) (oX3 (a_hg j3) (z6 j3) (z9 j3) p4 (hg_seen j3) (hg_tillCluster j3)) = [oX1 a_h h_fault h_place h_clusters h_blocks (.ref a_hz) (.ref a_hv) h_depth (.ref a_f) (.ref a_p) h_trackNumber h_clusterTime h_bodySize h_lacingAt, aV Y a_hv 5 (lvc a_hg), (oX3 (a_hg 0) (z6 0) (z9 0) ((upd hg_end j3 p4) 0) (hg_seen 0) (hg_tillCluster 0)), (oX3 (a_hg 1) (z6 1) (z9 1) ((upd hg_end j3 p4) 1) (hg_seen 1) (hg_tillCluster 1)), (oX3 (a_hg 2) (z6 2) (z9 2) ((upd hg_end j3 p4) 2) (hg_seen 2) (hg_tillCluster 2)), (oX3 (a_hg 3) (z6 3) (z9 3) ((upd hg_end j3 p4) 3) (hg_seen 3) (hg_tillCluster 3)), (oX3 (a_hg 4) (z6 4) (z9 4) ((upd hg_end j3 p4) 4) (hg_seen 4) (hg_tillCluster 4))] := by rcases lt5 hj3 with rfl | rfl | rfl | rfl | rfl <;> rfl
    obtain ⟨z12, ez12⟩ : ∃ y : Nat → Int32, y = upd hg_end j3 p4 := ⟨_, rfl⟩
    have hf := nm_at hf ez12
    have wd : WD D A [oX1 a_h h_fault h_place h_clusters h_blocks (.ref a_hz) (.ref a_hv) h_depth (.ref a_f) (.ref a_p) h_trackNumber h_clusterTime h_bodySize h_lacingAt, aV Y a_hv 5 (lvc a_hg), (oX3 (a_hg 0) (z6 0) (z9 0) (z12 0) (hg_seen 0) (hg_tillCluster 0)), (oX3 (a_hg 1) (z6 1) (z9 1) (z12 1) (hg_seen 1) (hg_tillCluster 1)), (oX3 (a_hg 2) (z6 2) (z9 2) (z12 2) (hg_seen 2) (hg_tillCluster 2)), (oX3 (a_hg 3) (z6 3) (z9 3) (z12 3) (hg_seen 3) (hg_tillCluster 3)), (oX3 (a_hg 4) (z6 4) (z9 4) (z12 4) (hg_seen 4) (hg_tillCluster 4))] H := by rw [ez12, ← hw11]; exact ⟨hP, hD⟩
    clear hP hD
    refine lv_aload hx hb dX1_openLevel_49 (lv_at hl 0 rfl) ?_
    refine lv_iconst (v := 0) hx hb dX1_openLevel_51 (by decide) ?_
    have hv13 : ([oX1 a_h h_fault h_place h_clusters h_blocks (.ref a_hz) (.ref a_hv) h_depth (.ref a_f) (.ref a_p) h_trackNumber h_clusterTime h_bodySize h_lacingAt, aV Y a_hv 5 (lvc a_hg), (oX3 (a_hg 0) (z6 0) (z9 0) (z12 0) (hg_seen 0) (hg_tillCluster 0)), (oX3 (a_hg 1) (z6 1) (z9 1) (z12 1) (hg_seen 1) (hg_tillCluster 1)), (oX3 (a_hg 2) (z6 2) (z9 2) (z12 2) (hg_seen 2) (hg_tillCluster 2)), (oX3 (a_hg 3) (z6 3) (z9 3) (z12 3) (hg_seen 3) (hg_tillCluster 3)), (oX3 (a_hg 4) (z6 4) (z9 4) (z12 4) (hg_seen 4) (hg_tillCluster 4))] : va_W)[2 + j3]? = some (oX3 (a_hg j3) (z6 j3) (z9 j3) (z12 j3) (hg_seen j3) (hg_tillCluster j3)) := by rcases lt5 hj3 with rfl | rfl | rfl | rfl | rfl <;> rfl
    refine va_put (D := D) (ci := 2) (v := .int 0) (ty := .int) (C := RX3) (T := TX3) (N := 5) hx hb hts iX1_openLevel_X3 tyX3 tyX3_ok nmX3 hown hK wd.1 wd.2 hS (2 + j3) hv13 rfl 3 (by decide) (hts _ mX1_openLevel_5) (fun _ h9 => h9) rfl (by decide +kernel) rfl rfl (Nat.le_of_ble_eq_true rfl) dX1_openLevel_52 (fun H locs hP hD hS => ?_)
    have hw14 : ([oX1 a_h h_fault h_place h_clusters h_blocks (.ref a_hz) (.ref a_hv) h_depth (.ref a_f) (.ref a_p) h_trackNumber h_clusterTime h_bodySize h_lacingAt, aV Y a_hv 5 (lvc a_hg), (oX3 (a_hg 0) (z6 0) (z9 0) (z12 0) (hg_seen 0) (hg_tillCluster 0)), (oX3 (a_hg 1) (z6 1) (z9 1) (z12 1) (hg_seen 1) (hg_tillCluster 1)), (oX3 (a_hg 2) (z6 2) (z9 2) (z12 2) (hg_seen 2) (hg_tillCluster 2)), (oX3 (a_hg 3) (z6 3) (z9 3) (z12 3) (hg_seen 3) (hg_tillCluster 3)), (oX3 (a_hg 4) (z6 4) (z9 4) (z12 4) (hg_seen 4) (hg_tillCluster 4))] : va_W).set (2 + j3) (oX3 (a_hg j3) (z6 j3) (z9 j3) (z12 j3) 0 (hg_tillCluster j3)) = [oX1 a_h h_fault h_place h_clusters h_blocks (.ref a_hz) (.ref a_hv) h_depth (.ref a_f) (.ref a_p) h_trackNumber h_clusterTime h_bodySize h_lacingAt, aV Y a_hv 5 (lvc a_hg), (oX3 (a_hg 0) (z6 0) (z9 0) (z12 0) ((upd hg_seen j3 0) 0) (hg_tillCluster 0)), (oX3 (a_hg 1) (z6 1) (z9 1) (z12 1) ((upd hg_seen j3 0) 1) (hg_tillCluster 1)), (oX3 (a_hg 2) (z6 2) (z9 2) (z12 2) ((upd hg_seen j3 0) 2) (hg_tillCluster 2)), (oX3 (a_hg 3) (z6 3) (z9 3) (z12 3) ((upd hg_seen j3 0) 3) (hg_tillCluster 3)), (oX3 (a_hg 4) (z6 4) (z9 4) (z12 4) ((upd hg_seen j3 0) 4) (hg_tillCluster 4))] := by rcases lt5 hj3 with rfl | rfl | rfl | rfl | rfl <;> rfl
    obtain ⟨z15, ez15⟩ : ∃ y : Nat → Int32, y = upd hg_seen j3 0 := ⟨_, rfl⟩
    have hf := nm_at hf ez15
    have wd : WD D A [oX1 a_h h_fault h_place h_clusters h_blocks (.ref a_hz) (.ref a_hv) h_depth (.ref a_f) (.ref a_p) h_trackNumber h_clusterTime h_bodySize h_lacingAt, aV Y a_hv 5 (lvc a_hg), (oX3 (a_hg 0) (z6 0) (z9 0) (z12 0) (z15 0) (hg_tillCluster 0)), (oX3 (a_hg 1) (z6 1) (z9 1) (z12 1) (z15 1) (hg_tillCluster 1)), (oX3 (a_hg 2) (z6 2) (z9 2) (z12 2) (z15 2) (hg_tillCluster 2)), (oX3 (a_hg 3) (z6 3) (z9 3) (z12 3) (z15 3) (hg_tillCluster 3)), (oX3 (a_hg 4) (z6 4) (z9 4) (z12 4) (z15 4) (hg_tillCluster 4))] H := by rw [ez15, ← hw14]; exact ⟨hP, hD⟩
    clear hP hD
    refine lv_aload hx hb dX1_openLevel_55 (lv_at hl 0 rfl) ?_
    refine lv_iconst (v := 0) hx hb dX1_openLevel_57 (by decide) ?_
    have hv16 : ([oX1 a_h h_fault h_place h_clusters h_blocks (.ref a_hz) (.ref a_hv) h_depth (.ref a_f) (.ref a_p) h_trackNumber h_clusterTime h_bodySize h_lacingAt, aV Y a_hv 5 (lvc a_hg), (oX3 (a_hg 0) (z6 0) (z9 0) (z12 0) (z15 0) (hg_tillCluster 0)), (oX3 (a_hg 1) (z6 1) (z9 1) (z12 1) (z15 1) (hg_tillCluster 1)), (oX3 (a_hg 2) (z6 2) (z9 2) (z12 2) (z15 2) (hg_tillCluster 2)), (oX3 (a_hg 3) (z6 3) (z9 3) (z12 3) (z15 3) (hg_tillCluster 3)), (oX3 (a_hg 4) (z6 4) (z9 4) (z12 4) (z15 4) (hg_tillCluster 4))] : va_W)[2 + j3]? = some (oX3 (a_hg j3) (z6 j3) (z9 j3) (z12 j3) (z15 j3) (hg_tillCluster j3)) := by rcases lt5 hj3 with rfl | rfl | rfl | rfl | rfl <;> rfl
    refine va_put (D := D) (ci := 2) (v := .int 0) (ty := .boolean) (C := RX3) (T := TX3) (N := 5) hx hb hts iX1_openLevel_X3 tyX3 tyX3_ok nmX3 hown hK wd.1 wd.2 hS (2 + j3) hv16 rfl 4 (by decide) (hts _ mX1_openLevel_6) (fun _ h9 => h9) rfl (by decide +kernel) rfl rfl (Nat.le_of_ble_eq_true rfl) dX1_openLevel_58 (fun H locs hP hD hS => ?_)
    have hw17 : ([oX1 a_h h_fault h_place h_clusters h_blocks (.ref a_hz) (.ref a_hv) h_depth (.ref a_f) (.ref a_p) h_trackNumber h_clusterTime h_bodySize h_lacingAt, aV Y a_hv 5 (lvc a_hg), (oX3 (a_hg 0) (z6 0) (z9 0) (z12 0) (z15 0) (hg_tillCluster 0)), (oX3 (a_hg 1) (z6 1) (z9 1) (z12 1) (z15 1) (hg_tillCluster 1)), (oX3 (a_hg 2) (z6 2) (z9 2) (z12 2) (z15 2) (hg_tillCluster 2)), (oX3 (a_hg 3) (z6 3) (z9 3) (z12 3) (z15 3) (hg_tillCluster 3)), (oX3 (a_hg 4) (z6 4) (z9 4) (z12 4) (z15 4) (hg_tillCluster 4))] : va_W).set (2 + j3) (oX3 (a_hg j3) (z6 j3) (z9 j3) (z12 j3) (z15 j3) 0) = [oX1 a_h h_fault h_place h_clusters h_blocks (.ref a_hz) (.ref a_hv) h_depth (.ref a_f) (.ref a_p) h_trackNumber h_clusterTime h_bodySize h_lacingAt, aV Y a_hv 5 (lvc a_hg), (oX3 (a_hg 0) (z6 0) (z9 0) (z12 0) (z15 0) ((upd hg_tillCluster j3 0) 0)), (oX3 (a_hg 1) (z6 1) (z9 1) (z12 1) (z15 1) ((upd hg_tillCluster j3 0) 1)), (oX3 (a_hg 2) (z6 2) (z9 2) (z12 2) (z15 2) ((upd hg_tillCluster j3 0) 2)), (oX3 (a_hg 3) (z6 3) (z9 3) (z12 3) (z15 3) ((upd hg_tillCluster j3 0) 3)), (oX3 (a_hg 4) (z6 4) (z9 4) (z12 4) (z15 4) ((upd hg_tillCluster j3 0) 4))] := by rcases lt5 hj3 with rfl | rfl | rfl | rfl | rfl <;> rfl
    obtain ⟨z18, ez18⟩ : ∃ y : Nat → Int32, y = upd hg_tillCluster j3 0 := ⟨_, rfl⟩
    have hf := nm_at hf ez18
    have wd : WD D A [oX1 a_h h_fault h_place h_clusters h_blocks (.ref a_hz) (.ref a_hv) h_depth (.ref a_f) (.ref a_p) h_trackNumber h_clusterTime h_bodySize h_lacingAt, aV Y a_hv 5 (lvc a_hg), (oX3 (a_hg 0) (z6 0) (z9 0) (z12 0) (z15 0) (z18 0)), (oX3 (a_hg 1) (z6 1) (z9 1) (z12 1) (z15 1) (z18 1)), (oX3 (a_hg 2) (z6 2) (z9 2) (z12 2) (z15 2) (z18 2)), (oX3 (a_hg 3) (z6 3) (z9 3) (z12 3) (z15 3) (z18 3)), (oX3 (a_hg 4) (z6 4) (z9 4) (z12 4) (z15 4) (z18 4))] H := by rw [ez18, ← hw17]; exact ⟨hP, hD⟩
    clear hP hD
    refine lv_aload_n hx hb dX1_openLevel_61 rfl (lv_at hl 1 rfl) ?_
    refine lv_dup hx hb dX1_openLevel_62 rfl ?_
    refine va_get (D := D) (ci := 0) (v := .int h_depth) (C := RX1) (T := TX1) (N := 13) hx hb hts iX1_openLevel_X1 hown hK wd.1 0 rfl rfl 6 (by decide) (hts _ mX1_openLevel_0) (fun _ h9 => h9) rfl dX1_openLevel_63 ?_
    refine lv_iconst (v := 1) hx hb dX1_openLevel_66 (by decide) ?_
    refine lv_iadd hx hb dX1_openLevel_67 ?_
    refine lv_topi (fun x19 ex19 => ?_)
    have hf := nm_at hf ex19
    refine va_put (D := D) (ci := 0) (v := .int x19) (ty := .int) (C := RX1) (T := TX1) (N := 13) hx hb hts iX1_openLevel_X1 tyX1 tyX1_ok nmX1 hown hK wd.1 wd.2 hS 0 rfl rfl 6 (by decide) (hts _ mX1_openLevel_0) (fun _ h9 => h9) rfl (by decide +kernel) rfl rfl (Nat.le_of_ble_eq_true rfl) dX1_openLevel_68 (fun H locs hP hD hS => ?_)
    have wd : WD D A [oX1 a_h h_fault h_place h_clusters h_blocks (.ref a_hz) (.ref a_hv) x19 (.ref a_f) (.ref a_p) h_trackNumber h_clusterTime h_bodySize h_lacingAt, aV Y a_hv 5 (lvc a_hg), (oX3 (a_hg 0) (z6 0) (z9 0) (z12 0) (z15 0) (z18 0)), (oX3 (a_hg 1) (z6 1) (z9 1) (z12 1) (z15 1) (z18 1)), (oX3 (a_hg 2) (z6 2) (z9 2) (z12 2) (z15 2) (z18 2)), (oX3 (a_hg 3) (z6 3) (z9 3) (z12 3) (z15 3) (z18 3)), (oX3 (a_hg 4) (z6 4) (z9 4) (z12 4) (z15 4) (z18 4))] H := ⟨hP, hD⟩
    clear hP hD
    refine lv_iload_n hx hb dX1_openLevel_71 rfl (lv_at hl 2 rfl) ?_
    refine lv_ldc hx hb hown (hts _ mX1_openLevel_7) dX1_openLevel_72 ?_
    refine lv_icmp_ne (tgt := 115) hx hb dX1_openLevel_74 (by decide) (fun q20 => ?_) (fun q20 => ?_)
    · have hf := ie hf q20
      exact wX1_openLevel_b115 D Y C hA hK F a_h a_hv a_hg a_hz a_f a_p h_fault h_place h_clusters h_blocks h_depth h_trackNumber h_clusterTime h_bodySize h_lacingAt hg_id hg_missingPlace hg_end hg_seen hg_tillCluster p1 p2 p3 p4 _ h_clusters x19 h_clusterTime z6 z9 z12 z15 z18 hf wd hS (lv_sub hl [4] rfl)
    · have hf := ip hf q20
      refine lv_aload hx hb dX1_openLevel_77 (lv_at hl 0 rfl) ?_
      refine lv_aload_n hx hb dX1_openLevel_79 rfl (lv_at hl 1 rfl) ?_
      refine va_get (D := D) (ci := 0) (v := .long h_bodySize) (C := RX1) (T := TX1) (N := 13) hx hb hts iX1_openLevel_X1 hown hK wd.1 0 rfl rfl 11 (by decide) (hts _ mX1_openLevel_8) (fun _ h9 => h9) rfl dX1_openLevel_80 ?_
      refine lv_ldc2 hx hb hown (hts _ mX1_openLevel_9) dX1_openLevel_83 ?_
      refine xl_ne (tgt := 94) hx hb dX1_openLevel_86 dX1_openLevel_87 (by decide) (fun q21 => ?_) (fun q21 => ?_)
      · have hf := ie hf q21
        refine lv_iconst (v := 0) hx hb dX1_openLevel_94 (by decide) ?_
        exact wX1_openLevel_b95 D Y C hA hK F a_h a_hv a_hg a_hz a_f a_p h_fault h_place h_clusters h_blocks h_depth h_trackNumber h_clusterTime h_bodySize h_lacingAt hg_id hg_missingPlace hg_end hg_seen hg_tillCluster p1 p2 p3 p4 _ 0 j3 x19 z6 z9 z12 z15 z18 hj3 hf wd hS (lv_sub hl [1, 4] rfl)
      · have hf := ip hf q21
        refine lv_iconst (v := 1) hx hb dX1_openLevel_90 (by decide) ?_
        refine lv_goto (tgt := 95) hx hb dX1_openLevel_91 (by decide) ?_
        exact wX1_openLevel_b95 D Y C hA hK F a_h a_hv a_hg a_hz a_f a_p h_fault h_place h_clusters h_blocks h_depth h_trackNumber h_clusterTime h_bodySize h_lacingAt hg_id hg_missingPlace hg_end hg_seen hg_tillCluster p1 p2 p3 p4 _ 1 j3 x19 z6 z9 z12 z15 z18 hj3 hf wd hS (lv_sub hl [1, 4] rfl)
  · have hf := ie hf q1
    refine lv_aload_n hx hb dX1_openLevel_12 rfl (lv_at hl 0 rfl) ?_
    refine lv_iconst (v := 2) hx hb dX1_openLevel_13 (by decide) ?_
    refine lv_iload_n hx hb dX1_openLevel_14 rfl (lv_at hl 2 rfl) ?_
    obtain ⟨o22, ho22, hf⟩ := ob hf
    refine xj_i (va_runV (As := [.int 2, .int p2]) (rest := []) ⟨hx, hb, hml, hown, hts⟩ (kX1_fail l D Y F a_h a_hz a_hv a_f a_p H.size h_fault h_place h_clusters h_blocks h_depth h_trackNumber h_clusterTime h_bodySize h_lacingAt 2 p2 o22 ho22) (cwV 2 hts gX1_openLevel_X1_fail rfl rfl rfl (by decide +kernel) ⟨Nat.le_of_ble_eq_true rfl, Nat.le_of_ble_eq_true rfl⟩) (prev_w (ci := 0) rfl rfl hK wd [0] rfl (by decide)) rfl rfl hl.1 rfl (lv_room (Nat.le_of_ble_eq_true rfl)) dX1_openLevel_15 ⟨Nat.zero_le _, Nat.zero_le _⟩) wd hS hA [0] [1, 2, 3, 4, 5, 6] rfl rfl (by decide) (by decide) (fun H locs wd hS => ?_)
    have wd : WD D A [aV Y a_hv 5 (lvc a_hg), (oX3 (a_hg 0) (hg_id 0) (hg_missingPlace 0) (hg_end 0) (hg_seen 0) (hg_tillCluster 0)), (oX3 (a_hg 1) (hg_id 1) (hg_missingPlace 1) (hg_end 1) (hg_seen 1) (hg_tillCluster 1)), (oX3 (a_hg 2) (hg_id 2) (hg_missingPlace 2) (hg_end 2) (hg_seen 2) (hg_tillCluster 2)), (oX3 (a_hg 3) (hg_id 3) (hg_missingPlace 3) (hg_end 3) (hg_seen 3) (hg_tillCluster 3)), (oX3 (a_hg 4) (hg_id 4) (hg_missingPlace 4) (hg_end 4) (hg_seen 4) (hg_tillCluster 4)), oX1 a_h o22.2.1 o22.2.2 h_clusters h_blocks (.ref a_hz) (.ref a_hv) h_depth (.ref a_f) (.ref a_p) h_trackNumber h_clusterTime h_bodySize h_lacingAt] H := wd
    obtain rfl := Option.some.inj hf
    exact W.iret (v := o22.1) hx hb hr (fun t ht hW => ⟨⟨_, (), rfl, rfl, WD.pst (wd.sub [6, 0, 1, 2, 3, 4, 5] rfl (by decide)) hK ht hW⟩, hS.F ht⟩) hS.2.2 dX1_openLevel_18
set_option maxHeartbeats 4000000 in
set_option maxRecDepth 100000 in
theorem kX1_openLevel (l : Launch) (D : va_G) (Y : Y4) (F : Nat) (a_h : Nat) (a_hv : Nat) (a_hg : (Nat → Nat)) (a_hz : Nat) (a_f : Nat) (a_p : Nat) (sz : Nat) (h_fault : Int32) (h_place : Int32) (h_clusters : Int32) (h_blocks : Int32) (h_depth : Int32) (h_trackNumber : Int64) (h_clusterTime : Int64) (h_bodySize : Int64) (h_lacingAt : Int32) (hg_id : (Nat → Int32)) (hg_missingPlace : (Nat → Int32)) (hg_end : (Nat → Int32)) (hg_seen : (Nat → Int32)) (hg_tillCluster : (Nat → Int32)) (p1 : Int32) (p2 : Int32) (p3 : Int32) (p4 : Int32) (res : Int32 × Int32 × Int32 × Int32 × Int32 × Int64 × (Nat → Int32) × (Nat → Int32) × (Nat → Int32) × (Nat → Int32) × (Nat → Int32)) (hf : fX1_openLevel F h_fault h_place h_clusters h_depth h_clusterTime h_bodySize hg_id hg_missingPlace hg_end hg_seen hg_tillCluster p1 p2 p3 p4 = some res) : Met l yX1_openLevel wsX1_openLevel ({ frames := 1, cells := 0, slots := 0, locals := 22 }) (va_Pc [.ref a_h, .int p1, .int p2, .int p3, .int p4] (PRE D Y [oX1 a_h h_fault h_place h_clusters h_blocks (.ref a_hz) (.ref a_hv) h_depth (.ref a_f) (.ref a_p) h_trackNumber h_clusterTime h_bodySize h_lacingAt, aV Y a_hv 5 (lvc a_hg), (oX3 (a_hg 0) (hg_id 0) (hg_missingPlace 0) (hg_end 0) (hg_seen 0) (hg_tillCluster 0)), (oX3 (a_hg 1) (hg_id 1) (hg_missingPlace 1) (hg_end 1) (hg_seen 1) (hg_tillCluster 1)), (oX3 (a_hg 2) (hg_id 2) (hg_missingPlace 2) (hg_end 2) (hg_seen 2) (hg_tillCluster 2)), (oX3 (a_hg 3) (hg_id 3) (hg_missingPlace 3) (hg_end 3) (hg_seen 3) (hg_tillCluster 3)), (oX3 (a_hg 4) (hg_id 4) (hg_missingPlace 4) (hg_end 4) (hg_seen 4) (hg_tillCluster 4))] sz)) (va_Qi (fun r (_ : Unit) => r = res.1) (fun _ t => PST D Y (va_A [oX1 a_h h_fault h_place h_clusters h_blocks (.ref a_hz) (.ref a_hv) h_depth (.ref a_f) (.ref a_p) h_trackNumber h_clusterTime h_bodySize h_lacingAt, aV Y a_hv 5 (lvc a_hg), (oX3 (a_hg 0) (hg_id 0) (hg_missingPlace 0) (hg_end 0) (hg_seen 0) (hg_tillCluster 0)), (oX3 (a_hg 1) (hg_id 1) (hg_missingPlace 1) (hg_end 1) (hg_seen 1) (hg_tillCluster 1)), (oX3 (a_hg 2) (hg_id 2) (hg_missingPlace 2) (hg_end 2) (hg_seen 2) (hg_tillCluster 2)), (oX3 (a_hg 3) (hg_id 3) (hg_missingPlace 3) (hg_end 3) (hg_seen 3) (hg_tillCluster 3)), (oX3 (a_hg 4) (hg_id 4) (hg_missingPlace 4) (hg_end 4) (hg_seen 4) (hg_tillCluster 4))] sz) [oX1 a_h res.2.1 res.2.2.1 res.2.2.2.1 h_blocks (.ref a_hz) (.ref a_hv) res.2.2.2.2.1 (.ref a_f) (.ref a_p) h_trackNumber res.2.2.2.2.2.1 h_bodySize h_lacingAt, aV Y a_hv 5 (lvc a_hg), (oX3 (a_hg 0) (res.2.2.2.2.2.2.1 0) (res.2.2.2.2.2.2.2.1 0) (res.2.2.2.2.2.2.2.2.1 0) (res.2.2.2.2.2.2.2.2.2.1 0) (res.2.2.2.2.2.2.2.2.2.2 0)), (oX3 (a_hg 1) (res.2.2.2.2.2.2.1 1) (res.2.2.2.2.2.2.2.1 1) (res.2.2.2.2.2.2.2.2.1 1) (res.2.2.2.2.2.2.2.2.2.1 1) (res.2.2.2.2.2.2.2.2.2.2 1)), (oX3 (a_hg 2) (res.2.2.2.2.2.2.1 2) (res.2.2.2.2.2.2.2.1 2) (res.2.2.2.2.2.2.2.2.1 2) (res.2.2.2.2.2.2.2.2.2.1 2) (res.2.2.2.2.2.2.2.2.2.2 2)), (oX3 (a_hg 3) (res.2.2.2.2.2.2.1 3) (res.2.2.2.2.2.2.2.1 3) (res.2.2.2.2.2.2.2.2.1 3) (res.2.2.2.2.2.2.2.2.2.1 3) (res.2.2.2.2.2.2.2.2.2.2 3)), (oX3 (a_hg 4) (res.2.2.2.2.2.2.1 4) (res.2.2.2.2.2.2.2.1 4) (res.2.2.2.2.2.2.2.2.1 4) (res.2.2.2.2.2.2.2.2.2.1 4) (res.2.2.2.2.2.2.2.2.2.2 4))] t) (va_A [oX1 a_h h_fault h_place h_clusters h_blocks (.ref a_hz) (.ref a_hv) h_depth (.ref a_f) (.ref a_p) h_trackNumber h_clusterTime h_bodySize h_lacingAt, aV Y a_hv 5 (lvc a_hg), (oX3 (a_hg 0) (hg_id 0) (hg_missingPlace 0) (hg_end 0) (hg_seen 0) (hg_tillCluster 0)), (oX3 (a_hg 1) (hg_id 1) (hg_missingPlace 1) (hg_end 1) (hg_seen 1) (hg_tillCluster 1)), (oX3 (a_hg 2) (hg_id 2) (hg_missingPlace 2) (hg_end 2) (hg_seen 2) (hg_tillCluster 2)), (oX3 (a_hg 3) (hg_id 3) (hg_missingPlace 3) (hg_end 3) (hg_seen 3) (hg_tillCluster 3)), (oX3 (a_hg 4) (hg_id 4) (hg_missingPlace 4) (hg_end 4) (hg_seen 4) (hg_tillCluster 4))] sz)) 0 0 (va_A [oX1 a_h h_fault h_place h_clusters h_blocks (.ref a_hz) (.ref a_hv) h_depth (.ref a_f) (.ref a_p) h_trackNumber h_clusterTime h_bodySize h_lacingAt, aV Y a_hv 5 (lvc a_hg), (oX3 (a_hg 0) (hg_id 0) (hg_missingPlace 0) (hg_end 0) (hg_seen 0) (hg_tillCluster 0)), (oX3 (a_hg 1) (hg_id 1) (hg_missingPlace 1) (hg_end 1) (hg_seen 1) (hg_tillCluster 1)), (oX3 (a_hg 2) (hg_id 2) (hg_missingPlace 2) (hg_end 2) (hg_seen 2) (hg_tillCluster 2)), (oX3 (a_hg 3) (hg_id 3) (hg_missingPlace 3) (hg_end 3) (hg_seen 3) (hg_tillCluster 3)), (oX3 (a_hg 4) (hg_id 4) (hg_missingPlace 4) (hg_end 4) (hg_seen 4) (hg_tillCluster 4))] sz) := by
  refine Met.ofW (cc := cX1_openLevel) (maxL := 6) (ret := (some .int)) (by decide) rfl ?_
  intro p e s m args below meth c s₁ B hml hv
  obtain ⟨rfl, rfl, hP, hK, hD0⟩ := hv
  have hl := lv_entry ([.ref a_h, .int p1, .int p2, .int p3, .int p4]) (n := 6) (Nat.le_of_ble_eq_true rfl)
  rw [lg_entry_eq]
  exact wX1_openLevel D Y ⟨B.exec, B.bytes, hml, B.returns, atoms_spec (ws := wsX1_openLevel) B.pre, findClass_of_methodNamed B.named, B.notSynchronized⟩ (fun q h => Or.inr h) hK F a_h a_hv a_hg a_hz a_f a_p h_fault h_place h_clusters h_blocks h_depth h_trackNumber h_clusterTime h_bodySize h_lacingAt hg_id hg_missingPlace hg_end hg_seen hg_tillCluster p1 p2 p3 p4 res hf ⟨hP, hD0.self⟩ va_S.rf hl

set_option maxHeartbeats 4000000 in
set_option maxRecDepth 100000 in
theorem wX1_markedWidth_b2 {p : Program} {l : Launch} {e : Env} {s : State} {m : MethodId} {args : Array Value} {below : List Frame} {meth : Method} {c : Code} {A : Nat → Prop} (D : va_G) (Y : Y4) (C : CX p s m meth c args cX1_markedWidth 2 (some .int) wsX1_markedWidth RX1) (hA : ∀ q : Nat, s.heap.size ≤ q → A q) (hK : va_K D vwCl (TY Y) s) (F : Nat) (p0 : Int32) (res : Int32) : ∀ (n : Nat) (b2_l_1 : Int32), fX1_markedWidth_b2 F p0 n b2_l_1 = some res → ∀ {H : Heap} {locs : List Loc} {ls : Array Slot}, WD D A [] H → va_S A s.heap H locs → lv_has ls 2 [(0, .int p0), (1, .int b2_l_1)] → W p l e { frames := 0, cells := 0, slots := 0, locals := 0 } s m args below meth c H locs 0 0 (MQ below (va_Qi (fun r (_ : Unit) => r = res) (fun _ t => PST D Y A [] t) A) args s 0 0 A) (F0 m 2 ls []) := by
  obtain ⟨hx, hb, hml, hr, hts, hown, hlocks⟩ := id C
  intro n
  induction n with
  | zero => intro b2_l_1 hf; exact absurd hf (by simp [fX1_markedWidth_b2])
  | succ n ih =>
    intro b2_l_1 hf H locs ls wd hS hl
    unfold fX1_markedWidth_b2 at hf
    refine lv_iload_n hx hb dX1_markedWidth_2 rfl (lv_at hl 1 rfl) ?_
    refine lv_bipush (v := 8) hx hb dX1_markedWidth_3 (by decide) ?_
    refine lv_icmp_gt (tgt := 26) hx hb dX1_markedWidth_5 (by decide) (fun q1 => ?_) (fun q1 => ?_)
    · have hf := ip hf q1
      refine lv_iconst (v := 0) hx hb dX1_markedWidth_26 (by decide) ?_
      obtain rfl := Option.some.inj hf
      exact W.iret (v := 0) hx hb hr (fun t ht hW => ⟨⟨_, (), rfl, rfl, WD.pst wd hK ht hW⟩, hS.F ht⟩) hS.2.2 dX1_markedWidth_27
    · have hf := ie hf q1
      refine lv_iload_n hx hb dX1_markedWidth_8 rfl (lv_at hl 0 rfl) ?_
      refine lv_sipush (v := 256) hx hb dX1_markedWidth_9 (by decide) ?_
      refine lv_iload_n hx hb dX1_markedWidth_12 rfl (lv_at hl 1 rfl) ?_
      refine lv_ishr hx hb dX1_markedWidth_13 ?_
      refine lv_iand hx hb dX1_markedWidth_14 ?_
      refine lv_if_eq (tgt := 20) hx hb dX1_markedWidth_15 (by decide) (fun q2 => ?_) (fun q2 => ?_)
      · have hf := ip hf q2
        obtain ⟨x3, ex3⟩ : ∃ y : Int32, y = b2_l_1 + 1 := ⟨_, rfl⟩
        have hf := nm_at hf ex3
        refine lv_iinc (v := x3) (lv' := [(1, .int x3), (0, .int p0)]) hx hb dX1_markedWidth_20 hl (k := 1) rfl (by rw [ex3]; rfl) (by decide) rfl (fun ls hl => ?_)
        refine lv_goto (tgt := 2) hx hb dX1_markedWidth_23 (by decide) ?_
        exact ih x3 hf wd hS (lv_sub hl [1, 0] rfl)
      · have hf := ie hf q2
        refine lv_iload_n hx hb dX1_markedWidth_18 rfl (lv_at hl 1 rfl) ?_
        obtain rfl := Option.some.inj hf
        exact W.iret (v := b2_l_1) hx hb hr (fun t ht hW => ⟨⟨_, (), rfl, rfl, WD.pst wd hK ht hW⟩, hS.F ht⟩) hS.2.2 dX1_markedWidth_19

set_option maxHeartbeats 4000000 in
set_option maxRecDepth 100000 in
theorem wX1_markedWidth {p : Program} {l : Launch} {e : Env} {s : State} {m : MethodId} {args : Array Value} {below : List Frame} {meth : Method} {c : Code} {A : Nat → Prop} (D : va_G) (Y : Y4) (C : CX p s m meth c args cX1_markedWidth 2 (some .int) wsX1_markedWidth RX1) (hA : ∀ q : Nat, s.heap.size ≤ q → A q) (hK : va_K D vwCl (TY Y) s) (F : Nat) (p0 : Int32) (res : Int32) (hf : fX1_markedWidth F p0 = some res) {H : Heap} {locs : List Loc} {ls : Array Slot} (wd : WD D A [] H) (hS : va_S A s.heap H locs) (hl : lv_has ls 2 [(0, .int p0)]) : W p l e { frames := 0, cells := 0, slots := 0, locals := 0 } s m args below meth c H locs 0 0 (MQ below (va_Qi (fun r (_ : Unit) => r = res) (fun _ t => PST D Y A [] t) A) args s 0 0 A) (F0 m 0 ls []) := by
  obtain ⟨hx, hb, hml, hr, hts, hown, hlocks⟩ := id C
  unfold fX1_markedWidth at hf
  refine lv_iconst (v := 1) hx hb dX1_markedWidth_0 (by decide) ?_
  refine lv_istore_n (lv' := [(1, .int 1), (0, .int p0)]) hx hb dX1_markedWidth_1 rfl hl (by decide) rfl (fun ls hl => ?_)
  exact wX1_markedWidth_b2 D Y C hA hK F  p0 _ F 1 hf wd hS (lv_sub hl [1, 0] rfl)
set_option maxHeartbeats 4000000 in
set_option maxRecDepth 100000 in
theorem kX1_markedWidth (l : Launch) (D : va_G) (Y : Y4) (F : Nat) (sz : Nat) (p0 : Int32) (res : Int32) (hf : fX1_markedWidth F p0 = some res) : Met l yX1_markedWidth wsX1_markedWidth ({ frames := 0, cells := 0, slots := 0, locals := 0 }) (va_Pc [.int p0] (PRE D Y [] sz)) (va_Qi (fun r (_ : Unit) => r = res) (fun _ t => PST D Y (va_A [] sz) [] t) (va_A [] sz)) 0 0 (va_A [] sz) := by
  refine Met.ofW (cc := cX1_markedWidth) (maxL := 2) (ret := (some .int)) (by decide) rfl ?_
  intro p e s m args below meth c s₁ B hml hv
  obtain ⟨rfl, rfl, hP, hK, hD0⟩ := hv
  have hl := lv_entry ([.int p0]) (n := 2) (Nat.le_of_ble_eq_true rfl)
  rw [lg_entry_eq]
  exact wX1_markedWidth D Y ⟨B.exec, B.bytes, hml, B.returns, atoms_spec (ws := wsX1_markedWidth) B.pre, findClass_of_methodNamed B.named, B.notSynchronized⟩ (fun q h => Or.inr h) hK F p0 res hf ⟨hP, hD0.self⟩ va_S.rf hl
theorem mX1_readId_0 : Cond.fieldLink RX1 24 "StreamRemuxer$ElementReader" "file" "LStreamRemuxer$Row;" ∈ wsX1_readId := List.mem_cons_of_mem _ u_587
theorem iX1_readId_X1 : ∀ w ∈ wsX10, w ∈ wsX1_readId := fun w h => List.mem_cons_of_mem _ (inlX1 w h)
set_option maxHeartbeats 4000000 in
set_option maxRecDepth 100000 in
theorem wX1_readId_b21 {p : Program} {l : Launch} {e : Env} {s : State} {m : MethodId} {args : Array Value} {below : List Frame} {meth : Method} {c : Code} {A : Nat → Prop} (D : va_G) (Y : Y4) (C : CX p s m meth c args cX1_readId 4 (some .int) wsX1_readId RX1) (hA : ∀ q : Nat, s.heap.size ≤ q → A q) (hK : va_K D vwCl (TY Y) s) (F : Nat) (a_h : Nat) (a_f : Nat) (a_fw : Nat) (a_hz : Nat) (a_hv : Nat) (a_p : Nat) (h_fault : Int32) (h_place : Int32) (h_clusters : Int32) (h_blocks : Int32) (h_depth : Int32) (h_trackNumber : Int64) (h_clusterTime : Int64) (h_bodySize : Int64) (h_lacingAt : Int32) (f_most : Int32) (f_length : Int32) (f_overfull : Int32) (fw_n : Nat) (c_fw : (Nat → Int32)) (p1 : Int32) (p2 : Int32) (res : Int32 × Int32 × Int32) (hf : fX1_readId_b21 F p1 = some res) {H : Heap} {locs : List Loc} {ls : Array Slot} (wd : WD D A [oX1 a_h h_fault h_place h_clusters h_blocks (.ref a_hz) (.ref a_hv) h_depth (.ref a_f) (.ref a_p) h_trackNumber h_clusterTime h_bodySize h_lacingAt, oX8 a_f (.ref a_fw) f_most f_length f_overfull, aI Y a_fw fw_n c_fw] H) (hS : va_S A s.heap H locs) (hl : lv_has ls 4 [(0, .ref a_h), (1, .int p1)]) : W p l e { frames := 2, cells := 0, slots := 0, locals := 46 } s m args below meth c H locs 0 0 (MQ below (va_Qi (fun r (_ : Unit) => r = res.1) (fun _ t => PST D Y A [oX1 a_h res.2.1 res.2.2 h_clusters h_blocks (.ref a_hz) (.ref a_hv) h_depth (.ref a_f) (.ref a_p) h_trackNumber h_clusterTime h_bodySize h_lacingAt, oX8 a_f (.ref a_fw) f_most f_length f_overfull, aI Y a_fw fw_n c_fw] t) A) args s 0 0 A) (F0 m 21 ls []) := by
  obtain ⟨hx, hb, hml, hr, hts, hown, hlocks⟩ := id C
  unfold fX1_readId_b21 at hf
  refine lv_aload_n hx hb dX1_readId_21 rfl (lv_at hl 0 rfl) ?_
  refine lv_iconst (v := 2) hx hb dX1_readId_22 (by decide) ?_
  refine lv_iload_n hx hb dX1_readId_23 rfl (lv_at hl 1 rfl) ?_
  obtain ⟨o1, ho1, hf⟩ := ob hf
  refine xj_i (va_runV (As := [.int 2, .int p1]) (rest := []) ⟨hx, hb, hml, hown, hts⟩ (kX1_fail l D Y F a_h a_hz a_hv a_f a_p H.size h_fault h_place h_clusters h_blocks h_depth h_trackNumber h_clusterTime h_bodySize h_lacingAt 2 p1 o1 ho1) (cwV 2 hts gX1_readId_X1_fail rfl rfl rfl (by decide +kernel) ⟨Nat.le_of_ble_eq_true rfl, Nat.le_of_ble_eq_true rfl⟩) (prev_w (ci := 0) rfl rfl hK wd [0] rfl (by decide)) rfl rfl hl.1 rfl (lv_room (Nat.le_of_ble_eq_true rfl)) dX1_readId_24 ⟨Nat.zero_le _, Nat.zero_le _⟩) wd hS hA [0] [1, 2] rfl rfl (by decide) (by decide) (fun H locs wd hS => ?_)
  have wd : WD D A [oX8 a_f (.ref a_fw) f_most f_length f_overfull, aI Y a_fw fw_n c_fw, oX1 a_h o1.2.1 o1.2.2 h_clusters h_blocks (.ref a_hz) (.ref a_hv) h_depth (.ref a_f) (.ref a_p) h_trackNumber h_clusterTime h_bodySize h_lacingAt] H := wd
  obtain rfl := Option.some.inj hf
  exact W.iret (v := o1.1) hx hb hr (fun t ht hW => ⟨⟨_, (), rfl, rfl, WD.pst (wd.sub [2, 0, 1] rfl (by decide)) hK ht hW⟩, hS.F ht⟩) hS.2.2 dX1_readId_27

set_option maxHeartbeats 4000000 in
set_option maxRecDepth 100000 in
theorem wX1_readId {p : Program} {l : Launch} {e : Env} {s : State} {m : MethodId} {args : Array Value} {below : List Frame} {meth : Method} {c : Code} {A : Nat → Prop} (D : va_G) (Y : Y4) (C : CX p s m meth c args cX1_readId 4 (some .int) wsX1_readId RX1) (hA : ∀ q : Nat, s.heap.size ≤ q → A q) (hK : va_K D vwCl (TY Y) s) (F : Nat) (a_h : Nat) (a_f : Nat) (a_fw : Nat) (a_hz : Nat) (a_hv : Nat) (a_p : Nat) (h_fault : Int32) (h_place : Int32) (h_clusters : Int32) (h_blocks : Int32) (h_depth : Int32) (h_trackNumber : Int64) (h_clusterTime : Int64) (h_bodySize : Int64) (h_lacingAt : Int32) (f_most : Int32) (f_length : Int32) (f_overfull : Int32) (fw_n : Nat) (c_fw : (Nat → Int32)) (p1 : Int32) (p2 : Int32) (res : Int32 × Int32 × Int32) (hf : fX1_readId F h_fault h_place f_length fw_n c_fw p1 p2 = some res) {H : Heap} {locs : List Loc} {ls : Array Slot} (wd : WD D A [oX1 a_h h_fault h_place h_clusters h_blocks (.ref a_hz) (.ref a_hv) h_depth (.ref a_f) (.ref a_p) h_trackNumber h_clusterTime h_bodySize h_lacingAt, oX8 a_f (.ref a_fw) f_most f_length f_overfull, aI Y a_fw fw_n c_fw] H) (hS : va_S A s.heap H locs) (hl : lv_has ls 4 [(0, .ref a_h), (1, .int p1), (2, .int p2)]) : W p l e { frames := 2, cells := 0, slots := 0, locals := 46 } s m args below meth c H locs 0 0 (MQ below (va_Qi (fun r (_ : Unit) => r = res.1) (fun _ t => PST D Y A [oX1 a_h res.2.1 res.2.2 h_clusters h_blocks (.ref a_hz) (.ref a_hv) h_depth (.ref a_f) (.ref a_p) h_trackNumber h_clusterTime h_bodySize h_lacingAt, oX8 a_f (.ref a_fw) f_most f_length f_overfull, aI Y a_fw fw_n c_fw] t) A) args s 0 0 A) (F0 m 0 ls []) := by
  obtain ⟨hx, hb, hml, hr, hts, hown, hlocks⟩ := id C
  unfold fX1_readId at hf
  refine lv_aload_n hx hb dX1_readId_0 rfl (lv_at hl 0 rfl) ?_
  refine va_get (D := D) (ci := 0) (v := .ref a_f) (C := RX1) (T := TX1) (N := 13) hx hb hts iX1_readId_X1 hown hK wd.1 0 rfl rfl 7 (by decide) (hts _ mX1_readId_0) (fun _ h9 => h9) rfl dX1_readId_1 ?_
  refine lv_iload_n hx hb dX1_readId_4 rfl (lv_at hl 1 rfl) ?_
  obtain ⟨o1, ho1, hf⟩ := ob hf
  refine xj_i (va_runV (As := [.int p1]) (rest := []) ⟨hx, hb, hml, hown, hts⟩ (kX8_at l D Y F a_f a_fw H.size f_most f_length f_overfull fw_n c_fw p1 o1 ho1) (cwV 1 hts gX1_readId_X8_at rfl rfl rfl (by decide +kernel) ⟨Nat.le_of_ble_eq_true rfl, Nat.le_of_ble_eq_true rfl⟩) (prev_w (ci := 6) rfl rfl hK wd [1, 2] rfl (by decide)) rfl rfl hl.1 rfl (lv_room (Nat.le_of_ble_eq_true rfl)) dX1_readId_5 ⟨Nat.zero_le _, Nat.zero_le _⟩) wd hS hA [1, 2] [0] rfl rfl (by decide) (by decide) (fun H locs wd hS => ?_)
  have wd : WD D A [oX1 a_h h_fault h_place h_clusters h_blocks (.ref a_hz) (.ref a_hv) h_depth (.ref a_f) (.ref a_p) h_trackNumber h_clusterTime h_bodySize h_lacingAt, oX8 a_f (.ref a_fw) f_most f_length f_overfull, aI Y a_fw fw_n c_fw] H := wd
  obtain ⟨o2, ho2, hf⟩ := ob hf
  refine xj_i (va_runS (As := [.int o1]) (rest := []) ⟨hx, hb, hml, hown, hts⟩ (kX1_markedWidth l D Y F H.size o1 o2 ho2) (va_cwS 1 hts gX1_readId_X1_markedWidth rfl rfl rfl (by decide +kernel) ⟨Nat.le_of_ble_eq_true rfl, Nat.le_of_ble_eq_true rfl⟩) (pres_w hK wd [] rfl (by decide)) rfl rfl hl.1 rfl (lv_room (Nat.le_of_ble_eq_true rfl)) dX1_readId_8 ⟨Nat.zero_le _, Nat.zero_le _⟩) wd hS hA [] [0, 1, 2] rfl rfl (by decide) (by decide) (fun H locs wd hS => ?_)
  have wd : WD D A [oX1 a_h h_fault h_place h_clusters h_blocks (.ref a_hz) (.ref a_hv) h_depth (.ref a_f) (.ref a_p) h_trackNumber h_clusterTime h_bodySize h_lacingAt, oX8 a_f (.ref a_fw) f_most f_length f_overfull, aI Y a_fw fw_n c_fw] H := wd
  refine lv_istore_n (lv' := [(3, .int o2), (0, .ref a_h), (1, .int p1), (2, .int p2)]) hx hb dX1_readId_11 rfl hl (by decide) rfl (fun ls hl => ?_)
  refine lv_iload_n hx hb dX1_readId_12 rfl (lv_at hl 0 rfl) ?_
  refine lv_if_eq (tgt := 21) hx hb dX1_readId_13 (by decide) (fun q3 => ?_) (fun q3 => ?_)
  · have hf := ip hf q3
    exact wX1_readId_b21 D Y C hA hK F a_h a_f a_fw a_hz a_hv a_p h_fault h_place h_clusters h_blocks h_depth h_trackNumber h_clusterTime h_bodySize h_lacingAt f_most f_length f_overfull fw_n c_fw p1 p2 _ hf wd hS (lv_sub hl [1, 2] rfl)
  · have hf := ie hf q3
    refine lv_iload_n hx hb dX1_readId_16 rfl (lv_at hl 0 rfl) ?_
    refine lv_iconst (v := 4) hx hb dX1_readId_17 (by decide) ?_
    refine lv_icmp_le (tgt := 28) hx hb dX1_readId_18 (by decide) (fun q4 => ?_) (fun q4 => ?_)
    · have hf := ip hf q4
      refine lv_iload_n hx hb dX1_readId_28 rfl (lv_at hl 0 rfl) ?_
      refine lv_iload_n hx hb dX1_readId_29 rfl (lv_at hl 3 rfl) ?_
      refine lv_iload_n hx hb dX1_readId_30 rfl (lv_at hl 2 rfl) ?_
      refine lv_isub hx hb dX1_readId_31 ?_
      refine lv_icmp_le (tgt := 42) hx hb dX1_readId_32 (by decide) (fun q5 => ?_) (fun q5 => ?_)
      · have hf := ip hf q5
        refine lv_aload_n hx hb dX1_readId_42 rfl (lv_at hl 1 rfl) ?_
        refine va_get (D := D) (ci := 0) (v := .ref a_f) (C := RX1) (T := TX1) (N := 13) hx hb hts iX1_readId_X1 hown hK wd.1 0 rfl rfl 7 (by decide) (hts _ mX1_readId_0) (fun _ h9 => h9) rfl dX1_readId_43 ?_
        refine lv_iload_n hx hb dX1_readId_46 rfl (lv_at hl 2 rfl) ?_
        refine lv_iload_n hx hb dX1_readId_47 rfl (lv_at hl 0 rfl) ?_
        obtain ⟨o6, ho6, hf⟩ := ob hf
        refine xj_l (va_runV (As := [.int p1, .int o2]) (rest := []) ⟨hx, hb, hml, hown, hts⟩ (kX8_highFirst l D Y F a_f a_fw H.size f_most f_length f_overfull fw_n c_fw p1 o2 o6 ho6) (cwV 2 hts gX1_readId_X8_highFirst rfl rfl rfl (by decide +kernel) ⟨Nat.le_of_ble_eq_true rfl, Nat.le_of_ble_eq_true rfl⟩) (prev_w (ci := 6) rfl rfl hK wd [1, 2] rfl (by decide)) rfl rfl hl.1 rfl (lv_room (Nat.le_of_ble_eq_true rfl)) dX1_readId_48 ⟨Nat.zero_le _, Nat.zero_le _⟩) wd hS hA [1, 2] [0] rfl rfl (by decide) (by decide) (fun H locs wd hS => ?_)
        have wd : WD D A [oX1 a_h h_fault h_place h_clusters h_blocks (.ref a_hz) (.ref a_hv) h_depth (.ref a_f) (.ref a_p) h_trackNumber h_clusterTime h_bodySize h_lacingAt, oX8 a_f (.ref a_fw) f_most f_length f_overfull, aI Y a_fw fw_n c_fw] H := wd
        refine lv_l2i (v := (o6.toInt32)) hx hb dX1_readId_51 rfl ?_
        obtain rfl := Option.some.inj hf
        exact W.iret (v := (o6.toInt32)) hx hb hr (fun t ht hW => ⟨⟨_, (), rfl, rfl, WD.pst wd hK ht hW⟩, hS.F ht⟩) hS.2.2 dX1_readId_52
      · have hf := ie hf q5
        refine lv_aload_n hx hb dX1_readId_35 rfl (lv_at hl 1 rfl) ?_
        refine lv_iconst (v := 1) hx hb dX1_readId_36 (by decide) ?_
        refine lv_iload_n hx hb dX1_readId_37 rfl (lv_at hl 2 rfl) ?_
        obtain ⟨o7, ho7, hf⟩ := ob hf
        refine xj_i (va_runV (As := [.int 1, .int p1]) (rest := []) ⟨hx, hb, hml, hown, hts⟩ (kX1_fail l D Y F a_h a_hz a_hv a_f a_p H.size h_fault h_place h_clusters h_blocks h_depth h_trackNumber h_clusterTime h_bodySize h_lacingAt 1 p1 o7 ho7) (cwV 2 hts gX1_readId_X1_fail rfl rfl rfl (by decide +kernel) ⟨Nat.le_of_ble_eq_true rfl, Nat.le_of_ble_eq_true rfl⟩) (prev_w (ci := 0) rfl rfl hK wd [0] rfl (by decide)) rfl rfl hl.1 rfl (lv_room (Nat.le_of_ble_eq_true rfl)) dX1_readId_38 ⟨Nat.zero_le _, Nat.zero_le _⟩) wd hS hA [0] [1, 2] rfl rfl (by decide) (by decide) (fun H locs wd hS => ?_)
        have wd : WD D A [oX8 a_f (.ref a_fw) f_most f_length f_overfull, aI Y a_fw fw_n c_fw, oX1 a_h o7.2.1 o7.2.2 h_clusters h_blocks (.ref a_hz) (.ref a_hv) h_depth (.ref a_f) (.ref a_p) h_trackNumber h_clusterTime h_bodySize h_lacingAt] H := wd
        obtain rfl := Option.some.inj hf
        exact W.iret (v := o7.1) hx hb hr (fun t ht hW => ⟨⟨_, (), rfl, rfl, WD.pst (wd.sub [2, 0, 1] rfl (by decide)) hK ht hW⟩, hS.F ht⟩) hS.2.2 dX1_readId_41
    · have hf := ie hf q4
      exact wX1_readId_b21 D Y C hA hK F a_h a_f a_fw a_hz a_hv a_p h_fault h_place h_clusters h_blocks h_depth h_trackNumber h_clusterTime h_bodySize h_lacingAt f_most f_length f_overfull fw_n c_fw p1 p2 _ hf wd hS (lv_sub hl [1, 2] rfl)
set_option maxHeartbeats 4000000 in
set_option maxRecDepth 100000 in
theorem kX1_readId (l : Launch) (D : va_G) (Y : Y4) (F : Nat) (a_h : Nat) (a_f : Nat) (a_fw : Nat) (a_hz : Nat) (a_hv : Nat) (a_p : Nat) (sz : Nat) (h_fault : Int32) (h_place : Int32) (h_clusters : Int32) (h_blocks : Int32) (h_depth : Int32) (h_trackNumber : Int64) (h_clusterTime : Int64) (h_bodySize : Int64) (h_lacingAt : Int32) (f_most : Int32) (f_length : Int32) (f_overfull : Int32) (fw_n : Nat) (c_fw : (Nat → Int32)) (p1 : Int32) (p2 : Int32) (res : Int32 × Int32 × Int32) (hf : fX1_readId F h_fault h_place f_length fw_n c_fw p1 p2 = some res) : Met l yX1_readId wsX1_readId ({ frames := 2, cells := 0, slots := 0, locals := 46 }) (va_Pc [.ref a_h, .int p1, .int p2] (PRE D Y [oX1 a_h h_fault h_place h_clusters h_blocks (.ref a_hz) (.ref a_hv) h_depth (.ref a_f) (.ref a_p) h_trackNumber h_clusterTime h_bodySize h_lacingAt, oX8 a_f (.ref a_fw) f_most f_length f_overfull, aI Y a_fw fw_n c_fw] sz)) (va_Qi (fun r (_ : Unit) => r = res.1) (fun _ t => PST D Y (va_A [oX1 a_h h_fault h_place h_clusters h_blocks (.ref a_hz) (.ref a_hv) h_depth (.ref a_f) (.ref a_p) h_trackNumber h_clusterTime h_bodySize h_lacingAt, oX8 a_f (.ref a_fw) f_most f_length f_overfull, aI Y a_fw fw_n c_fw] sz) [oX1 a_h res.2.1 res.2.2 h_clusters h_blocks (.ref a_hz) (.ref a_hv) h_depth (.ref a_f) (.ref a_p) h_trackNumber h_clusterTime h_bodySize h_lacingAt, oX8 a_f (.ref a_fw) f_most f_length f_overfull, aI Y a_fw fw_n c_fw] t) (va_A [oX1 a_h h_fault h_place h_clusters h_blocks (.ref a_hz) (.ref a_hv) h_depth (.ref a_f) (.ref a_p) h_trackNumber h_clusterTime h_bodySize h_lacingAt, oX8 a_f (.ref a_fw) f_most f_length f_overfull, aI Y a_fw fw_n c_fw] sz)) 0 0 (va_A [oX1 a_h h_fault h_place h_clusters h_blocks (.ref a_hz) (.ref a_hv) h_depth (.ref a_f) (.ref a_p) h_trackNumber h_clusterTime h_bodySize h_lacingAt, oX8 a_f (.ref a_fw) f_most f_length f_overfull, aI Y a_fw fw_n c_fw] sz) := by
  refine Met.ofW (cc := cX1_readId) (maxL := 4) (ret := (some .int)) (by decide) rfl ?_
  intro p e s m args below meth c s₁ B hml hv
  obtain ⟨rfl, rfl, hP, hK, hD0⟩ := hv
  have hl := lv_entry ([.ref a_h, .int p1, .int p2]) (n := 4) (Nat.le_of_ble_eq_true rfl)
  rw [lg_entry_eq]
  exact wX1_readId D Y ⟨B.exec, B.bytes, hml, B.returns, atoms_spec (ws := wsX1_readId) B.pre, findClass_of_methodNamed B.named, B.notSynchronized⟩ (fun q h => Or.inr h) hK F a_h a_f a_fw a_hz a_hv a_p h_fault h_place h_clusters h_blocks h_depth h_trackNumber h_clusterTime h_bodySize h_lacingAt f_most f_length f_overfull fw_n c_fw p1 p2 res hf ⟨hP, hD0.self⟩ va_S.rf hl
theorem mX1_column_0 : Cond.fieldLink RX1 130 "StreamRemuxer$ElementReader" "TOLD" "[J" ∈ wsX1_column := List.mem_cons_of_mem _ u_636
theorem mX1_column_1 : Cond.constantLong RX1 45 (-1) ∈ wsX1_column := List.mem_cons_of_mem _ u_593
set_option maxHeartbeats 4000000 in
set_option maxRecDepth 100000 in
theorem wX1_column_b30 {p : Program} {l : Launch} {e : Env} {s : State} {m : MethodId} {args : Array Value} {below : List Frame} {meth : Method} {c : Code} {A : Nat → Prop} (D : va_G) (Y : Y4) (C : CX p s m meth c args cX1_column 3 (some .long) wsX1_column RX1) (hA : ∀ q : Nat, s.heap.size ≤ q → A q) (hK : va_K D vwCl (TY Y) s) (F : Nat) (a_sT : Nat) (p0 : Int32) (p1 : Int32) (hX : ST [e_sT a_sT] A s) (res : Int64) (b30_s_0 : Int64) (hf : fX1_column_b30 F b30_s_0 = some res) {H : Heap} {locs : List Loc} {ls : Array Slot} (wd : WD D A [] H) (hS : va_S A s.heap H locs) (hl : lv_has ls 3 []) : W p l e { frames := 0, cells := 0, slots := 0, locals := 0 } s m args below meth c H locs 0 0 (MQ below (va_Ql (fun r (_ : Unit) => r = res) (fun _ t => PST D Y A [] t) A) args s 0 0 A) (F0 m 30 ls [.long b30_s_0]) := by
  obtain ⟨hx, hb, hml, hr, hts, hown, hlocks⟩ := id C
  obtain ⟨hZ_sT, hT_sT⟩ := (hX _ (List.mem_of_getElem? (i := 0) rfl)).2
  unfold fX1_column_b30 at hf
  obtain rfl := Option.some.inj hf
  exact W.lret (v := b30_s_0) hx hb hr (fun t ht hW => ⟨⟨_, (), rfl, rfl, WD.pst wd hK ht hW⟩, hS.F ht⟩) hS.2.2 dX1_column_30

set_option maxHeartbeats 4000000 in
set_option maxRecDepth 100000 in
theorem wX1_column_b27 {p : Program} {l : Launch} {e : Env} {s : State} {m : MethodId} {args : Array Value} {below : List Frame} {meth : Method} {c : Code} {A : Nat → Prop} (D : va_G) (Y : Y4) (C : CX p s m meth c args cX1_column 3 (some .long) wsX1_column RX1) (hA : ∀ q : Nat, s.heap.size ≤ q → A q) (hK : va_K D vwCl (TY Y) s) (F : Nat) (a_sT : Nat) (p0 : Int32) (p1 : Int32) (hX : ST [e_sT a_sT] A s) (res : Int64) (hf : fX1_column_b27 F = some res) {H : Heap} {locs : List Loc} {ls : Array Slot} (wd : WD D A [] H) (hS : va_S A s.heap H locs) (hl : lv_has ls 3 []) : W p l e { frames := 0, cells := 0, slots := 0, locals := 0 } s m args below meth c H locs 0 0 (MQ below (va_Ql (fun r (_ : Unit) => r = res) (fun _ t => PST D Y A [] t) A) args s 0 0 A) (F0 m 27 ls []) := by
  obtain ⟨hx, hb, hml, hr, hts, hown, hlocks⟩ := id C
  obtain ⟨hZ_sT, hT_sT⟩ := (hX _ (List.mem_of_getElem? (i := 0) rfl)).2
  unfold fX1_column_b27 at hf
  refine lv_ldc2 hx hb hown (hts _ mX1_column_1) dX1_column_27 ?_
  exact wX1_column_b30 D Y C hA hK F a_sT p0 p1 hX _ (-1) hf wd hS (lv_sub hl [] rfl)

set_option maxHeartbeats 4000000 in
set_option maxRecDepth 100000 in
theorem wX1_column {p : Program} {l : Launch} {e : Env} {s : State} {m : MethodId} {args : Array Value} {below : List Frame} {meth : Method} {c : Code} {A : Nat → Prop} (D : va_G) (Y : Y4) (C : CX p s m meth c args cX1_column 3 (some .long) wsX1_column RX1) (hA : ∀ q : Nat, s.heap.size ≤ q → A q) (hK : va_K D vwCl (TY Y) s) (F : Nat) (a_sT : Nat) (p0 : Int32) (p1 : Int32) (hX : ST [e_sT a_sT] A s) (res : Int64) (hf : fX1_column F p0 p1 = some res) {H : Heap} {locs : List Loc} {ls : Array Slot} (wd : WD D A [] H) (hS : va_S A s.heap H locs) (hl : lv_has ls 3 [(0, .int p0), (1, .int p1)]) : W p l e { frames := 0, cells := 0, slots := 0, locals := 0 } s m args below meth c H locs 0 0 (MQ below (va_Ql (fun r (_ : Unit) => r = res) (fun _ t => PST D Y A [] t) A) args s 0 0 A) (F0 m 0 ls []) := by
  obtain ⟨hx, hb, hml, hr, hts, hown, hlocks⟩ := id C
  obtain ⟨hZ_sT, hT_sT⟩ := (hX _ (List.mem_of_getElem? (i := 0) rfl)).2
  unfold fX1_column at hf
  refine lv_iload_n hx hb dX1_column_0 rfl (lv_at hl 0 rfl) ?_
  refine lv_bipush (v := 6) hx hb dX1_column_1 (by decide) ?_
  refine lv_imul hx hb dX1_column_3 ?_
  refine lv_iload_n hx hb dX1_column_4 rfl (lv_at hl 1 rfl) ?_
  refine lv_iadd hx hb dX1_column_5 ?_
  refine lv_topi (fun x1 ex1 => ?_)
  have hf := nm_at hf ex1
  refine lv_istore_n (lv' := [(2, .int x1), (0, .int p0), (1, .int p1)]) hx hb dX1_column_6 rfl hl (by decide) rfl (fun ls hl => ?_)
  refine lv_iload_n hx hb dX1_column_7 rfl (lv_at hl 0 rfl) ?_
  refine lv_if_lt (tgt := 27) hx hb dX1_column_8 (by decide) (fun q2 => ?_) (fun q2 => ?_)
  · have hf := ip hf q2
    exact wX1_column_b27 D Y C hA hK F a_sT p0 p1 hX _ hf wd hS (lv_sub hl [] rfl)
  · have hf := ie hf q2
    refine lv_iload_n hx hb dX1_column_11 rfl (lv_at hl 0 rfl) ?_
    refine va_gets (v := .ref a_sT) hx hb hZ_sT hS hown (hts _ mX1_column_0) (fun _ h9 => h9) dX1_column_12 ?_
    refine va_tlen hx hb hT_sT hS (v := 162) rfl dX1_column_15 ?_
    refine lv_icmp_ge (tgt := 27) hx hb dX1_column_16 (by decide) (fun q3 => ?_) (fun q3 => ?_)
    · have hf := ip hf q3
      exact wX1_column_b27 D Y C hA hK F a_sT p0 p1 hX _ hf wd hS (lv_sub hl [] rfl)
    · have hf := ie hf q3
      refine va_gets (v := .ref a_sT) hx hb hZ_sT hS hown (hts _ mX1_column_0) (fun _ h9 => h9) dX1_column_19 ?_
      refine lv_iload_n hx hb dX1_column_22 rfl (lv_at hl 0 rfl) ?_
      obtain ⟨hg4, hf⟩ := gd hf
      refine va_tl hx hb hT_sT hS (gin_in hg4) (v := .long (kTold x1.toNatClampNeg)) rfl dX1_column_23 ?_
      refine lv_goto (tgt := 30) hx hb dX1_column_24 (by decide) ?_
      exact wX1_column_b30 D Y C hA hK F a_sT p0 p1 hX _ (kTold x1.toNatClampNeg) hf wd hS (lv_sub hl [] rfl)
set_option maxHeartbeats 4000000 in
set_option maxRecDepth 100000 in
theorem kX1_column (l : Launch) (D : va_G) (Y : Y4) (F : Nat) (a_sT : Nat) (sz : Nat) (p0 : Int32) (p1 : Int32) (res : Int64) (hf : fX1_column F p0 p1 = some res) : Met l yX1_column wsX1_column ({ frames := 0, cells := 0, slots := 0, locals := 0 }) (va_Pc [.int p0, .int p1] (PREX D Y [] sz [e_sT a_sT])) (va_Ql (fun r (_ : Unit) => r = res) (fun _ t => PST D Y (va_A [] sz) [] t) (va_A [] sz)) 0 0 (va_A [] sz) := by
  refine Met.ofW (cc := cX1_column) (maxL := 3) (ret := (some .long)) (by decide) rfl ?_
  intro p e s m args below meth c s₁ B hml hv
  obtain ⟨rfl, ⟨rfl, hP, hK, hD0⟩, hX⟩ := hv
  have hl := lv_entry ([.int p0, .int p1]) (n := 3) (Nat.le_of_ble_eq_true rfl)
  rw [lg_entry_eq]
  exact wX1_column D Y ⟨B.exec, B.bytes, hml, B.returns, atoms_spec (ws := wsX1_column) B.pre, findClass_of_methodNamed B.named, B.notSynchronized⟩ (fun q h => Or.inr h) hK F a_sT p0 p1 hX res hf ⟨hP, hD0.self⟩ va_S.rf hl
theorem mX1_lacksSome_0 : Cond.constantLong RX1 134 (2) ∈ wsX1_lacksSome := List.mem_cons_of_mem _ u_632
set_option maxHeartbeats 4000000 in
set_option maxRecDepth 100000 in
theorem wX1_lacksSome_b51 {p : Program} {l : Launch} {e : Env} {s : State} {m : MethodId} {args : Array Value} {below : List Frame} {meth : Method} {c : Code} {A : Nat → Prop} (D : va_G) (Y : Y4) (C : CX p s m meth c args cX1_lacksSome 4 (some .boolean) wsX1_lacksSome RX1) (hA : ∀ q : Nat, s.heap.size ≤ q → A q) (hK : va_K D vwCl (TY Y) s) (F : Nat) (a_sT : Nat) (p0 : Int32) (p1 : Int32) (hX : ST [e_sT a_sT] A s) (res : Int32) (rc2 : Int32 → Option (Int32)) (hrc2 : ∀ (b2_l_2 : Int32), rc2 b2_l_2 = some res → ∀ {H : Heap} {locs : List Loc} {ls : Array Slot}, WD D A [] H → va_S A s.heap H locs → lv_has ls 4 [(0, .int p0), (1, .int p1), (2, .int b2_l_2)] → W p l e { frames := 1, cells := 0, slots := 0, locals := 22 } s m args below meth c H locs 0 0 (MQ below (va_Qi (fun r (_ : Unit) => r = res) (fun _ t => PST D Y A [] t) A) args s 0 0 A) (F0 m 2 ls [])) (b51_l_2 : Int32) (hf : fX1_lacksSome_b51 F rc2 b51_l_2 = some res) {H : Heap} {locs : List Loc} {ls : Array Slot} (wd : WD D A [] H) (hS : va_S A s.heap H locs) (hl : lv_has ls 4 [(0, .int p0), (1, .int p1), (2, .int b51_l_2)]) : W p l e { frames := 1, cells := 0, slots := 0, locals := 22 } s m args below meth c H locs 0 0 (MQ below (va_Qi (fun r (_ : Unit) => r = res) (fun _ t => PST D Y A [] t) A) args s 0 0 A) (F0 m 51 ls []) := by
  obtain ⟨hx, hb, hml, hr, hts, hown, hlocks⟩ := id C
  obtain ⟨hZ_sT, hT_sT⟩ := (hX _ (List.mem_of_getElem? (i := 0) rfl)).2
  unfold fX1_lacksSome_b51 at hf
  obtain ⟨x1, ex1⟩ : ∃ y : Int32, y = b51_l_2 + 1 := ⟨_, rfl⟩
  have hf := nm_at hf ex1
  refine lv_iinc (v := x1) (lv' := [(2, .int x1), (0, .int p0), (1, .int p1)]) hx hb dX1_lacksSome_51 hl (k := 2) rfl (by rw [ex1]; rfl) (by decide) rfl (fun ls hl => ?_)
  refine lv_goto (tgt := 2) hx hb dX1_lacksSome_54 (by decide) ?_
  exact hrc2 x1 hf wd hS (lv_sub hl [1, 2, 0] rfl)

set_option maxHeartbeats 4000000 in
set_option maxRecDepth 100000 in
theorem wX1_lacksSome_b36 {p : Program} {l : Launch} {e : Env} {s : State} {m : MethodId} {args : Array Value} {below : List Frame} {meth : Method} {c : Code} {A : Nat → Prop} (D : va_G) (Y : Y4) (C : CX p s m meth c args cX1_lacksSome 4 (some .boolean) wsX1_lacksSome RX1) (hA : ∀ q : Nat, s.heap.size ≤ q → A q) (hK : va_K D vwCl (TY Y) s) (F : Nat) (a_sT : Nat) (p0 : Int32) (p1 : Int32) (hX : ST [e_sT a_sT] A s) (res : Int32) (rc2 : Int32 → Option (Int32)) (hrc2 : ∀ (b2_l_2 : Int32), rc2 b2_l_2 = some res → ∀ {H : Heap} {locs : List Loc} {ls : Array Slot}, WD D A [] H → va_S A s.heap H locs → lv_has ls 4 [(0, .int p0), (1, .int p1), (2, .int b2_l_2)] → W p l e { frames := 1, cells := 0, slots := 0, locals := 22 } s m args below meth c H locs 0 0 (MQ below (va_Qi (fun r (_ : Unit) => r = res) (fun _ t => PST D Y A [] t) A) args s 0 0 A) (F0 m 2 ls [])) (b36_l_2 : Int32) (b36_s_0 : Int32) (hf : fX1_lacksSome_b36 F p1 rc2 b36_l_2 b36_s_0 = some res) {H : Heap} {locs : List Loc} {ls : Array Slot} (wd : WD D A [] H) (hS : va_S A s.heap H locs) (hl : lv_has ls 4 [(0, .int p0), (1, .int p1), (2, .int b36_l_2)]) : W p l e { frames := 1, cells := 0, slots := 0, locals := 22 } s m args below meth c H locs 0 0 (MQ below (va_Qi (fun r (_ : Unit) => r = res) (fun _ t => PST D Y A [] t) A) args s 0 0 A) (F0 m 36 ls [.int b36_s_0]) := by
  obtain ⟨hx, hb, hml, hr, hts, hown, hlocks⟩ := id C
  obtain ⟨hZ_sT, hT_sT⟩ := (hX _ (List.mem_of_getElem? (i := 0) rfl)).2
  unfold fX1_lacksSome_b36 at hf
  refine lv_istore_n (lv' := [(3, .int b36_s_0), (0, .int p0), (1, .int p1), (2, .int b36_l_2)]) hx hb dX1_lacksSome_36 rfl hl (by decide) rfl (fun ls hl => ?_)
  refine lv_iload_n hx hb dX1_lacksSome_37 rfl (lv_at hl 0 rfl) ?_
  refine lv_if_eq (tgt := 51) hx hb dX1_lacksSome_38 (by decide) (fun q1 => ?_) (fun q1 => ?_)
  · have hf := ip hf q1
    exact wX1_lacksSome_b51 D Y C hA hK F a_sT p0 p1 hX _ rc2 hrc2 b36_l_2 hf wd hS (lv_sub hl [1, 2, 3] rfl)
  · have hf := ie hf q1
    refine lv_iload_n hx hb dX1_lacksSome_41 rfl (lv_at hl 2 rfl) ?_
    refine lv_iload_n hx hb dX1_lacksSome_42 rfl (lv_at hl 3 rfl) ?_
    refine lv_ishr hx hb dX1_lacksSome_43 ?_
    refine lv_iconst (v := 1) hx hb dX1_lacksSome_44 (by decide) ?_
    refine lv_iand hx hb dX1_lacksSome_45 ?_
    refine lv_if_ne (tgt := 51) hx hb dX1_lacksSome_46 (by decide) (fun q2 => ?_) (fun q2 => ?_)
    · have hf := ie hf q2
      exact wX1_lacksSome_b51 D Y C hA hK F a_sT p0 p1 hX _ rc2 hrc2 b36_l_2 hf wd hS (lv_sub hl [1, 2, 3] rfl)
    · have hf := ip hf q2
      refine lv_iconst (v := 1) hx hb dX1_lacksSome_49 (by decide) ?_
      obtain rfl := Option.some.inj hf
      exact W.zret (v := 1) hx hb hr rfl (fun t ht hW => ⟨⟨_, (), rfl, rfl, WD.pst wd hK ht hW⟩, hS.F ht⟩) hS.2.2 dX1_lacksSome_50

set_option maxHeartbeats 4000000 in
set_option maxRecDepth 100000 in
theorem wX1_lacksSome_b35 {p : Program} {l : Launch} {e : Env} {s : State} {m : MethodId} {args : Array Value} {below : List Frame} {meth : Method} {c : Code} {A : Nat → Prop} (D : va_G) (Y : Y4) (C : CX p s m meth c args cX1_lacksSome 4 (some .boolean) wsX1_lacksSome RX1) (hA : ∀ q : Nat, s.heap.size ≤ q → A q) (hK : va_K D vwCl (TY Y) s) (F : Nat) (a_sT : Nat) (p0 : Int32) (p1 : Int32) (hX : ST [e_sT a_sT] A s) (res : Int32) (rc2 : Int32 → Option (Int32)) (hrc2 : ∀ (b2_l_2 : Int32), rc2 b2_l_2 = some res → ∀ {H : Heap} {locs : List Loc} {ls : Array Slot}, WD D A [] H → va_S A s.heap H locs → lv_has ls 4 [(0, .int p0), (1, .int p1), (2, .int b2_l_2)] → W p l e { frames := 1, cells := 0, slots := 0, locals := 22 } s m args below meth c H locs 0 0 (MQ below (va_Qi (fun r (_ : Unit) => r = res) (fun _ t => PST D Y A [] t) A) args s 0 0 A) (F0 m 2 ls [])) (b35_l_2 : Int32) (hf : fX1_lacksSome_b35 F p1 rc2 b35_l_2 = some res) {H : Heap} {locs : List Loc} {ls : Array Slot} (wd : WD D A [] H) (hS : va_S A s.heap H locs) (hl : lv_has ls 4 [(0, .int p0), (1, .int p1), (2, .int b35_l_2)]) : W p l e { frames := 1, cells := 0, slots := 0, locals := 22 } s m args below meth c H locs 0 0 (MQ below (va_Qi (fun r (_ : Unit) => r = res) (fun _ t => PST D Y A [] t) A) args s 0 0 A) (F0 m 35 ls []) := by
  obtain ⟨hx, hb, hml, hr, hts, hown, hlocks⟩ := id C
  obtain ⟨hZ_sT, hT_sT⟩ := (hX _ (List.mem_of_getElem? (i := 0) rfl)).2
  unfold fX1_lacksSome_b35 at hf
  refine lv_iconst (v := 0) hx hb dX1_lacksSome_35 (by decide) ?_
  exact wX1_lacksSome_b36 D Y C hA hK F a_sT p0 p1 hX _ rc2 hrc2 b35_l_2 0 hf wd hS (lv_sub hl [0, 1, 2] rfl)

set_option maxHeartbeats 4000000 in
set_option maxRecDepth 100000 in
theorem wX1_lacksSome_b2 {p : Program} {l : Launch} {e : Env} {s : State} {m : MethodId} {args : Array Value} {below : List Frame} {meth : Method} {c : Code} {A : Nat → Prop} (D : va_G) (Y : Y4) (C : CX p s m meth c args cX1_lacksSome 4 (some .boolean) wsX1_lacksSome RX1) (hA : ∀ q : Nat, s.heap.size ≤ q → A q) (hK : va_K D vwCl (TY Y) s) (F : Nat) (a_sT : Nat) (p0 : Int32) (p1 : Int32) (hX : ST [e_sT a_sT] A s) (res : Int32) : ∀ (n : Nat) (b2_l_2 : Int32), fX1_lacksSome_b2 F p0 p1 n b2_l_2 = some res → ∀ {H : Heap} {locs : List Loc} {ls : Array Slot}, WD D A [] H → va_S A s.heap H locs → lv_has ls 4 [(0, .int p0), (1, .int p1), (2, .int b2_l_2)] → W p l e { frames := 1, cells := 0, slots := 0, locals := 22 } s m args below meth c H locs 0 0 (MQ below (va_Qi (fun r (_ : Unit) => r = res) (fun _ t => PST D Y A [] t) A) args s 0 0 A) (F0 m 2 ls []) := by
  obtain ⟨hx, hb, hml, hr, hts, hown, hlocks⟩ := id C
  obtain ⟨hZ_sT, hT_sT⟩ := (hX _ (List.mem_of_getElem? (i := 0) rfl)).2
  intro n
  induction n with
  | zero => intro b2_l_2 hf; exact absurd hf (by simp [fX1_lacksSome_b2])
  | succ n ih =>
    intro b2_l_2 hf H locs ls wd hS hl
    unfold fX1_lacksSome_b2 at hf
    refine lv_iload_n hx hb dX1_lacksSome_2 rfl (lv_at hl 2 rfl) ?_
    refine lv_bipush (v := 27) hx hb dX1_lacksSome_3 (by decide) ?_
    refine lv_icmp_ge (tgt := 57) hx hb dX1_lacksSome_5 (by decide) (fun q1 => ?_) (fun q1 => ?_)
    · have hf := ip hf q1
      refine lv_iconst (v := 0) hx hb dX1_lacksSome_57 (by decide) ?_
      obtain rfl := Option.some.inj hf
      exact W.zret (v := 0) hx hb hr rfl (fun t ht hW => ⟨⟨_, (), rfl, rfl, WD.pst wd hK ht hW⟩, hS.F ht⟩) hS.2.2 dX1_lacksSome_58
    · have hf := ie hf q1
      refine lv_iload_n hx hb dX1_lacksSome_8 rfl (lv_at hl 2 rfl) ?_
      refine lv_iconst (v := 1) hx hb dX1_lacksSome_9 (by decide) ?_
      obtain ⟨o2, ho2, hf⟩ := ob hf
      refine xj_l (va_runS (As := [.int b2_l_2, .int 1]) (rest := []) ⟨hx, hb, hml, hown, hts⟩ (kX1_column l D Y F a_sT H.size b2_l_2 1 o2 ho2) (va_cwS 2 hts gX1_lacksSome_X1_column rfl rfl rfl (by decide +kernel) ⟨Nat.le_of_ble_eq_true rfl, Nat.le_of_ble_eq_true rfl⟩) (pres_wx hK wd [] rfl (by decide) hA hX (fun q hq => hq) hS) rfl rfl hl.1 rfl (lv_room (Nat.le_of_ble_eq_true rfl)) dX1_lacksSome_10 ⟨Nat.zero_le _, Nat.zero_le _⟩) wd hS hA [] [] rfl rfl (by decide) (by decide) (fun H locs wd hS => ?_)
      have wd : WD D A [] H := wd
      refine lv_iload_n hx hb dX1_lacksSome_13 rfl (lv_at hl 0 rfl) ?_
      refine lv_i2l (v := (p0.toInt64)) hx hb dX1_lacksSome_14 rfl ?_
      refine xl_ne (tgt := 35) hx hb dX1_lacksSome_15 dX1_lacksSome_16 (by decide) (fun q3 => ?_) (fun q3 => ?_)
      · have hf := ie hf q3
        exact wX1_lacksSome_b35 D Y C hA hK F a_sT p0 p1 hX _ (fX1_lacksSome_b2 F p0 p1 n) ih b2_l_2 hf wd hS (lv_sub hl [0, 1, 2] rfl)
      · have hf := ip hf q3
        refine lv_iload_n hx hb dX1_lacksSome_19 rfl (lv_at hl 2 rfl) ?_
        refine lv_iconst (v := 2) hx hb dX1_lacksSome_20 (by decide) ?_
        obtain ⟨o4, ho4, hf⟩ := ob hf
        refine xj_l (va_runS (As := [.int b2_l_2, .int 2]) (rest := []) ⟨hx, hb, hml, hown, hts⟩ (kX1_column l D Y F a_sT H.size b2_l_2 2 o4 ho4) (va_cwS 2 hts gX1_lacksSome_X1_column rfl rfl rfl (by decide +kernel) ⟨Nat.le_of_ble_eq_true rfl, Nat.le_of_ble_eq_true rfl⟩) (pres_wx hK wd [] rfl (by decide) hA hX (fun q hq => hq) hS) rfl rfl hl.1 rfl (lv_room (Nat.le_of_ble_eq_true rfl)) dX1_lacksSome_21 ⟨Nat.zero_le _, Nat.zero_le _⟩) wd hS hA [] [] rfl rfl (by decide) (by decide) (fun H locs wd hS => ?_)
        have wd : WD D A [] H := wd
        refine lv_ldc2 hx hb hown (hts _ mX1_lacksSome_0) dX1_lacksSome_24 ?_
        refine xl_ne (tgt := 35) hx hb dX1_lacksSome_27 dX1_lacksSome_28 (by decide) (fun q5 => ?_) (fun q5 => ?_)
        · have hf := ie hf q5
          exact wX1_lacksSome_b35 D Y C hA hK F a_sT p0 p1 hX _ (fX1_lacksSome_b2 F p0 p1 n) ih b2_l_2 hf wd hS (lv_sub hl [0, 1, 2] rfl)
        · have hf := ip hf q5
          refine lv_iconst (v := 1) hx hb dX1_lacksSome_31 (by decide) ?_
          refine lv_goto (tgt := 36) hx hb dX1_lacksSome_32 (by decide) ?_
          exact wX1_lacksSome_b36 D Y C hA hK F a_sT p0 p1 hX _ (fX1_lacksSome_b2 F p0 p1 n) ih b2_l_2 1 hf wd hS (lv_sub hl [0, 1, 2] rfl)

set_option maxHeartbeats 4000000 in
set_option maxRecDepth 100000 in
theorem wX1_lacksSome {p : Program} {l : Launch} {e : Env} {s : State} {m : MethodId} {args : Array Value} {below : List Frame} {meth : Method} {c : Code} {A : Nat → Prop} (D : va_G) (Y : Y4) (C : CX p s m meth c args cX1_lacksSome 4 (some .boolean) wsX1_lacksSome RX1) (hA : ∀ q : Nat, s.heap.size ≤ q → A q) (hK : va_K D vwCl (TY Y) s) (F : Nat) (a_sT : Nat) (p0 : Int32) (p1 : Int32) (hX : ST [e_sT a_sT] A s) (res : Int32) (hf : fX1_lacksSome F p0 p1 = some res) {H : Heap} {locs : List Loc} {ls : Array Slot} (wd : WD D A [] H) (hS : va_S A s.heap H locs) (hl : lv_has ls 4 [(0, .int p0), (1, .int p1)]) : W p l e { frames := 1, cells := 0, slots := 0, locals := 22 } s m args below meth c H locs 0 0 (MQ below (va_Qi (fun r (_ : Unit) => r = res) (fun _ t => PST D Y A [] t) A) args s 0 0 A) (F0 m 0 ls []) := by
  obtain ⟨hx, hb, hml, hr, hts, hown, hlocks⟩ := id C
  obtain ⟨hZ_sT, hT_sT⟩ := (hX _ (List.mem_of_getElem? (i := 0) rfl)).2
  unfold fX1_lacksSome at hf
  refine lv_iconst (v := 0) hx hb dX1_lacksSome_0 (by decide) ?_
  refine lv_istore_n (lv' := [(2, .int 0), (0, .int p0), (1, .int p1)]) hx hb dX1_lacksSome_1 rfl hl (by decide) rfl (fun ls hl => ?_)
  exact wX1_lacksSome_b2 D Y C hA hK F a_sT p0 p1 hX _ F 0 hf wd hS (lv_sub hl [1, 2, 0] rfl)
set_option maxHeartbeats 4000000 in
set_option maxRecDepth 100000 in
theorem kX1_lacksSome (l : Launch) (D : va_G) (Y : Y4) (F : Nat) (a_sT : Nat) (sz : Nat) (p0 : Int32) (p1 : Int32) (res : Int32) (hf : fX1_lacksSome F p0 p1 = some res) : Met l yX1_lacksSome wsX1_lacksSome ({ frames := 1, cells := 0, slots := 0, locals := 22 }) (va_Pc [.int p0, .int p1] (PREX D Y [] sz [e_sT a_sT])) (va_Qi (fun r (_ : Unit) => r = res) (fun _ t => PST D Y (va_A [] sz) [] t) (va_A [] sz)) 0 0 (va_A [] sz) := by
  refine Met.ofW (cc := cX1_lacksSome) (maxL := 4) (ret := (some .boolean)) (by decide) rfl ?_
  intro p e s m args below meth c s₁ B hml hv
  obtain ⟨rfl, ⟨rfl, hP, hK, hD0⟩, hX⟩ := hv
  have hl := lv_entry ([.int p0, .int p1]) (n := 4) (Nat.le_of_ble_eq_true rfl)
  rw [lg_entry_eq]
  exact wX1_lacksSome D Y ⟨B.exec, B.bytes, hml, B.returns, atoms_spec (ws := wsX1_lacksSome) B.pre, findClass_of_methodNamed B.named, B.notSynchronized⟩ (fun q h => Or.inr h) hK F a_sT p0 p1 hX res hf ⟨hP, hD0.self⟩ va_S.rf hl
theorem mX1_closeLevel_0 : Cond.fieldLink RX1 75 "StreamRemuxer$Level" "id" "I" ∈ wsX1_closeLevel := List.mem_cons_of_mem _ u_602
theorem mX1_closeLevel_1 : Cond.fieldLink RX1 81 "StreamRemuxer$Level" "seen" "I" ∈ wsX1_closeLevel := List.mem_cons_of_mem _ u_604
theorem mX1_closeLevel_2 : Cond.fieldLink RX1 54 "StreamRemuxer$ElementReader" "depth" "I" ∈ wsX1_closeLevel := List.mem_cons_of_mem _ u_596
theorem mX1_closeLevel_3 : Cond.fieldLink RX1 78 "StreamRemuxer$Level" "missingPlace" "I" ∈ wsX1_closeLevel := List.mem_cons_of_mem _ u_603
theorem iX1_closeLevel_X1 : ∀ w ∈ wsX10, w ∈ wsX1_closeLevel := fun w h => List.mem_cons_of_mem _ (inlX1 w h)
theorem iX1_closeLevel_X3 : ∀ w ∈ wsX30, w ∈ wsX1_closeLevel := fun w h => List.mem_cons_of_mem _ (inlX3 w h)
set_option maxHeartbeats 4000000 in
set_option maxRecDepth 100000 in
theorem wX1_closeLevel {p : Program} {l : Launch} {e : Env} {s : State} {m : MethodId} {args : Array Value} {below : List Frame} {meth : Method} {c : Code} {A : Nat → Prop} (D : va_G) (Y : Y4) (C : CX p s m meth c args cX1_closeLevel 3 (some .int) wsX1_closeLevel RX1) (hA : ∀ q : Nat, s.heap.size ≤ q → A q) (hK : va_K D vwCl (TY Y) s) (F : Nat) (a_h : Nat) (a_hg : (Nat → Nat)) (a_hz : Nat) (a_hv : Nat) (a_f : Nat) (a_p : Nat) (a_sT : Nat) (h_fault : Int32) (h_place : Int32) (h_clusters : Int32) (h_blocks : Int32) (h_depth : Int32) (h_trackNumber : Int64) (h_clusterTime : Int64) (h_bodySize : Int64) (h_lacingAt : Int32) (hg_id : (Nat → Int32)) (hg_missingPlace : (Nat → Int32)) (hg_end : (Nat → Int32)) (hg_seen : (Nat → Int32)) (hg_tillCluster : (Nat → Int32)) (p1 : Nat) (p2 : Int32) (hp1 : p1 < 5) (hX : ST [e_sT a_sT] A s) (res : Int32 × Int32 × Int32 × Int32) (hf : fX1_closeLevel F h_fault h_place h_depth hg_id hg_missingPlace hg_seen p1 p2 = some res) {H : Heap} {locs : List Loc} {ls : Array Slot} (wd : WD D A [oX1 a_h h_fault h_place h_clusters h_blocks (.ref a_hz) (.ref a_hv) h_depth (.ref a_f) (.ref a_p) h_trackNumber h_clusterTime h_bodySize h_lacingAt, (oX3 (a_hg 0) (hg_id 0) (hg_missingPlace 0) (hg_end 0) (hg_seen 0) (hg_tillCluster 0)), (oX3 (a_hg 1) (hg_id 1) (hg_missingPlace 1) (hg_end 1) (hg_seen 1) (hg_tillCluster 1)), (oX3 (a_hg 2) (hg_id 2) (hg_missingPlace 2) (hg_end 2) (hg_seen 2) (hg_tillCluster 2)), (oX3 (a_hg 3) (hg_id 3) (hg_missingPlace 3) (hg_end 3) (hg_seen 3) (hg_tillCluster 3)), (oX3 (a_hg 4) (hg_id 4) (hg_missingPlace 4) (hg_end 4) (hg_seen 4) (hg_tillCluster 4))] H) (hS : va_S A s.heap H locs) (hl : lv_has ls 3 [(0, .ref a_h), (1, .ref (a_hg p1)), (2, .int p2)]) : W p l e { frames := 2, cells := 0, slots := 0, locals := 45 } s m args below meth c H locs 0 0 (MQ below (va_Qi (fun r (_ : Unit) => r = res.1) (fun _ t => PST D Y A [oX1 a_h res.2.1 res.2.2.1 h_clusters h_blocks (.ref a_hz) (.ref a_hv) res.2.2.2 (.ref a_f) (.ref a_p) h_trackNumber h_clusterTime h_bodySize h_lacingAt, (oX3 (a_hg 0) (hg_id 0) (hg_missingPlace 0) (hg_end 0) (hg_seen 0) (hg_tillCluster 0)), (oX3 (a_hg 1) (hg_id 1) (hg_missingPlace 1) (hg_end 1) (hg_seen 1) (hg_tillCluster 1)), (oX3 (a_hg 2) (hg_id 2) (hg_missingPlace 2) (hg_end 2) (hg_seen 2) (hg_tillCluster 2)), (oX3 (a_hg 3) (hg_id 3) (hg_missingPlace 3) (hg_end 3) (hg_seen 3) (hg_tillCluster 3)), (oX3 (a_hg 4) (hg_id 4) (hg_missingPlace 4) (hg_end 4) (hg_seen 4) (hg_tillCluster 4))] t) A) args s 0 0 A) (F0 m 0 ls []) := by
  obtain ⟨hx, hb, hml, hr, hts, hown, hlocks⟩ := id C
  obtain ⟨hZ_sT, hT_sT⟩ := (hX _ (List.mem_of_getElem? (i := 0) rfl)).2
  unfold fX1_closeLevel at hf
  refine lv_aload_n hx hb dX1_closeLevel_0 rfl (lv_at hl 1 rfl) ?_
  have hv1 : ([oX1 a_h h_fault h_place h_clusters h_blocks (.ref a_hz) (.ref a_hv) h_depth (.ref a_f) (.ref a_p) h_trackNumber h_clusterTime h_bodySize h_lacingAt, (oX3 (a_hg 0) (hg_id 0) (hg_missingPlace 0) (hg_end 0) (hg_seen 0) (hg_tillCluster 0)), (oX3 (a_hg 1) (hg_id 1) (hg_missingPlace 1) (hg_end 1) (hg_seen 1) (hg_tillCluster 1)), (oX3 (a_hg 2) (hg_id 2) (hg_missingPlace 2) (hg_end 2) (hg_seen 2) (hg_tillCluster 2)), (oX3 (a_hg 3) (hg_id 3) (hg_missingPlace 3) (hg_end 3) (hg_seen 3) (hg_tillCluster 3)), (oX3 (a_hg 4) (hg_id 4) (hg_missingPlace 4) (hg_end 4) (hg_seen 4) (hg_tillCluster 4))] : va_W)[1 + p1]? = some (oX3 (a_hg p1) (hg_id p1) (hg_missingPlace p1) (hg_end p1) (hg_seen p1) (hg_tillCluster p1)) := by rcases lt5 hp1 with rfl | rfl | rfl | rfl | rfl <;> rfl
  refine va_get (D := D) (ci := 2) (v := .int (hg_id p1)) (C := RX3) (T := TX3) (N := 5) hx hb hts iX1_closeLevel_X3 hown hK wd.1 (1 + p1) hv1 rfl 0 (by decide) (hts _ mX1_closeLevel_0) (fun _ h9 => h9) rfl dX1_closeLevel_1 ?_
  refine lv_aload_n hx hb dX1_closeLevel_4 rfl (lv_at hl 1 rfl) ?_
  have hv2 : ([oX1 a_h h_fault h_place h_clusters h_blocks (.ref a_hz) (.ref a_hv) h_depth (.ref a_f) (.ref a_p) h_trackNumber h_clusterTime h_bodySize h_lacingAt, (oX3 (a_hg 0) (hg_id 0) (hg_missingPlace 0) (hg_end 0) (hg_seen 0) (hg_tillCluster 0)), (oX3 (a_hg 1) (hg_id 1) (hg_missingPlace 1) (hg_end 1) (hg_seen 1) (hg_tillCluster 1)), (oX3 (a_hg 2) (hg_id 2) (hg_missingPlace 2) (hg_end 2) (hg_seen 2) (hg_tillCluster 2)), (oX3 (a_hg 3) (hg_id 3) (hg_missingPlace 3) (hg_end 3) (hg_seen 3) (hg_tillCluster 3)), (oX3 (a_hg 4) (hg_id 4) (hg_missingPlace 4) (hg_end 4) (hg_seen 4) (hg_tillCluster 4))] : va_W)[1 + p1]? = some (oX3 (a_hg p1) (hg_id p1) (hg_missingPlace p1) (hg_end p1) (hg_seen p1) (hg_tillCluster p1)) := by rcases lt5 hp1 with rfl | rfl | rfl | rfl | rfl <;> rfl
  refine va_get (D := D) (ci := 2) (v := .int (hg_seen p1)) (C := RX3) (T := TX3) (N := 5) hx hb hts iX1_closeLevel_X3 hown hK wd.1 (1 + p1) hv2 rfl 3 (by decide) (hts _ mX1_closeLevel_1) (fun _ h9 => h9) rfl dX1_closeLevel_5 ?_
  obtain ⟨o3, ho3, hf⟩ := ob hf
  refine xj_i (va_runS (As := [.int (hg_id p1), .int (hg_seen p1)]) (rest := []) ⟨hx, hb, hml, hown, hts⟩ (kX1_lacksSome l D Y F a_sT H.size (hg_id p1) (hg_seen p1) o3 ho3) (va_cwS 2 hts gX1_closeLevel_X1_lacksSome rfl rfl rfl (by decide +kernel) ⟨Nat.le_of_ble_eq_true rfl, Nat.le_of_ble_eq_true rfl⟩) (pres_wx hK wd [] rfl (by decide) hA hX (fun q hq => hq) hS) rfl rfl hl.1 rfl (lv_room (Nat.le_of_ble_eq_true rfl)) dX1_closeLevel_8 ⟨Nat.zero_le _, Nat.zero_le _⟩) wd hS hA [] [0, 1, 2, 3, 4, 5] rfl rfl (by decide) (by decide) (fun H locs wd hS => ?_)
  have wd : WD D A [oX1 a_h h_fault h_place h_clusters h_blocks (.ref a_hz) (.ref a_hv) h_depth (.ref a_f) (.ref a_p) h_trackNumber h_clusterTime h_bodySize h_lacingAt, (oX3 (a_hg 0) (hg_id 0) (hg_missingPlace 0) (hg_end 0) (hg_seen 0) (hg_tillCluster 0)), (oX3 (a_hg 1) (hg_id 1) (hg_missingPlace 1) (hg_end 1) (hg_seen 1) (hg_tillCluster 1)), (oX3 (a_hg 2) (hg_id 2) (hg_missingPlace 2) (hg_end 2) (hg_seen 2) (hg_tillCluster 2)), (oX3 (a_hg 3) (hg_id 3) (hg_missingPlace 3) (hg_end 3) (hg_seen 3) (hg_tillCluster 3)), (oX3 (a_hg 4) (hg_id 4) (hg_missingPlace 4) (hg_end 4) (hg_seen 4) (hg_tillCluster 4))] H := wd
  refine lv_if_eq (tgt := 25) hx hb dX1_closeLevel_11 (by decide) (fun q4 => ?_) (fun q4 => ?_)
  · have hf := ip hf q4
    refine lv_aload_n hx hb dX1_closeLevel_25 rfl (lv_at hl 0 rfl) ?_
    refine lv_dup hx hb dX1_closeLevel_26 rfl ?_
    refine va_get (D := D) (ci := 0) (v := .int h_depth) (C := RX1) (T := TX1) (N := 13) hx hb hts iX1_closeLevel_X1 hown hK wd.1 0 rfl rfl 6 (by decide) (hts _ mX1_closeLevel_2) (fun _ h9 => h9) rfl dX1_closeLevel_27 ?_
    refine lv_iconst (v := 1) hx hb dX1_closeLevel_30 (by decide) ?_
    refine lv_isub hx hb dX1_closeLevel_31 ?_
    refine lv_topi (fun x5 ex5 => ?_)
    have hf := nm_at hf ex5
    refine va_put (D := D) (ci := 0) (v := .int x5) (ty := .int) (C := RX1) (T := TX1) (N := 13) hx hb hts iX1_closeLevel_X1 tyX1 tyX1_ok nmX1 hown hK wd.1 wd.2 hS 0 rfl rfl 6 (by decide) (hts _ mX1_closeLevel_2) (fun _ h9 => h9) rfl (by decide +kernel) rfl rfl (Nat.le_of_ble_eq_true rfl) dX1_closeLevel_32 (fun H locs hP hD hS => ?_)
    have wd : WD D A [oX1 a_h h_fault h_place h_clusters h_blocks (.ref a_hz) (.ref a_hv) x5 (.ref a_f) (.ref a_p) h_trackNumber h_clusterTime h_bodySize h_lacingAt, (oX3 (a_hg 0) (hg_id 0) (hg_missingPlace 0) (hg_end 0) (hg_seen 0) (hg_tillCluster 0)), (oX3 (a_hg 1) (hg_id 1) (hg_missingPlace 1) (hg_end 1) (hg_seen 1) (hg_tillCluster 1)), (oX3 (a_hg 2) (hg_id 2) (hg_missingPlace 2) (hg_end 2) (hg_seen 2) (hg_tillCluster 2)), (oX3 (a_hg 3) (hg_id 3) (hg_missingPlace 3) (hg_end 3) (hg_seen 3) (hg_tillCluster 3)), (oX3 (a_hg 4) (hg_id 4) (hg_missingPlace 4) (hg_end 4) (hg_seen 4) (hg_tillCluster 4))] H := ⟨hP, hD⟩
    clear hP hD
    refine lv_iload_n hx hb dX1_closeLevel_35 rfl (lv_at hl 2 rfl) ?_
    obtain rfl := Option.some.inj hf
    exact W.iret (v := p2) hx hb hr (fun t ht hW => ⟨⟨_, (), rfl, rfl, WD.pst wd hK ht hW⟩, hS.F ht⟩) hS.2.2 dX1_closeLevel_36
  · have hf := ie hf q4
    refine lv_aload_n hx hb dX1_closeLevel_14 rfl (lv_at hl 0 rfl) ?_
    refine lv_bipush (v := 7) hx hb dX1_closeLevel_15 (by decide) ?_
    refine lv_aload_n hx hb dX1_closeLevel_17 rfl (lv_at hl 1 rfl) ?_
    have hv6 : ([oX1 a_h h_fault h_place h_clusters h_blocks (.ref a_hz) (.ref a_hv) h_depth (.ref a_f) (.ref a_p) h_trackNumber h_clusterTime h_bodySize h_lacingAt, (oX3 (a_hg 0) (hg_id 0) (hg_missingPlace 0) (hg_end 0) (hg_seen 0) (hg_tillCluster 0)), (oX3 (a_hg 1) (hg_id 1) (hg_missingPlace 1) (hg_end 1) (hg_seen 1) (hg_tillCluster 1)), (oX3 (a_hg 2) (hg_id 2) (hg_missingPlace 2) (hg_end 2) (hg_seen 2) (hg_tillCluster 2)), (oX3 (a_hg 3) (hg_id 3) (hg_missingPlace 3) (hg_end 3) (hg_seen 3) (hg_tillCluster 3)), (oX3 (a_hg 4) (hg_id 4) (hg_missingPlace 4) (hg_end 4) (hg_seen 4) (hg_tillCluster 4))] : va_W)[1 + p1]? = some (oX3 (a_hg p1) (hg_id p1) (hg_missingPlace p1) (hg_end p1) (hg_seen p1) (hg_tillCluster p1)) := by rcases lt5 hp1 with rfl | rfl | rfl | rfl | rfl <;> rfl
    refine va_get (D := D) (ci := 2) (v := .int (hg_missingPlace p1)) (C := RX3) (T := TX3) (N := 5) hx hb hts iX1_closeLevel_X3 hown hK wd.1 (1 + p1) hv6 rfl 1 (by decide) (hts _ mX1_closeLevel_3) (fun _ h9 => h9) rfl dX1_closeLevel_18 ?_
    obtain ⟨o7, ho7, hf⟩ := ob hf
    refine xj_i (va_runV (As := [.int 7, .int (hg_missingPlace p1)]) (rest := []) ⟨hx, hb, hml, hown, hts⟩ (kX1_fail l D Y F a_h a_hz a_hv a_f a_p H.size h_fault h_place h_clusters h_blocks h_depth h_trackNumber h_clusterTime h_bodySize h_lacingAt 7 (hg_missingPlace p1) o7 ho7) (cwV 2 hts gX1_closeLevel_X1_fail rfl rfl rfl (by decide +kernel) ⟨Nat.le_of_ble_eq_true rfl, Nat.le_of_ble_eq_true rfl⟩) (prev_w (ci := 0) rfl rfl hK wd [0] rfl (by decide)) rfl rfl hl.1 rfl (lv_room (Nat.le_of_ble_eq_true rfl)) dX1_closeLevel_21 ⟨Nat.zero_le _, Nat.zero_le _⟩) wd hS hA [0] [1, 2, 3, 4, 5] rfl rfl (by decide) (by decide) (fun H locs wd hS => ?_)
    have wd : WD D A [(oX3 (a_hg 0) (hg_id 0) (hg_missingPlace 0) (hg_end 0) (hg_seen 0) (hg_tillCluster 0)), (oX3 (a_hg 1) (hg_id 1) (hg_missingPlace 1) (hg_end 1) (hg_seen 1) (hg_tillCluster 1)), (oX3 (a_hg 2) (hg_id 2) (hg_missingPlace 2) (hg_end 2) (hg_seen 2) (hg_tillCluster 2)), (oX3 (a_hg 3) (hg_id 3) (hg_missingPlace 3) (hg_end 3) (hg_seen 3) (hg_tillCluster 3)), (oX3 (a_hg 4) (hg_id 4) (hg_missingPlace 4) (hg_end 4) (hg_seen 4) (hg_tillCluster 4)), oX1 a_h o7.2.1 o7.2.2 h_clusters h_blocks (.ref a_hz) (.ref a_hv) h_depth (.ref a_f) (.ref a_p) h_trackNumber h_clusterTime h_bodySize h_lacingAt] H := wd
    obtain rfl := Option.some.inj hf
    exact W.iret (v := o7.1) hx hb hr (fun t ht hW => ⟨⟨_, (), rfl, rfl, WD.pst (wd.sub [5, 0, 1, 2, 3, 4] rfl (by decide)) hK ht hW⟩, hS.F ht⟩) hS.2.2 dX1_closeLevel_24
set_option maxHeartbeats 4000000 in
set_option maxRecDepth 100000 in
theorem kX1_closeLevel (l : Launch) (D : va_G) (Y : Y4) (F : Nat) (a_h : Nat) (a_hg : (Nat → Nat)) (a_hz : Nat) (a_hv : Nat) (a_f : Nat) (a_p : Nat) (a_sT : Nat) (sz : Nat) (h_fault : Int32) (h_place : Int32) (h_clusters : Int32) (h_blocks : Int32) (h_depth : Int32) (h_trackNumber : Int64) (h_clusterTime : Int64) (h_bodySize : Int64) (h_lacingAt : Int32) (hg_id : (Nat → Int32)) (hg_missingPlace : (Nat → Int32)) (hg_end : (Nat → Int32)) (hg_seen : (Nat → Int32)) (hg_tillCluster : (Nat → Int32)) (p1 : Nat) (p2 : Int32) (hp1 : p1 < 5) (res : Int32 × Int32 × Int32 × Int32) (hf : fX1_closeLevel F h_fault h_place h_depth hg_id hg_missingPlace hg_seen p1 p2 = some res) : Met l yX1_closeLevel wsX1_closeLevel ({ frames := 2, cells := 0, slots := 0, locals := 45 }) (va_Pc [.ref a_h, .ref (a_hg p1), .int p2] (PREX D Y [oX1 a_h h_fault h_place h_clusters h_blocks (.ref a_hz) (.ref a_hv) h_depth (.ref a_f) (.ref a_p) h_trackNumber h_clusterTime h_bodySize h_lacingAt, (oX3 (a_hg 0) (hg_id 0) (hg_missingPlace 0) (hg_end 0) (hg_seen 0) (hg_tillCluster 0)), (oX3 (a_hg 1) (hg_id 1) (hg_missingPlace 1) (hg_end 1) (hg_seen 1) (hg_tillCluster 1)), (oX3 (a_hg 2) (hg_id 2) (hg_missingPlace 2) (hg_end 2) (hg_seen 2) (hg_tillCluster 2)), (oX3 (a_hg 3) (hg_id 3) (hg_missingPlace 3) (hg_end 3) (hg_seen 3) (hg_tillCluster 3)), (oX3 (a_hg 4) (hg_id 4) (hg_missingPlace 4) (hg_end 4) (hg_seen 4) (hg_tillCluster 4))] sz [e_sT a_sT])) (va_Qi (fun r (_ : Unit) => r = res.1) (fun _ t => PST D Y (va_A [oX1 a_h h_fault h_place h_clusters h_blocks (.ref a_hz) (.ref a_hv) h_depth (.ref a_f) (.ref a_p) h_trackNumber h_clusterTime h_bodySize h_lacingAt, (oX3 (a_hg 0) (hg_id 0) (hg_missingPlace 0) (hg_end 0) (hg_seen 0) (hg_tillCluster 0)), (oX3 (a_hg 1) (hg_id 1) (hg_missingPlace 1) (hg_end 1) (hg_seen 1) (hg_tillCluster 1)), (oX3 (a_hg 2) (hg_id 2) (hg_missingPlace 2) (hg_end 2) (hg_seen 2) (hg_tillCluster 2)), (oX3 (a_hg 3) (hg_id 3) (hg_missingPlace 3) (hg_end 3) (hg_seen 3) (hg_tillCluster 3)), (oX3 (a_hg 4) (hg_id 4) (hg_missingPlace 4) (hg_end 4) (hg_seen 4) (hg_tillCluster 4))] sz) [oX1 a_h res.2.1 res.2.2.1 h_clusters h_blocks (.ref a_hz) (.ref a_hv) res.2.2.2 (.ref a_f) (.ref a_p) h_trackNumber h_clusterTime h_bodySize h_lacingAt, (oX3 (a_hg 0) (hg_id 0) (hg_missingPlace 0) (hg_end 0) (hg_seen 0) (hg_tillCluster 0)), (oX3 (a_hg 1) (hg_id 1) (hg_missingPlace 1) (hg_end 1) (hg_seen 1) (hg_tillCluster 1)), (oX3 (a_hg 2) (hg_id 2) (hg_missingPlace 2) (hg_end 2) (hg_seen 2) (hg_tillCluster 2)), (oX3 (a_hg 3) (hg_id 3) (hg_missingPlace 3) (hg_end 3) (hg_seen 3) (hg_tillCluster 3)), (oX3 (a_hg 4) (hg_id 4) (hg_missingPlace 4) (hg_end 4) (hg_seen 4) (hg_tillCluster 4))] t) (va_A [oX1 a_h h_fault h_place h_clusters h_blocks (.ref a_hz) (.ref a_hv) h_depth (.ref a_f) (.ref a_p) h_trackNumber h_clusterTime h_bodySize h_lacingAt, (oX3 (a_hg 0) (hg_id 0) (hg_missingPlace 0) (hg_end 0) (hg_seen 0) (hg_tillCluster 0)), (oX3 (a_hg 1) (hg_id 1) (hg_missingPlace 1) (hg_end 1) (hg_seen 1) (hg_tillCluster 1)), (oX3 (a_hg 2) (hg_id 2) (hg_missingPlace 2) (hg_end 2) (hg_seen 2) (hg_tillCluster 2)), (oX3 (a_hg 3) (hg_id 3) (hg_missingPlace 3) (hg_end 3) (hg_seen 3) (hg_tillCluster 3)), (oX3 (a_hg 4) (hg_id 4) (hg_missingPlace 4) (hg_end 4) (hg_seen 4) (hg_tillCluster 4))] sz)) 0 0 (va_A [oX1 a_h h_fault h_place h_clusters h_blocks (.ref a_hz) (.ref a_hv) h_depth (.ref a_f) (.ref a_p) h_trackNumber h_clusterTime h_bodySize h_lacingAt, (oX3 (a_hg 0) (hg_id 0) (hg_missingPlace 0) (hg_end 0) (hg_seen 0) (hg_tillCluster 0)), (oX3 (a_hg 1) (hg_id 1) (hg_missingPlace 1) (hg_end 1) (hg_seen 1) (hg_tillCluster 1)), (oX3 (a_hg 2) (hg_id 2) (hg_missingPlace 2) (hg_end 2) (hg_seen 2) (hg_tillCluster 2)), (oX3 (a_hg 3) (hg_id 3) (hg_missingPlace 3) (hg_end 3) (hg_seen 3) (hg_tillCluster 3)), (oX3 (a_hg 4) (hg_id 4) (hg_missingPlace 4) (hg_end 4) (hg_seen 4) (hg_tillCluster 4))] sz) := by
  refine Met.ofW (cc := cX1_closeLevel) (maxL := 3) (ret := (some .int)) (by decide) rfl ?_
  intro p e s m args below meth c s₁ B hml hv
  obtain ⟨rfl, ⟨rfl, hP, hK, hD0⟩, hX⟩ := hv
  have hl := lv_entry ([.ref a_h, .ref (a_hg p1), .int p2]) (n := 3) (Nat.le_of_ble_eq_true rfl)
  rw [lg_entry_eq]
  exact wX1_closeLevel D Y ⟨B.exec, B.bytes, hml, B.returns, atoms_spec (ws := wsX1_closeLevel) B.pre, findClass_of_methodNamed B.named, B.notSynchronized⟩ (fun q h => Or.inr h) hK F a_h a_hg a_hz a_hv a_f a_p a_sT h_fault h_place h_clusters h_blocks h_depth h_trackNumber h_clusterTime h_bodySize h_lacingAt hg_id hg_missingPlace hg_end hg_seen hg_tillCluster p1 p2 hp1 hX res hf ⟨hP, hD0.self⟩ va_S.rf hl
theorem mX1_rowOf_0 : Cond.constantLong RX1 45 (-1) ∈ wsX1_rowOf := List.mem_cons_of_mem _ u_593
set_option maxHeartbeats 4000000 in
set_option maxRecDepth 100000 in
theorem wX1_rowOf_b45 {p : Program} {l : Launch} {e : Env} {s : State} {m : MethodId} {args : Array Value} {below : List Frame} {meth : Method} {c : Code} {A : Nat → Prop} (D : va_G) (Y : Y4) (C : CX p s m meth c args cX1_rowOf 5 (some .int) wsX1_rowOf RX1) (hA : ∀ q : Nat, s.heap.size ≤ q → A q) (hK : va_K D vwCl (TY Y) s) (F : Nat) (a_sT : Nat) (p0 : Int32) (p1 : Int32) (hX : ST [e_sT a_sT] A s) (res : Int32) (b45_s_0 : Int32) (hf : fX1_rowOf_b45 F b45_s_0 = some res) {H : Heap} {locs : List Loc} {ls : Array Slot} (wd : WD D A [] H) (hS : va_S A s.heap H locs) (hl : lv_has ls 5 []) : W p l e { frames := 1, cells := 0, slots := 0, locals := 22 } s m args below meth c H locs 0 0 (MQ below (va_Qi (fun r (_ : Unit) => r = res) (fun _ t => PST D Y A [] t) A) args s 0 0 A) (F0 m 45 ls [.int b45_s_0]) := by
  obtain ⟨hx, hb, hml, hr, hts, hown, hlocks⟩ := id C
  obtain ⟨hZ_sT, hT_sT⟩ := (hX _ (List.mem_of_getElem? (i := 0) rfl)).2
  unfold fX1_rowOf_b45 at hf
  obtain rfl := Option.some.inj hf
  exact W.iret (v := b45_s_0) hx hb hr (fun t ht hW => ⟨⟨_, (), rfl, rfl, WD.pst wd hK ht hW⟩, hS.F ht⟩) hS.2.2 dX1_rowOf_45

set_option maxHeartbeats 4000000 in
set_option maxRecDepth 100000 in
theorem wX1_rowOf_b40 {p : Program} {l : Launch} {e : Env} {s : State} {m : MethodId} {args : Array Value} {below : List Frame} {meth : Method} {c : Code} {A : Nat → Prop} (D : va_G) (Y : Y4) (C : CX p s m meth c args cX1_rowOf 5 (some .int) wsX1_rowOf RX1) (hA : ∀ q : Nat, s.heap.size ≤ q → A q) (hK : va_K D vwCl (TY Y) s) (F : Nat) (a_sT : Nat) (p0 : Int32) (p1 : Int32) (hX : ST [e_sT a_sT] A s) (res : Int32) (b40_l_2 : Int32) (hf : fX1_rowOf_b40 F b40_l_2 = some res) {H : Heap} {locs : List Loc} {ls : Array Slot} (wd : WD D A [] H) (hS : va_S A s.heap H locs) (hl : lv_has ls 5 [(2, .int b40_l_2)]) : W p l e { frames := 1, cells := 0, slots := 0, locals := 22 } s m args below meth c H locs 0 0 (MQ below (va_Qi (fun r (_ : Unit) => r = res) (fun _ t => PST D Y A [] t) A) args s 0 0 A) (F0 m 40 ls []) := by
  obtain ⟨hx, hb, hml, hr, hts, hown, hlocks⟩ := id C
  obtain ⟨hZ_sT, hT_sT⟩ := (hX _ (List.mem_of_getElem? (i := 0) rfl)).2
  unfold fX1_rowOf_b40 at hf
  refine lv_iload_n hx hb dX1_rowOf_40 rfl (lv_at hl 0 rfl) ?_
  refine lv_goto (tgt := 45) hx hb dX1_rowOf_41 (by decide) ?_
  exact wX1_rowOf_b45 D Y C hA hK F a_sT p0 p1 hX _ b40_l_2 hf wd hS (lv_sub hl [] rfl)

set_option maxHeartbeats 4000000 in
set_option maxRecDepth 100000 in
theorem wX1_rowOf_b2 {p : Program} {l : Launch} {e : Env} {s : State} {m : MethodId} {args : Array Value} {below : List Frame} {meth : Method} {c : Code} {A : Nat → Prop} (D : va_G) (Y : Y4) (C : CX p s m meth c args cX1_rowOf 5 (some .int) wsX1_rowOf RX1) (hA : ∀ q : Nat, s.heap.size ≤ q → A q) (hK : va_K D vwCl (TY Y) s) (F : Nat) (a_sT : Nat) (p0 : Int32) (p1 : Int32) (hX : ST [e_sT a_sT] A s) (res : Int32) : ∀ (n : Nat) (b2_l_2 : Int32), fX1_rowOf_b2 F p0 p1 n b2_l_2 = some res → ∀ {H : Heap} {locs : List Loc} {ls : Array Slot}, WD D A [] H → va_S A s.heap H locs → lv_has ls 5 [(0, .int p0), (1, .int p1), (2, .int b2_l_2)] → W p l e { frames := 1, cells := 0, slots := 0, locals := 22 } s m args below meth c H locs 0 0 (MQ below (va_Qi (fun r (_ : Unit) => r = res) (fun _ t => PST D Y A [] t) A) args s 0 0 A) (F0 m 2 ls []) := by
  obtain ⟨hx, hb, hml, hr, hts, hown, hlocks⟩ := id C
  obtain ⟨hZ_sT, hT_sT⟩ := (hX _ (List.mem_of_getElem? (i := 0) rfl)).2
  intro n
  induction n with
  | zero => intro b2_l_2 hf; exact absurd hf (by simp [fX1_rowOf_b2])
  | succ n ih =>
    intro b2_l_2 hf H locs ls wd hS hl
    unfold fX1_rowOf_b2 at hf
    refine lv_iload_n hx hb dX1_rowOf_2 rfl (lv_at hl 2 rfl) ?_
    refine lv_bipush (v := 27) hx hb dX1_rowOf_3 (by decide) ?_
    refine lv_icmp_ge (tgt := 52) hx hb dX1_rowOf_5 (by decide) (fun q1 => ?_) (fun q1 => ?_)
    · have hf := ip hf q1
      refine lv_iconst (v := (-1)) hx hb dX1_rowOf_52 (by decide) ?_
      obtain rfl := Option.some.inj hf
      exact W.iret (v := (-1)) hx hb hr (fun t ht hW => ⟨⟨_, (), rfl, rfl, WD.pst wd hK ht hW⟩, hS.F ht⟩) hS.2.2 dX1_rowOf_53
    · have hf := ie hf q1
      refine lv_iload_n hx hb dX1_rowOf_8 rfl (lv_at hl 2 rfl) ?_
      refine lv_iconst (v := 0) hx hb dX1_rowOf_9 (by decide) ?_
      obtain ⟨o2, ho2, hf⟩ := ob hf
      refine xj_l (va_runS (As := [.int b2_l_2, .int 0]) (rest := []) ⟨hx, hb, hml, hown, hts⟩ (kX1_column l D Y F a_sT H.size b2_l_2 0 o2 ho2) (va_cwS 2 hts gX1_rowOf_X1_column rfl rfl rfl (by decide +kernel) ⟨Nat.le_of_ble_eq_true rfl, Nat.le_of_ble_eq_true rfl⟩) (pres_wx hK wd [] rfl (by decide) hA hX (fun q hq => hq) hS) rfl rfl hl.1 rfl (lv_room (Nat.le_of_ble_eq_true rfl)) dX1_rowOf_10 ⟨Nat.zero_le _, Nat.zero_le _⟩) wd hS hA [] [] rfl rfl (by decide) (by decide) (fun H locs wd hS => ?_)
      have wd : WD D A [] H := wd
      refine lv_iload_n hx hb dX1_rowOf_13 rfl (lv_at hl 0 rfl) ?_
      refine lv_i2l (v := (p0.toInt64)) hx hb dX1_rowOf_14 rfl ?_
      refine xl_ne (tgt := 46) hx hb dX1_rowOf_15 dX1_rowOf_16 (by decide) (fun q3 => ?_) (fun q3 => ?_)
      · have hf := ie hf q3
        obtain ⟨x4, ex4⟩ : ∃ y : Int32, y = b2_l_2 + 1 := ⟨_, rfl⟩
        have hf := nm_at hf ex4
        refine lv_iinc (v := x4) (lv' := [(2, .int x4), (0, .int p0), (1, .int p1)]) hx hb dX1_rowOf_46 hl (k := 2) rfl (by rw [ex4]; rfl) (by decide) rfl (fun ls hl => ?_)
        refine lv_goto (tgt := 2) hx hb dX1_rowOf_49 (by decide) ?_
        exact ih x4 hf wd hS (lv_sub hl [1, 2, 0] rfl)
      · have hf := ip hf q3
        refine lv_iload_n hx hb dX1_rowOf_19 rfl (lv_at hl 2 rfl) ?_
        refine lv_iconst (v := 1) hx hb dX1_rowOf_20 (by decide) ?_
        obtain ⟨o5, ho5, hf⟩ := ob hf
        refine xj_l (va_runS (As := [.int b2_l_2, .int 1]) (rest := []) ⟨hx, hb, hml, hown, hts⟩ (kX1_column l D Y F a_sT H.size b2_l_2 1 o5 ho5) (va_cwS 2 hts gX1_rowOf_X1_column rfl rfl rfl (by decide +kernel) ⟨Nat.le_of_ble_eq_true rfl, Nat.le_of_ble_eq_true rfl⟩) (pres_wx hK wd [] rfl (by decide) hA hX (fun q hq => hq) hS) rfl rfl hl.1 rfl (lv_room (Nat.le_of_ble_eq_true rfl)) dX1_rowOf_21 ⟨Nat.zero_le _, Nat.zero_le _⟩) wd hS hA [] [] rfl rfl (by decide) (by decide) (fun H locs wd hS => ?_)
        have wd : WD D A [] H := wd
        refine lv_lstore_n (lv' := [(3, .long o5), (0, .int p0), (1, .int p1), (2, .int b2_l_2)]) hx hb dX1_rowOf_24 rfl hl (by decide) rfl (fun ls hl => ?_)
        refine lv_lload_n hx hb dX1_rowOf_25 rfl (lv_at hl 0 rfl) ?_
        refine lv_ldc2 hx hb hown (hts _ mX1_rowOf_0) dX1_rowOf_26 ?_
        refine xl_eq (tgt := 40) hx hb dX1_rowOf_29 dX1_rowOf_30 (by decide) (fun q6 => ?_) (fun q6 => ?_)
        · have hf := ip hf q6
          exact wX1_rowOf_b40 D Y C hA hK F a_sT p0 p1 hX _ b2_l_2 hf wd hS (lv_sub hl [3] rfl)
        · have hf := ie hf q6
          refine lv_lload_n hx hb dX1_rowOf_33 rfl (lv_at hl 0 rfl) ?_
          refine lv_iload_n hx hb dX1_rowOf_34 rfl (lv_at hl 2 rfl) ?_
          refine lv_i2l (v := (p1.toInt64)) hx hb dX1_rowOf_35 rfl ?_
          refine xl_ne (tgt := 44) hx hb dX1_rowOf_36 dX1_rowOf_37 (by decide) (fun q7 => ?_) (fun q7 => ?_)
          · have hf := ie hf q7
            refine lv_iconst (v := (-1)) hx hb dX1_rowOf_44 (by decide) ?_
            exact wX1_rowOf_b45 D Y C hA hK F a_sT p0 p1 hX _ (-1) hf wd hS (lv_sub hl [] rfl)
          · have hf := ip hf q7
            exact wX1_rowOf_b40 D Y C hA hK F a_sT p0 p1 hX _ b2_l_2 hf wd hS (lv_sub hl [3] rfl)

set_option maxHeartbeats 4000000 in
set_option maxRecDepth 100000 in
theorem wX1_rowOf {p : Program} {l : Launch} {e : Env} {s : State} {m : MethodId} {args : Array Value} {below : List Frame} {meth : Method} {c : Code} {A : Nat → Prop} (D : va_G) (Y : Y4) (C : CX p s m meth c args cX1_rowOf 5 (some .int) wsX1_rowOf RX1) (hA : ∀ q : Nat, s.heap.size ≤ q → A q) (hK : va_K D vwCl (TY Y) s) (F : Nat) (a_sT : Nat) (p0 : Int32) (p1 : Int32) (hX : ST [e_sT a_sT] A s) (res : Int32) (hf : fX1_rowOf F p0 p1 = some res) {H : Heap} {locs : List Loc} {ls : Array Slot} (wd : WD D A [] H) (hS : va_S A s.heap H locs) (hl : lv_has ls 5 [(0, .int p0), (1, .int p1)]) : W p l e { frames := 1, cells := 0, slots := 0, locals := 22 } s m args below meth c H locs 0 0 (MQ below (va_Qi (fun r (_ : Unit) => r = res) (fun _ t => PST D Y A [] t) A) args s 0 0 A) (F0 m 0 ls []) := by
  obtain ⟨hx, hb, hml, hr, hts, hown, hlocks⟩ := id C
  obtain ⟨hZ_sT, hT_sT⟩ := (hX _ (List.mem_of_getElem? (i := 0) rfl)).2
  unfold fX1_rowOf at hf
  refine lv_iconst (v := 0) hx hb dX1_rowOf_0 (by decide) ?_
  refine lv_istore_n (lv' := [(2, .int 0), (0, .int p0), (1, .int p1)]) hx hb dX1_rowOf_1 rfl hl (by decide) rfl (fun ls hl => ?_)
  exact wX1_rowOf_b2 D Y C hA hK F a_sT p0 p1 hX _ F 0 hf wd hS (lv_sub hl [1, 2, 0] rfl)
set_option maxHeartbeats 4000000 in
set_option maxRecDepth 100000 in
theorem kX1_rowOf (l : Launch) (D : va_G) (Y : Y4) (F : Nat) (a_sT : Nat) (sz : Nat) (p0 : Int32) (p1 : Int32) (res : Int32) (hf : fX1_rowOf F p0 p1 = some res) : Met l yX1_rowOf wsX1_rowOf ({ frames := 1, cells := 0, slots := 0, locals := 22 }) (va_Pc [.int p0, .int p1] (PREX D Y [] sz [e_sT a_sT])) (va_Qi (fun r (_ : Unit) => r = res) (fun _ t => PST D Y (va_A [] sz) [] t) (va_A [] sz)) 0 0 (va_A [] sz) := by
  refine Met.ofW (cc := cX1_rowOf) (maxL := 5) (ret := (some .int)) (by decide) rfl ?_
  intro p e s m args below meth c s₁ B hml hv
  obtain ⟨rfl, ⟨rfl, hP, hK, hD0⟩, hX⟩ := hv
  have hl := lv_entry ([.int p0, .int p1]) (n := 5) (Nat.le_of_ble_eq_true rfl)
  rw [lg_entry_eq]
  exact wX1_rowOf D Y ⟨B.exec, B.bytes, hml, B.returns, atoms_spec (ws := wsX1_rowOf) B.pre, findClass_of_methodNamed B.named, B.notSynchronized⟩ (fun q h => Or.inr h) hK F a_sT p0 p1 hX res hf ⟨hP, hD0.self⟩ va_S.rf hl

set_option maxHeartbeats 4000000 in
set_option maxRecDepth 100000 in
theorem wX1_isSeen_b24 {p : Program} {l : Launch} {e : Env} {s : State} {m : MethodId} {args : Array Value} {below : List Frame} {meth : Method} {c : Code} {A : Nat → Prop} (D : va_G) (Y : Y4) (C : CX p s m meth c args cX1_isSeen 4 (some .boolean) wsX1_isSeen RX1) (hA : ∀ q : Nat, s.heap.size ≤ q → A q) (hK : va_K D vwCl (TY Y) s) (F : Nat) (a_sT : Nat) (p0 : Int32) (p1 : Int32) (p2 : Int32) (hX : ST [e_sT a_sT] A s) (res : Int32) (b24_s_0 : Int32) (hf : fX1_isSeen_b24 F b24_s_0 = some res) {H : Heap} {locs : List Loc} {ls : Array Slot} (wd : WD D A [] H) (hS : va_S A s.heap H locs) (hl : lv_has ls 4 []) : W p l e { frames := 2, cells := 0, slots := 0, locals := 46 } s m args below meth c H locs 0 0 (MQ below (va_Qi (fun r (_ : Unit) => r = res) (fun _ t => PST D Y A [] t) A) args s 0 0 A) (F0 m 24 ls [.int b24_s_0]) := by
  obtain ⟨hx, hb, hml, hr, hts, hown, hlocks⟩ := id C
  obtain ⟨hZ_sT, hT_sT⟩ := (hX _ (List.mem_of_getElem? (i := 0) rfl)).2
  unfold fX1_isSeen_b24 at hf
  obtain ⟨hz1, hf⟩ := gd hf
  obtain rfl := Option.some.inj hf
  exact W.zret (v := b24_s_0) hx hb hr (isb_nar hz1) (fun t ht hW => ⟨⟨_, (), rfl, rfl, WD.pst wd hK ht hW⟩, hS.F ht⟩) hS.2.2 dX1_isSeen_24

set_option maxHeartbeats 4000000 in
set_option maxRecDepth 100000 in
theorem wX1_isSeen {p : Program} {l : Launch} {e : Env} {s : State} {m : MethodId} {args : Array Value} {below : List Frame} {meth : Method} {c : Code} {A : Nat → Prop} (D : va_G) (Y : Y4) (C : CX p s m meth c args cX1_isSeen 4 (some .boolean) wsX1_isSeen RX1) (hA : ∀ q : Nat, s.heap.size ≤ q → A q) (hK : va_K D vwCl (TY Y) s) (F : Nat) (a_sT : Nat) (p0 : Int32) (p1 : Int32) (p2 : Int32) (hX : ST [e_sT a_sT] A s) (res : Int32) (hf : fX1_isSeen F p0 p1 p2 = some res) {H : Heap} {locs : List Loc} {ls : Array Slot} (wd : WD D A [] H) (hS : va_S A s.heap H locs) (hl : lv_has ls 4 [(0, .int p0), (1, .int p1), (2, .int p2)]) : W p l e { frames := 2, cells := 0, slots := 0, locals := 46 } s m args below meth c H locs 0 0 (MQ below (va_Qi (fun r (_ : Unit) => r = res) (fun _ t => PST D Y A [] t) A) args s 0 0 A) (F0 m 0 ls []) := by
  obtain ⟨hx, hb, hml, hr, hts, hown, hlocks⟩ := id C
  obtain ⟨hZ_sT, hT_sT⟩ := (hX _ (List.mem_of_getElem? (i := 0) rfl)).2
  unfold fX1_isSeen at hf
  refine lv_iload_n hx hb dX1_isSeen_0 rfl (lv_at hl 0 rfl) ?_
  refine lv_iload_n hx hb dX1_isSeen_1 rfl (lv_at hl 1 rfl) ?_
  obtain ⟨o1, ho1, hf⟩ := ob hf
  refine xj_i (va_runS (As := [.int p0, .int p1]) (rest := []) ⟨hx, hb, hml, hown, hts⟩ (kX1_rowOf l D Y F a_sT H.size p0 p1 o1 ho1) (va_cwS 2 hts gX1_isSeen_X1_rowOf rfl rfl rfl (by decide +kernel) ⟨Nat.le_of_ble_eq_true rfl, Nat.le_of_ble_eq_true rfl⟩) (pres_wx hK wd [] rfl (by decide) hA hX (fun q hq => hq) hS) rfl rfl hl.1 rfl (lv_room (Nat.le_of_ble_eq_true rfl)) dX1_isSeen_2 ⟨Nat.zero_le _, Nat.zero_le _⟩) wd hS hA [] [] rfl rfl (by decide) (by decide) (fun H locs wd hS => ?_)
  have wd : WD D A [] H := wd
  refine lv_istore_n (lv' := [(3, .int o1), (0, .int p0), (1, .int p1), (2, .int p2)]) hx hb dX1_isSeen_5 rfl hl (by decide) rfl (fun ls hl => ?_)
  refine lv_iload_n hx hb dX1_isSeen_6 rfl (lv_at hl 0 rfl) ?_
  refine lv_iconst (v := (-1)) hx hb dX1_isSeen_7 (by decide) ?_
  refine lv_icmp_eq (tgt := 23) hx hb dX1_isSeen_8 (by decide) (fun q2 => ?_) (fun q2 => ?_)
  · have hf := ip hf q2
    refine lv_iconst (v := 0) hx hb dX1_isSeen_23 (by decide) ?_
    exact wX1_isSeen_b24 D Y C hA hK F a_sT p0 p1 p2 hX _ 0 hf wd hS (lv_sub hl [] rfl)
  · have hf := ie hf q2
    refine lv_iload_n hx hb dX1_isSeen_11 rfl (lv_at hl 3 rfl) ?_
    refine lv_iload_n hx hb dX1_isSeen_12 rfl (lv_at hl 0 rfl) ?_
    refine lv_ishr hx hb dX1_isSeen_13 ?_
    refine lv_iconst (v := 1) hx hb dX1_isSeen_14 (by decide) ?_
    refine lv_iand hx hb dX1_isSeen_15 ?_
    refine lv_if_eq (tgt := 23) hx hb dX1_isSeen_16 (by decide) (fun q3 => ?_) (fun q3 => ?_)
    · have hf := ip hf q3
      refine lv_iconst (v := 0) hx hb dX1_isSeen_23 (by decide) ?_
      exact wX1_isSeen_b24 D Y C hA hK F a_sT p0 p1 p2 hX _ 0 hf wd hS (lv_sub hl [] rfl)
    · have hf := ie hf q3
      refine lv_iconst (v := 1) hx hb dX1_isSeen_19 (by decide) ?_
      refine lv_goto (tgt := 24) hx hb dX1_isSeen_20 (by decide) ?_
      exact wX1_isSeen_b24 D Y C hA hK F a_sT p0 p1 p2 hX _ 1 hf wd hS (lv_sub hl [] rfl)
set_option maxHeartbeats 4000000 in
set_option maxRecDepth 100000 in
theorem kX1_isSeen (l : Launch) (D : va_G) (Y : Y4) (F : Nat) (a_sT : Nat) (sz : Nat) (p0 : Int32) (p1 : Int32) (p2 : Int32) (res : Int32) (hf : fX1_isSeen F p0 p1 p2 = some res) : Met l yX1_isSeen wsX1_isSeen ({ frames := 2, cells := 0, slots := 0, locals := 46 }) (va_Pc [.int p0, .int p1, .int p2] (PREX D Y [] sz [e_sT a_sT])) (va_Qi (fun r (_ : Unit) => r = res) (fun _ t => PST D Y (va_A [] sz) [] t) (va_A [] sz)) 0 0 (va_A [] sz) := by
  refine Met.ofW (cc := cX1_isSeen) (maxL := 4) (ret := (some .boolean)) (by decide) rfl ?_
  intro p e s m args below meth c s₁ B hml hv
  obtain ⟨rfl, ⟨rfl, hP, hK, hD0⟩, hX⟩ := hv
  have hl := lv_entry ([.int p0, .int p1, .int p2]) (n := 4) (Nat.le_of_ble_eq_true rfl)
  rw [lg_entry_eq]
  exact wX1_isSeen D Y ⟨B.exec, B.bytes, hml, B.returns, atoms_spec (ws := wsX1_isSeen) B.pre, findClass_of_methodNamed B.named, B.notSynchronized⟩ (fun q h => Or.inr h) hK F a_sT p0 p1 p2 hX res hf ⟨hP, hD0.self⟩ va_S.rf hl
theorem mX1_mayStand_0 : Cond.constant RX1 88 (524531317) ∈ wsX1_mayStand := List.mem_cons_of_mem _ u_606
theorem mX1_mayStand_1 : Cond.constant RX1 136 (408125543) ∈ wsX1_mayStand := List.mem_cons_of_mem _ u_643
theorem mX1_mayStand_2 : Cond.constant RX1 141 (440786851) ∈ wsX1_mayStand := List.mem_cons_of_mem _ u_644
theorem mX1_mayStand_3 : Cond.constant RX1 142 (374648427) ∈ wsX1_mayStand := List.mem_cons_of_mem _ u_645
set_option maxHeartbeats 4000000 in
set_option maxRecDepth 100000 in
theorem wX1_mayStand_b67 {p : Program} {l : Launch} {e : Env} {s : State} {m : MethodId} {args : Array Value} {below : List Frame} {meth : Method} {c : Code} {A : Nat → Prop} (D : va_G) (Y : Y4) (C : CX p s m meth c args cX1_mayStand 2 (some .boolean) wsX1_mayStand RX1) (hA : ∀ q : Nat, s.heap.size ≤ q → A q) (hK : va_K D vwCl (TY Y) s) (F : Nat) (a_sT : Nat) (p0 : Int32) (p1 : Int32) (hX : ST [e_sT a_sT] A s) (res : Int32) (b67_s_0 : Int32) (hf : fX1_mayStand_b67 F b67_s_0 = some res) {H : Heap} {locs : List Loc} {ls : Array Slot} (wd : WD D A [] H) (hS : va_S A s.heap H locs) (hl : lv_has ls 2 []) : W p l e { frames := 3, cells := 0, slots := 0, locals := 69 } s m args below meth c H locs 0 0 (MQ below (va_Qi (fun r (_ : Unit) => r = res) (fun _ t => PST D Y A [] t) A) args s 0 0 A) (F0 m 67 ls [.int b67_s_0]) := by
  obtain ⟨hx, hb, hml, hr, hts, hown, hlocks⟩ := id C
  obtain ⟨hZ_sT, hT_sT⟩ := (hX _ (List.mem_of_getElem? (i := 0) rfl)).2
  unfold fX1_mayStand_b67 at hf
  obtain ⟨hz1, hf⟩ := gd hf
  obtain rfl := Option.some.inj hf
  exact W.zret (v := b67_s_0) hx hb hr (isb_nar hz1) (fun t ht hW => ⟨⟨_, (), rfl, rfl, WD.pst wd hK ht hW⟩, hS.F ht⟩) hS.2.2 dX1_mayStand_67

set_option maxHeartbeats 4000000 in
set_option maxRecDepth 100000 in
theorem wX1_mayStand_b93 {p : Program} {l : Launch} {e : Env} {s : State} {m : MethodId} {args : Array Value} {below : List Frame} {meth : Method} {c : Code} {A : Nat → Prop} (D : va_G) (Y : Y4) (C : CX p s m meth c args cX1_mayStand 2 (some .boolean) wsX1_mayStand RX1) (hA : ∀ q : Nat, s.heap.size ≤ q → A q) (hK : va_K D vwCl (TY Y) s) (F : Nat) (a_sT : Nat) (p0 : Int32) (p1 : Int32) (hX : ST [e_sT a_sT] A s) (res : Int32) (b93_s_0 : Int32) (hf : fX1_mayStand_b93 F b93_s_0 = some res) {H : Heap} {locs : List Loc} {ls : Array Slot} (wd : WD D A [] H) (hS : va_S A s.heap H locs) (hl : lv_has ls 2 []) : W p l e { frames := 3, cells := 0, slots := 0, locals := 69 } s m args below meth c H locs 0 0 (MQ below (va_Qi (fun r (_ : Unit) => r = res) (fun _ t => PST D Y A [] t) A) args s 0 0 A) (F0 m 93 ls [.int b93_s_0]) := by
  obtain ⟨hx, hb, hml, hr, hts, hown, hlocks⟩ := id C
  obtain ⟨hZ_sT, hT_sT⟩ := (hX _ (List.mem_of_getElem? (i := 0) rfl)).2
  unfold fX1_mayStand_b93 at hf
  obtain ⟨hz1, hf⟩ := gd hf
  obtain rfl := Option.some.inj hf
  exact W.zret (v := b93_s_0) hx hb hr (isb_nar hz1) (fun t ht hW => ⟨⟨_, (), rfl, rfl, WD.pst wd hK ht hW⟩, hS.F ht⟩) hS.2.2 dX1_mayStand_93

set_option maxHeartbeats 4000000 in
set_option maxRecDepth 100000 in
theorem wX1_mayStand_b110 {p : Program} {l : Launch} {e : Env} {s : State} {m : MethodId} {args : Array Value} {below : List Frame} {meth : Method} {c : Code} {A : Nat → Prop} (D : va_G) (Y : Y4) (C : CX p s m meth c args cX1_mayStand 2 (some .boolean) wsX1_mayStand RX1) (hA : ∀ q : Nat, s.heap.size ≤ q → A q) (hK : va_K D vwCl (TY Y) s) (F : Nat) (a_sT : Nat) (p0 : Int32) (p1 : Int32) (hX : ST [e_sT a_sT] A s) (res : Int32) (b110_s_0 : Int32) (hf : fX1_mayStand_b110 F b110_s_0 = some res) {H : Heap} {locs : List Loc} {ls : Array Slot} (wd : WD D A [] H) (hS : va_S A s.heap H locs) (hl : lv_has ls 2 []) : W p l e { frames := 3, cells := 0, slots := 0, locals := 69 } s m args below meth c H locs 0 0 (MQ below (va_Qi (fun r (_ : Unit) => r = res) (fun _ t => PST D Y A [] t) A) args s 0 0 A) (F0 m 110 ls [.int b110_s_0]) := by
  obtain ⟨hx, hb, hml, hr, hts, hown, hlocks⟩ := id C
  obtain ⟨hZ_sT, hT_sT⟩ := (hX _ (List.mem_of_getElem? (i := 0) rfl)).2
  unfold fX1_mayStand_b110 at hf
  obtain ⟨hz1, hf⟩ := gd hf
  obtain rfl := Option.some.inj hf
  exact W.zret (v := b110_s_0) hx hb hr (isb_nar hz1) (fun t ht hW => ⟨⟨_, (), rfl, rfl, WD.pst wd hK ht hW⟩, hS.F ht⟩) hS.2.2 dX1_mayStand_110

set_option maxHeartbeats 4000000 in
set_option maxRecDepth 100000 in
theorem wX1_mayStand {p : Program} {l : Launch} {e : Env} {s : State} {m : MethodId} {args : Array Value} {below : List Frame} {meth : Method} {c : Code} {A : Nat → Prop} (D : va_G) (Y : Y4) (C : CX p s m meth c args cX1_mayStand 2 (some .boolean) wsX1_mayStand RX1) (hA : ∀ q : Nat, s.heap.size ≤ q → A q) (hK : va_K D vwCl (TY Y) s) (F : Nat) (a_sT : Nat) (p0 : Int32) (p1 : Int32) (hX : ST [e_sT a_sT] A s) (res : Int32) (hf : fX1_mayStand F p0 p1 = some res) {H : Heap} {locs : List Loc} {ls : Array Slot} (wd : WD D A [] H) (hS : va_S A s.heap H locs) (hl : lv_has ls 2 [(0, .int p0), (1, .int p1)]) : W p l e { frames := 3, cells := 0, slots := 0, locals := 69 } s m args below meth c H locs 0 0 (MQ below (va_Qi (fun r (_ : Unit) => r = res) (fun _ t => PST D Y A [] t) A) args s 0 0 A) (F0 m 0 ls []) := by
  obtain ⟨hx, hb, hml, hr, hts, hown, hlocks⟩ := id C
  obtain ⟨hZ_sT, hT_sT⟩ := (hX _ (List.mem_of_getElem? (i := 0) rfl)).2
  unfold fX1_mayStand at hf
  refine lv_iload_n hx hb dX1_mayStand_0 rfl (lv_at hl 0 rfl) ?_
  by_cases q1 : p0 = 357149030
  · have hf := ip hf q1
    refine lv_lookup (off := 93) (tgt := 94) hx hb dX1_mayStand_1 (by decide) (by rw [q1]; try rfl) (by decide) ?_
    refine lv_ldc hx hb hown (hts _ mX1_mayStand_0) dX1_mayStand_94 ?_
    refine lv_ldc hx hb hown (hts _ mX1_mayStand_1) dX1_mayStand_96 ?_
    refine lv_iload_n hx hb dX1_mayStand_98 rfl (lv_at hl 1 rfl) ?_
    obtain ⟨o2, ho2, hf⟩ := ob hf
    refine xj_i (va_runS (As := [.int 524531317, .int 408125543, .int p1]) (rest := []) ⟨hx, hb, hml, hown, hts⟩ (kX1_isSeen l D Y F a_sT H.size 524531317 408125543 p1 o2 ho2) (va_cwS 3 hts gX1_mayStand_X1_isSeen rfl rfl rfl (by decide +kernel) ⟨Nat.le_of_ble_eq_true rfl, Nat.le_of_ble_eq_true rfl⟩) (pres_wx hK wd [] rfl (by decide) hA hX (fun q hq => hq) hS) rfl rfl hl.1 rfl (lv_room (Nat.le_of_ble_eq_true rfl)) dX1_mayStand_99 ⟨Nat.zero_le _, Nat.zero_le _⟩) wd hS hA [] [] rfl rfl (by decide) (by decide) (fun H locs wd hS => ?_)
    have wd : WD D A [] H := wd
    refine lv_if_ne (tgt := 109) hx hb dX1_mayStand_102 (by decide) (fun q3 => ?_) (fun q3 => ?_)
    · have hf := ie hf q3
      refine lv_iconst (v := 0) hx hb dX1_mayStand_109 (by decide) ?_
      exact wX1_mayStand_b110 D Y C hA hK F a_sT p0 p1 hX _ 0 hf wd hS (lv_sub hl [] rfl)
    · have hf := ip hf q3
      refine lv_iconst (v := 1) hx hb dX1_mayStand_105 (by decide) ?_
      refine lv_goto (tgt := 110) hx hb dX1_mayStand_106 (by decide) ?_
      exact wX1_mayStand_b110 D Y C hA hK F a_sT p0 p1 hX _ 1 hf wd hS (lv_sub hl [] rfl)
  have hf := ie hf q1
  by_cases q4 : p0 = 374648427
  · have hf := ip hf q4
    refine lv_lookup (off := 93) (tgt := 94) hx hb dX1_mayStand_1 (by decide) (by rw [q4]; try rfl) (by decide) ?_
    refine lv_ldc hx hb hown (hts _ mX1_mayStand_0) dX1_mayStand_94 ?_
    refine lv_ldc hx hb hown (hts _ mX1_mayStand_1) dX1_mayStand_96 ?_
    refine lv_iload_n hx hb dX1_mayStand_98 rfl (lv_at hl 1 rfl) ?_
    obtain ⟨o5, ho5, hf⟩ := ob hf
    refine xj_i (va_runS (As := [.int 524531317, .int 408125543, .int p1]) (rest := []) ⟨hx, hb, hml, hown, hts⟩ (kX1_isSeen l D Y F a_sT H.size 524531317 408125543 p1 o5 ho5) (va_cwS 3 hts gX1_mayStand_X1_isSeen rfl rfl rfl (by decide +kernel) ⟨Nat.le_of_ble_eq_true rfl, Nat.le_of_ble_eq_true rfl⟩) (pres_wx hK wd [] rfl (by decide) hA hX (fun q hq => hq) hS) rfl rfl hl.1 rfl (lv_room (Nat.le_of_ble_eq_true rfl)) dX1_mayStand_99 ⟨Nat.zero_le _, Nat.zero_le _⟩) wd hS hA [] [] rfl rfl (by decide) (by decide) (fun H locs wd hS => ?_)
    have wd : WD D A [] H := wd
    refine lv_if_ne (tgt := 109) hx hb dX1_mayStand_102 (by decide) (fun q6 => ?_) (fun q6 => ?_)
    · have hf := ie hf q6
      refine lv_iconst (v := 0) hx hb dX1_mayStand_109 (by decide) ?_
      exact wX1_mayStand_b110 D Y C hA hK F a_sT p0 p1 hX _ 0 hf wd hS (lv_sub hl [] rfl)
    · have hf := ip hf q6
      refine lv_iconst (v := 1) hx hb dX1_mayStand_105 (by decide) ?_
      refine lv_goto (tgt := 110) hx hb dX1_mayStand_106 (by decide) ?_
      exact wX1_mayStand_b110 D Y C hA hK F a_sT p0 p1 hX _ 1 hf wd hS (lv_sub hl [] rfl)
  have hf := ie hf q4
  by_cases q7 : p0 = 408125543
  · have hf := ip hf q7
    refine lv_lookup (off := 67) (tgt := 68) hx hb dX1_mayStand_1 (by decide) (by rw [q7]; try rfl) (by decide) ?_
    refine lv_ldc hx hb hown (hts _ mX1_mayStand_2) dX1_mayStand_68 ?_
    refine lv_iconst (v := 0) hx hb dX1_mayStand_70 (by decide) ?_
    refine lv_iload_n hx hb dX1_mayStand_71 rfl (lv_at hl 1 rfl) ?_
    obtain ⟨o8, ho8, hf⟩ := ob hf
    refine xj_i (va_runS (As := [.int 440786851, .int 0, .int p1]) (rest := []) ⟨hx, hb, hml, hown, hts⟩ (kX1_isSeen l D Y F a_sT H.size 440786851 0 p1 o8 ho8) (va_cwS 3 hts gX1_mayStand_X1_isSeen rfl rfl rfl (by decide +kernel) ⟨Nat.le_of_ble_eq_true rfl, Nat.le_of_ble_eq_true rfl⟩) (pres_wx hK wd [] rfl (by decide) hA hX (fun q hq => hq) hS) rfl rfl hl.1 rfl (lv_room (Nat.le_of_ble_eq_true rfl)) dX1_mayStand_72 ⟨Nat.zero_le _, Nat.zero_le _⟩) wd hS hA [] [] rfl rfl (by decide) (by decide) (fun H locs wd hS => ?_)
    have wd : WD D A [] H := wd
    refine lv_if_eq (tgt := 92) hx hb dX1_mayStand_75 (by decide) (fun q9 => ?_) (fun q9 => ?_)
    · have hf := ip hf q9
      refine lv_iconst (v := 0) hx hb dX1_mayStand_92 (by decide) ?_
      exact wX1_mayStand_b93 D Y C hA hK F a_sT p0 p1 hX _ 0 hf wd hS (lv_sub hl [] rfl)
    · have hf := ie hf q9
      refine lv_ldc hx hb hown (hts _ mX1_mayStand_1) dX1_mayStand_78 ?_
      refine lv_iconst (v := 0) hx hb dX1_mayStand_80 (by decide) ?_
      refine lv_iload_n hx hb dX1_mayStand_81 rfl (lv_at hl 1 rfl) ?_
      obtain ⟨o10, ho10, hf⟩ := ob hf
      refine xj_i (va_runS (As := [.int 408125543, .int 0, .int p1]) (rest := []) ⟨hx, hb, hml, hown, hts⟩ (kX1_isSeen l D Y F a_sT H.size 408125543 0 p1 o10 ho10) (va_cwS 3 hts gX1_mayStand_X1_isSeen rfl rfl rfl (by decide +kernel) ⟨Nat.le_of_ble_eq_true rfl, Nat.le_of_ble_eq_true rfl⟩) (pres_wx hK wd [] rfl (by decide) hA hX (fun q hq => hq) hS) rfl rfl hl.1 rfl (lv_room (Nat.le_of_ble_eq_true rfl)) dX1_mayStand_82 ⟨Nat.zero_le _, Nat.zero_le _⟩) wd hS hA [] [] rfl rfl (by decide) (by decide) (fun H locs wd hS => ?_)
      have wd : WD D A [] H := wd
      refine lv_if_ne (tgt := 92) hx hb dX1_mayStand_85 (by decide) (fun q11 => ?_) (fun q11 => ?_)
      · have hf := ie hf q11
        refine lv_iconst (v := 0) hx hb dX1_mayStand_92 (by decide) ?_
        exact wX1_mayStand_b93 D Y C hA hK F a_sT p0 p1 hX _ 0 hf wd hS (lv_sub hl [] rfl)
      · have hf := ip hf q11
        refine lv_iconst (v := 1) hx hb dX1_mayStand_88 (by decide) ?_
        refine lv_goto (tgt := 93) hx hb dX1_mayStand_89 (by decide) ?_
        exact wX1_mayStand_b93 D Y C hA hK F a_sT p0 p1 hX _ 1 hf wd hS (lv_sub hl [] rfl)
  have hf := ie hf q7
  by_cases q12 : p0 = 440786851
  · have hf := ip hf q12
    refine lv_lookup (off := 51) (tgt := 52) hx hb dX1_mayStand_1 (by decide) (by rw [q12]; try rfl) (by decide) ?_
    refine lv_ldc hx hb hown (hts _ mX1_mayStand_1) dX1_mayStand_52 ?_
    refine lv_iconst (v := 0) hx hb dX1_mayStand_54 (by decide) ?_
    refine lv_iload_n hx hb dX1_mayStand_55 rfl (lv_at hl 1 rfl) ?_
    obtain ⟨o13, ho13, hf⟩ := ob hf
    refine xj_i (va_runS (As := [.int 408125543, .int 0, .int p1]) (rest := []) ⟨hx, hb, hml, hown, hts⟩ (kX1_isSeen l D Y F a_sT H.size 408125543 0 p1 o13 ho13) (va_cwS 3 hts gX1_mayStand_X1_isSeen rfl rfl rfl (by decide +kernel) ⟨Nat.le_of_ble_eq_true rfl, Nat.le_of_ble_eq_true rfl⟩) (pres_wx hK wd [] rfl (by decide) hA hX (fun q hq => hq) hS) rfl rfl hl.1 rfl (lv_room (Nat.le_of_ble_eq_true rfl)) dX1_mayStand_56 ⟨Nat.zero_le _, Nat.zero_le _⟩) wd hS hA [] [] rfl rfl (by decide) (by decide) (fun H locs wd hS => ?_)
    have wd : WD D A [] H := wd
    refine lv_if_ne (tgt := 66) hx hb dX1_mayStand_59 (by decide) (fun q14 => ?_) (fun q14 => ?_)
    · have hf := ie hf q14
      refine lv_iconst (v := 0) hx hb dX1_mayStand_66 (by decide) ?_
      exact wX1_mayStand_b67 D Y C hA hK F a_sT p0 p1 hX _ 0 hf wd hS (lv_sub hl [] rfl)
    · have hf := ip hf q14
      refine lv_iconst (v := 1) hx hb dX1_mayStand_62 (by decide) ?_
      refine lv_goto (tgt := 67) hx hb dX1_mayStand_63 (by decide) ?_
      exact wX1_mayStand_b67 D Y C hA hK F a_sT p0 p1 hX _ 1 hf wd hS (lv_sub hl [] rfl)
  have hf := ie hf q12
  by_cases q15 : p0 = 524531317
  · have hf := ip hf q15
    refine lv_lookup (off := 110) (tgt := 111) hx hb dX1_mayStand_1 (by decide) (by rw [q15]; try rfl) (by decide) ?_
    refine lv_ldc hx hb hown (hts _ mX1_mayStand_3) dX1_mayStand_111 ?_
    refine lv_ldc hx hb hown (hts _ mX1_mayStand_1) dX1_mayStand_113 ?_
    refine lv_iload_n hx hb dX1_mayStand_115 rfl (lv_at hl 1 rfl) ?_
    obtain ⟨o16, ho16, hf⟩ := ob hf
    refine xj_i (va_runS (As := [.int 374648427, .int 408125543, .int p1]) (rest := []) ⟨hx, hb, hml, hown, hts⟩ (kX1_isSeen l D Y F a_sT H.size 374648427 408125543 p1 o16 ho16) (va_cwS 3 hts gX1_mayStand_X1_isSeen rfl rfl rfl (by decide +kernel) ⟨Nat.le_of_ble_eq_true rfl, Nat.le_of_ble_eq_true rfl⟩) (pres_wx hK wd [] rfl (by decide) hA hX (fun q hq => hq) hS) rfl rfl hl.1 rfl (lv_room (Nat.le_of_ble_eq_true rfl)) dX1_mayStand_116 ⟨Nat.zero_le _, Nat.zero_le _⟩) wd hS hA [] [] rfl rfl (by decide) (by decide) (fun H locs wd hS => ?_)
    have wd : WD D A [] H := wd
    obtain ⟨hz17, hf⟩ := gd hf
    obtain rfl := Option.some.inj hf
    exact W.zret (v := o16) hx hb hr (isb_nar hz17) (fun t ht hW => ⟨⟨_, (), rfl, rfl, WD.pst wd hK ht hW⟩, hS.F ht⟩) hS.2.2 dX1_mayStand_119
  have hf := ie hf q15
  refine lv_lookup (off := 119) (tgt := 120) hx hb dX1_mayStand_1 (by decide) (by show Op.lookupswitch.offset [(357149030, 93), (374648427, 93), (408125543, 67), (440786851, 51), (524531317, 110)] 119 p0.toInt = 119; rw [lv_osw q1 (by decide), lv_osw q4 (by decide), lv_osw q7 (by decide), lv_osw q12 (by decide), lv_osw q15 (by decide)]; try rfl) (by decide) ?_
  refine lv_iconst (v := 1) hx hb dX1_mayStand_120 (by decide) ?_
  obtain rfl := Option.some.inj hf
  exact W.zret (v := 1) hx hb hr rfl (fun t ht hW => ⟨⟨_, (), rfl, rfl, WD.pst wd hK ht hW⟩, hS.F ht⟩) hS.2.2 dX1_mayStand_121
set_option maxHeartbeats 4000000 in
set_option maxRecDepth 100000 in
theorem kX1_mayStand (l : Launch) (D : va_G) (Y : Y4) (F : Nat) (a_sT : Nat) (sz : Nat) (p0 : Int32) (p1 : Int32) (res : Int32) (hf : fX1_mayStand F p0 p1 = some res) : Met l yX1_mayStand wsX1_mayStand ({ frames := 3, cells := 0, slots := 0, locals := 69 }) (va_Pc [.int p0, .int p1] (PREX D Y [] sz [e_sT a_sT])) (va_Qi (fun r (_ : Unit) => r = res) (fun _ t => PST D Y (va_A [] sz) [] t) (va_A [] sz)) 0 0 (va_A [] sz) := by
  refine Met.ofW (cc := cX1_mayStand) (maxL := 2) (ret := (some .boolean)) (by decide) rfl ?_
  intro p e s m args below meth c s₁ B hml hv
  obtain ⟨rfl, ⟨rfl, hP, hK, hD0⟩, hX⟩ := hv
  have hl := lv_entry ([.int p0, .int p1]) (n := 2) (Nat.le_of_ble_eq_true rfl)
  rw [lg_entry_eq]
  exact wX1_mayStand D Y ⟨B.exec, B.bytes, hml, B.returns, atoms_spec (ws := wsX1_mayStand) B.pre, findClass_of_methodNamed B.named, B.notSynchronized⟩ (fun q h => Or.inr h) hK F a_sT p0 p1 hX res hf ⟨hP, hD0.self⟩ va_S.rf hl
theorem mX1_sizeWidth_0 : Cond.fieldLink RX1 24 "StreamRemuxer$ElementReader" "file" "LStreamRemuxer$Row;" ∈ wsX1_sizeWidth := List.mem_cons_of_mem _ u_587
theorem iX1_sizeWidth_X1 : ∀ w ∈ wsX10, w ∈ wsX1_sizeWidth := fun w h => List.mem_cons_of_mem _ (inlX1 w h)
set_option maxHeartbeats 4000000 in
set_option maxRecDepth 100000 in
theorem wX1_sizeWidth_b31 {p : Program} {l : Launch} {e : Env} {s : State} {m : MethodId} {args : Array Value} {below : List Frame} {meth : Method} {c : Code} {A : Nat → Prop} (D : va_G) (Y : Y4) (C : CX p s m meth c args cX1_sizeWidth 4 (some .int) wsX1_sizeWidth RX1) (hA : ∀ q : Nat, s.heap.size ≤ q → A q) (hK : va_K D vwCl (TY Y) s) (F : Nat) (a_h : Nat) (a_f : Nat) (a_fw : Nat) (a_hz : Nat) (a_hv : Nat) (a_p : Nat) (h_fault : Int32) (h_place : Int32) (h_clusters : Int32) (h_blocks : Int32) (h_depth : Int32) (h_trackNumber : Int64) (h_clusterTime : Int64) (h_bodySize : Int64) (h_lacingAt : Int32) (f_most : Int32) (f_length : Int32) (f_overfull : Int32) (fw_n : Nat) (c_fw : (Nat → Int32)) (p1 : Int32) (p2 : Int32) (res : Int32) (b31_s_0 : Int32) (hf : fX1_sizeWidth_b31 F b31_s_0 = some res) {H : Heap} {locs : List Loc} {ls : Array Slot} (wd : WD D A [oX1 a_h h_fault h_place h_clusters h_blocks (.ref a_hz) (.ref a_hv) h_depth (.ref a_f) (.ref a_p) h_trackNumber h_clusterTime h_bodySize h_lacingAt, oX8 a_f (.ref a_fw) f_most f_length f_overfull, aI Y a_fw fw_n c_fw] H) (hS : va_S A s.heap H locs) (hl : lv_has ls 4 []) : W p l e { frames := 1, cells := 0, slots := 0, locals := 21 } s m args below meth c H locs 0 0 (MQ below (va_Qi (fun r (_ : Unit) => r = res) (fun _ t => PST D Y A [oX1 a_h h_fault h_place h_clusters h_blocks (.ref a_hz) (.ref a_hv) h_depth (.ref a_f) (.ref a_p) h_trackNumber h_clusterTime h_bodySize h_lacingAt, oX8 a_f (.ref a_fw) f_most f_length f_overfull, aI Y a_fw fw_n c_fw] t) A) args s 0 0 A) (F0 m 31 ls [.int b31_s_0]) := by
  obtain ⟨hx, hb, hml, hr, hts, hown, hlocks⟩ := id C
  unfold fX1_sizeWidth_b31 at hf
  obtain rfl := Option.some.inj hf
  exact W.iret (v := b31_s_0) hx hb hr (fun t ht hW => ⟨⟨_, (), rfl, rfl, WD.pst wd hK ht hW⟩, hS.F ht⟩) hS.2.2 dX1_sizeWidth_31

set_option maxHeartbeats 4000000 in
set_option maxRecDepth 100000 in
theorem wX1_sizeWidth {p : Program} {l : Launch} {e : Env} {s : State} {m : MethodId} {args : Array Value} {below : List Frame} {meth : Method} {c : Code} {A : Nat → Prop} (D : va_G) (Y : Y4) (C : CX p s m meth c args cX1_sizeWidth 4 (some .int) wsX1_sizeWidth RX1) (hA : ∀ q : Nat, s.heap.size ≤ q → A q) (hK : va_K D vwCl (TY Y) s) (F : Nat) (a_h : Nat) (a_f : Nat) (a_fw : Nat) (a_hz : Nat) (a_hv : Nat) (a_p : Nat) (h_fault : Int32) (h_place : Int32) (h_clusters : Int32) (h_blocks : Int32) (h_depth : Int32) (h_trackNumber : Int64) (h_clusterTime : Int64) (h_bodySize : Int64) (h_lacingAt : Int32) (f_most : Int32) (f_length : Int32) (f_overfull : Int32) (fw_n : Nat) (c_fw : (Nat → Int32)) (p1 : Int32) (p2 : Int32) (res : Int32) (hf : fX1_sizeWidth F f_length fw_n c_fw p1 p2 = some res) {H : Heap} {locs : List Loc} {ls : Array Slot} (wd : WD D A [oX1 a_h h_fault h_place h_clusters h_blocks (.ref a_hz) (.ref a_hv) h_depth (.ref a_f) (.ref a_p) h_trackNumber h_clusterTime h_bodySize h_lacingAt, oX8 a_f (.ref a_fw) f_most f_length f_overfull, aI Y a_fw fw_n c_fw] H) (hS : va_S A s.heap H locs) (hl : lv_has ls 4 [(0, .ref a_h), (1, .int p1), (2, .int p2)]) : W p l e { frames := 1, cells := 0, slots := 0, locals := 21 } s m args below meth c H locs 0 0 (MQ below (va_Qi (fun r (_ : Unit) => r = res) (fun _ t => PST D Y A [oX1 a_h h_fault h_place h_clusters h_blocks (.ref a_hz) (.ref a_hv) h_depth (.ref a_f) (.ref a_p) h_trackNumber h_clusterTime h_bodySize h_lacingAt, oX8 a_f (.ref a_fw) f_most f_length f_overfull, aI Y a_fw fw_n c_fw] t) A) args s 0 0 A) (F0 m 0 ls []) := by
  obtain ⟨hx, hb, hml, hr, hts, hown, hlocks⟩ := id C
  unfold fX1_sizeWidth at hf
  refine lv_iload_n hx hb dX1_sizeWidth_0 rfl (lv_at hl 1 rfl) ?_
  refine lv_iload_n hx hb dX1_sizeWidth_1 rfl (lv_at hl 2 rfl) ?_
  refine lv_icmp_lt (tgt := 7) hx hb dX1_sizeWidth_2 (by decide) (fun q1 => ?_) (fun q1 => ?_)
  · have hf := ip hf q1
    refine lv_aload_n hx hb dX1_sizeWidth_7 rfl (lv_at hl 0 rfl) ?_
    refine va_get (D := D) (ci := 0) (v := .ref a_f) (C := RX1) (T := TX1) (N := 13) hx hb hts iX1_sizeWidth_X1 hown hK wd.1 0 rfl rfl 7 (by decide) (hts _ mX1_sizeWidth_0) (fun _ h9 => h9) rfl dX1_sizeWidth_8 ?_
    refine lv_iload_n hx hb dX1_sizeWidth_11 rfl (lv_at hl 1 rfl) ?_
    obtain ⟨o2, ho2, hf⟩ := ob hf
    refine xj_i (va_runV (As := [.int p1]) (rest := []) ⟨hx, hb, hml, hown, hts⟩ (kX8_at l D Y F a_f a_fw H.size f_most f_length f_overfull fw_n c_fw p1 o2 ho2) (cwV 1 hts gX1_sizeWidth_X8_at rfl rfl rfl (by decide +kernel) ⟨Nat.le_of_ble_eq_true rfl, Nat.le_of_ble_eq_true rfl⟩) (prev_w (ci := 6) rfl rfl hK wd [1, 2] rfl (by decide)) rfl rfl hl.1 rfl (lv_room (Nat.le_of_ble_eq_true rfl)) dX1_sizeWidth_12 ⟨Nat.zero_le _, Nat.zero_le _⟩) wd hS hA [1, 2] [0] rfl rfl (by decide) (by decide) (fun H locs wd hS => ?_)
    have wd : WD D A [oX1 a_h h_fault h_place h_clusters h_blocks (.ref a_hz) (.ref a_hv) h_depth (.ref a_f) (.ref a_p) h_trackNumber h_clusterTime h_bodySize h_lacingAt, oX8 a_f (.ref a_fw) f_most f_length f_overfull, aI Y a_fw fw_n c_fw] H := wd
    obtain ⟨o3, ho3, hf⟩ := ob hf
    refine xj_i (va_runS (As := [.int o2]) (rest := []) ⟨hx, hb, hml, hown, hts⟩ (kX1_markedWidth l D Y F H.size o2 o3 ho3) (va_cwS 1 hts gX1_sizeWidth_X1_markedWidth rfl rfl rfl (by decide +kernel) ⟨Nat.le_of_ble_eq_true rfl, Nat.le_of_ble_eq_true rfl⟩) (pres_w hK wd [] rfl (by decide)) rfl rfl hl.1 rfl (lv_room (Nat.le_of_ble_eq_true rfl)) dX1_sizeWidth_15 ⟨Nat.zero_le _, Nat.zero_le _⟩) wd hS hA [] [0, 1, 2] rfl rfl (by decide) (by decide) (fun H locs wd hS => ?_)
    have wd : WD D A [oX1 a_h h_fault h_place h_clusters h_blocks (.ref a_hz) (.ref a_hv) h_depth (.ref a_f) (.ref a_p) h_trackNumber h_clusterTime h_bodySize h_lacingAt, oX8 a_f (.ref a_fw) f_most f_length f_overfull, aI Y a_fw fw_n c_fw] H := wd
    refine lv_istore_n (lv' := [(3, .int o3), (0, .ref a_h), (1, .int p1), (2, .int p2)]) hx hb dX1_sizeWidth_18 rfl hl (by decide) rfl (fun ls hl => ?_)
    refine lv_iload_n hx hb dX1_sizeWidth_19 rfl (lv_at hl 0 rfl) ?_
    refine lv_iload_n hx hb dX1_sizeWidth_20 rfl (lv_at hl 3 rfl) ?_
    refine lv_iload_n hx hb dX1_sizeWidth_21 rfl (lv_at hl 2 rfl) ?_
    refine lv_isub hx hb dX1_sizeWidth_22 ?_
    refine lv_icmp_le (tgt := 30) hx hb dX1_sizeWidth_23 (by decide) (fun q4 => ?_) (fun q4 => ?_)
    · have hf := ip hf q4
      refine lv_iload_n hx hb dX1_sizeWidth_30 rfl (lv_at hl 0 rfl) ?_
      exact wX1_sizeWidth_b31 D Y C hA hK F a_h a_f a_fw a_hz a_hv a_p h_fault h_place h_clusters h_blocks h_depth h_trackNumber h_clusterTime h_bodySize h_lacingAt f_most f_length f_overfull fw_n c_fw p1 p2 _ o3 hf wd hS (lv_sub hl [] rfl)
    · have hf := ie hf q4
      refine lv_iconst (v := (-1)) hx hb dX1_sizeWidth_26 (by decide) ?_
      refine lv_goto (tgt := 31) hx hb dX1_sizeWidth_27 (by decide) ?_
      exact wX1_sizeWidth_b31 D Y C hA hK F a_h a_f a_fw a_hz a_hv a_p h_fault h_place h_clusters h_blocks h_depth h_trackNumber h_clusterTime h_bodySize h_lacingAt f_most f_length f_overfull fw_n c_fw p1 p2 _ (-1) hf wd hS (lv_sub hl [] rfl)
  · have hf := ie hf q1
    refine lv_iconst (v := (-1)) hx hb dX1_sizeWidth_5 (by decide) ?_
    obtain rfl := Option.some.inj hf
    exact W.iret (v := (-1)) hx hb hr (fun t ht hW => ⟨⟨_, (), rfl, rfl, WD.pst wd hK ht hW⟩, hS.F ht⟩) hS.2.2 dX1_sizeWidth_6
set_option maxHeartbeats 4000000 in
set_option maxRecDepth 100000 in
theorem kX1_sizeWidth (l : Launch) (D : va_G) (Y : Y4) (F : Nat) (a_h : Nat) (a_f : Nat) (a_fw : Nat) (a_hz : Nat) (a_hv : Nat) (a_p : Nat) (sz : Nat) (h_fault : Int32) (h_place : Int32) (h_clusters : Int32) (h_blocks : Int32) (h_depth : Int32) (h_trackNumber : Int64) (h_clusterTime : Int64) (h_bodySize : Int64) (h_lacingAt : Int32) (f_most : Int32) (f_length : Int32) (f_overfull : Int32) (fw_n : Nat) (c_fw : (Nat → Int32)) (p1 : Int32) (p2 : Int32) (res : Int32) (hf : fX1_sizeWidth F f_length fw_n c_fw p1 p2 = some res) : Met l yX1_sizeWidth wsX1_sizeWidth ({ frames := 1, cells := 0, slots := 0, locals := 21 }) (va_Pc [.ref a_h, .int p1, .int p2] (PRE D Y [oX1 a_h h_fault h_place h_clusters h_blocks (.ref a_hz) (.ref a_hv) h_depth (.ref a_f) (.ref a_p) h_trackNumber h_clusterTime h_bodySize h_lacingAt, oX8 a_f (.ref a_fw) f_most f_length f_overfull, aI Y a_fw fw_n c_fw] sz)) (va_Qi (fun r (_ : Unit) => r = res) (fun _ t => PST D Y (va_A [oX1 a_h h_fault h_place h_clusters h_blocks (.ref a_hz) (.ref a_hv) h_depth (.ref a_f) (.ref a_p) h_trackNumber h_clusterTime h_bodySize h_lacingAt, oX8 a_f (.ref a_fw) f_most f_length f_overfull, aI Y a_fw fw_n c_fw] sz) [oX1 a_h h_fault h_place h_clusters h_blocks (.ref a_hz) (.ref a_hv) h_depth (.ref a_f) (.ref a_p) h_trackNumber h_clusterTime h_bodySize h_lacingAt, oX8 a_f (.ref a_fw) f_most f_length f_overfull, aI Y a_fw fw_n c_fw] t) (va_A [oX1 a_h h_fault h_place h_clusters h_blocks (.ref a_hz) (.ref a_hv) h_depth (.ref a_f) (.ref a_p) h_trackNumber h_clusterTime h_bodySize h_lacingAt, oX8 a_f (.ref a_fw) f_most f_length f_overfull, aI Y a_fw fw_n c_fw] sz)) 0 0 (va_A [oX1 a_h h_fault h_place h_clusters h_blocks (.ref a_hz) (.ref a_hv) h_depth (.ref a_f) (.ref a_p) h_trackNumber h_clusterTime h_bodySize h_lacingAt, oX8 a_f (.ref a_fw) f_most f_length f_overfull, aI Y a_fw fw_n c_fw] sz) := by
  refine Met.ofW (cc := cX1_sizeWidth) (maxL := 4) (ret := (some .int)) (by decide) rfl ?_
  intro p e s m args below meth c s₁ B hml hv
  obtain ⟨rfl, rfl, hP, hK, hD0⟩ := hv
  have hl := lv_entry ([.ref a_h, .int p1, .int p2]) (n := 4) (Nat.le_of_ble_eq_true rfl)
  rw [lg_entry_eq]
  exact wX1_sizeWidth D Y ⟨B.exec, B.bytes, hml, B.returns, atoms_spec (ws := wsX1_sizeWidth) B.pre, findClass_of_methodNamed B.named, B.notSynchronized⟩ (fun q h => Or.inr h) hK F a_h a_f a_fw a_hz a_hv a_p h_fault h_place h_clusters h_blocks h_depth h_trackNumber h_clusterTime h_bodySize h_lacingAt f_most f_length f_overfull fw_n c_fw p1 p2 res hf ⟨hP, hD0.self⟩ va_S.rf hl
theorem mX1_sizeNumber_0 : Cond.fieldLink RX1 24 "StreamRemuxer$ElementReader" "file" "LStreamRemuxer$Row;" ∈ wsX1_sizeNumber := List.mem_cons_of_mem _ u_587
theorem mX1_sizeNumber_1 : Cond.constantLong RX1 45 (-1) ∈ wsX1_sizeNumber := List.mem_cons_of_mem _ u_593
theorem iX1_sizeNumber_X1 : ∀ w ∈ wsX10, w ∈ wsX1_sizeNumber := fun w h => List.mem_cons_of_mem _ (inlX1 w h)
set_option maxHeartbeats 4000000 in
set_option maxRecDepth 100000 in
theorem wX1_sizeNumber_b65 {p : Program} {l : Launch} {e : Env} {s : State} {m : MethodId} {args : Array Value} {below : List Frame} {meth : Method} {c : Code} {A : Nat → Prop} (D : va_G) (Y : Y4) (C : CX p s m meth c args cX1_sizeNumber 6 (some .long) wsX1_sizeNumber RX1) (hA : ∀ q : Nat, s.heap.size ≤ q → A q) (hK : va_K D vwCl (TY Y) s) (F : Nat) (a_h : Nat) (a_f : Nat) (a_fw : Nat) (a_hz : Nat) (a_hv : Nat) (a_p : Nat) (h_fault : Int32) (h_place : Int32) (h_clusters : Int32) (h_blocks : Int32) (h_depth : Int32) (h_trackNumber : Int64) (h_clusterTime : Int64) (h_bodySize : Int64) (h_lacingAt : Int32) (f_most : Int32) (f_length : Int32) (f_overfull : Int32) (fw_n : Nat) (c_fw : (Nat → Int32)) (p1 : Int32) (p2 : Int32) (res : Int64) (b65_s_0 : Int64) (hf : fX1_sizeNumber_b65 F b65_s_0 = some res) {H : Heap} {locs : List Loc} {ls : Array Slot} (wd : WD D A [oX1 a_h h_fault h_place h_clusters h_blocks (.ref a_hz) (.ref a_hv) h_depth (.ref a_f) (.ref a_p) h_trackNumber h_clusterTime h_bodySize h_lacingAt, oX8 a_f (.ref a_fw) f_most f_length f_overfull, aI Y a_fw fw_n c_fw] H) (hS : va_S A s.heap H locs) (hl : lv_has ls 6 []) : W p l e { frames := 1, cells := 0, slots := 0, locals := 21 } s m args below meth c H locs 0 0 (MQ below (va_Ql (fun r (_ : Unit) => r = res) (fun _ t => PST D Y A [oX1 a_h h_fault h_place h_clusters h_blocks (.ref a_hz) (.ref a_hv) h_depth (.ref a_f) (.ref a_p) h_trackNumber h_clusterTime h_bodySize h_lacingAt, oX8 a_f (.ref a_fw) f_most f_length f_overfull, aI Y a_fw fw_n c_fw] t) A) args s 0 0 A) (F0 m 65 ls [.long b65_s_0]) := by
  obtain ⟨hx, hb, hml, hr, hts, hown, hlocks⟩ := id C
  unfold fX1_sizeNumber_b65 at hf
  obtain rfl := Option.some.inj hf
  exact W.lret (v := b65_s_0) hx hb hr (fun t ht hW => ⟨⟨_, (), rfl, rfl, WD.pst wd hK ht hW⟩, hS.F ht⟩) hS.2.2 dX1_sizeNumber_65

set_option maxHeartbeats 4000000 in
set_option maxRecDepth 100000 in
theorem wX1_sizeNumber_b19 {p : Program} {l : Launch} {e : Env} {s : State} {m : MethodId} {args : Array Value} {below : List Frame} {meth : Method} {c : Code} {A : Nat → Prop} (D : va_G) (Y : Y4) (C : CX p s m meth c args cX1_sizeNumber 6 (some .long) wsX1_sizeNumber RX1) (hA : ∀ q : Nat, s.heap.size ≤ q → A q) (hK : va_K D vwCl (TY Y) s) (F : Nat) (a_h : Nat) (a_f : Nat) (a_fw : Nat) (a_hz : Nat) (a_hv : Nat) (a_p : Nat) (h_fault : Int32) (h_place : Int32) (h_clusters : Int32) (h_blocks : Int32) (h_depth : Int32) (h_trackNumber : Int64) (h_clusterTime : Int64) (h_bodySize : Int64) (h_lacingAt : Int32) (f_most : Int32) (f_length : Int32) (f_overfull : Int32) (fw_n : Nat) (c_fw : (Nat → Int32)) (p1 : Int32) (p2 : Int32) (res : Int64) : ∀ (n : Nat) (b19_l_5 : Int32) (b19_l_3 : Int64), fX1_sizeNumber_b19 F f_length fw_n c_fw p1 p2 n b19_l_5 b19_l_3 = some res → ∀ {H : Heap} {locs : List Loc} {ls : Array Slot}, WD D A [oX1 a_h h_fault h_place h_clusters h_blocks (.ref a_hz) (.ref a_hv) h_depth (.ref a_f) (.ref a_p) h_trackNumber h_clusterTime h_bodySize h_lacingAt, oX8 a_f (.ref a_fw) f_most f_length f_overfull, aI Y a_fw fw_n c_fw] H → va_S A s.heap H locs → lv_has ls 6 [(0, .ref a_h), (1, .int p1), (2, .int p2), (3, .long b19_l_3), (5, .int b19_l_5)] → W p l e { frames := 1, cells := 0, slots := 0, locals := 21 } s m args below meth c H locs 0 0 (MQ below (va_Ql (fun r (_ : Unit) => r = res) (fun _ t => PST D Y A [oX1 a_h h_fault h_place h_clusters h_blocks (.ref a_hz) (.ref a_hv) h_depth (.ref a_f) (.ref a_p) h_trackNumber h_clusterTime h_bodySize h_lacingAt, oX8 a_f (.ref a_fw) f_most f_length f_overfull, aI Y a_fw fw_n c_fw] t) A) args s 0 0 A) (F0 m 19 ls []) := by
  obtain ⟨hx, hb, hml, hr, hts, hown, hlocks⟩ := id C
  intro n
  induction n with
  | zero => intro b19_l_5 b19_l_3 hf; exact absurd hf (by simp [fX1_sizeNumber_b19])
  | succ n ih =>
    intro b19_l_5 b19_l_3 hf H locs ls wd hS hl
    unfold fX1_sizeNumber_b19 at hf
    refine lv_iload hx hb dX1_sizeNumber_19 (lv_at hl 4 rfl) ?_
    refine lv_iload_n hx hb dX1_sizeNumber_21 rfl (lv_at hl 2 rfl) ?_
    refine lv_icmp_ge (tgt := 49) hx hb dX1_sizeNumber_22 (by decide) (fun q1 => ?_) (fun q1 => ?_)
    · have hf := ip hf q1
      refine lv_lload_n hx hb dX1_sizeNumber_49 rfl (lv_at hl 3 rfl) ?_
      refine lv_iload_n hx hb dX1_sizeNumber_50 rfl (lv_at hl 2 rfl) ?_
      obtain ⟨o2, ho2, hf⟩ := ob hf
      refine xj_l (va_runS (As := [.int p2]) (rest := [.long b19_l_3]) ⟨hx, hb, hml, hown, hts⟩ (kX0_highestSize l D Y F H.size p2 o2 ho2) (va_cwS 1 hts gX1_sizeNumber_X0_highestSize rfl rfl rfl (by decide +kernel) ⟨Nat.le_of_ble_eq_true rfl, Nat.le_of_ble_eq_true rfl⟩) (pres_w hK wd [] rfl (by decide)) rfl rfl hl.1 rfl (lv_room (Nat.le_of_ble_eq_true rfl)) dX1_sizeNumber_51 ⟨Nat.zero_le _, Nat.zero_le _⟩) wd hS hA [] [0, 1, 2] rfl rfl (by decide) (by decide) (fun H locs wd hS => ?_)
      have wd : WD D A [oX1 a_h h_fault h_place h_clusters h_blocks (.ref a_hz) (.ref a_hv) h_depth (.ref a_f) (.ref a_p) h_trackNumber h_clusterTime h_bodySize h_lacingAt, oX8 a_f (.ref a_fw) f_most f_length f_overfull, aI Y a_fw fw_n c_fw] H := wd
      refine xl_le (tgt := 64) hx hb dX1_sizeNumber_54 dX1_sizeNumber_55 (by decide) (fun q3 => ?_) (fun q3 => ?_)
      · have hf := ip hf q3
        refine lv_lload_n hx hb dX1_sizeNumber_64 rfl (lv_at hl 3 rfl) ?_
        exact wX1_sizeNumber_b65 D Y C hA hK F a_h a_f a_fw a_hz a_hv a_p h_fault h_place h_clusters h_blocks h_depth h_trackNumber h_clusterTime h_bodySize h_lacingAt f_most f_length f_overfull fw_n c_fw p1 p2 _ b19_l_3 hf wd hS (lv_sub hl [] rfl)
      · have hf := ie hf q3
        refine lv_ldc2 hx hb hown (hts _ mX1_sizeNumber_1) dX1_sizeNumber_58 ?_
        refine lv_goto (tgt := 65) hx hb dX1_sizeNumber_61 (by decide) ?_
        exact wX1_sizeNumber_b65 D Y C hA hK F a_h a_f a_fw a_hz a_hv a_p h_fault h_place h_clusters h_blocks h_depth h_trackNumber h_clusterTime h_bodySize h_lacingAt f_most f_length f_overfull fw_n c_fw p1 p2 _ (-1) hf wd hS (lv_sub hl [] rfl)
    · have hf := ie hf q1
      refine lv_lload_n hx hb dX1_sizeNumber_25 rfl (lv_at hl 3 rfl) ?_
      refine lv_bipush (v := 8) hx hb dX1_sizeNumber_26 (by decide) ?_
      refine lv_lshl (v := (shl64 b19_l_3 8)) hx hb dX1_sizeNumber_28 rfl ?_
      refine lv_aload_n hx hb dX1_sizeNumber_29 rfl (lv_at hl 0 rfl) ?_
      refine va_get (D := D) (ci := 0) (v := .ref a_f) (C := RX1) (T := TX1) (N := 13) hx hb hts iX1_sizeNumber_X1 hown hK wd.1 0 rfl rfl 7 (by decide) (hts _ mX1_sizeNumber_0) (fun _ h9 => h9) rfl dX1_sizeNumber_30 ?_
      refine lv_iload_n hx hb dX1_sizeNumber_33 rfl (lv_at hl 1 rfl) ?_
      refine lv_iload hx hb dX1_sizeNumber_34 (lv_at hl 4 rfl) ?_
      refine lv_iadd hx hb dX1_sizeNumber_36 ?_
      obtain ⟨o4, ho4, hf⟩ := ob hf
      refine xj_i (va_runV (As := [.int (p1 + b19_l_5)]) (rest := [.long (shl64 b19_l_3 8)]) ⟨hx, hb, hml, hown, hts⟩ (kX8_at l D Y F a_f a_fw H.size f_most f_length f_overfull fw_n c_fw (p1 + b19_l_5) o4 ho4) (cwV 1 hts gX1_sizeNumber_X8_at rfl rfl rfl (by decide +kernel) ⟨Nat.le_of_ble_eq_true rfl, Nat.le_of_ble_eq_true rfl⟩) (prev_w (ci := 6) rfl rfl hK wd [1, 2] rfl (by decide)) rfl rfl hl.1 rfl (lv_room (Nat.le_of_ble_eq_true rfl)) dX1_sizeNumber_37 ⟨Nat.zero_le _, Nat.zero_le _⟩) wd hS hA [1, 2] [0] rfl rfl (by decide) (by decide) (fun H locs wd hS => ?_)
      have wd : WD D A [oX1 a_h h_fault h_place h_clusters h_blocks (.ref a_hz) (.ref a_hv) h_depth (.ref a_f) (.ref a_p) h_trackNumber h_clusterTime h_bodySize h_lacingAt, oX8 a_f (.ref a_fw) f_most f_length f_overfull, aI Y a_fw fw_n c_fw] H := wd
      refine lv_i2l (v := (o4.toInt64)) hx hb dX1_sizeNumber_40 rfl ?_
      refine lv_lor hx hb dX1_sizeNumber_41 ?_
      refine lv_topl (fun x5 ex5 => ?_)
      have hf := nm_at hf ex5
      refine lv_lstore_n (lv' := [(3, .long x5), (0, .ref a_h), (1, .int p1), (2, .int p2), (5, .int b19_l_5)]) hx hb dX1_sizeNumber_42 rfl hl (by decide) rfl (fun ls hl => ?_)
      obtain ⟨x6, ex6⟩ : ∃ y : Int32, y = b19_l_5 + 1 := ⟨_, rfl⟩
      have hf := nm_at hf ex6
      refine lv_iinc (v := x6) (lv' := [(5, .int x6), (3, .long x5), (0, .ref a_h), (1, .int p1), (2, .int p2)]) hx hb dX1_sizeNumber_43 hl (k := 4) rfl (by rw [ex6]; rfl) (by decide) rfl (fun ls hl => ?_)
      refine lv_goto (tgt := 19) hx hb dX1_sizeNumber_46 (by decide) ?_
      exact ih x6 x5 hf wd hS (lv_sub hl [2, 3, 4, 1, 0] rfl)

set_option maxHeartbeats 4000000 in
set_option maxRecDepth 100000 in
theorem wX1_sizeNumber {p : Program} {l : Launch} {e : Env} {s : State} {m : MethodId} {args : Array Value} {below : List Frame} {meth : Method} {c : Code} {A : Nat → Prop} (D : va_G) (Y : Y4) (C : CX p s m meth c args cX1_sizeNumber 6 (some .long) wsX1_sizeNumber RX1) (hA : ∀ q : Nat, s.heap.size ≤ q → A q) (hK : va_K D vwCl (TY Y) s) (F : Nat) (a_h : Nat) (a_f : Nat) (a_fw : Nat) (a_hz : Nat) (a_hv : Nat) (a_p : Nat) (h_fault : Int32) (h_place : Int32) (h_clusters : Int32) (h_blocks : Int32) (h_depth : Int32) (h_trackNumber : Int64) (h_clusterTime : Int64) (h_bodySize : Int64) (h_lacingAt : Int32) (f_most : Int32) (f_length : Int32) (f_overfull : Int32) (fw_n : Nat) (c_fw : (Nat → Int32)) (p1 : Int32) (p2 : Int32) (res : Int64) (hf : fX1_sizeNumber F f_length fw_n c_fw p1 p2 = some res) {H : Heap} {locs : List Loc} {ls : Array Slot} (wd : WD D A [oX1 a_h h_fault h_place h_clusters h_blocks (.ref a_hz) (.ref a_hv) h_depth (.ref a_f) (.ref a_p) h_trackNumber h_clusterTime h_bodySize h_lacingAt, oX8 a_f (.ref a_fw) f_most f_length f_overfull, aI Y a_fw fw_n c_fw] H) (hS : va_S A s.heap H locs) (hl : lv_has ls 6 [(0, .ref a_h), (1, .int p1), (2, .int p2)]) : W p l e { frames := 1, cells := 0, slots := 0, locals := 21 } s m args below meth c H locs 0 0 (MQ below (va_Ql (fun r (_ : Unit) => r = res) (fun _ t => PST D Y A [oX1 a_h h_fault h_place h_clusters h_blocks (.ref a_hz) (.ref a_hv) h_depth (.ref a_f) (.ref a_p) h_trackNumber h_clusterTime h_bodySize h_lacingAt, oX8 a_f (.ref a_fw) f_most f_length f_overfull, aI Y a_fw fw_n c_fw] t) A) args s 0 0 A) (F0 m 0 ls []) := by
  obtain ⟨hx, hb, hml, hr, hts, hown, hlocks⟩ := id C
  unfold fX1_sizeNumber at hf
  refine lv_aload_n hx hb dX1_sizeNumber_0 rfl (lv_at hl 0 rfl) ?_
  refine va_get (D := D) (ci := 0) (v := .ref a_f) (C := RX1) (T := TX1) (N := 13) hx hb hts iX1_sizeNumber_X1 hown hK wd.1 0 rfl rfl 7 (by decide) (hts _ mX1_sizeNumber_0) (fun _ h9 => h9) rfl dX1_sizeNumber_1 ?_
  refine lv_iload_n hx hb dX1_sizeNumber_4 rfl (lv_at hl 1 rfl) ?_
  obtain ⟨o1, ho1, hf⟩ := ob hf
  refine xj_i (va_runV (As := [.int p1]) (rest := []) ⟨hx, hb, hml, hown, hts⟩ (kX8_at l D Y F a_f a_fw H.size f_most f_length f_overfull fw_n c_fw p1 o1 ho1) (cwV 1 hts gX1_sizeNumber_X8_at rfl rfl rfl (by decide +kernel) ⟨Nat.le_of_ble_eq_true rfl, Nat.le_of_ble_eq_true rfl⟩) (prev_w (ci := 6) rfl rfl hK wd [1, 2] rfl (by decide)) rfl rfl hl.1 rfl (lv_room (Nat.le_of_ble_eq_true rfl)) dX1_sizeNumber_5 ⟨Nat.zero_le _, Nat.zero_le _⟩) wd hS hA [1, 2] [0] rfl rfl (by decide) (by decide) (fun H locs wd hS => ?_)
  have wd : WD D A [oX1 a_h h_fault h_place h_clusters h_blocks (.ref a_hz) (.ref a_hv) h_depth (.ref a_f) (.ref a_p) h_trackNumber h_clusterTime h_bodySize h_lacingAt, oX8 a_f (.ref a_fw) f_most f_length f_overfull, aI Y a_fw fw_n c_fw] H := wd
  refine lv_sipush (v := 255) hx hb dX1_sizeNumber_8 (by decide) ?_
  refine lv_iload_n hx hb dX1_sizeNumber_11 rfl (lv_at hl 2 rfl) ?_
  refine lv_ishr hx hb dX1_sizeNumber_12 ?_
  refine lv_iand hx hb dX1_sizeNumber_13 ?_
  refine lv_i2l (v := ((o1 &&& ((255 : Int32) >>> (p2 &&& 31))).toInt64)) hx hb dX1_sizeNumber_14 rfl ?_
  refine lv_topl (fun x2 ex2 => ?_)
  have hf := nm_at hf ex2
  refine lv_lstore_n (lv' := [(3, .long x2), (0, .ref a_h), (1, .int p1), (2, .int p2)]) hx hb dX1_sizeNumber_15 rfl hl (by decide) rfl (fun ls hl => ?_)
  refine lv_iconst (v := 1) hx hb dX1_sizeNumber_16 (by decide) ?_
  refine lv_istore (lv' := [(5, .int 1), (3, .long x2), (0, .ref a_h), (1, .int p1), (2, .int p2)]) hx hb dX1_sizeNumber_17 hl (by decide) rfl (fun ls hl => ?_)
  exact wX1_sizeNumber_b19 D Y C hA hK F a_h a_f a_fw a_hz a_hv a_p h_fault h_place h_clusters h_blocks h_depth h_trackNumber h_clusterTime h_bodySize h_lacingAt f_most f_length f_overfull fw_n c_fw p1 p2 _ F 1 x2 hf wd hS (lv_sub hl [2, 3, 4, 1, 0] rfl)
set_option maxHeartbeats 4000000 in
set_option maxRecDepth 100000 in
theorem kX1_sizeNumber (l : Launch) (D : va_G) (Y : Y4) (F : Nat) (a_h : Nat) (a_f : Nat) (a_fw : Nat) (a_hz : Nat) (a_hv : Nat) (a_p : Nat) (sz : Nat) (h_fault : Int32) (h_place : Int32) (h_clusters : Int32) (h_blocks : Int32) (h_depth : Int32) (h_trackNumber : Int64) (h_clusterTime : Int64) (h_bodySize : Int64) (h_lacingAt : Int32) (f_most : Int32) (f_length : Int32) (f_overfull : Int32) (fw_n : Nat) (c_fw : (Nat → Int32)) (p1 : Int32) (p2 : Int32) (res : Int64) (hf : fX1_sizeNumber F f_length fw_n c_fw p1 p2 = some res) : Met l yX1_sizeNumber wsX1_sizeNumber ({ frames := 1, cells := 0, slots := 0, locals := 21 }) (va_Pc [.ref a_h, .int p1, .int p2] (PRE D Y [oX1 a_h h_fault h_place h_clusters h_blocks (.ref a_hz) (.ref a_hv) h_depth (.ref a_f) (.ref a_p) h_trackNumber h_clusterTime h_bodySize h_lacingAt, oX8 a_f (.ref a_fw) f_most f_length f_overfull, aI Y a_fw fw_n c_fw] sz)) (va_Ql (fun r (_ : Unit) => r = res) (fun _ t => PST D Y (va_A [oX1 a_h h_fault h_place h_clusters h_blocks (.ref a_hz) (.ref a_hv) h_depth (.ref a_f) (.ref a_p) h_trackNumber h_clusterTime h_bodySize h_lacingAt, oX8 a_f (.ref a_fw) f_most f_length f_overfull, aI Y a_fw fw_n c_fw] sz) [oX1 a_h h_fault h_place h_clusters h_blocks (.ref a_hz) (.ref a_hv) h_depth (.ref a_f) (.ref a_p) h_trackNumber h_clusterTime h_bodySize h_lacingAt, oX8 a_f (.ref a_fw) f_most f_length f_overfull, aI Y a_fw fw_n c_fw] t) (va_A [oX1 a_h h_fault h_place h_clusters h_blocks (.ref a_hz) (.ref a_hv) h_depth (.ref a_f) (.ref a_p) h_trackNumber h_clusterTime h_bodySize h_lacingAt, oX8 a_f (.ref a_fw) f_most f_length f_overfull, aI Y a_fw fw_n c_fw] sz)) 0 0 (va_A [oX1 a_h h_fault h_place h_clusters h_blocks (.ref a_hz) (.ref a_hv) h_depth (.ref a_f) (.ref a_p) h_trackNumber h_clusterTime h_bodySize h_lacingAt, oX8 a_f (.ref a_fw) f_most f_length f_overfull, aI Y a_fw fw_n c_fw] sz) := by
  refine Met.ofW (cc := cX1_sizeNumber) (maxL := 6) (ret := (some .long)) (by decide) rfl ?_
  intro p e s m args below meth c s₁ B hml hv
  obtain ⟨rfl, rfl, hP, hK, hD0⟩ := hv
  have hl := lv_entry ([.ref a_h, .int p1, .int p2]) (n := 6) (Nat.le_of_ble_eq_true rfl)
  rw [lg_entry_eq]
  exact wX1_sizeNumber D Y ⟨B.exec, B.bytes, hml, B.returns, atoms_spec (ws := wsX1_sizeNumber) B.pre, findClass_of_methodNamed B.named, B.notSynchronized⟩ (fun q h => Or.inr h) hK F a_h a_f a_fw a_hz a_hv a_p h_fault h_place h_clusters h_blocks h_depth h_trackNumber h_clusterTime h_bodySize h_lacingAt f_most f_length f_overfull fw_n c_fw p1 p2 res hf ⟨hP, hD0.self⟩ va_S.rf hl
theorem mX1_readSize_0 : Cond.fieldLink RX1 89 "StreamRemuxer$ElementReader" "bodySize" "J" ∈ wsX1_readSize := List.mem_cons_of_mem _ u_607
theorem mX1_readSize_1 : Cond.constant RX1 136 (408125543) ∈ wsX1_readSize := List.mem_cons_of_mem _ u_643
theorem mX1_readSize_2 : Cond.constant RX1 88 (524531317) ∈ wsX1_readSize := List.mem_cons_of_mem _ u_606
theorem mX1_readSize_3 : Cond.constantLong RX1 156 (2147483647) ∈ wsX1_readSize := List.mem_cons_of_mem _ u_653
theorem mX1_readSize_4 : Cond.constantLong RX1 45 (-1) ∈ wsX1_readSize := List.mem_cons_of_mem _ u_593
theorem iX1_readSize_X1 : ∀ w ∈ wsX10, w ∈ wsX1_readSize := fun w h => List.mem_cons_of_mem _ (inlX1 w h)
set_option maxHeartbeats 4000000 in
set_option maxRecDepth 100000 in
theorem wX1_readSize_b92 {p : Program} {l : Launch} {e : Env} {s : State} {m : MethodId} {args : Array Value} {below : List Frame} {meth : Method} {c : Code} {A : Nat → Prop} (D : va_G) (Y : Y4) (C : CX p s m meth c args cX1_readSize 7 (some .int) wsX1_readSize RX1) (hA : ∀ q : Nat, s.heap.size ≤ q → A q) (hK : va_K D vwCl (TY Y) s) (F : Nat) (a_h : Nat) (a_f : Nat) (a_fw : Nat) (a_hz : Nat) (a_hv : Nat) (a_p : Nat) (h_fault : Int32) (h_place : Int32) (h_clusters : Int32) (h_blocks : Int32) (h_depth : Int32) (h_trackNumber : Int64) (h_clusterTime : Int64) (h_bodySize : Int64) (h_lacingAt : Int32) (f_most : Int32) (f_length : Int32) (f_overfull : Int32) (fw_n : Nat) (c_fw : (Nat → Int32)) (p1 : Int32) (p2 : Int32) (p3 : Int32) (p4 : Int32) (res : Int32 × Int32 × Int32 × Int64) (b92_f_h_11 : Int64) (hf : fX1_readSize_b92 F p1 b92_f_h_11 = some res) {H : Heap} {locs : List Loc} {ls : Array Slot} (wd : WD D A [oX1 a_h h_fault h_place h_clusters h_blocks (.ref a_hz) (.ref a_hv) h_depth (.ref a_f) (.ref a_p) h_trackNumber h_clusterTime b92_f_h_11 h_lacingAt, oX8 a_f (.ref a_fw) f_most f_length f_overfull, aI Y a_fw fw_n c_fw] H) (hS : va_S A s.heap H locs) (hl : lv_has ls 7 [(0, .ref a_h), (1, .int p1)]) : W p l e { frames := 2, cells := 0, slots := 0, locals := 46 } s m args below meth c H locs 0 0 (MQ below (va_Qi (fun r (_ : Unit) => r = res.1) (fun _ t => PST D Y A [oX1 a_h res.2.1 res.2.2.1 h_clusters h_blocks (.ref a_hz) (.ref a_hv) h_depth (.ref a_f) (.ref a_p) h_trackNumber h_clusterTime res.2.2.2 h_lacingAt, oX8 a_f (.ref a_fw) f_most f_length f_overfull, aI Y a_fw fw_n c_fw] t) A) args s 0 0 A) (F0 m 92 ls []) := by
  obtain ⟨hx, hb, hml, hr, hts, hown, hlocks⟩ := id C
  unfold fX1_readSize_b92 at hf
  refine lv_aload_n hx hb dX1_readSize_92 rfl (lv_at hl 0 rfl) ?_
  refine lv_iconst (v := 3) hx hb dX1_readSize_93 (by decide) ?_
  refine lv_iload_n hx hb dX1_readSize_94 rfl (lv_at hl 1 rfl) ?_
  obtain ⟨o1, ho1, hf⟩ := ob hf
  refine xj_i (va_runV (As := [.int 3, .int p1]) (rest := []) ⟨hx, hb, hml, hown, hts⟩ (kX1_fail l D Y F a_h a_hz a_hv a_f a_p H.size h_fault h_place h_clusters h_blocks h_depth h_trackNumber h_clusterTime b92_f_h_11 h_lacingAt 3 p1 o1 ho1) (cwV 2 hts gX1_readSize_X1_fail rfl rfl rfl (by decide +kernel) ⟨Nat.le_of_ble_eq_true rfl, Nat.le_of_ble_eq_true rfl⟩) (prev_w (ci := 0) rfl rfl hK wd [0] rfl (by decide)) rfl rfl hl.1 rfl (lv_room (Nat.le_of_ble_eq_true rfl)) dX1_readSize_95 ⟨Nat.zero_le _, Nat.zero_le _⟩) wd hS hA [0] [1, 2] rfl rfl (by decide) (by decide) (fun H locs wd hS => ?_)
  have wd : WD D A [oX8 a_f (.ref a_fw) f_most f_length f_overfull, aI Y a_fw fw_n c_fw, oX1 a_h o1.2.1 o1.2.2 h_clusters h_blocks (.ref a_hz) (.ref a_hv) h_depth (.ref a_f) (.ref a_p) h_trackNumber h_clusterTime b92_f_h_11 h_lacingAt] H := wd
  obtain rfl := Option.some.inj hf
  exact W.iret (v := o1.1) hx hb hr (fun t ht hW => ⟨⟨_, (), rfl, rfl, WD.pst (wd.sub [2, 0, 1] rfl (by decide)) hK ht hW⟩, hS.F ht⟩) hS.2.2 dX1_readSize_98

set_option maxHeartbeats 4000000 in
set_option maxRecDepth 100000 in
theorem wX1_readSize_b99 {p : Program} {l : Launch} {e : Env} {s : State} {m : MethodId} {args : Array Value} {below : List Frame} {meth : Method} {c : Code} {A : Nat → Prop} (D : va_G) (Y : Y4) (C : CX p s m meth c args cX1_readSize 7 (some .int) wsX1_readSize RX1) (hA : ∀ q : Nat, s.heap.size ≤ q → A q) (hK : va_K D vwCl (TY Y) s) (F : Nat) (a_h : Nat) (a_f : Nat) (a_fw : Nat) (a_hz : Nat) (a_hv : Nat) (a_p : Nat) (h_fault : Int32) (h_place : Int32) (h_clusters : Int32) (h_blocks : Int32) (h_depth : Int32) (h_trackNumber : Int64) (h_clusterTime : Int64) (h_bodySize : Int64) (h_lacingAt : Int32) (f_most : Int32) (f_length : Int32) (f_overfull : Int32) (fw_n : Nat) (c_fw : (Nat → Int32)) (p1 : Int32) (p2 : Int32) (p3 : Int32) (p4 : Int32) (res : Int32 × Int32 × Int32 × Int64) (b99_l_5 : Int32) (b99_f_h_11 : Int64) (hf : fX1_readSize_b99 F h_fault h_place p1 p2 p3 b99_l_5 b99_f_h_11 = some res) {H : Heap} {locs : List Loc} {ls : Array Slot} (wd : WD D A [oX1 a_h h_fault h_place h_clusters h_blocks (.ref a_hz) (.ref a_hv) h_depth (.ref a_f) (.ref a_p) h_trackNumber h_clusterTime b99_f_h_11 h_lacingAt, oX8 a_f (.ref a_fw) f_most f_length f_overfull, aI Y a_fw fw_n c_fw] H) (hS : va_S A s.heap H locs) (hl : lv_has ls 7 [(0, .ref a_h), (1, .int p1), (2, .int p2), (3, .int p3), (5, .int b99_l_5)]) : W p l e { frames := 2, cells := 0, slots := 0, locals := 46 } s m args below meth c H locs 0 0 (MQ below (va_Qi (fun r (_ : Unit) => r = res.1) (fun _ t => PST D Y A [oX1 a_h res.2.1 res.2.2.1 h_clusters h_blocks (.ref a_hz) (.ref a_hv) h_depth (.ref a_f) (.ref a_p) h_trackNumber h_clusterTime res.2.2.2 h_lacingAt, oX8 a_f (.ref a_fw) f_most f_length f_overfull, aI Y a_fw fw_n c_fw] t) A) args s 0 0 A) (F0 m 99 ls []) := by
  obtain ⟨hx, hb, hml, hr, hts, hown, hlocks⟩ := id C
  unfold fX1_readSize_b99 at hf
  refine lv_aload_n hx hb dX1_readSize_99 rfl (lv_at hl 0 rfl) ?_
  refine va_get (D := D) (ci := 0) (v := .long b99_f_h_11) (C := RX1) (T := TX1) (N := 13) hx hb hts iX1_readSize_X1 hown hK wd.1 0 rfl rfl 11 (by decide) (hts _ mX1_readSize_0) (fun _ h9 => h9) rfl dX1_readSize_100 ?_
  refine lv_iload_n hx hb dX1_readSize_103 rfl (lv_at hl 3 rfl) ?_
  refine lv_iload_n hx hb dX1_readSize_104 rfl (lv_at hl 2 rfl) ?_
  refine lv_isub hx hb dX1_readSize_105 ?_
  refine lv_iload hx hb dX1_readSize_106 (lv_at hl 4 rfl) ?_
  refine lv_isub hx hb dX1_readSize_108 ?_
  refine lv_i2l (v := (((p3 - p2) - b99_l_5).toInt64)) hx hb dX1_readSize_109 rfl ?_
  refine xl_le (tgt := 121) hx hb dX1_readSize_110 dX1_readSize_111 (by decide) (fun q1 => ?_) (fun q1 => ?_)
  · have hf := ip hf q1
    refine lv_iload_n hx hb dX1_readSize_121 rfl (lv_at hl 2 rfl) ?_
    refine lv_iload hx hb dX1_readSize_122 (lv_at hl 4 rfl) ?_
    refine lv_iadd hx hb dX1_readSize_124 ?_
    obtain rfl := Option.some.inj hf
    exact W.iret (v := (p2 + b99_l_5)) hx hb hr (fun t ht hW => ⟨⟨_, (), rfl, rfl, WD.pst wd hK ht hW⟩, hS.F ht⟩) hS.2.2 dX1_readSize_125
  · have hf := ie hf q1
    refine lv_aload_n hx hb dX1_readSize_114 rfl (lv_at hl 0 rfl) ?_
    refine lv_iconst (v := 1) hx hb dX1_readSize_115 (by decide) ?_
    refine lv_iload_n hx hb dX1_readSize_116 rfl (lv_at hl 1 rfl) ?_
    obtain ⟨o2, ho2, hf⟩ := ob hf
    refine xj_i (va_runV (As := [.int 1, .int p1]) (rest := []) ⟨hx, hb, hml, hown, hts⟩ (kX1_fail l D Y F a_h a_hz a_hv a_f a_p H.size h_fault h_place h_clusters h_blocks h_depth h_trackNumber h_clusterTime b99_f_h_11 h_lacingAt 1 p1 o2 ho2) (cwV 2 hts gX1_readSize_X1_fail rfl rfl rfl (by decide +kernel) ⟨Nat.le_of_ble_eq_true rfl, Nat.le_of_ble_eq_true rfl⟩) (prev_w (ci := 0) rfl rfl hK wd [0] rfl (by decide)) rfl rfl hl.1 rfl (lv_room (Nat.le_of_ble_eq_true rfl)) dX1_readSize_117 ⟨Nat.zero_le _, Nat.zero_le _⟩) wd hS hA [0] [1, 2] rfl rfl (by decide) (by decide) (fun H locs wd hS => ?_)
    have wd : WD D A [oX8 a_f (.ref a_fw) f_most f_length f_overfull, aI Y a_fw fw_n c_fw, oX1 a_h o2.2.1 o2.2.2 h_clusters h_blocks (.ref a_hz) (.ref a_hv) h_depth (.ref a_f) (.ref a_p) h_trackNumber h_clusterTime b99_f_h_11 h_lacingAt] H := wd
    obtain rfl := Option.some.inj hf
    exact W.iret (v := o2.1) hx hb hr (fun t ht hW => ⟨⟨_, (), rfl, rfl, WD.pst (wd.sub [2, 0, 1] rfl (by decide)) hK ht hW⟩, hS.F ht⟩) hS.2.2 dX1_readSize_120

set_option maxHeartbeats 4000000 in
set_option maxRecDepth 100000 in
theorem wX1_readSize_b63 {p : Program} {l : Launch} {e : Env} {s : State} {m : MethodId} {args : Array Value} {below : List Frame} {meth : Method} {c : Code} {A : Nat → Prop} (D : va_G) (Y : Y4) (C : CX p s m meth c args cX1_readSize 7 (some .int) wsX1_readSize RX1) (hA : ∀ q : Nat, s.heap.size ≤ q → A q) (hK : va_K D vwCl (TY Y) s) (F : Nat) (a_h : Nat) (a_f : Nat) (a_fw : Nat) (a_hz : Nat) (a_hv : Nat) (a_p : Nat) (h_fault : Int32) (h_place : Int32) (h_clusters : Int32) (h_blocks : Int32) (h_depth : Int32) (h_trackNumber : Int64) (h_clusterTime : Int64) (h_bodySize : Int64) (h_lacingAt : Int32) (f_most : Int32) (f_length : Int32) (f_overfull : Int32) (fw_n : Nat) (c_fw : (Nat → Int32)) (p1 : Int32) (p2 : Int32) (p3 : Int32) (p4 : Int32) (res : Int32 × Int32 × Int32 × Int64) (b63_l_5 : Int32) (b63_s_0 : Int32) (b63_f_h_11 : Int64) (hf : fX1_readSize_b63 F h_fault h_place p1 p2 p3 b63_l_5 b63_s_0 b63_f_h_11 = some res) {H : Heap} {locs : List Loc} {ls : Array Slot} (wd : WD D A [oX1 a_h h_fault h_place h_clusters h_blocks (.ref a_hz) (.ref a_hv) h_depth (.ref a_f) (.ref a_p) h_trackNumber h_clusterTime b63_f_h_11 h_lacingAt, oX8 a_f (.ref a_fw) f_most f_length f_overfull, aI Y a_fw fw_n c_fw] H) (hS : va_S A s.heap H locs) (hl : lv_has ls 7 [(0, .ref a_h), (1, .int p1), (2, .int p2), (3, .int p3), (5, .int b63_l_5)]) : W p l e { frames := 2, cells := 0, slots := 0, locals := 46 } s m args below meth c H locs 0 0 (MQ below (va_Qi (fun r (_ : Unit) => r = res.1) (fun _ t => PST D Y A [oX1 a_h res.2.1 res.2.2.1 h_clusters h_blocks (.ref a_hz) (.ref a_hv) h_depth (.ref a_f) (.ref a_p) h_trackNumber h_clusterTime res.2.2.2 h_lacingAt, oX8 a_f (.ref a_fw) f_most f_length f_overfull, aI Y a_fw fw_n c_fw] t) A) args s 0 0 A) (F0 m 63 ls [.int b63_s_0]) := by
  obtain ⟨hx, hb, hml, hr, hts, hown, hlocks⟩ := id C
  unfold fX1_readSize_b63 at hf
  refine lv_istore (lv' := [(6, .int b63_s_0), (0, .ref a_h), (1, .int p1), (2, .int p2), (3, .int p3), (5, .int b63_l_5)]) hx hb dX1_readSize_63 hl (by decide) rfl (fun ls hl => ?_)
  refine lv_aload_n hx hb dX1_readSize_65 rfl (lv_at hl 1 rfl) ?_
  refine va_get (D := D) (ci := 0) (v := .long b63_f_h_11) (C := RX1) (T := TX1) (N := 13) hx hb hts iX1_readSize_X1 hown hK wd.1 0 rfl rfl 11 (by decide) (hts _ mX1_readSize_0) (fun _ h9 => h9) rfl dX1_readSize_66 ?_
  refine lv_ldc2 hx hb hown (hts _ mX1_readSize_3) dX1_readSize_69 ?_
  refine xl_gt (tgt := 92) hx hb dX1_readSize_72 dX1_readSize_73 (by decide) (fun q1 => ?_) (fun q1 => ?_)
  · have hf := ip hf q1
    exact wX1_readSize_b92 D Y C hA hK F a_h a_f a_fw a_hz a_hv a_p h_fault h_place h_clusters h_blocks h_depth h_trackNumber h_clusterTime h_bodySize h_lacingAt f_most f_length f_overfull fw_n c_fw p1 p2 p3 p4 _ b63_f_h_11 hf wd hS (lv_sub hl [1, 2] rfl)
  · have hf := ie hf q1
    refine lv_aload_n hx hb dX1_readSize_76 rfl (lv_at hl 1 rfl) ?_
    refine va_get (D := D) (ci := 0) (v := .long b63_f_h_11) (C := RX1) (T := TX1) (N := 13) hx hb hts iX1_readSize_X1 hown hK wd.1 0 rfl rfl 11 (by decide) (hts _ mX1_readSize_0) (fun _ h9 => h9) rfl dX1_readSize_77 ?_
    refine lv_ldc2 hx hb hown (hts _ mX1_readSize_4) dX1_readSize_80 ?_
    refine xl_ne (tgt := 99) hx hb dX1_readSize_83 dX1_readSize_84 (by decide) (fun q2 => ?_) (fun q2 => ?_)
    · have hf := ie hf q2
      exact wX1_readSize_b99 D Y C hA hK F a_h a_f a_fw a_hz a_hv a_p h_fault h_place h_clusters h_blocks h_depth h_trackNumber h_clusterTime h_bodySize h_lacingAt f_most f_length f_overfull fw_n c_fw p1 p2 p3 p4 _ b63_l_5 b63_f_h_11 hf wd hS (lv_sub hl [1, 2, 3, 4, 5] rfl)
    · have hf := ip hf q2
      refine lv_iload hx hb dX1_readSize_87 (lv_at hl 0 rfl) ?_
      refine lv_if_ne (tgt := 99) hx hb dX1_readSize_89 (by decide) (fun q3 => ?_) (fun q3 => ?_)
      · have hf := ie hf q3
        exact wX1_readSize_b99 D Y C hA hK F a_h a_f a_fw a_hz a_hv a_p h_fault h_place h_clusters h_blocks h_depth h_trackNumber h_clusterTime h_bodySize h_lacingAt f_most f_length f_overfull fw_n c_fw p1 p2 p3 p4 _ b63_l_5 b63_f_h_11 hf wd hS (lv_sub hl [1, 2, 3, 4, 5] rfl)
      · have hf := ip hf q3
        exact wX1_readSize_b92 D Y C hA hK F a_h a_f a_fw a_hz a_hv a_p h_fault h_place h_clusters h_blocks h_depth h_trackNumber h_clusterTime h_bodySize h_lacingAt f_most f_length f_overfull fw_n c_fw p1 p2 p3 p4 _ b63_f_h_11 hf wd hS (lv_sub hl [1, 2] rfl)

set_option maxHeartbeats 4000000 in
set_option maxRecDepth 100000 in
theorem wX1_readSize_b58 {p : Program} {l : Launch} {e : Env} {s : State} {m : MethodId} {args : Array Value} {below : List Frame} {meth : Method} {c : Code} {A : Nat → Prop} (D : va_G) (Y : Y4) (C : CX p s m meth c args cX1_readSize 7 (some .int) wsX1_readSize RX1) (hA : ∀ q : Nat, s.heap.size ≤ q → A q) (hK : va_K D vwCl (TY Y) s) (F : Nat) (a_h : Nat) (a_f : Nat) (a_fw : Nat) (a_hz : Nat) (a_hv : Nat) (a_p : Nat) (h_fault : Int32) (h_place : Int32) (h_clusters : Int32) (h_blocks : Int32) (h_depth : Int32) (h_trackNumber : Int64) (h_clusterTime : Int64) (h_bodySize : Int64) (h_lacingAt : Int32) (f_most : Int32) (f_length : Int32) (f_overfull : Int32) (fw_n : Nat) (c_fw : (Nat → Int32)) (p1 : Int32) (p2 : Int32) (p3 : Int32) (p4 : Int32) (res : Int32 × Int32 × Int32 × Int64) (b58_l_5 : Int32) (b58_f_h_11 : Int64) (hf : fX1_readSize_b58 F h_fault h_place p1 p2 p3 b58_l_5 b58_f_h_11 = some res) {H : Heap} {locs : List Loc} {ls : Array Slot} (wd : WD D A [oX1 a_h h_fault h_place h_clusters h_blocks (.ref a_hz) (.ref a_hv) h_depth (.ref a_f) (.ref a_p) h_trackNumber h_clusterTime b58_f_h_11 h_lacingAt, oX8 a_f (.ref a_fw) f_most f_length f_overfull, aI Y a_fw fw_n c_fw] H) (hS : va_S A s.heap H locs) (hl : lv_has ls 7 [(0, .ref a_h), (1, .int p1), (2, .int p2), (3, .int p3), (5, .int b58_l_5)]) : W p l e { frames := 2, cells := 0, slots := 0, locals := 46 } s m args below meth c H locs 0 0 (MQ below (va_Qi (fun r (_ : Unit) => r = res.1) (fun _ t => PST D Y A [oX1 a_h res.2.1 res.2.2.1 h_clusters h_blocks (.ref a_hz) (.ref a_hv) h_depth (.ref a_f) (.ref a_p) h_trackNumber h_clusterTime res.2.2.2 h_lacingAt, oX8 a_f (.ref a_fw) f_most f_length f_overfull, aI Y a_fw fw_n c_fw] t) A) args s 0 0 A) (F0 m 58 ls []) := by
  obtain ⟨hx, hb, hml, hr, hts, hown, hlocks⟩ := id C
  unfold fX1_readSize_b58 at hf
  refine lv_iconst (v := 1) hx hb dX1_readSize_58 (by decide) ?_
  refine lv_goto (tgt := 63) hx hb dX1_readSize_59 (by decide) ?_
  exact wX1_readSize_b63 D Y C hA hK F a_h a_f a_fw a_hz a_hv a_p h_fault h_place h_clusters h_blocks h_depth h_trackNumber h_clusterTime h_bodySize h_lacingAt f_most f_length f_overfull fw_n c_fw p1 p2 p3 p4 _ b58_l_5 1 b58_f_h_11 hf wd hS (lv_sub hl [0, 1, 2, 3, 4] rfl)

set_option maxHeartbeats 4000000 in
set_option maxRecDepth 100000 in
theorem wX1_readSize {p : Program} {l : Launch} {e : Env} {s : State} {m : MethodId} {args : Array Value} {below : List Frame} {meth : Method} {c : Code} {A : Nat → Prop} (D : va_G) (Y : Y4) (C : CX p s m meth c args cX1_readSize 7 (some .int) wsX1_readSize RX1) (hA : ∀ q : Nat, s.heap.size ≤ q → A q) (hK : va_K D vwCl (TY Y) s) (F : Nat) (a_h : Nat) (a_f : Nat) (a_fw : Nat) (a_hz : Nat) (a_hv : Nat) (a_p : Nat) (h_fault : Int32) (h_place : Int32) (h_clusters : Int32) (h_blocks : Int32) (h_depth : Int32) (h_trackNumber : Int64) (h_clusterTime : Int64) (h_bodySize : Int64) (h_lacingAt : Int32) (f_most : Int32) (f_length : Int32) (f_overfull : Int32) (fw_n : Nat) (c_fw : (Nat → Int32)) (p1 : Int32) (p2 : Int32) (p3 : Int32) (p4 : Int32) (res : Int32 × Int32 × Int32 × Int64) (hf : fX1_readSize F h_fault h_place h_bodySize f_length fw_n c_fw p1 p2 p3 p4 = some res) {H : Heap} {locs : List Loc} {ls : Array Slot} (wd : WD D A [oX1 a_h h_fault h_place h_clusters h_blocks (.ref a_hz) (.ref a_hv) h_depth (.ref a_f) (.ref a_p) h_trackNumber h_clusterTime h_bodySize h_lacingAt, oX8 a_f (.ref a_fw) f_most f_length f_overfull, aI Y a_fw fw_n c_fw] H) (hS : va_S A s.heap H locs) (hl : lv_has ls 7 [(0, .ref a_h), (1, .int p1), (2, .int p2), (3, .int p3), (4, .int p4)]) : W p l e { frames := 2, cells := 0, slots := 0, locals := 46 } s m args below meth c H locs 0 0 (MQ below (va_Qi (fun r (_ : Unit) => r = res.1) (fun _ t => PST D Y A [oX1 a_h res.2.1 res.2.2.1 h_clusters h_blocks (.ref a_hz) (.ref a_hv) h_depth (.ref a_f) (.ref a_p) h_trackNumber h_clusterTime res.2.2.2 h_lacingAt, oX8 a_f (.ref a_fw) f_most f_length f_overfull, aI Y a_fw fw_n c_fw] t) A) args s 0 0 A) (F0 m 0 ls []) := by
  obtain ⟨hx, hb, hml, hr, hts, hown, hlocks⟩ := id C
  unfold fX1_readSize at hf
  refine lv_aload_n hx hb dX1_readSize_0 rfl (lv_at hl 0 rfl) ?_
  refine lv_iload_n hx hb dX1_readSize_1 rfl (lv_at hl 2 rfl) ?_
  refine lv_iload_n hx hb dX1_readSize_2 rfl (lv_at hl 3 rfl) ?_
  obtain ⟨o1, ho1, hf⟩ := ob hf
  refine xj_i (va_runV (As := [.int p2, .int p3]) (rest := []) ⟨hx, hb, hml, hown, hts⟩ (kX1_sizeWidth l D Y F a_h a_f a_fw a_hz a_hv a_p H.size h_fault h_place h_clusters h_blocks h_depth h_trackNumber h_clusterTime h_bodySize h_lacingAt f_most f_length f_overfull fw_n c_fw p2 p3 o1 ho1) (cwV 2 hts gX1_readSize_X1_sizeWidth rfl rfl rfl (by decide +kernel) ⟨Nat.le_of_ble_eq_true rfl, Nat.le_of_ble_eq_true rfl⟩) (prev_w (ci := 0) rfl rfl hK wd [0, 1, 2] rfl (by decide)) rfl rfl hl.1 rfl (lv_room (Nat.le_of_ble_eq_true rfl)) dX1_readSize_3 ⟨Nat.zero_le _, Nat.zero_le _⟩) wd hS hA [0, 1, 2] [] rfl rfl (by decide) (by decide) (fun H locs wd hS => ?_)
  have wd : WD D A [oX1 a_h h_fault h_place h_clusters h_blocks (.ref a_hz) (.ref a_hv) h_depth (.ref a_f) (.ref a_p) h_trackNumber h_clusterTime h_bodySize h_lacingAt, oX8 a_f (.ref a_fw) f_most f_length f_overfull, aI Y a_fw fw_n c_fw] H := wd
  refine lv_istore (lv' := [(5, .int o1), (0, .ref a_h), (1, .int p1), (2, .int p2), (3, .int p3), (4, .int p4)]) hx hb dX1_readSize_6 hl (by decide) rfl (fun ls hl => ?_)
  refine lv_iload hx hb dX1_readSize_8 (lv_at hl 0 rfl) ?_
  refine lv_iconst (v := (-1)) hx hb dX1_readSize_10 (by decide) ?_
  refine lv_icmp_ne (tgt := 21) hx hb dX1_readSize_11 (by decide) (fun q2 => ?_) (fun q2 => ?_)
  · have hf := ie hf q2
    refine lv_iload hx hb dX1_readSize_21 (lv_at hl 0 rfl) ?_
    refine lv_if_ne (tgt := 33) hx hb dX1_readSize_23 (by decide) (fun q3 => ?_) (fun q3 => ?_)
    · have hf := ie hf q3
      refine lv_aload_n hx hb dX1_readSize_33 rfl (lv_at hl 1 rfl) ?_
      refine lv_aload_n hx hb dX1_readSize_34 rfl (lv_at hl 1 rfl) ?_
      refine lv_iload_n hx hb dX1_readSize_35 rfl (lv_at hl 3 rfl) ?_
      refine lv_iload hx hb dX1_readSize_36 (lv_at hl 0 rfl) ?_
      obtain ⟨o4, ho4, hf⟩ := ob hf
      refine xj_l (va_runV (As := [.int p2, .int o1]) (rest := [.ref a_h]) ⟨hx, hb, hml, hown, hts⟩ (kX1_sizeNumber l D Y F a_h a_f a_fw a_hz a_hv a_p H.size h_fault h_place h_clusters h_blocks h_depth h_trackNumber h_clusterTime h_bodySize h_lacingAt f_most f_length f_overfull fw_n c_fw p2 o1 o4 ho4) (cwV 2 hts gX1_readSize_X1_sizeNumber rfl rfl rfl (by decide +kernel) ⟨Nat.le_of_ble_eq_true rfl, Nat.le_of_ble_eq_true rfl⟩) (prev_w (ci := 0) rfl rfl hK wd [0, 1, 2] rfl (by decide)) rfl rfl hl.1 rfl (lv_room (Nat.le_of_ble_eq_true rfl)) dX1_readSize_38 ⟨Nat.zero_le _, Nat.zero_le _⟩) wd hS hA [0, 1, 2] [] rfl rfl (by decide) (by decide) (fun H locs wd hS => ?_)
      have wd : WD D A [oX1 a_h h_fault h_place h_clusters h_blocks (.ref a_hz) (.ref a_hv) h_depth (.ref a_f) (.ref a_p) h_trackNumber h_clusterTime h_bodySize h_lacingAt, oX8 a_f (.ref a_fw) f_most f_length f_overfull, aI Y a_fw fw_n c_fw] H := wd
      refine va_put (D := D) (ci := 0) (v := .long o4) (ty := .long) (C := RX1) (T := TX1) (N := 13) hx hb hts iX1_readSize_X1 tyX1 tyX1_ok nmX1 hown hK wd.1 wd.2 hS 0 rfl rfl 11 (by decide) (hts _ mX1_readSize_0) (fun _ h9 => h9) rfl (by decide +kernel) rfl rfl (Nat.le_of_ble_eq_true rfl) dX1_readSize_41 (fun H locs hP hD hS => ?_)
      have wd : WD D A [oX1 a_h h_fault h_place h_clusters h_blocks (.ref a_hz) (.ref a_hv) h_depth (.ref a_f) (.ref a_p) h_trackNumber h_clusterTime o4 h_lacingAt, oX8 a_f (.ref a_fw) f_most f_length f_overfull, aI Y a_fw fw_n c_fw] H := ⟨hP, hD⟩
      clear hP hD
      refine lv_iload hx hb dX1_readSize_44 (lv_at hl 5 rfl) ?_
      refine lv_ldc hx hb hown (hts _ mX1_readSize_1) dX1_readSize_46 ?_
      refine lv_icmp_eq (tgt := 58) hx hb dX1_readSize_48 (by decide) (fun q5 => ?_) (fun q5 => ?_)
      · have hf := ip hf q5
        exact wX1_readSize_b58 D Y C hA hK F a_h a_f a_fw a_hz a_hv a_p h_fault h_place h_clusters h_blocks h_depth h_trackNumber h_clusterTime h_bodySize h_lacingAt f_most f_length f_overfull fw_n c_fw p1 p2 p3 p4 _ o1 o4 hf wd hS (lv_sub hl [1, 2, 3, 4, 0] rfl)
      · have hf := ie hf q5
        refine lv_iload hx hb dX1_readSize_51 (lv_at hl 5 rfl) ?_
        refine lv_ldc hx hb hown (hts _ mX1_readSize_2) dX1_readSize_53 ?_
        refine lv_icmp_ne (tgt := 62) hx hb dX1_readSize_55 (by decide) (fun q6 => ?_) (fun q6 => ?_)
        · have hf := ie hf q6
          refine lv_iconst (v := 0) hx hb dX1_readSize_62 (by decide) ?_
          exact wX1_readSize_b63 D Y C hA hK F a_h a_f a_fw a_hz a_hv a_p h_fault h_place h_clusters h_blocks h_depth h_trackNumber h_clusterTime h_bodySize h_lacingAt f_most f_length f_overfull fw_n c_fw p1 p2 p3 p4 _ o1 0 o4 hf wd hS (lv_sub hl [1, 2, 3, 4, 0] rfl)
        · have hf := ip hf q6
          exact wX1_readSize_b58 D Y C hA hK F a_h a_f a_fw a_hz a_hv a_p h_fault h_place h_clusters h_blocks h_depth h_trackNumber h_clusterTime h_bodySize h_lacingAt f_most f_length f_overfull fw_n c_fw p1 p2 p3 p4 _ o1 o4 hf wd hS (lv_sub hl [1, 2, 3, 4, 0] rfl)
    · have hf := ip hf q3
      refine lv_aload_n hx hb dX1_readSize_26 rfl (lv_at hl 1 rfl) ?_
      refine lv_iconst (v := 3) hx hb dX1_readSize_27 (by decide) ?_
      refine lv_iload_n hx hb dX1_readSize_28 rfl (lv_at hl 2 rfl) ?_
      obtain ⟨o7, ho7, hf⟩ := ob hf
      refine xj_i (va_runV (As := [.int 3, .int p1]) (rest := []) ⟨hx, hb, hml, hown, hts⟩ (kX1_fail l D Y F a_h a_hz a_hv a_f a_p H.size h_fault h_place h_clusters h_blocks h_depth h_trackNumber h_clusterTime h_bodySize h_lacingAt 3 p1 o7 ho7) (cwV 2 hts gX1_readSize_X1_fail rfl rfl rfl (by decide +kernel) ⟨Nat.le_of_ble_eq_true rfl, Nat.le_of_ble_eq_true rfl⟩) (prev_w (ci := 0) rfl rfl hK wd [0] rfl (by decide)) rfl rfl hl.1 rfl (lv_room (Nat.le_of_ble_eq_true rfl)) dX1_readSize_29 ⟨Nat.zero_le _, Nat.zero_le _⟩) wd hS hA [0] [1, 2] rfl rfl (by decide) (by decide) (fun H locs wd hS => ?_)
      have wd : WD D A [oX8 a_f (.ref a_fw) f_most f_length f_overfull, aI Y a_fw fw_n c_fw, oX1 a_h o7.2.1 o7.2.2 h_clusters h_blocks (.ref a_hz) (.ref a_hv) h_depth (.ref a_f) (.ref a_p) h_trackNumber h_clusterTime h_bodySize h_lacingAt] H := wd
      obtain rfl := Option.some.inj hf
      exact W.iret (v := o7.1) hx hb hr (fun t ht hW => ⟨⟨_, (), rfl, rfl, WD.pst (wd.sub [2, 0, 1] rfl (by decide)) hK ht hW⟩, hS.F ht⟩) hS.2.2 dX1_readSize_32
  · have hf := ip hf q2
    refine lv_aload_n hx hb dX1_readSize_14 rfl (lv_at hl 1 rfl) ?_
    refine lv_iconst (v := 1) hx hb dX1_readSize_15 (by decide) ?_
    refine lv_iload_n hx hb dX1_readSize_16 rfl (lv_at hl 2 rfl) ?_
    obtain ⟨o8, ho8, hf⟩ := ob hf
    refine xj_i (va_runV (As := [.int 1, .int p1]) (rest := []) ⟨hx, hb, hml, hown, hts⟩ (kX1_fail l D Y F a_h a_hz a_hv a_f a_p H.size h_fault h_place h_clusters h_blocks h_depth h_trackNumber h_clusterTime h_bodySize h_lacingAt 1 p1 o8 ho8) (cwV 2 hts gX1_readSize_X1_fail rfl rfl rfl (by decide +kernel) ⟨Nat.le_of_ble_eq_true rfl, Nat.le_of_ble_eq_true rfl⟩) (prev_w (ci := 0) rfl rfl hK wd [0] rfl (by decide)) rfl rfl hl.1 rfl (lv_room (Nat.le_of_ble_eq_true rfl)) dX1_readSize_17 ⟨Nat.zero_le _, Nat.zero_le _⟩) wd hS hA [0] [1, 2] rfl rfl (by decide) (by decide) (fun H locs wd hS => ?_)
    have wd : WD D A [oX8 a_f (.ref a_fw) f_most f_length f_overfull, aI Y a_fw fw_n c_fw, oX1 a_h o8.2.1 o8.2.2 h_clusters h_blocks (.ref a_hz) (.ref a_hv) h_depth (.ref a_f) (.ref a_p) h_trackNumber h_clusterTime h_bodySize h_lacingAt] H := wd
    obtain rfl := Option.some.inj hf
    exact W.iret (v := o8.1) hx hb hr (fun t ht hW => ⟨⟨_, (), rfl, rfl, WD.pst (wd.sub [2, 0, 1] rfl (by decide)) hK ht hW⟩, hS.F ht⟩) hS.2.2 dX1_readSize_20
set_option maxHeartbeats 4000000 in
set_option maxRecDepth 100000 in
theorem kX1_readSize (l : Launch) (D : va_G) (Y : Y4) (F : Nat) (a_h : Nat) (a_f : Nat) (a_fw : Nat) (a_hz : Nat) (a_hv : Nat) (a_p : Nat) (sz : Nat) (h_fault : Int32) (h_place : Int32) (h_clusters : Int32) (h_blocks : Int32) (h_depth : Int32) (h_trackNumber : Int64) (h_clusterTime : Int64) (h_bodySize : Int64) (h_lacingAt : Int32) (f_most : Int32) (f_length : Int32) (f_overfull : Int32) (fw_n : Nat) (c_fw : (Nat → Int32)) (p1 : Int32) (p2 : Int32) (p3 : Int32) (p4 : Int32) (res : Int32 × Int32 × Int32 × Int64) (hf : fX1_readSize F h_fault h_place h_bodySize f_length fw_n c_fw p1 p2 p3 p4 = some res) : Met l yX1_readSize wsX1_readSize ({ frames := 2, cells := 0, slots := 0, locals := 46 }) (va_Pc [.ref a_h, .int p1, .int p2, .int p3, .int p4] (PRE D Y [oX1 a_h h_fault h_place h_clusters h_blocks (.ref a_hz) (.ref a_hv) h_depth (.ref a_f) (.ref a_p) h_trackNumber h_clusterTime h_bodySize h_lacingAt, oX8 a_f (.ref a_fw) f_most f_length f_overfull, aI Y a_fw fw_n c_fw] sz)) (va_Qi (fun r (_ : Unit) => r = res.1) (fun _ t => PST D Y (va_A [oX1 a_h h_fault h_place h_clusters h_blocks (.ref a_hz) (.ref a_hv) h_depth (.ref a_f) (.ref a_p) h_trackNumber h_clusterTime h_bodySize h_lacingAt, oX8 a_f (.ref a_fw) f_most f_length f_overfull, aI Y a_fw fw_n c_fw] sz) [oX1 a_h res.2.1 res.2.2.1 h_clusters h_blocks (.ref a_hz) (.ref a_hv) h_depth (.ref a_f) (.ref a_p) h_trackNumber h_clusterTime res.2.2.2 h_lacingAt, oX8 a_f (.ref a_fw) f_most f_length f_overfull, aI Y a_fw fw_n c_fw] t) (va_A [oX1 a_h h_fault h_place h_clusters h_blocks (.ref a_hz) (.ref a_hv) h_depth (.ref a_f) (.ref a_p) h_trackNumber h_clusterTime h_bodySize h_lacingAt, oX8 a_f (.ref a_fw) f_most f_length f_overfull, aI Y a_fw fw_n c_fw] sz)) 0 0 (va_A [oX1 a_h h_fault h_place h_clusters h_blocks (.ref a_hz) (.ref a_hv) h_depth (.ref a_f) (.ref a_p) h_trackNumber h_clusterTime h_bodySize h_lacingAt, oX8 a_f (.ref a_fw) f_most f_length f_overfull, aI Y a_fw fw_n c_fw] sz) := by
  refine Met.ofW (cc := cX1_readSize) (maxL := 7) (ret := (some .int)) (by decide) rfl ?_
  intro p e s m args below meth c s₁ B hml hv
  obtain ⟨rfl, rfl, hP, hK, hD0⟩ := hv
  have hl := lv_entry ([.ref a_h, .int p1, .int p2, .int p3, .int p4]) (n := 7) (Nat.le_of_ble_eq_true rfl)
  rw [lg_entry_eq]
  exact wX1_readSize D Y ⟨B.exec, B.bytes, hml, B.returns, atoms_spec (ws := wsX1_readSize) B.pre, findClass_of_methodNamed B.named, B.notSynchronized⟩ (fun q h => Or.inr h) hK F a_h a_f a_fw a_hz a_hv a_p h_fault h_place h_clusters h_blocks h_depth h_trackNumber h_clusterTime h_bodySize h_lacingAt f_most f_length f_overfull fw_n c_fw p1 p2 p3 p4 res hf ⟨hP, hD0.self⟩ va_S.rf hl
theorem mX1_readUint_0 : Cond.fieldLink RX1 24 "StreamRemuxer$ElementReader" "file" "LStreamRemuxer$Row;" ∈ wsX1_readUint := List.mem_cons_of_mem _ u_587
theorem mX1_readUint_1 : Cond.constantLong RX1 158 (215) ∈ wsX1_readUint := List.mem_cons_of_mem _ u_667
theorem mX1_readUint_2 : Cond.fieldLink RX1 47 "StreamRemuxer$ElementReader" "trackNumber" "J" ∈ wsX1_readUint := List.mem_cons_of_mem _ u_594
theorem mX1_readUint_3 : Cond.constantLong RX1 160 (231) ∈ wsX1_readUint := List.mem_cons_of_mem _ u_668
theorem mX1_readUint_4 : Cond.fieldLink RX1 51 "StreamRemuxer$ElementReader" "clusterTime" "J" ∈ wsX1_readUint := List.mem_cons_of_mem _ u_595
theorem iX1_readUint_X1 : ∀ w ∈ wsX10, w ∈ wsX1_readUint := fun w h => List.mem_cons_of_mem _ (inlX1 w h)
set_option maxHeartbeats 4000000 in
set_option maxRecDepth 100000 in
theorem wX1_readUint_b52 {p : Program} {l : Launch} {e : Env} {s : State} {m : MethodId} {args : Array Value} {below : List Frame} {meth : Method} {c : Code} {A : Nat → Prop} (D : va_G) (Y : Y4) (C : CX p s m meth c args cX1_readUint 7 (some .int) wsX1_readUint RX1) (hA : ∀ q : Nat, s.heap.size ≤ q → A q) (hK : va_K D vwCl (TY Y) s) (F : Nat) (a_h : Nat) (a_f : Nat) (a_fw : Nat) (a_hz : Nat) (a_hv : Nat) (a_p : Nat) (a_sT : Nat) (h_fault : Int32) (h_place : Int32) (h_clusters : Int32) (h_blocks : Int32) (h_depth : Int32) (h_trackNumber : Int64) (h_clusterTime : Int64) (h_bodySize : Int64) (h_lacingAt : Int32) (f_most : Int32) (f_length : Int32) (f_overfull : Int32) (fw_n : Nat) (c_fw : (Nat → Int32)) (p1 : Int32) (p2 : Int32) (p3 : Int32) (p4 : Int32) (hX : ST [e_sT a_sT] A s) (res : Int32 × Int32 × Int32 × Int64 × Int64) (hf : fX1_readUint_b52 F h_trackNumber h_clusterTime p2 = some res) {H : Heap} {locs : List Loc} {ls : Array Slot} (wd : WD D A [oX1 a_h h_fault h_place h_clusters h_blocks (.ref a_hz) (.ref a_hv) h_depth (.ref a_f) (.ref a_p) h_trackNumber h_clusterTime h_bodySize h_lacingAt, oX8 a_f (.ref a_fw) f_most f_length f_overfull, aI Y a_fw fw_n c_fw] H) (hS : va_S A s.heap H locs) (hl : lv_has ls 7 [(0, .ref a_h), (2, .int p2)]) : W p l e { frames := 2, cells := 0, slots := 0, locals := 46 } s m args below meth c H locs 0 0 (MQ below (va_Qi (fun r (_ : Unit) => r = res.1) (fun _ t => PST D Y A [oX1 a_h res.2.1 res.2.2.1 h_clusters h_blocks (.ref a_hz) (.ref a_hv) h_depth (.ref a_f) (.ref a_p) res.2.2.2.1 res.2.2.2.2 h_bodySize h_lacingAt, oX8 a_f (.ref a_fw) f_most f_length f_overfull, aI Y a_fw fw_n c_fw] t) A) args s 0 0 A) (F0 m 52 ls []) := by
  obtain ⟨hx, hb, hml, hr, hts, hown, hlocks⟩ := id C
  obtain ⟨hZ_sT, hT_sT⟩ := (hX _ (List.mem_of_getElem? (i := 0) rfl)).2
  unfold fX1_readUint_b52 at hf
  refine lv_aload_n hx hb dX1_readUint_52 rfl (lv_at hl 0 rfl) ?_
  refine lv_iconst (v := 5) hx hb dX1_readUint_53 (by decide) ?_
  refine lv_iload_n hx hb dX1_readUint_54 rfl (lv_at hl 1 rfl) ?_
  obtain ⟨o1, ho1, hf⟩ := ob hf
  refine xj_i (va_runV (As := [.int 5, .int p2]) (rest := []) ⟨hx, hb, hml, hown, hts⟩ (kX1_fail l D Y F a_h a_hz a_hv a_f a_p H.size h_fault h_place h_clusters h_blocks h_depth h_trackNumber h_clusterTime h_bodySize h_lacingAt 5 p2 o1 ho1) (cwV 2 hts gX1_readUint_X1_fail rfl rfl rfl (by decide +kernel) ⟨Nat.le_of_ble_eq_true rfl, Nat.le_of_ble_eq_true rfl⟩) (prev_w (ci := 0) rfl rfl hK wd [0] rfl (by decide)) rfl rfl hl.1 rfl (lv_room (Nat.le_of_ble_eq_true rfl)) dX1_readUint_55 ⟨Nat.zero_le _, Nat.zero_le _⟩) wd hS hA [0] [1, 2] rfl rfl (by decide) (by decide) (fun H locs wd hS => ?_)
  have wd : WD D A [oX8 a_f (.ref a_fw) f_most f_length f_overfull, aI Y a_fw fw_n c_fw, oX1 a_h o1.2.1 o1.2.2 h_clusters h_blocks (.ref a_hz) (.ref a_hv) h_depth (.ref a_f) (.ref a_p) h_trackNumber h_clusterTime h_bodySize h_lacingAt] H := wd
  obtain rfl := Option.some.inj hf
  exact W.iret (v := o1.1) hx hb hr (fun t ht hW => ⟨⟨_, (), rfl, rfl, WD.pst (wd.sub [2, 0, 1] rfl (by decide)) hK ht hW⟩, hS.F ht⟩) hS.2.2 dX1_readUint_58

set_option maxHeartbeats 4000000 in
set_option maxRecDepth 100000 in
theorem wX1_readUint_b95 {p : Program} {l : Launch} {e : Env} {s : State} {m : MethodId} {args : Array Value} {below : List Frame} {meth : Method} {c : Code} {A : Nat → Prop} (D : va_G) (Y : Y4) (C : CX p s m meth c args cX1_readUint 7 (some .int) wsX1_readUint RX1) (hA : ∀ q : Nat, s.heap.size ≤ q → A q) (hK : va_K D vwCl (TY Y) s) (F : Nat) (a_h : Nat) (a_f : Nat) (a_fw : Nat) (a_hz : Nat) (a_hv : Nat) (a_p : Nat) (a_sT : Nat) (h_fault : Int32) (h_place : Int32) (h_clusters : Int32) (h_blocks : Int32) (h_depth : Int32) (h_trackNumber : Int64) (h_clusterTime : Int64) (h_bodySize : Int64) (h_lacingAt : Int32) (f_most : Int32) (f_length : Int32) (f_overfull : Int32) (fw_n : Nat) (c_fw : (Nat → Int32)) (p1 : Int32) (p2 : Int32) (p3 : Int32) (p4 : Int32) (hX : ST [e_sT a_sT] A s) (res : Int32 × Int32 × Int32 × Int64 × Int64) (b95_f_h_9 : Int64) (b95_f_h_10 : Int64) (hf : fX1_readUint_b95 F h_fault h_place p4 b95_f_h_9 b95_f_h_10 = some res) {H : Heap} {locs : List Loc} {ls : Array Slot} (wd : WD D A [oX1 a_h h_fault h_place h_clusters h_blocks (.ref a_hz) (.ref a_hv) h_depth (.ref a_f) (.ref a_p) b95_f_h_9 b95_f_h_10 h_bodySize h_lacingAt, oX8 a_f (.ref a_fw) f_most f_length f_overfull, aI Y a_fw fw_n c_fw] H) (hS : va_S A s.heap H locs) (hl : lv_has ls 7 [(4, .int p4)]) : W p l e { frames := 2, cells := 0, slots := 0, locals := 46 } s m args below meth c H locs 0 0 (MQ below (va_Qi (fun r (_ : Unit) => r = res.1) (fun _ t => PST D Y A [oX1 a_h res.2.1 res.2.2.1 h_clusters h_blocks (.ref a_hz) (.ref a_hv) h_depth (.ref a_f) (.ref a_p) res.2.2.2.1 res.2.2.2.2 h_bodySize h_lacingAt, oX8 a_f (.ref a_fw) f_most f_length f_overfull, aI Y a_fw fw_n c_fw] t) A) args s 0 0 A) (F0 m 95 ls []) := by
  obtain ⟨hx, hb, hml, hr, hts, hown, hlocks⟩ := id C
  obtain ⟨hZ_sT, hT_sT⟩ := (hX _ (List.mem_of_getElem? (i := 0) rfl)).2
  unfold fX1_readUint_b95 at hf
  refine lv_iload hx hb dX1_readUint_95 (lv_at hl 0 rfl) ?_
  obtain rfl := Option.some.inj hf
  exact W.iret (v := p4) hx hb hr (fun t ht hW => ⟨⟨_, (), rfl, rfl, WD.pst wd hK ht hW⟩, hS.F ht⟩) hS.2.2 dX1_readUint_97

set_option maxHeartbeats 4000000 in
set_option maxRecDepth 100000 in
theorem wX1_readUint_b77 {p : Program} {l : Launch} {e : Env} {s : State} {m : MethodId} {args : Array Value} {below : List Frame} {meth : Method} {c : Code} {A : Nat → Prop} (D : va_G) (Y : Y4) (C : CX p s m meth c args cX1_readUint 7 (some .int) wsX1_readUint RX1) (hA : ∀ q : Nat, s.heap.size ≤ q → A q) (hK : va_K D vwCl (TY Y) s) (F : Nat) (a_h : Nat) (a_f : Nat) (a_fw : Nat) (a_hz : Nat) (a_hv : Nat) (a_p : Nat) (a_sT : Nat) (h_fault : Int32) (h_place : Int32) (h_clusters : Int32) (h_blocks : Int32) (h_depth : Int32) (h_trackNumber : Int64) (h_clusterTime : Int64) (h_bodySize : Int64) (h_lacingAt : Int32) (f_most : Int32) (f_length : Int32) (f_overfull : Int32) (fw_n : Nat) (c_fw : (Nat → Int32)) (p1 : Int32) (p2 : Int32) (p3 : Int32) (p4 : Int32) (hX : ST [e_sT a_sT] A s) (res : Int32 × Int32 × Int32 × Int64 × Int64) (b77_l_5 : Int64) (b77_f_h_9 : Int64) (hf : fX1_readUint_b77 F h_fault h_place h_clusterTime p1 p4 b77_l_5 b77_f_h_9 = some res) {H : Heap} {locs : List Loc} {ls : Array Slot} (wd : WD D A [oX1 a_h h_fault h_place h_clusters h_blocks (.ref a_hz) (.ref a_hv) h_depth (.ref a_f) (.ref a_p) b77_f_h_9 h_clusterTime h_bodySize h_lacingAt, oX8 a_f (.ref a_fw) f_most f_length f_overfull, aI Y a_fw fw_n c_fw] H) (hS : va_S A s.heap H locs) (hl : lv_has ls 7 [(0, .ref a_h), (1, .int p1), (4, .int p4), (5, .long b77_l_5)]) : W p l e { frames := 2, cells := 0, slots := 0, locals := 46 } s m args below meth c H locs 0 0 (MQ below (va_Qi (fun r (_ : Unit) => r = res.1) (fun _ t => PST D Y A [oX1 a_h res.2.1 res.2.2.1 h_clusters h_blocks (.ref a_hz) (.ref a_hv) h_depth (.ref a_f) (.ref a_p) res.2.2.2.1 res.2.2.2.2 h_bodySize h_lacingAt, oX8 a_f (.ref a_fw) f_most f_length f_overfull, aI Y a_fw fw_n c_fw] t) A) args s 0 0 A) (F0 m 77 ls []) := by
  obtain ⟨hx, hb, hml, hr, hts, hown, hlocks⟩ := id C
  obtain ⟨hZ_sT, hT_sT⟩ := (hX _ (List.mem_of_getElem? (i := 0) rfl)).2
  unfold fX1_readUint_b77 at hf
  refine lv_iload_n hx hb dX1_readUint_77 rfl (lv_at hl 1 rfl) ?_
  refine lv_iconst (v := 0) hx hb dX1_readUint_78 (by decide) ?_
  obtain ⟨o1, ho1, hf⟩ := ob hf
  refine xj_l (va_runS (As := [.int p1, .int 0]) (rest := []) ⟨hx, hb, hml, hown, hts⟩ (kX1_column l D Y F a_sT H.size p1 0 o1 ho1) (va_cwS 2 hts gX1_readUint_X1_column rfl rfl rfl (by decide +kernel) ⟨Nat.le_of_ble_eq_true rfl, Nat.le_of_ble_eq_true rfl⟩) (pres_wx hK wd [] rfl (by decide) hA hX (fun q hq => hq) hS) rfl rfl hl.1 rfl (lv_room (Nat.le_of_ble_eq_true rfl)) dX1_readUint_79 ⟨Nat.zero_le _, Nat.zero_le _⟩) wd hS hA [] [0, 1, 2] rfl rfl (by decide) (by decide) (fun H locs wd hS => ?_)
  have wd : WD D A [oX1 a_h h_fault h_place h_clusters h_blocks (.ref a_hz) (.ref a_hv) h_depth (.ref a_f) (.ref a_p) b77_f_h_9 h_clusterTime h_bodySize h_lacingAt, oX8 a_f (.ref a_fw) f_most f_length f_overfull, aI Y a_fw fw_n c_fw] H := wd
  refine lv_ldc2 hx hb hown (hts _ mX1_readUint_3) dX1_readUint_82 ?_
  refine xl_ne (tgt := 95) hx hb dX1_readUint_85 dX1_readUint_86 (by decide) (fun q2 => ?_) (fun q2 => ?_)
  · have hf := ie hf q2
    exact wX1_readUint_b95 D Y C hA hK F a_h a_f a_fw a_hz a_hv a_p a_sT h_fault h_place h_clusters h_blocks h_depth h_trackNumber h_clusterTime h_bodySize h_lacingAt f_most f_length f_overfull fw_n c_fw p1 p2 p3 p4 hX _ b77_f_h_9 h_clusterTime hf wd hS (lv_sub hl [2] rfl)
  · have hf := ip hf q2
    refine lv_aload_n hx hb dX1_readUint_89 rfl (lv_at hl 0 rfl) ?_
    refine lv_lload hx hb dX1_readUint_90 (lv_at hl 3 rfl) ?_
    refine va_put (D := D) (ci := 0) (v := .long b77_l_5) (ty := .long) (C := RX1) (T := TX1) (N := 13) hx hb hts iX1_readUint_X1 tyX1 tyX1_ok nmX1 hown hK wd.1 wd.2 hS 0 rfl rfl 10 (by decide) (hts _ mX1_readUint_4) (fun _ h9 => h9) rfl (by decide +kernel) rfl rfl (Nat.le_of_ble_eq_true rfl) dX1_readUint_92 (fun H locs hP hD hS => ?_)
    have wd : WD D A [oX1 a_h h_fault h_place h_clusters h_blocks (.ref a_hz) (.ref a_hv) h_depth (.ref a_f) (.ref a_p) b77_f_h_9 b77_l_5 h_bodySize h_lacingAt, oX8 a_f (.ref a_fw) f_most f_length f_overfull, aI Y a_fw fw_n c_fw] H := ⟨hP, hD⟩
    clear hP hD
    exact wX1_readUint_b95 D Y C hA hK F a_h a_f a_fw a_hz a_hv a_p a_sT h_fault h_place h_clusters h_blocks h_depth h_trackNumber h_clusterTime h_bodySize h_lacingAt f_most f_length f_overfull fw_n c_fw p1 p2 p3 p4 hX _ b77_f_h_9 b77_l_5 hf wd hS (lv_sub hl [2] rfl)

set_option maxHeartbeats 4000000 in
set_option maxRecDepth 100000 in
theorem wX1_readUint {p : Program} {l : Launch} {e : Env} {s : State} {m : MethodId} {args : Array Value} {below : List Frame} {meth : Method} {c : Code} {A : Nat → Prop} (D : va_G) (Y : Y4) (C : CX p s m meth c args cX1_readUint 7 (some .int) wsX1_readUint RX1) (hA : ∀ q : Nat, s.heap.size ≤ q → A q) (hK : va_K D vwCl (TY Y) s) (F : Nat) (a_h : Nat) (a_f : Nat) (a_fw : Nat) (a_hz : Nat) (a_hv : Nat) (a_p : Nat) (a_sT : Nat) (h_fault : Int32) (h_place : Int32) (h_clusters : Int32) (h_blocks : Int32) (h_depth : Int32) (h_trackNumber : Int64) (h_clusterTime : Int64) (h_bodySize : Int64) (h_lacingAt : Int32) (f_most : Int32) (f_length : Int32) (f_overfull : Int32) (fw_n : Nat) (c_fw : (Nat → Int32)) (p1 : Int32) (p2 : Int32) (p3 : Int32) (p4 : Int32) (hX : ST [e_sT a_sT] A s) (res : Int32 × Int32 × Int32 × Int64 × Int64) (hf : fX1_readUint F h_fault h_place h_trackNumber h_clusterTime f_length fw_n c_fw p1 p2 p3 p4 = some res) {H : Heap} {locs : List Loc} {ls : Array Slot} (wd : WD D A [oX1 a_h h_fault h_place h_clusters h_blocks (.ref a_hz) (.ref a_hv) h_depth (.ref a_f) (.ref a_p) h_trackNumber h_clusterTime h_bodySize h_lacingAt, oX8 a_f (.ref a_fw) f_most f_length f_overfull, aI Y a_fw fw_n c_fw] H) (hS : va_S A s.heap H locs) (hl : lv_has ls 7 [(0, .ref a_h), (1, .int p1), (2, .int p2), (3, .int p3), (4, .int p4)]) : W p l e { frames := 2, cells := 0, slots := 0, locals := 46 } s m args below meth c H locs 0 0 (MQ below (va_Qi (fun r (_ : Unit) => r = res.1) (fun _ t => PST D Y A [oX1 a_h res.2.1 res.2.2.1 h_clusters h_blocks (.ref a_hz) (.ref a_hv) h_depth (.ref a_f) (.ref a_p) res.2.2.2.1 res.2.2.2.2 h_bodySize h_lacingAt, oX8 a_f (.ref a_fw) f_most f_length f_overfull, aI Y a_fw fw_n c_fw] t) A) args s 0 0 A) (F0 m 0 ls []) := by
  obtain ⟨hx, hb, hml, hr, hts, hown, hlocks⟩ := id C
  obtain ⟨hZ_sT, hT_sT⟩ := (hX _ (List.mem_of_getElem? (i := 0) rfl)).2
  unfold fX1_readUint at hf
  refine lv_iload hx hb dX1_readUint_0 (lv_at hl 4 rfl) ?_
  refine lv_iload_n hx hb dX1_readUint_2 rfl (lv_at hl 3 rfl) ?_
  refine lv_isub hx hb dX1_readUint_3 ?_
  refine lv_bipush (v := 8) hx hb dX1_readUint_4 (by decide) ?_
  refine lv_icmp_le (tgt := 16) hx hb dX1_readUint_6 (by decide) (fun q1 => ?_) (fun q1 => ?_)
  · have hf := ip hf q1
    refine lv_aload_n hx hb dX1_readUint_16 rfl (lv_at hl 0 rfl) ?_
    refine va_get (D := D) (ci := 0) (v := .ref a_f) (C := RX1) (T := TX1) (N := 13) hx hb hts iX1_readUint_X1 hown hK wd.1 0 rfl rfl 7 (by decide) (hts _ mX1_readUint_0) (fun _ h9 => h9) rfl dX1_readUint_17 ?_
    refine lv_iload_n hx hb dX1_readUint_20 rfl (lv_at hl 3 rfl) ?_
    refine lv_iload hx hb dX1_readUint_21 (lv_at hl 4 rfl) ?_
    refine lv_iload_n hx hb dX1_readUint_23 rfl (lv_at hl 3 rfl) ?_
    refine lv_isub hx hb dX1_readUint_24 ?_
    obtain ⟨o2, ho2, hf⟩ := ob hf
    refine xj_l (va_runV (As := [.int p3, .int (p4 - p3)]) (rest := []) ⟨hx, hb, hml, hown, hts⟩ (kX8_highFirst l D Y F a_f a_fw H.size f_most f_length f_overfull fw_n c_fw p3 (p4 - p3) o2 ho2) (cwV 2 hts gX1_readUint_X8_highFirst rfl rfl rfl (by decide +kernel) ⟨Nat.le_of_ble_eq_true rfl, Nat.le_of_ble_eq_true rfl⟩) (prev_w (ci := 6) rfl rfl hK wd [1, 2] rfl (by decide)) rfl rfl hl.1 rfl (lv_room (Nat.le_of_ble_eq_true rfl)) dX1_readUint_25 ⟨Nat.zero_le _, Nat.zero_le _⟩) wd hS hA [1, 2] [0] rfl rfl (by decide) (by decide) (fun H locs wd hS => ?_)
    have wd : WD D A [oX1 a_h h_fault h_place h_clusters h_blocks (.ref a_hz) (.ref a_hv) h_depth (.ref a_f) (.ref a_p) h_trackNumber h_clusterTime h_bodySize h_lacingAt, oX8 a_f (.ref a_fw) f_most f_length f_overfull, aI Y a_fw fw_n c_fw] H := wd
    refine lv_lstore (lv' := [(5, .long o2), (0, .ref a_h), (1, .int p1), (2, .int p2), (3, .int p3), (4, .int p4)]) hx hb dX1_readUint_28 hl (by decide) rfl (fun ls hl => ?_)
    refine lv_lload hx hb dX1_readUint_30 (lv_at hl 0 rfl) ?_
    refine lv_iload_n hx hb dX1_readUint_32 rfl (lv_at hl 2 rfl) ?_
    refine lv_iconst (v := 4) hx hb dX1_readUint_33 (by decide) ?_
    obtain ⟨o3, ho3, hf⟩ := ob hf
    refine xj_l (va_runS (As := [.int p1, .int 4]) (rest := [.long o2]) ⟨hx, hb, hml, hown, hts⟩ (kX1_column l D Y F a_sT H.size p1 4 o3 ho3) (va_cwS 2 hts gX1_readUint_X1_column rfl rfl rfl (by decide +kernel) ⟨Nat.le_of_ble_eq_true rfl, Nat.le_of_ble_eq_true rfl⟩) (pres_wx hK wd [] rfl (by decide) hA hX (fun q hq => hq) hS) rfl rfl hl.1 rfl (lv_room (Nat.le_of_ble_eq_true rfl)) dX1_readUint_34 ⟨Nat.zero_le _, Nat.zero_le _⟩) wd hS hA [] [0, 1, 2] rfl rfl (by decide) (by decide) (fun H locs wd hS => ?_)
    have wd : WD D A [oX1 a_h h_fault h_place h_clusters h_blocks (.ref a_hz) (.ref a_hv) h_depth (.ref a_f) (.ref a_p) h_trackNumber h_clusterTime h_bodySize h_lacingAt, oX8 a_f (.ref a_fw) f_most f_length f_overfull, aI Y a_fw fw_n c_fw] H := wd
    refine xl_lt (tgt := 52) hx hb dX1_readUint_37 dX1_readUint_38 (by decide) (fun q4 => ?_) (fun q4 => ?_)
    · have hf := ip hf q4
      exact wX1_readUint_b52 D Y C hA hK F a_h a_f a_fw a_hz a_hv a_p a_sT h_fault h_place h_clusters h_blocks h_depth h_trackNumber h_clusterTime h_bodySize h_lacingAt f_most f_length f_overfull fw_n c_fw p1 p2 p3 p4 hX _ hf wd hS (lv_sub hl [1, 3] rfl)
    · have hf := ie hf q4
      refine lv_lload hx hb dX1_readUint_41 (lv_at hl 0 rfl) ?_
      refine lv_iload_n hx hb dX1_readUint_43 rfl (lv_at hl 2 rfl) ?_
      refine lv_iconst (v := 5) hx hb dX1_readUint_44 (by decide) ?_
      obtain ⟨o5, ho5, hf⟩ := ob hf
      refine xj_l (va_runS (As := [.int p1, .int 5]) (rest := [.long o2]) ⟨hx, hb, hml, hown, hts⟩ (kX1_column l D Y F a_sT H.size p1 5 o5 ho5) (va_cwS 2 hts gX1_readUint_X1_column rfl rfl rfl (by decide +kernel) ⟨Nat.le_of_ble_eq_true rfl, Nat.le_of_ble_eq_true rfl⟩) (pres_wx hK wd [] rfl (by decide) hA hX (fun q hq => hq) hS) rfl rfl hl.1 rfl (lv_room (Nat.le_of_ble_eq_true rfl)) dX1_readUint_45 ⟨Nat.zero_le _, Nat.zero_le _⟩) wd hS hA [] [0, 1, 2] rfl rfl (by decide) (by decide) (fun H locs wd hS => ?_)
      have wd : WD D A [oX1 a_h h_fault h_place h_clusters h_blocks (.ref a_hz) (.ref a_hv) h_depth (.ref a_f) (.ref a_p) h_trackNumber h_clusterTime h_bodySize h_lacingAt, oX8 a_f (.ref a_fw) f_most f_length f_overfull, aI Y a_fw fw_n c_fw] H := wd
      refine xl_le (tgt := 59) hx hb dX1_readUint_48 dX1_readUint_49 (by decide) (fun q6 => ?_) (fun q6 => ?_)
      · have hf := ip hf q6
        refine lv_iload_n hx hb dX1_readUint_59 rfl (lv_at hl 2 rfl) ?_
        refine lv_iconst (v := 0) hx hb dX1_readUint_60 (by decide) ?_
        obtain ⟨o7, ho7, hf⟩ := ob hf
        refine xj_l (va_runS (As := [.int p1, .int 0]) (rest := []) ⟨hx, hb, hml, hown, hts⟩ (kX1_column l D Y F a_sT H.size p1 0 o7 ho7) (va_cwS 2 hts gX1_readUint_X1_column rfl rfl rfl (by decide +kernel) ⟨Nat.le_of_ble_eq_true rfl, Nat.le_of_ble_eq_true rfl⟩) (pres_wx hK wd [] rfl (by decide) hA hX (fun q hq => hq) hS) rfl rfl hl.1 rfl (lv_room (Nat.le_of_ble_eq_true rfl)) dX1_readUint_61 ⟨Nat.zero_le _, Nat.zero_le _⟩) wd hS hA [] [0, 1, 2] rfl rfl (by decide) (by decide) (fun H locs wd hS => ?_)
        have wd : WD D A [oX1 a_h h_fault h_place h_clusters h_blocks (.ref a_hz) (.ref a_hv) h_depth (.ref a_f) (.ref a_p) h_trackNumber h_clusterTime h_bodySize h_lacingAt, oX8 a_f (.ref a_fw) f_most f_length f_overfull, aI Y a_fw fw_n c_fw] H := wd
        refine lv_ldc2 hx hb hown (hts _ mX1_readUint_1) dX1_readUint_64 ?_
        refine xl_ne (tgt := 77) hx hb dX1_readUint_67 dX1_readUint_68 (by decide) (fun q8 => ?_) (fun q8 => ?_)
        · have hf := ie hf q8
          exact wX1_readUint_b77 D Y C hA hK F a_h a_f a_fw a_hz a_hv a_p a_sT h_fault h_place h_clusters h_blocks h_depth h_trackNumber h_clusterTime h_bodySize h_lacingAt f_most f_length f_overfull fw_n c_fw p1 p2 p3 p4 hX _ o2 h_trackNumber hf wd hS (lv_sub hl [1, 2, 5, 0] rfl)
        · have hf := ip hf q8
          refine lv_aload_n hx hb dX1_readUint_71 rfl (lv_at hl 1 rfl) ?_
          refine lv_lload hx hb dX1_readUint_72 (lv_at hl 0 rfl) ?_
          refine va_put (D := D) (ci := 0) (v := .long o2) (ty := .long) (C := RX1) (T := TX1) (N := 13) hx hb hts iX1_readUint_X1 tyX1 tyX1_ok nmX1 hown hK wd.1 wd.2 hS 0 rfl rfl 9 (by decide) (hts _ mX1_readUint_2) (fun _ h9 => h9) rfl (by decide +kernel) rfl rfl (Nat.le_of_ble_eq_true rfl) dX1_readUint_74 (fun H locs hP hD hS => ?_)
          have wd : WD D A [oX1 a_h h_fault h_place h_clusters h_blocks (.ref a_hz) (.ref a_hv) h_depth (.ref a_f) (.ref a_p) o2 h_clusterTime h_bodySize h_lacingAt, oX8 a_f (.ref a_fw) f_most f_length f_overfull, aI Y a_fw fw_n c_fw] H := ⟨hP, hD⟩
          clear hP hD
          exact wX1_readUint_b77 D Y C hA hK F a_h a_f a_fw a_hz a_hv a_p a_sT h_fault h_place h_clusters h_blocks h_depth h_trackNumber h_clusterTime h_bodySize h_lacingAt f_most f_length f_overfull fw_n c_fw p1 p2 p3 p4 hX _ o2 o2 hf wd hS (lv_sub hl [1, 2, 5, 0] rfl)
      · have hf := ie hf q6
        exact wX1_readUint_b52 D Y C hA hK F a_h a_f a_fw a_hz a_hv a_p a_sT h_fault h_place h_clusters h_blocks h_depth h_trackNumber h_clusterTime h_bodySize h_lacingAt f_most f_length f_overfull fw_n c_fw p1 p2 p3 p4 hX _ hf wd hS (lv_sub hl [1, 3] rfl)
  · have hf := ie hf q1
    refine lv_aload_n hx hb dX1_readUint_9 rfl (lv_at hl 0 rfl) ?_
    refine lv_iconst (v := 5) hx hb dX1_readUint_10 (by decide) ?_
    refine lv_iload_n hx hb dX1_readUint_11 rfl (lv_at hl 2 rfl) ?_
    obtain ⟨o9, ho9, hf⟩ := ob hf
    refine xj_i (va_runV (As := [.int 5, .int p2]) (rest := []) ⟨hx, hb, hml, hown, hts⟩ (kX1_fail l D Y F a_h a_hz a_hv a_f a_p H.size h_fault h_place h_clusters h_blocks h_depth h_trackNumber h_clusterTime h_bodySize h_lacingAt 5 p2 o9 ho9) (cwV 2 hts gX1_readUint_X1_fail rfl rfl rfl (by decide +kernel) ⟨Nat.le_of_ble_eq_true rfl, Nat.le_of_ble_eq_true rfl⟩) (prev_w (ci := 0) rfl rfl hK wd [0] rfl (by decide)) rfl rfl hl.1 rfl (lv_room (Nat.le_of_ble_eq_true rfl)) dX1_readUint_12 ⟨Nat.zero_le _, Nat.zero_le _⟩) wd hS hA [0] [1, 2] rfl rfl (by decide) (by decide) (fun H locs wd hS => ?_)
    have wd : WD D A [oX8 a_f (.ref a_fw) f_most f_length f_overfull, aI Y a_fw fw_n c_fw, oX1 a_h o9.2.1 o9.2.2 h_clusters h_blocks (.ref a_hz) (.ref a_hv) h_depth (.ref a_f) (.ref a_p) h_trackNumber h_clusterTime h_bodySize h_lacingAt] H := wd
    obtain rfl := Option.some.inj hf
    exact W.iret (v := o9.1) hx hb hr (fun t ht hW => ⟨⟨_, (), rfl, rfl, WD.pst (wd.sub [2, 0, 1] rfl (by decide)) hK ht hW⟩, hS.F ht⟩) hS.2.2 dX1_readUint_15
set_option maxHeartbeats 4000000 in
set_option maxRecDepth 100000 in
theorem kX1_readUint (l : Launch) (D : va_G) (Y : Y4) (F : Nat) (a_h : Nat) (a_f : Nat) (a_fw : Nat) (a_hz : Nat) (a_hv : Nat) (a_p : Nat) (a_sT : Nat) (sz : Nat) (h_fault : Int32) (h_place : Int32) (h_clusters : Int32) (h_blocks : Int32) (h_depth : Int32) (h_trackNumber : Int64) (h_clusterTime : Int64) (h_bodySize : Int64) (h_lacingAt : Int32) (f_most : Int32) (f_length : Int32) (f_overfull : Int32) (fw_n : Nat) (c_fw : (Nat → Int32)) (p1 : Int32) (p2 : Int32) (p3 : Int32) (p4 : Int32) (res : Int32 × Int32 × Int32 × Int64 × Int64) (hf : fX1_readUint F h_fault h_place h_trackNumber h_clusterTime f_length fw_n c_fw p1 p2 p3 p4 = some res) : Met l yX1_readUint wsX1_readUint ({ frames := 2, cells := 0, slots := 0, locals := 46 }) (va_Pc [.ref a_h, .int p1, .int p2, .int p3, .int p4] (PREX D Y [oX1 a_h h_fault h_place h_clusters h_blocks (.ref a_hz) (.ref a_hv) h_depth (.ref a_f) (.ref a_p) h_trackNumber h_clusterTime h_bodySize h_lacingAt, oX8 a_f (.ref a_fw) f_most f_length f_overfull, aI Y a_fw fw_n c_fw] sz [e_sT a_sT])) (va_Qi (fun r (_ : Unit) => r = res.1) (fun _ t => PST D Y (va_A [oX1 a_h h_fault h_place h_clusters h_blocks (.ref a_hz) (.ref a_hv) h_depth (.ref a_f) (.ref a_p) h_trackNumber h_clusterTime h_bodySize h_lacingAt, oX8 a_f (.ref a_fw) f_most f_length f_overfull, aI Y a_fw fw_n c_fw] sz) [oX1 a_h res.2.1 res.2.2.1 h_clusters h_blocks (.ref a_hz) (.ref a_hv) h_depth (.ref a_f) (.ref a_p) res.2.2.2.1 res.2.2.2.2 h_bodySize h_lacingAt, oX8 a_f (.ref a_fw) f_most f_length f_overfull, aI Y a_fw fw_n c_fw] t) (va_A [oX1 a_h h_fault h_place h_clusters h_blocks (.ref a_hz) (.ref a_hv) h_depth (.ref a_f) (.ref a_p) h_trackNumber h_clusterTime h_bodySize h_lacingAt, oX8 a_f (.ref a_fw) f_most f_length f_overfull, aI Y a_fw fw_n c_fw] sz)) 0 0 (va_A [oX1 a_h h_fault h_place h_clusters h_blocks (.ref a_hz) (.ref a_hv) h_depth (.ref a_f) (.ref a_p) h_trackNumber h_clusterTime h_bodySize h_lacingAt, oX8 a_f (.ref a_fw) f_most f_length f_overfull, aI Y a_fw fw_n c_fw] sz) := by
  refine Met.ofW (cc := cX1_readUint) (maxL := 7) (ret := (some .int)) (by decide) rfl ?_
  intro p e s m args below meth c s₁ B hml hv
  obtain ⟨rfl, ⟨rfl, hP, hK, hD0⟩, hX⟩ := hv
  have hl := lv_entry ([.ref a_h, .int p1, .int p2, .int p3, .int p4]) (n := 7) (Nat.le_of_ble_eq_true rfl)
  rw [lg_entry_eq]
  exact wX1_readUint D Y ⟨B.exec, B.bytes, hml, B.returns, atoms_spec (ws := wsX1_readUint) B.pre, findClass_of_methodNamed B.named, B.notSynchronized⟩ (fun q h => Or.inr h) hK F a_h a_f a_fw a_hz a_hv a_p a_sT h_fault h_place h_clusters h_blocks h_depth h_trackNumber h_clusterTime h_bodySize h_lacingAt f_most f_length f_overfull fw_n c_fw p1 p2 p3 p4 hX res hf ⟨hP, hD0.self⟩ va_S.rf hl
theorem mX1_isDocumentName_0 : Cond.fieldLink RX1 24 "StreamRemuxer$ElementReader" "file" "LStreamRemuxer$Row;" ∈ wsX1_isDocumentName := List.mem_cons_of_mem _ u_587
theorem iX1_isDocumentName_X1 : ∀ w ∈ wsX10, w ∈ wsX1_isDocumentName := fun w h => List.mem_cons_of_mem _ (inlX1 w h)
set_option maxHeartbeats 4000000 in
set_option maxRecDepth 100000 in
theorem wX1_isDocumentName_b15 {p : Program} {l : Launch} {e : Env} {s : State} {m : MethodId} {args : Array Value} {below : List Frame} {meth : Method} {c : Code} {A : Nat → Prop} (D : va_G) (Y : Y4) (C : CX p s m meth c args cX1_isDocumentName 4 (some .boolean) wsX1_isDocumentName RX1) (hA : ∀ q : Nat, s.heap.size ≤ q → A q) (hK : va_K D vwCl (TY Y) s) (F : Nat) (a_h : Nat) (a_f : Nat) (a_fw : Nat) (a_hz : Nat) (a_hv : Nat) (a_p : Nat) (a_sS : (Nat × Nat)) (h_fault : Int32) (h_place : Int32) (h_clusters : Int32) (h_blocks : Int32) (h_depth : Int32) (h_trackNumber : Int64) (h_clusterTime : Int64) (h_bodySize : Int64) (h_lacingAt : Int32) (f_most : Int32) (f_length : Int32) (f_overfull : Int32) (fw_n : Nat) (c_fw : (Nat → Int32)) (p1 : Int32) (p2 : Int32) (hX : ST [e_sS a_sS] A s) (res : Int32) : ∀ (n : Nat) (b15_l_3 : Int32), fX1_isDocumentName_b15 F f_length fw_n c_fw p1 n b15_l_3 = some res → ∀ {H : Heap} {locs : List Loc} {ls : Array Slot}, WD D A [oX1 a_h h_fault h_place h_clusters h_blocks (.ref a_hz) (.ref a_hv) h_depth (.ref a_f) (.ref a_p) h_trackNumber h_clusterTime h_bodySize h_lacingAt, oX8 a_f (.ref a_fw) f_most f_length f_overfull, aI Y a_fw fw_n c_fw] H → va_S A s.heap H locs → lv_has ls 4 [(0, .ref a_h), (1, .int p1), (3, .int b15_l_3)] → W p l e { frames := 4, cells := 0, slots := 0, locals := 111 } s m args below meth c H locs 0 0 (MQ below (va_Qi (fun r (_ : Unit) => r = res) (fun _ t => PST D Y A [oX1 a_h h_fault h_place h_clusters h_blocks (.ref a_hz) (.ref a_hv) h_depth (.ref a_f) (.ref a_p) h_trackNumber h_clusterTime h_bodySize h_lacingAt, oX8 a_f (.ref a_fw) f_most f_length f_overfull, aI Y a_fw fw_n c_fw] t) A) args s 0 0 A) (F0 m 15 ls []) := by
  obtain ⟨hx, hb, hml, hr, hts, hown, hlocks⟩ := id C
  have hS_s := (hX _ (List.mem_of_getElem? (i := 0) rfl)).2
  intro n
  induction n with
  | zero => intro b15_l_3 hf; exact absurd hf (by simp [fX1_isDocumentName_b15])
  | succ n ih =>
    intro b15_l_3 hf H locs ls wd hS hl
    unfold fX1_isDocumentName_b15 at hf
    refine lv_iload_n hx hb dX1_isDocumentName_15 rfl (lv_at hl 2 rfl) ?_
    refine va_ldcS hx hb hown hS_s.1 dX1_isDocumentName_16 ?_
    obtain ⟨o1, ho1, hf⟩ := ob hf
    have hPc := wd.1.sub (ws' := []) [] rfl
    have hDc := wd.2.sub (ws' := []) [] (by decide) rfl
    have hFc := va_free (wc := []) wd.2 hS hA [] rfl
    refine va_calli (va_runV (As := []) (rest := [.int b15_l_3]) ⟨hx, hb, hml, hown, hts⟩ (kJ0_length_8abf5 l D Y F a_sS H.size o1 ho1) (cwV 0 hts gX1_isDocumentName_J0_length_8abf5 rfl rfl rfl (by decide +kernel) ⟨Nat.le_of_ble_eq_true rfl, Nat.le_of_ble_eq_true rfl⟩) (prev_s hK hPc hDc hX (fun q hq => hq) hS hFc) rfl rfl hl.1 rfl (lv_room (Nat.le_of_ble_eq_true rfl)) dX1_isDocumentName_18 ⟨Nat.zero_le _, Nat.zero_le _⟩) hS (fun q _ h => hFc q h) hFc (fun r u t H locs ht hvm hw hB hz1 hk1 hS => ?_)
    obtain ⟨hP1, hK1, hD1⟩ := hB
    rw [ht] at hP1
    obtain ⟨hP, hD⟩ := va_join (wr := [oX1 a_h h_fault h_place h_clusters h_blocks (.ref a_hz) (.ref a_hv) h_depth (.ref a_f) (.ref a_p) h_trackNumber h_clusterTime h_bodySize h_lacingAt, oX8 a_f (.ref a_fw) f_most f_length f_overfull, aI Y a_fw fw_n c_fw]) (w1 := []) wd.1 wd.2 [] [0, 1, 2] rfl rfl (by decide) (by decide) hk1 hFc hP1 hD1
    have hw := hw.symm
    subst hw
    have wd : WD D A [oX1 a_h h_fault h_place h_clusters h_blocks (.ref a_hz) (.ref a_hv) h_depth (.ref a_f) (.ref a_p) h_trackNumber h_clusterTime h_bodySize h_lacingAt, oX8 a_f (.ref a_fw) f_most f_length f_overfull, aI Y a_fw fw_n c_fw] H := ⟨hP, hD⟩
    clear hP hD
    refine lv_icmp_ge (tgt := 51) hx hb dX1_isDocumentName_21 (by decide) (fun q2 => ?_) (fun q2 => ?_)
    · have hf := ip hf q2
      refine lv_iconst (v := 1) hx hb dX1_isDocumentName_51 (by decide) ?_
      obtain rfl := Option.some.inj hf
      exact W.zret (v := 1) hx hb hr rfl (fun t ht hW => ⟨⟨_, (), rfl, rfl, WD.pst wd hK ht hW⟩, hS.F ht⟩) hS.2.2 dX1_isDocumentName_52
    · have hf := ie hf q2
      refine lv_aload_n hx hb dX1_isDocumentName_24 rfl (lv_at hl 0 rfl) ?_
      refine va_get (D := D) (ci := 0) (v := .ref a_f) (C := RX1) (T := TX1) (N := 13) hx hb hts iX1_isDocumentName_X1 hown hK wd.1 0 rfl rfl 7 (by decide) (hts _ mX1_isDocumentName_0) (fun _ h9 => h9) rfl dX1_isDocumentName_25 ?_
      refine lv_iload_n hx hb dX1_isDocumentName_28 rfl (lv_at hl 1 rfl) ?_
      refine lv_iload_n hx hb dX1_isDocumentName_29 rfl (lv_at hl 2 rfl) ?_
      refine lv_iadd hx hb dX1_isDocumentName_30 ?_
      obtain ⟨o3, ho3, hf⟩ := ob hf
      refine xj_i (va_runV (As := [.int (p1 + b15_l_3)]) (rest := []) ⟨hx, hb, hml, hown, hts⟩ (kX8_at l D Y F a_f a_fw H.size f_most f_length f_overfull fw_n c_fw (p1 + b15_l_3) o3 ho3) (cwV 1 hts gX1_isDocumentName_X8_at rfl rfl rfl (by decide +kernel) ⟨Nat.le_of_ble_eq_true rfl, Nat.le_of_ble_eq_true rfl⟩) (prev_w (ci := 6) rfl rfl hK wd [1, 2] rfl (by decide)) rfl rfl hl.1 rfl (lv_room (Nat.le_of_ble_eq_true rfl)) dX1_isDocumentName_31 ⟨Nat.zero_le _, Nat.zero_le _⟩) wd hS hA [1, 2] [0] rfl rfl (by decide) (by decide) (fun H locs wd hS => ?_)
      have wd : WD D A [oX1 a_h h_fault h_place h_clusters h_blocks (.ref a_hz) (.ref a_hv) h_depth (.ref a_f) (.ref a_p) h_trackNumber h_clusterTime h_bodySize h_lacingAt, oX8 a_f (.ref a_fw) f_most f_length f_overfull, aI Y a_fw fw_n c_fw] H := wd
      refine va_ldcS hx hb hown hS_s.1 dX1_isDocumentName_34 ?_
      refine lv_iload_n hx hb dX1_isDocumentName_36 rfl (lv_at hl 2 rfl) ?_
      obtain ⟨o4, ho4, hf⟩ := ob hf
      have hPc := wd.1.sub (ws' := []) [] rfl
      have hDc := wd.2.sub (ws' := []) [] (by decide) rfl
      have hFc := va_free (wc := []) wd.2 hS hA [] rfl
      refine va_calli (va_runV (As := [.int b15_l_3]) (rest := [.int o3]) ⟨hx, hb, hml, hown, hts⟩ (kJ0_charAt_5068e l D Y F a_sS H.size b15_l_3 o4 ho4) (cwV 1 hts gX1_isDocumentName_J0_charAt_5068e rfl rfl rfl (by decide +kernel) ⟨Nat.le_of_ble_eq_true rfl, Nat.le_of_ble_eq_true rfl⟩) (prev_s hK hPc hDc hX (fun q hq => hq) hS hFc) rfl rfl hl.1 rfl (lv_room (Nat.le_of_ble_eq_true rfl)) dX1_isDocumentName_37 ⟨Nat.zero_le _, Nat.zero_le _⟩) hS (fun q _ h => hFc q h) hFc (fun r u t H locs ht hvm hw hB hz1 hk1 hS => ?_)
      obtain ⟨hP1, hK1, hD1⟩ := hB
      rw [ht] at hP1
      obtain ⟨hP, hD⟩ := va_join (wr := [oX1 a_h h_fault h_place h_clusters h_blocks (.ref a_hz) (.ref a_hv) h_depth (.ref a_f) (.ref a_p) h_trackNumber h_clusterTime h_bodySize h_lacingAt, oX8 a_f (.ref a_fw) f_most f_length f_overfull, aI Y a_fw fw_n c_fw]) (w1 := []) wd.1 wd.2 [] [0, 1, 2] rfl rfl (by decide) (by decide) hk1 hFc hP1 hD1
      have hw := hw.symm
      subst hw
      have wd : WD D A [oX1 a_h h_fault h_place h_clusters h_blocks (.ref a_hz) (.ref a_hv) h_depth (.ref a_f) (.ref a_p) h_trackNumber h_clusterTime h_bodySize h_lacingAt, oX8 a_f (.ref a_fw) f_most f_length f_overfull, aI Y a_fw fw_n c_fw] H := ⟨hP, hD⟩
      clear hP hD
      refine lv_icmp_eq (tgt := 45) hx hb dX1_isDocumentName_40 (by decide) (fun q5 => ?_) (fun q5 => ?_)
      · have hf := ip hf q5
        obtain ⟨x6, ex6⟩ : ∃ y : Int32, y = b15_l_3 + 1 := ⟨_, rfl⟩
        have hf := nm_at hf ex6
        refine lv_iinc (v := x6) (lv' := [(3, .int x6), (0, .ref a_h), (1, .int p1)]) hx hb dX1_isDocumentName_45 hl (k := 2) rfl (by rw [ex6]; rfl) (by decide) rfl (fun ls hl => ?_)
        refine lv_goto (tgt := 15) hx hb dX1_isDocumentName_48 (by decide) ?_
        exact ih x6 hf wd hS (lv_sub hl [1, 2, 0] rfl)
      · have hf := ie hf q5
        refine lv_iconst (v := 0) hx hb dX1_isDocumentName_43 (by decide) ?_
        obtain rfl := Option.some.inj hf
        exact W.zret (v := 0) hx hb hr rfl (fun t ht hW => ⟨⟨_, (), rfl, rfl, WD.pst wd hK ht hW⟩, hS.F ht⟩) hS.2.2 dX1_isDocumentName_44

set_option maxHeartbeats 4000000 in
set_option maxRecDepth 100000 in
theorem wX1_isDocumentName {p : Program} {l : Launch} {e : Env} {s : State} {m : MethodId} {args : Array Value} {below : List Frame} {meth : Method} {c : Code} {A : Nat → Prop} (D : va_G) (Y : Y4) (C : CX p s m meth c args cX1_isDocumentName 4 (some .boolean) wsX1_isDocumentName RX1) (hA : ∀ q : Nat, s.heap.size ≤ q → A q) (hK : va_K D vwCl (TY Y) s) (F : Nat) (a_h : Nat) (a_f : Nat) (a_fw : Nat) (a_hz : Nat) (a_hv : Nat) (a_p : Nat) (a_sS : (Nat × Nat)) (h_fault : Int32) (h_place : Int32) (h_clusters : Int32) (h_blocks : Int32) (h_depth : Int32) (h_trackNumber : Int64) (h_clusterTime : Int64) (h_bodySize : Int64) (h_lacingAt : Int32) (f_most : Int32) (f_length : Int32) (f_overfull : Int32) (fw_n : Nat) (c_fw : (Nat → Int32)) (p1 : Int32) (p2 : Int32) (hX : ST [e_sS a_sS] A s) (res : Int32) (hf : fX1_isDocumentName F f_length fw_n c_fw p1 p2 = some res) {H : Heap} {locs : List Loc} {ls : Array Slot} (wd : WD D A [oX1 a_h h_fault h_place h_clusters h_blocks (.ref a_hz) (.ref a_hv) h_depth (.ref a_f) (.ref a_p) h_trackNumber h_clusterTime h_bodySize h_lacingAt, oX8 a_f (.ref a_fw) f_most f_length f_overfull, aI Y a_fw fw_n c_fw] H) (hS : va_S A s.heap H locs) (hl : lv_has ls 4 [(0, .ref a_h), (1, .int p1), (2, .int p2)]) : W p l e { frames := 4, cells := 0, slots := 0, locals := 111 } s m args below meth c H locs 0 0 (MQ below (va_Qi (fun r (_ : Unit) => r = res) (fun _ t => PST D Y A [oX1 a_h h_fault h_place h_clusters h_blocks (.ref a_hz) (.ref a_hv) h_depth (.ref a_f) (.ref a_p) h_trackNumber h_clusterTime h_bodySize h_lacingAt, oX8 a_f (.ref a_fw) f_most f_length f_overfull, aI Y a_fw fw_n c_fw] t) A) args s 0 0 A) (F0 m 0 ls []) := by
  obtain ⟨hx, hb, hml, hr, hts, hown, hlocks⟩ := id C
  have hS_s := (hX _ (List.mem_of_getElem? (i := 0) rfl)).2
  unfold fX1_isDocumentName at hf
  refine lv_iload_n hx hb dX1_isDocumentName_0 rfl (lv_at hl 2 rfl) ?_
  refine lv_iload_n hx hb dX1_isDocumentName_1 rfl (lv_at hl 1 rfl) ?_
  refine lv_isub hx hb dX1_isDocumentName_2 ?_
  refine va_ldcS hx hb hown hS_s.1 dX1_isDocumentName_3 ?_
  obtain ⟨o1, ho1, hf⟩ := ob hf
  have hPc := wd.1.sub (ws' := []) [] rfl
  have hDc := wd.2.sub (ws' := []) [] (by decide) rfl
  have hFc := va_free (wc := []) wd.2 hS hA [] rfl
  refine va_calli (va_runV (As := []) (rest := [.int (p2 - p1)]) ⟨hx, hb, hml, hown, hts⟩ (kJ0_length_8abf5 l D Y F a_sS H.size o1 ho1) (cwV 0 hts gX1_isDocumentName_J0_length_8abf5 rfl rfl rfl (by decide +kernel) ⟨Nat.le_of_ble_eq_true rfl, Nat.le_of_ble_eq_true rfl⟩) (prev_s hK hPc hDc hX (fun q hq => hq) hS hFc) rfl rfl hl.1 rfl (lv_room (Nat.le_of_ble_eq_true rfl)) dX1_isDocumentName_5 ⟨Nat.zero_le _, Nat.zero_le _⟩) hS (fun q _ h => hFc q h) hFc (fun r u t H locs ht hvm hw hB hz1 hk1 hS => ?_)
  obtain ⟨hP1, hK1, hD1⟩ := hB
  rw [ht] at hP1
  obtain ⟨hP, hD⟩ := va_join (wr := [oX1 a_h h_fault h_place h_clusters h_blocks (.ref a_hz) (.ref a_hv) h_depth (.ref a_f) (.ref a_p) h_trackNumber h_clusterTime h_bodySize h_lacingAt, oX8 a_f (.ref a_fw) f_most f_length f_overfull, aI Y a_fw fw_n c_fw]) (w1 := []) wd.1 wd.2 [] [0, 1, 2] rfl rfl (by decide) (by decide) hk1 hFc hP1 hD1
  have hw := hw.symm
  subst hw
  have wd : WD D A [oX1 a_h h_fault h_place h_clusters h_blocks (.ref a_hz) (.ref a_hv) h_depth (.ref a_f) (.ref a_p) h_trackNumber h_clusterTime h_bodySize h_lacingAt, oX8 a_f (.ref a_fw) f_most f_length f_overfull, aI Y a_fw fw_n c_fw] H := ⟨hP, hD⟩
  clear hP hD
  refine lv_icmp_eq (tgt := 13) hx hb dX1_isDocumentName_8 (by decide) (fun q2 => ?_) (fun q2 => ?_)
  · have hf := ip hf q2
    refine lv_iconst (v := 0) hx hb dX1_isDocumentName_13 (by decide) ?_
    refine lv_istore_n (lv' := [(3, .int 0), (0, .ref a_h), (1, .int p1), (2, .int p2)]) hx hb dX1_isDocumentName_14 rfl hl (by decide) rfl (fun ls hl => ?_)
    exact wX1_isDocumentName_b15 D Y C hA hK F a_h a_f a_fw a_hz a_hv a_p a_sS h_fault h_place h_clusters h_blocks h_depth h_trackNumber h_clusterTime h_bodySize h_lacingAt f_most f_length f_overfull fw_n c_fw p1 p2 hX _ F 0 hf wd hS (lv_sub hl [1, 2, 0] rfl)
  · have hf := ie hf q2
    refine lv_iconst (v := 0) hx hb dX1_isDocumentName_11 (by decide) ?_
    obtain rfl := Option.some.inj hf
    exact W.zret (v := 0) hx hb hr rfl (fun t ht hW => ⟨⟨_, (), rfl, rfl, WD.pst wd hK ht hW⟩, hS.F ht⟩) hS.2.2 dX1_isDocumentName_12
set_option maxHeartbeats 4000000 in
set_option maxRecDepth 100000 in
theorem kX1_isDocumentName (l : Launch) (D : va_G) (Y : Y4) (F : Nat) (a_h : Nat) (a_f : Nat) (a_fw : Nat) (a_hz : Nat) (a_hv : Nat) (a_p : Nat) (a_sS : (Nat × Nat)) (sz : Nat) (h_fault : Int32) (h_place : Int32) (h_clusters : Int32) (h_blocks : Int32) (h_depth : Int32) (h_trackNumber : Int64) (h_clusterTime : Int64) (h_bodySize : Int64) (h_lacingAt : Int32) (f_most : Int32) (f_length : Int32) (f_overfull : Int32) (fw_n : Nat) (c_fw : (Nat → Int32)) (p1 : Int32) (p2 : Int32) (res : Int32) (hf : fX1_isDocumentName F f_length fw_n c_fw p1 p2 = some res) : Met l yX1_isDocumentName wsX1_isDocumentName ({ frames := 4, cells := 0, slots := 0, locals := 111 }) (va_Pc [.ref a_h, .int p1, .int p2] (PREX D Y [oX1 a_h h_fault h_place h_clusters h_blocks (.ref a_hz) (.ref a_hv) h_depth (.ref a_f) (.ref a_p) h_trackNumber h_clusterTime h_bodySize h_lacingAt, oX8 a_f (.ref a_fw) f_most f_length f_overfull, aI Y a_fw fw_n c_fw] sz [e_sS a_sS])) (va_Qi (fun r (_ : Unit) => r = res) (fun _ t => PST D Y (va_A [oX1 a_h h_fault h_place h_clusters h_blocks (.ref a_hz) (.ref a_hv) h_depth (.ref a_f) (.ref a_p) h_trackNumber h_clusterTime h_bodySize h_lacingAt, oX8 a_f (.ref a_fw) f_most f_length f_overfull, aI Y a_fw fw_n c_fw] sz) [oX1 a_h h_fault h_place h_clusters h_blocks (.ref a_hz) (.ref a_hv) h_depth (.ref a_f) (.ref a_p) h_trackNumber h_clusterTime h_bodySize h_lacingAt, oX8 a_f (.ref a_fw) f_most f_length f_overfull, aI Y a_fw fw_n c_fw] t) (va_A [oX1 a_h h_fault h_place h_clusters h_blocks (.ref a_hz) (.ref a_hv) h_depth (.ref a_f) (.ref a_p) h_trackNumber h_clusterTime h_bodySize h_lacingAt, oX8 a_f (.ref a_fw) f_most f_length f_overfull, aI Y a_fw fw_n c_fw] sz)) 0 0 (va_A [oX1 a_h h_fault h_place h_clusters h_blocks (.ref a_hz) (.ref a_hv) h_depth (.ref a_f) (.ref a_p) h_trackNumber h_clusterTime h_bodySize h_lacingAt, oX8 a_f (.ref a_fw) f_most f_length f_overfull, aI Y a_fw fw_n c_fw] sz) := by
  refine Met.ofW (cc := cX1_isDocumentName) (maxL := 4) (ret := (some .boolean)) (by decide) rfl ?_
  intro p e s m args below meth c s₁ B hml hv
  obtain ⟨rfl, ⟨rfl, hP, hK, hD0⟩, hX⟩ := hv
  have hl := lv_entry ([.ref a_h, .int p1, .int p2]) (n := 4) (Nat.le_of_ble_eq_true rfl)
  rw [lg_entry_eq]
  exact wX1_isDocumentName D Y ⟨B.exec, B.bytes, hml, B.returns, atoms_spec (ws := wsX1_isDocumentName) B.pre, findClass_of_methodNamed B.named, B.notSynchronized⟩ (fun q h => Or.inr h) hK F a_h a_f a_fw a_hz a_hv a_p a_sS h_fault h_place h_clusters h_blocks h_depth h_trackNumber h_clusterTime h_bodySize h_lacingAt f_most f_length f_overfull fw_n c_fw p1 p2 hX res hf ⟨hP, hD0.self⟩ va_S.rf hl
theorem mX1_shareAlike_0 : Cond.fieldLink RX1 13 "StreamRemuxer$ElementReader" "lacedSizes" "[I" ∈ wsX1_shareAlike := List.mem_cons_of_mem _ u_79
theorem iX1_shareAlike_X1 : ∀ w ∈ wsX10, w ∈ wsX1_shareAlike := fun w h => List.mem_cons_of_mem _ (inlX1 w h)
set_option maxHeartbeats 4000000 in
set_option maxRecDepth 100000 in
theorem wX1_shareAlike_b44 {p : Program} {l : Launch} {e : Env} {s : State} {m : MethodId} {args : Array Value} {below : List Frame} {meth : Method} {c : Code} {A : Nat → Prop} (D : va_G) (Y : Y4) (C : CX p s m meth c args cX1_shareAlike 4 (some .int) wsX1_shareAlike RX1) (hA : ∀ q : Nat, s.heap.size ≤ q → A q) (hK : va_K D vwCl (TY Y) s) (F : Nat) (a_h : Nat) (a_hz : Nat) (a_hv : Nat) (a_f : Nat) (a_p : Nat) (h_fault : Int32) (h_place : Int32) (h_clusters : Int32) (h_blocks : Int32) (h_depth : Int32) (h_trackNumber : Int64) (h_clusterTime : Int64) (h_bodySize : Int64) (h_lacingAt : Int32) (c_hz : (Nat → Int32)) (p1 : Int32) (p2 : Int32) (res : Int32 × (Nat → Int32)) (b44_c_hz : (Nat → Int32)) (hf : fX1_shareAlike_b44 F p1 b44_c_hz = some res) {H : Heap} {locs : List Loc} {ls : Array Slot} (wd : WD D A [oX1 a_h h_fault h_place h_clusters h_blocks (.ref a_hz) (.ref a_hv) h_depth (.ref a_f) (.ref a_p) h_trackNumber h_clusterTime h_bodySize h_lacingAt, aI Y a_hz 256 b44_c_hz] H) (hS : va_S A s.heap H locs) (hl : lv_has ls 4 [(1, .int p1)]) : W p l e { frames := 0, cells := 0, slots := 0, locals := 0 } s m args below meth c H locs 0 0 (MQ below (va_Qi (fun r (_ : Unit) => r = res.1) (fun _ t => PST D Y A [oX1 a_h h_fault h_place h_clusters h_blocks (.ref a_hz) (.ref a_hv) h_depth (.ref a_f) (.ref a_p) h_trackNumber h_clusterTime h_bodySize h_lacingAt, aI Y a_hz 256 res.2] t) A) args s 0 0 A) (F0 m 44 ls []) := by
  obtain ⟨hx, hb, hml, hr, hts, hown, hlocks⟩ := id C
  unfold fX1_shareAlike_b44 at hf
  refine lv_iload_n hx hb dX1_shareAlike_44 rfl (lv_at hl 0 rfl) ?_
  obtain rfl := Option.some.inj hf
  exact W.iret (v := p1) hx hb hr (fun t ht hW => ⟨⟨_, (), rfl, rfl, WD.pst wd hK ht hW⟩, hS.F ht⟩) hS.2.2 dX1_shareAlike_45

set_option maxHeartbeats 4000000 in
set_option maxRecDepth 100000 in
theorem wX1_shareAlike_b15 {p : Program} {l : Launch} {e : Env} {s : State} {m : MethodId} {args : Array Value} {below : List Frame} {meth : Method} {c : Code} {A : Nat → Prop} (D : va_G) (Y : Y4) (C : CX p s m meth c args cX1_shareAlike 4 (some .int) wsX1_shareAlike RX1) (hA : ∀ q : Nat, s.heap.size ≤ q → A q) (hK : va_K D vwCl (TY Y) s) (F : Nat) (a_h : Nat) (a_hz : Nat) (a_hv : Nat) (a_f : Nat) (a_p : Nat) (h_fault : Int32) (h_place : Int32) (h_clusters : Int32) (h_blocks : Int32) (h_depth : Int32) (h_trackNumber : Int64) (h_clusterTime : Int64) (h_bodySize : Int64) (h_lacingAt : Int32) (c_hz : (Nat → Int32)) (p1 : Int32) (p2 : Int32) (res : Int32 × (Nat → Int32)) : ∀ (n : Nat) (b15_l_3 : Int32) (b15_c_hz : (Nat → Int32)), fX1_shareAlike_b15 F p1 p2 n b15_l_3 b15_c_hz = some res → ∀ {H : Heap} {locs : List Loc} {ls : Array Slot}, WD D A [oX1 a_h h_fault h_place h_clusters h_blocks (.ref a_hz) (.ref a_hv) h_depth (.ref a_f) (.ref a_p) h_trackNumber h_clusterTime h_bodySize h_lacingAt, aI Y a_hz 256 b15_c_hz] H → va_S A s.heap H locs → lv_has ls 4 [(0, .ref a_h), (1, .int p1), (2, .int p2), (3, .int b15_l_3)] → W p l e { frames := 0, cells := 0, slots := 0, locals := 0 } s m args below meth c H locs 0 0 (MQ below (va_Qi (fun r (_ : Unit) => r = res.1) (fun _ t => PST D Y A [oX1 a_h h_fault h_place h_clusters h_blocks (.ref a_hz) (.ref a_hv) h_depth (.ref a_f) (.ref a_p) h_trackNumber h_clusterTime h_bodySize h_lacingAt, aI Y a_hz 256 res.2] t) A) args s 0 0 A) (F0 m 15 ls []) := by
  obtain ⟨hx, hb, hml, hr, hts, hown, hlocks⟩ := id C
  intro n
  induction n with
  | zero => intro b15_l_3 b15_c_hz hf; exact absurd hf (by simp [fX1_shareAlike_b15])
  | succ n ih =>
    intro b15_l_3 b15_c_hz hf H locs ls wd hS hl
    unfold fX1_shareAlike_b15 at hf
    refine lv_iload_n hx hb dX1_shareAlike_15 rfl (lv_at hl 3 rfl) ?_
    refine lv_iload_n hx hb dX1_shareAlike_16 rfl (lv_at hl 1 rfl) ?_
    refine lv_icmp_ge (tgt := 44) hx hb dX1_shareAlike_17 (by decide) (fun q1 => ?_) (fun q1 => ?_)
    · have hf := ip hf q1
      exact wX1_shareAlike_b44 D Y C hA hK F a_h a_hz a_hv a_f a_p h_fault h_place h_clusters h_blocks h_depth h_trackNumber h_clusterTime h_bodySize h_lacingAt c_hz p1 p2 _ b15_c_hz hf wd hS (lv_sub hl [1] rfl)
    · have hf := ie hf q1
      refine lv_iload_n hx hb dX1_shareAlike_20 rfl (lv_at hl 3 rfl) ?_
      refine lv_aload_n hx hb dX1_shareAlike_21 rfl (lv_at hl 0 rfl) ?_
      refine va_get (D := D) (ci := 0) (v := .ref a_hz) (C := RX1) (T := TX1) (N := 13) hx hb hts iX1_shareAlike_X1 hown hK wd.1 0 rfl rfl 4 (by decide) (hts _ mX1_shareAlike_0) (fun _ h9 => h9) rfl dX1_shareAlike_22 ?_
      refine va_alen hx hb hK wd.1 1 1 rfl rfl (v := 256) rfl dX1_shareAlike_25 ?_
      refine lv_icmp_ge (tgt := 44) hx hb dX1_shareAlike_26 (by decide) (fun q2 => ?_) (fun q2 => ?_)
      · have hf := ip hf q2
        exact wX1_shareAlike_b44 D Y C hA hK F a_h a_hz a_hv a_f a_p h_fault h_place h_clusters h_blocks h_depth h_trackNumber h_clusterTime h_bodySize h_lacingAt c_hz p1 p2 _ b15_c_hz hf wd hS (lv_sub hl [1] rfl)
      · have hf := ie hf q2
        refine lv_aload_n hx hb dX1_shareAlike_29 rfl (lv_at hl 0 rfl) ?_
        refine va_get (D := D) (ci := 0) (v := .ref a_hz) (C := RX1) (T := TX1) (N := 13) hx hb hts iX1_shareAlike_X1 hown hK wd.1 0 rfl rfl 4 (by decide) (hts _ mX1_shareAlike_0) (fun _ h9 => h9) rfl dX1_shareAlike_30 ?_
        refine lv_iload_n hx hb dX1_shareAlike_33 rfl (lv_at hl 3 rfl) ?_
        refine lv_iload_n hx hb dX1_shareAlike_34 rfl (lv_at hl 2 rfl) ?_
        refine lv_iload_n hx hb dX1_shareAlike_35 rfl (lv_at hl 1 rfl) ?_
        obtain ⟨hz3, hf⟩ := gn hf
        refine lv_idiv hx hb dX1_shareAlike_36 hz3 ?_
        obtain ⟨hg4, hf⟩ := gd hf
        refine va_iast hx hb hK wd.1 wd.2 hS 1 1 rfl rfl (gin_in hg4) dX1_shareAlike_37 (fun H locs hP hD hS => ?_)
        obtain ⟨z5, ez5⟩ : ∃ y : (Nat → Int32), y = upd b15_c_hz b15_l_3.toNatClampNeg (p2 / p1) := ⟨_, rfl⟩
        have hf := nm_at hf ez5
        have wd : WD D A [oX1 a_h h_fault h_place h_clusters h_blocks (.ref a_hz) (.ref a_hv) h_depth (.ref a_f) (.ref a_p) h_trackNumber h_clusterTime h_bodySize h_lacingAt, aI Y a_hz 256 z5] H := by rw [ez5]; exact ⟨hP, hD⟩
        clear hP hD
        obtain ⟨x6, ex6⟩ : ∃ y : Int32, y = b15_l_3 + 1 := ⟨_, rfl⟩
        have hf := nm_at hf ex6
        refine lv_iinc (v := x6) (lv' := [(3, .int x6), (0, .ref a_h), (1, .int p1), (2, .int p2)]) hx hb dX1_shareAlike_38 hl (k := 3) rfl (by rw [ex6]; rfl) (by decide) rfl (fun ls hl => ?_)
        refine lv_goto (tgt := 15) hx hb dX1_shareAlike_41 (by decide) ?_
        exact ih x6 z5 hf wd hS (lv_sub hl [1, 2, 3, 0] rfl)

set_option maxHeartbeats 4000000 in
set_option maxRecDepth 100000 in
theorem wX1_shareAlike {p : Program} {l : Launch} {e : Env} {s : State} {m : MethodId} {args : Array Value} {below : List Frame} {meth : Method} {c : Code} {A : Nat → Prop} (D : va_G) (Y : Y4) (C : CX p s m meth c args cX1_shareAlike 4 (some .int) wsX1_shareAlike RX1) (hA : ∀ q : Nat, s.heap.size ≤ q → A q) (hK : va_K D vwCl (TY Y) s) (F : Nat) (a_h : Nat) (a_hz : Nat) (a_hv : Nat) (a_f : Nat) (a_p : Nat) (h_fault : Int32) (h_place : Int32) (h_clusters : Int32) (h_blocks : Int32) (h_depth : Int32) (h_trackNumber : Int64) (h_clusterTime : Int64) (h_bodySize : Int64) (h_lacingAt : Int32) (c_hz : (Nat → Int32)) (p1 : Int32) (p2 : Int32) (res : Int32 × (Nat → Int32)) (hf : fX1_shareAlike F c_hz p1 p2 = some res) {H : Heap} {locs : List Loc} {ls : Array Slot} (wd : WD D A [oX1 a_h h_fault h_place h_clusters h_blocks (.ref a_hz) (.ref a_hv) h_depth (.ref a_f) (.ref a_p) h_trackNumber h_clusterTime h_bodySize h_lacingAt, aI Y a_hz 256 c_hz] H) (hS : va_S A s.heap H locs) (hl : lv_has ls 4 [(0, .ref a_h), (1, .int p1), (2, .int p2)]) : W p l e { frames := 0, cells := 0, slots := 0, locals := 0 } s m args below meth c H locs 0 0 (MQ below (va_Qi (fun r (_ : Unit) => r = res.1) (fun _ t => PST D Y A [oX1 a_h h_fault h_place h_clusters h_blocks (.ref a_hz) (.ref a_hv) h_depth (.ref a_f) (.ref a_p) h_trackNumber h_clusterTime h_bodySize h_lacingAt, aI Y a_hz 256 res.2] t) A) args s 0 0 A) (F0 m 0 ls []) := by
  obtain ⟨hx, hb, hml, hr, hts, hown, hlocks⟩ := id C
  unfold fX1_shareAlike at hf
  refine lv_iload_n hx hb dX1_shareAlike_0 rfl (lv_at hl 1 rfl) ?_
  refine lv_iconst (v := 1) hx hb dX1_shareAlike_1 (by decide) ?_
  refine lv_icmp_lt (tgt := 11) hx hb dX1_shareAlike_2 (by decide) (fun q1 => ?_) (fun q1 => ?_)
  · have hf := ip hf q1
    refine lv_iconst (v := (-1)) hx hb dX1_shareAlike_11 (by decide) ?_
    obtain rfl := Option.some.inj hf
    exact W.iret (v := (-1)) hx hb hr (fun t ht hW => ⟨⟨_, (), rfl, rfl, WD.pst wd hK ht hW⟩, hS.F ht⟩) hS.2.2 dX1_shareAlike_12
  · have hf := ie hf q1
    refine lv_iload_n hx hb dX1_shareAlike_5 rfl (lv_at hl 2 rfl) ?_
    refine lv_iload_n hx hb dX1_shareAlike_6 rfl (lv_at hl 1 rfl) ?_
    obtain ⟨hz2, hf⟩ := gn hf
    refine lv_irem hx hb dX1_shareAlike_7 hz2 ?_
    refine lv_if_eq (tgt := 13) hx hb dX1_shareAlike_8 (by decide) (fun q3 => ?_) (fun q3 => ?_)
    · have hf := ip hf q3
      refine lv_iconst (v := 0) hx hb dX1_shareAlike_13 (by decide) ?_
      refine lv_istore_n (lv' := [(3, .int 0), (0, .ref a_h), (1, .int p1), (2, .int p2)]) hx hb dX1_shareAlike_14 rfl hl (by decide) rfl (fun ls hl => ?_)
      exact wX1_shareAlike_b15 D Y C hA hK F a_h a_hz a_hv a_f a_p h_fault h_place h_clusters h_blocks h_depth h_trackNumber h_clusterTime h_bodySize h_lacingAt c_hz p1 p2 _ F 0 c_hz hf wd hS (lv_sub hl [1, 2, 3, 0] rfl)
    · have hf := ie hf q3
      refine lv_iconst (v := (-1)) hx hb dX1_shareAlike_11 (by decide) ?_
      obtain rfl := Option.some.inj hf
      exact W.iret (v := (-1)) hx hb hr (fun t ht hW => ⟨⟨_, (), rfl, rfl, WD.pst wd hK ht hW⟩, hS.F ht⟩) hS.2.2 dX1_shareAlike_12
set_option maxHeartbeats 4000000 in
set_option maxRecDepth 100000 in
theorem kX1_shareAlike (l : Launch) (D : va_G) (Y : Y4) (F : Nat) (a_h : Nat) (a_hz : Nat) (a_hv : Nat) (a_f : Nat) (a_p : Nat) (sz : Nat) (h_fault : Int32) (h_place : Int32) (h_clusters : Int32) (h_blocks : Int32) (h_depth : Int32) (h_trackNumber : Int64) (h_clusterTime : Int64) (h_bodySize : Int64) (h_lacingAt : Int32) (c_hz : (Nat → Int32)) (p1 : Int32) (p2 : Int32) (res : Int32 × (Nat → Int32)) (hf : fX1_shareAlike F c_hz p1 p2 = some res) : Met l yX1_shareAlike wsX1_shareAlike ({ frames := 0, cells := 0, slots := 0, locals := 0 }) (va_Pc [.ref a_h, .int p1, .int p2] (PRE D Y [oX1 a_h h_fault h_place h_clusters h_blocks (.ref a_hz) (.ref a_hv) h_depth (.ref a_f) (.ref a_p) h_trackNumber h_clusterTime h_bodySize h_lacingAt, aI Y a_hz 256 c_hz] sz)) (va_Qi (fun r (_ : Unit) => r = res.1) (fun _ t => PST D Y (va_A [oX1 a_h h_fault h_place h_clusters h_blocks (.ref a_hz) (.ref a_hv) h_depth (.ref a_f) (.ref a_p) h_trackNumber h_clusterTime h_bodySize h_lacingAt, aI Y a_hz 256 c_hz] sz) [oX1 a_h h_fault h_place h_clusters h_blocks (.ref a_hz) (.ref a_hv) h_depth (.ref a_f) (.ref a_p) h_trackNumber h_clusterTime h_bodySize h_lacingAt, aI Y a_hz 256 res.2] t) (va_A [oX1 a_h h_fault h_place h_clusters h_blocks (.ref a_hz) (.ref a_hv) h_depth (.ref a_f) (.ref a_p) h_trackNumber h_clusterTime h_bodySize h_lacingAt, aI Y a_hz 256 c_hz] sz)) 0 0 (va_A [oX1 a_h h_fault h_place h_clusters h_blocks (.ref a_hz) (.ref a_hv) h_depth (.ref a_f) (.ref a_p) h_trackNumber h_clusterTime h_bodySize h_lacingAt, aI Y a_hz 256 c_hz] sz) := by
  refine Met.ofW (cc := cX1_shareAlike) (maxL := 4) (ret := (some .int)) (by decide) rfl ?_
  intro p e s m args below meth c s₁ B hml hv
  obtain ⟨rfl, rfl, hP, hK, hD0⟩ := hv
  have hl := lv_entry ([.ref a_h, .int p1, .int p2]) (n := 4) (Nat.le_of_ble_eq_true rfl)
  rw [lg_entry_eq]
  exact wX1_shareAlike D Y ⟨B.exec, B.bytes, hml, B.returns, atoms_spec (ws := wsX1_shareAlike) B.pre, findClass_of_methodNamed B.named, B.notSynchronized⟩ (fun q h => Or.inr h) hK F a_h a_hz a_hv a_f a_p h_fault h_place h_clusters h_blocks h_depth h_trackNumber h_clusterTime h_bodySize h_lacingAt c_hz p1 p2 res hf ⟨hP, hD0.self⟩ va_S.rf hl
