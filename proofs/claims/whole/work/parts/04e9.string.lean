theorem e_sS_fr (a : Nat × Nat) : Fr (e_sS a) := by
  refine ⟨fun A u U hv hh h => ?_, fun A B s U H locs h hS hF hU hW => ?_⟩
  · obtain ⟨h1, h2, h3, h4⟩ := h
    have al : u.vm.Alike U.vm := by rw [hv]; exact Vm.Alike.refl u.vm
    exact ⟨h1.same hv, by rw [hh]; exact h2.moved al, by rw [hh]; exact h3.moved al, by rw [hh]; exact h4.moved al⟩
  · obtain ⟨h1, h2, h3, h4⟩ := h
    exact ⟨h1.warm hW, by rw [hU]; exact ((h2.kept hS.2.1).narrow hF).moved hW.alike, by rw [hU]; exact ((h3.kept hS.2.1).narrow hF).moved hW.alike, by rw [hU]; exact ((h4.kept hS.2.1).narrow hF).moved hW.alike⟩
theorem prev_s {D : va_G} {Y : Y4} {ws : va_W} {s : State} {H : Heap} {A A0 : Nat → Prop} {l : List SP} {locs : List Loc} {As : List Value} {a : Nat × Nat} (hK : va_K D vwCl (TY Y) s) (hP : va_P D vwCl ws H) (hD : va_D A ws) (hX : ST l A0 s) (hs : ∀ q ∈ [e_sS a], q ∈ l) (hS : va_S A0 s.heap H locs) (hF : ∀ q, va_A ws H.size q → A0 q) : PreV s H RJ0 a.1 (va_Pc (.ref a.1 :: As) (PREX D Y ws H.size [e_sS a])) As := by
  refine ⟨prex_blind D Y ws H.size [e_sS a] (.ref a.1 :: As), ?_, fun U hU hW => ⟨rfl, pre_mk hK hP hD U hU hW, (hX.sub hs).go hS hF U hU hW⟩⟩
  exact vk_recv (hX _ (hs _ List.mem_cons_self)).2.2.1 (i := 0) (by decide) hS
set_option maxHeartbeats 4000000 in
set_option maxRecDepth 100000 in
theorem kJ0_coder_7d493 (l : Launch) (D : va_G) (Y : Y4) (a : Nat × Nat) (sz : Nat) : Met l yJ0_coder_7d493 wsJ0_coder_7d493 ({ frames := 0, cells := 0, slots := 0, locals := 0 }) (va_Pc [.ref a.1] (PREX D Y [] sz [e_sS a])) (va_Qi (fun r (_ : Unit) => r = 0) (fun _ t => PST D Y (va_A [] sz) [] t) (va_A [] sz)) 0 0 (va_A [] sz) := by
  refine Met.ofW (cc := cJ0_coder_7d493) (maxL := 1) (ret := (some .byte)) (by decide) rfl ?_
  intro p e s m args below meth c s₁ B hml hv
  obtain ⟨rfl, ⟨rfl, hP, hK, hD0⟩, hX⟩ := hv
  have hx := B.exec
  have hb := B.bytes
  have hr := B.returns
  have hts := atoms_spec (ws := wsJ0_coder_7d493) B.pre
  have hown : s.vm.findClass RJ0 = some m.cls := findClass_of_methodNamed B.named
  have hlocks := B.notSynchronized
  have hD := hD0.self (sz := s.heap.size)
  generalize hAe : va_A [] s.heap.size = A at hD hX ⊢
  have hA : ∀ q : Nat, s.heap.size ≤ q → A q := fun q h => by rw [← hAe]; exact Or.inr h
  have hS : va_S A s.heap s.heap [] := va_S.rf
  have hl := lv_entry ([.ref a.1]) (n := 1) (Nat.le_of_ble_eq_true rfl)
  rw [lg_entry_eq]
  generalize (lg_sl ([.ref a.1]) ++ List.replicate (1 - (lg_sl ([.ref a.1])).length) Slot.unset).toArray = ls at hl ⊢
  obtain ⟨hR, hV, hZ, hQ⟩ := (hX _ (List.mem_of_getElem? (i := 0) rfl)).2
  have hl : lv_has ls 1 [(0, .ref a.1)] := hl
  refine va_gets (v := .int 1) hx hb hZ hS hown (hts _ (List.mem_cons_of_mem _ u_683)) (fun _ h9 => h9) dJ0_coder_7d493_0 ?_
  refine lv_if_eq (tgt := 13) hx hb dJ0_coder_7d493_3 (by decide) (fun q => absurd q (by decide)) (fun _ => ?_)
  refine lv_aload_n hx hb dJ0_coder_7d493_6 rfl (lv_at hl 0 rfl) ?_
  refine vk_getf hx hb (hV.1 0 (by decide)).2.1 hS hown (hts _ (List.mem_cons_of_mem _ u_684)) (fun _ h9 => h9) dJ0_coder_7d493_7 ?_
  refine lv_goto (tgt := 14) hx hb dJ0_coder_7d493_10 (by decide) ?_
  exact W.zret (v := 0) hx hb hr rfl (fun t ht hW => ⟨⟨_, (), rfl, rfl, by rw [ht]; exact hP, va_K.moved hW.alike hK, hD⟩, hS.F ht⟩) hS.2.2 dJ0_coder_7d493_14
set_option maxHeartbeats 4000000 in
set_option maxRecDepth 100000 in
theorem kJ0_length_8abf5 (l : Launch) (D : va_G) (Y : Y4) (_ : Nat) (a : Nat × Nat) (sz : Nat) (res : Int32) (hf : fJ_length 0 = some res) : Met l yJ0_length_8abf5 wsJ0_length_8abf5 ({ frames := 1, cells := 0, slots := 0, locals := 40 }) (va_Pc [.ref a.1] (PREX D Y [] sz [e_sS a])) (va_Qi (fun r (_ : Unit) => r = res) (fun _ t => PST D Y (va_A [] sz) [] t) (va_A [] sz)) 0 0 (va_A [] sz) := by
  refine Met.ofW (cc := cJ0_length_8abf5) (maxL := 1) (ret := (some .int)) (by decide) rfl ?_
  intro p e s m args below meth c s₁ B hml hv
  obtain ⟨rfl, ⟨rfl, hP, hK, hD0⟩, hX⟩ := hv
  have hx := B.exec
  have hb := B.bytes
  have hr := B.returns
  have hts := atoms_spec (ws := wsJ0_length_8abf5) B.pre
  have hown : s.vm.findClass RJ0 = some m.cls := findClass_of_methodNamed B.named
  have hlocks := B.notSynchronized
  have hD := hD0.self (sz := s.heap.size)
  generalize hAe : va_A [] s.heap.size = A at hD hX ⊢
  have hA : ∀ q : Nat, s.heap.size ≤ q → A q := fun q h => by rw [← hAe]; exact Or.inr h
  have hS : va_S A s.heap s.heap [] := va_S.rf
  have hl := lv_entry ([.ref a.1]) (n := 1) (Nat.le_of_ble_eq_true rfl)
  rw [lg_entry_eq]
  generalize (lg_sl ([.ref a.1]) ++ List.replicate (1 - (lg_sl ([.ref a.1])).length) Slot.unset).toArray = ls at hl ⊢
  obtain ⟨hR, hV, hZ, hQ⟩ := (hX _ (List.mem_of_getElem? (i := 0) rfl)).2
  obtain rfl := Option.some.inj hf
  have hl : lv_has ls 1 [(0, .ref a.1)] := hl
  refine lv_aload_n hx hb dJ0_length_8abf5_0 rfl (lv_at hl 0 rfl) ?_
  refine vk_getf hx hb (hV.1 0 (by decide)).2.2.1 hS hown (hts _ (List.mem_cons_of_mem _ u_678)) (fun _ h9 => h9) dJ0_length_8abf5_1 ?_
  refine va_tlen hx hb (hV.1 0 (by decide)).2.2.2 hS (v := 8) rfl dJ0_length_8abf5_4 ?_
  refine lv_aload_n hx hb dJ0_length_8abf5_5 rfl (lv_at hl 0 rfl) ?_
  have hPc := hP.sub (ws' := []) [] rfl
  have hDc := hD.sub (ws' := []) [] (by decide) rfl
  have hFc := va_free (wc := []) hD hS hA [] rfl
  refine va_calli (va_runV (As := []) (rest := [.int 8]) ⟨hx, hb, hml, hown, hts⟩ (kJ0_coder_7d493 l D Y a s.heap.size) (cwV 0 hts gJ0_length_8abf5_J0_coder_7d493 rfl rfl rfl (by decide +kernel) ⟨by decide, by decide⟩) (prev_s hK hPc hDc hX (fun q hq => hq) hS hFc) rfl rfl hl.1 rfl (lv_room (Nat.le_of_ble_eq_true rfl)) dJ0_length_8abf5_6 ⟨Nat.zero_le _, Nat.zero_le _⟩) hS (fun q _ h => hFc q h) hFc (fun r u t H locs ht hvm hw hB hz1 hk1 hS => ?_)
  obtain ⟨hP1, hK1, hD1⟩ := hB
  rw [ht] at hP1
  obtain ⟨hP, hD⟩ := va_join (wr := []) (w1 := []) hP hD [] [] rfl rfl (by decide) (by decide) hk1 hFc hP1 hD1
  have hw := hw.symm
  subst hw
  refine lv_ishr hx hb dJ0_length_8abf5_9 ?_
  exact W.iret (v := 8 >>> ((0 : Int32) &&& 31)) hx hb hr (fun t ht hW => ⟨⟨_, (), rfl, by decide, by rw [ht]; exact hP, va_K.moved hW.alike hK, hD⟩, hS.F ht⟩) hS.2.2 dJ0_length_8abf5_10
set_option maxHeartbeats 4000000 in
set_option maxRecDepth 100000 in
theorem kJ0_isLatin1_aae02 (l : Launch) (D : va_G) (Y : Y4) (a : Nat × Nat) (sz : Nat) : Met l yJ0_isLatin1_aae02 wsJ0_isLatin1_aae02 ({ frames := 0, cells := 0, slots := 0, locals := 0 }) (va_Pc [.ref a.1] (PREX D Y [] sz [e_sS a])) (va_Qi (fun r (_ : Unit) => r = 1) (fun _ t => PST D Y (va_A [] sz) [] t) (va_A [] sz)) 0 0 (va_A [] sz) := by
  refine Met.ofW (cc := cJ0_isLatin1_aae02) (maxL := 1) (ret := (some .boolean)) (by decide) rfl ?_
  intro p e s m args below meth c s₁ B hml hv
  obtain ⟨rfl, ⟨rfl, hP, hK, hD0⟩, hX⟩ := hv
  have hx := B.exec
  have hb := B.bytes
  have hr := B.returns
  have hts := atoms_spec (ws := wsJ0_isLatin1_aae02) B.pre
  have hown : s.vm.findClass RJ0 = some m.cls := findClass_of_methodNamed B.named
  have hlocks := B.notSynchronized
  have hD := hD0.self (sz := s.heap.size)
  generalize hAe : va_A [] s.heap.size = A at hD hX ⊢
  have hA : ∀ q : Nat, s.heap.size ≤ q → A q := fun q h => by rw [← hAe]; exact Or.inr h
  have hS : va_S A s.heap s.heap [] := va_S.rf
  have hl := lv_entry ([.ref a.1]) (n := 1) (Nat.le_of_ble_eq_true rfl)
  rw [lg_entry_eq]
  generalize (lg_sl ([.ref a.1]) ++ List.replicate (1 - (lg_sl ([.ref a.1])).length) Slot.unset).toArray = ls at hl ⊢
  obtain ⟨hR, hV, hZ, hQ⟩ := (hX _ (List.mem_of_getElem? (i := 0) rfl)).2
  have hl : lv_has ls 1 [(0, .ref a.1)] := hl
  refine va_gets (v := .int 1) hx hb hZ hS hown (hts _ (List.mem_cons_of_mem _ u_683)) (fun _ h9 => h9) dJ0_isLatin1_aae02_0 ?_
  refine lv_if_eq (tgt := 17) hx hb dJ0_isLatin1_aae02_3 (by decide) (fun q => absurd q (by decide)) (fun _ => ?_)
  refine lv_aload_n hx hb dJ0_isLatin1_aae02_6 rfl (lv_at hl 0 rfl) ?_
  refine vk_getf hx hb (hV.1 0 (by decide)).2.1 hS hown (hts _ (List.mem_cons_of_mem _ u_684)) (fun _ h9 => h9) dJ0_isLatin1_aae02_7 ?_
  refine lv_if_ne (tgt := 17) hx hb dJ0_isLatin1_aae02_10 (by decide) (fun q => absurd rfl q) (fun _ => ?_)
  refine lv_iconst (v := 1) hx hb dJ0_isLatin1_aae02_13 (by decide) ?_
  refine lv_goto (tgt := 18) hx hb dJ0_isLatin1_aae02_14 (by decide) ?_
  exact W.zret (v := 1) hx hb hr rfl (fun t ht hW => ⟨⟨_, (), rfl, rfl, by rw [ht]; exact hP, va_K.moved hW.alike hK, hD⟩, hS.F ht⟩) hS.2.2 dJ0_isLatin1_aae02_18
set_option maxHeartbeats 4000000 in
set_option maxRecDepth 100000 in
theorem kJ3_checkIndex_8e157N (l : Launch) (D : va_G) (Y : Y4) (a : Nat × Nat) (sz : Nat) (x : Int32) (hg : gin x 8 = true) : Met l yJ3_checkIndex_8e157 wsJ3_checkIndex_8e157 ({ frames := 0, cells := 0, slots := 0, locals := 0 }) (va_Pc [.int x, .int 8, .null] (PREX D Y [] sz [e_sS a])) (va_Qi (fun r (_ : Unit) => r = x) (fun _ t => PST D Y (va_A [] sz) [] t) (va_A [] sz)) 0 0 (va_A [] sz) := by
  refine Met.ofW (cc := cJ3_checkIndex_8e157) (maxL := 3) (ret := (some .int)) (by decide) rfl ?_
  intro p e s m args below meth c s₁ B hml hv
  obtain ⟨rfl, ⟨rfl, hP, hK, hD0⟩, hX⟩ := hv
  have hx := B.exec
  have hb := B.bytes
  have hr := B.returns
  have hts := atoms_spec (ws := wsJ3_checkIndex_8e157) B.pre
  have hown : s.vm.findClass RJ3 = some m.cls := findClass_of_methodNamed B.named
  have hlocks := B.notSynchronized
  have hD := hD0.self (sz := s.heap.size)
  generalize hAe : va_A [] s.heap.size = A at hD hX ⊢
  have hA : ∀ q : Nat, s.heap.size ≤ q → A q := fun q h => by rw [← hAe]; exact Or.inr h
  have hS : va_S A s.heap s.heap [] := va_S.rf
  have hl := lv_entry ([.int x, .int 8, .null]) (n := 3) (Nat.le_of_ble_eq_true rfl)
  rw [lg_entry_eq]
  generalize (lg_sl ([.int x, .int 8, .null]) ++ List.replicate (3 - (lg_sl ([.int x, .int 8, .null])).length) Slot.unset).toArray = ls at hl ⊢
  obtain ⟨hR, hV, hZ, hQ⟩ := (hX _ (List.mem_of_getElem? (i := 0) rfl)).2
  have h0 : ¬ x < 0 := fun q => (of_decide_eq_true hg : ¬ (x < 0 ∨ 8 ≤ x.toNatClampNeg)) (Or.inl q)
  have h8 : x < 8 := by
    rw [Int32.lt_iff_toInt_lt]
    have h1 := gin_lt hg
    have h2 : x.toInt.toNat = x.toNatClampNeg := rfl
    rw [Int32.lt_iff_toInt_lt] at h0
    have h3 : (8 : Int32).toInt = 8 := rfl
    have h4 : (0 : Int32).toInt = 0 := rfl
    omega
  have hl : lv_has ls 3 [(0, .int x), (1, .int 8), (2, .null)] := hl
  refine lv_iload_n hx hb dJ3_checkIndex_8e157_0 rfl (lv_at hl 0 rfl) ?_
  refine lv_if_lt (tgt := 9) hx hb dJ3_checkIndex_8e157_1 (by decide) (fun q => absurd q h0) (fun _ => ?_)
  refine lv_iload_n hx hb dJ3_checkIndex_8e157_4 rfl (lv_at hl 0 rfl) ?_
  refine lv_iload_n hx hb dJ3_checkIndex_8e157_5 rfl (lv_at hl 1 rfl) ?_
  refine lv_icmp_lt (tgt := 16) hx hb dJ3_checkIndex_8e157_6 (by decide) (fun _ => ?_) (fun q => absurd h8 q)
  refine lv_iload_n hx hb dJ3_checkIndex_8e157_16 rfl (lv_at hl 0 rfl) ?_
  exact W.iret (v := x) hx hb hr (fun t ht hW => ⟨⟨_, (), rfl, rfl, by rw [ht]; exact hP, va_K.moved hW.alike hK, hD⟩, hS.F ht⟩) hS.2.2 dJ3_checkIndex_8e157_17
set_option maxHeartbeats 4000000 in
set_option maxRecDepth 100000 in
theorem kJ3_checkIndex_8e157R (l : Launch) (D : va_G) (Y : Y4) (a : Nat × Nat) (t0 : Nat) (sz : Nat) (x : Int32) (hg : gin x 8 = true) : Met l yJ3_checkIndex_8e157 wsJ3_checkIndex_8e157 ({ frames := 0, cells := 0, slots := 0, locals := 0 }) (va_Pc [.int x, .int 8, .ref t0] (PREX D Y [] sz [e_sS a])) (va_Qi (fun r (_ : Unit) => r = x) (fun _ t => PST D Y (va_A [] sz) [] t) (va_A [] sz)) 0 0 (va_A [] sz) := by
  refine Met.ofW (cc := cJ3_checkIndex_8e157) (maxL := 3) (ret := (some .int)) (by decide) rfl ?_
  intro p e s m args below meth c s₁ B hml hv
  obtain ⟨rfl, ⟨rfl, hP, hK, hD0⟩, hX⟩ := hv
  have hx := B.exec
  have hb := B.bytes
  have hr := B.returns
  have hts := atoms_spec (ws := wsJ3_checkIndex_8e157) B.pre
  have hown : s.vm.findClass RJ3 = some m.cls := findClass_of_methodNamed B.named
  have hlocks := B.notSynchronized
  have hD := hD0.self (sz := s.heap.size)
  generalize hAe : va_A [] s.heap.size = A at hD hX ⊢
  have hA : ∀ q : Nat, s.heap.size ≤ q → A q := fun q h => by rw [← hAe]; exact Or.inr h
  have hS : va_S A s.heap s.heap [] := va_S.rf
  have hl := lv_entry ([.int x, .int 8, .ref t0]) (n := 3) (Nat.le_of_ble_eq_true rfl)
  rw [lg_entry_eq]
  generalize (lg_sl ([.int x, .int 8, .ref t0]) ++ List.replicate (3 - (lg_sl ([.int x, .int 8, .ref t0])).length) Slot.unset).toArray = ls at hl ⊢
  obtain ⟨hR, hV, hZ, hQ⟩ := (hX _ (List.mem_of_getElem? (i := 0) rfl)).2
  have h0 : ¬ x < 0 := fun q => (of_decide_eq_true hg : ¬ (x < 0 ∨ 8 ≤ x.toNatClampNeg)) (Or.inl q)
  have h8 : x < 8 := by
    rw [Int32.lt_iff_toInt_lt]
    have h1 := gin_lt hg
    have h2 : x.toInt.toNat = x.toNatClampNeg := rfl
    rw [Int32.lt_iff_toInt_lt] at h0
    have h3 : (8 : Int32).toInt = 8 := rfl
    have h4 : (0 : Int32).toInt = 0 := rfl
    omega
  have hl : lv_has ls 3 [(0, .int x), (1, .int 8), (2, .ref t0)] := hl
  refine lv_iload_n hx hb dJ3_checkIndex_8e157_0 rfl (lv_at hl 0 rfl) ?_
  refine lv_if_lt (tgt := 9) hx hb dJ3_checkIndex_8e157_1 (by decide) (fun q => absurd q h0) (fun _ => ?_)
  refine lv_iload_n hx hb dJ3_checkIndex_8e157_4 rfl (lv_at hl 0 rfl) ?_
  refine lv_iload_n hx hb dJ3_checkIndex_8e157_5 rfl (lv_at hl 1 rfl) ?_
  refine lv_icmp_lt (tgt := 16) hx hb dJ3_checkIndex_8e157_6 (by decide) (fun _ => ?_) (fun q => absurd h8 q)
  refine lv_iload_n hx hb dJ3_checkIndex_8e157_16 rfl (lv_at hl 0 rfl) ?_
  exact W.iret (v := x) hx hb hr (fun t ht hW => ⟨⟨_, (), rfl, rfl, by rw [ht]; exact hP, va_K.moved hW.alike hK, hD⟩, hS.F ht⟩) hS.2.2 dJ3_checkIndex_8e157_17
set_option maxHeartbeats 4000000 in
set_option maxRecDepth 100000 in
theorem kJ0_checkIndex_df160 (l : Launch) (D : va_G) (Y : Y4) (a : Nat × Nat) (sz : Nat) (x : Int32) (hg : gin x 8 = true) : Met l yJ0_checkIndex_df160 wsJ0_checkIndex_df160 ({ frames := 1, cells := 0, slots := 0, locals := 40 }) (va_Pc [.int x, .int 8] (PREX D Y [] sz [e_sS a])) (va_Qv (fun _ : Unit => True) (fun _ t => PST D Y (va_A [] sz) [] t) (va_A [] sz)) 0 0 (va_A [] sz) := by
  refine Met.ofW (cc := cJ0_checkIndex_df160) (maxL := 2) (ret := none) (by decide) rfl ?_
  intro p e s m args below meth c s₁ B hml hv
  obtain ⟨rfl, ⟨rfl, hP, hK, hD0⟩, hX⟩ := hv
  have hx := B.exec
  have hb := B.bytes
  have hr := B.returns
  have hts := atoms_spec (ws := wsJ0_checkIndex_df160) B.pre
  have hown : s.vm.findClass RJ0 = some m.cls := findClass_of_methodNamed B.named
  have hlocks := B.notSynchronized
  have hD := hD0.self (sz := s.heap.size)
  generalize hAe : va_A [] s.heap.size = A at hD hX ⊢
  have hA : ∀ q : Nat, s.heap.size ≤ q → A q := fun q h => by rw [← hAe]; exact Or.inr h
  have hS : va_S A s.heap s.heap [] := va_S.rf
  have hl := lv_entry ([.int x, .int 8]) (n := 2) (Nat.le_of_ble_eq_true rfl)
  rw [lg_entry_eq]
  generalize (lg_sl ([.int x, .int 8]) ++ List.replicate (2 - (lg_sl ([.int x, .int 8])).length) Slot.unset).toArray = ls at hl ⊢
  obtain ⟨hR, hV, hZ, hQ⟩ := (hX _ (List.mem_of_getElem? (i := 0) rfl)).2
  have hl : lv_has ls 2 [(0, .int x), (1, .int 8)] := hl
  refine lv_iload_n hx hb dJ0_checkIndex_df160_0 rfl (lv_at hl 0 rfl) ?_
  refine lv_iload_n hx hb dJ0_checkIndex_df160_1 rfl (lv_at hl 1 rfl) ?_
  rcases hQ with hQ | ⟨t0, hQ⟩
  · refine va_gets (v := .null) hx hb hQ hS hown (hts _ (List.mem_cons_of_mem _ u_700)) (fun _ h9 => h9) dJ0_checkIndex_df160_2 ?_
    have hPc := hP.sub (ws' := []) [] rfl
    have hDc := hD.sub (ws' := []) [] (by decide) rfl
    have hFc := va_free (wc := []) hD hS hA [] rfl
    refine va_calli (va_runS (As := [.int x, .int 8, .null]) (rest := []) ⟨hx, hb, hml, hown, hts⟩ (kJ3_checkIndex_8e157N l D Y a s.heap.size x hg) (va_cwS 3 hts gJ0_checkIndex_df160_J3_checkIndex_8e157 rfl rfl rfl (by decide +kernel) ⟨by decide, by decide⟩) (pres_x hK hPc hDc hX (fun q hq => hq) hS hFc) rfl rfl hl.1 rfl (lv_room (Nat.le_of_ble_eq_true rfl)) dJ0_checkIndex_df160_5 ⟨Nat.zero_le _, Nat.zero_le _⟩) hS (fun q _ h => hFc q h) hFc (fun r u t H locs ht hvm hw hB hz1 hk1 hS => ?_)
    obtain ⟨hP1, hK1, hD1⟩ := hB
    rw [ht] at hP1
    obtain ⟨hP, hD⟩ := va_join (wr := []) (w1 := []) hP hD [] [] rfl rfl (by decide) (by decide) hk1 hFc hP1 hD1
    refine lv_pop hx hb dJ0_checkIndex_df160_8 rfl ?_
    exact W.vret hx hb hr (fun t ht hW => ⟨⟨(), rfl, trivial, by rw [ht]; exact hP, va_K.moved hW.alike hK, hD⟩, hS.F ht⟩) hS.2.2 dJ0_checkIndex_df160_9
  · refine va_gets (v := .ref t0) hx hb hQ hS hown (hts _ (List.mem_cons_of_mem _ u_700)) (fun _ h9 => h9) dJ0_checkIndex_df160_2 ?_
    have hPc := hP.sub (ws' := []) [] rfl
    have hDc := hD.sub (ws' := []) [] (by decide) rfl
    have hFc := va_free (wc := []) hD hS hA [] rfl
    refine va_calli (va_runS (As := [.int x, .int 8, .ref t0]) (rest := []) ⟨hx, hb, hml, hown, hts⟩ (kJ3_checkIndex_8e157R l D Y a t0 s.heap.size x hg) (va_cwS 3 hts gJ0_checkIndex_df160_J3_checkIndex_8e157 rfl rfl rfl (by decide +kernel) ⟨by decide, by decide⟩) (pres_x hK hPc hDc hX (fun q hq => hq) hS hFc) rfl rfl hl.1 rfl (lv_room (Nat.le_of_ble_eq_true rfl)) dJ0_checkIndex_df160_5 ⟨Nat.zero_le _, Nat.zero_le _⟩) hS (fun q _ h => hFc q h) hFc (fun r u t H locs ht hvm hw hB hz1 hk1 hS => ?_)
    obtain ⟨hP1, hK1, hD1⟩ := hB
    rw [ht] at hP1
    obtain ⟨hP, hD⟩ := va_join (wr := []) (w1 := []) hP hD [] [] rfl rfl (by decide) (by decide) hk1 hFc hP1 hD1
    refine lv_pop hx hb dJ0_checkIndex_df160_8 rfl ?_
    exact W.vret hx hb hr (fun t ht hW => ⟨⟨(), rfl, trivial, by rw [ht]; exact hP, va_K.moved hW.alike hK, hD⟩, hS.F ht⟩) hS.2.2 dJ0_checkIndex_df160_9
set_option maxHeartbeats 4000000 in
set_option maxRecDepth 100000 in
theorem kJ1_charAt_3b067 (l : Launch) (D : va_G) (Y : Y4) (a : Nat × Nat) (sz : Nat) (x : Int32) (hg : gin x 8 = true) : Met l yJ1_charAt_3b067 wsJ1_charAt_3b067 ({ frames := 2, cells := 0, slots := 0, locals := 62 }) (va_Pc [.ref a.2, .int x] (PREX D Y [] sz [e_sS a])) (va_Qi (fun r (_ : Unit) => r = kMat x.toNatClampNeg) (fun _ t => PST D Y (va_A [] sz) [] t) (va_A [] sz)) 0 0 (va_A [] sz) := by
  refine Met.ofW (cc := cJ1_charAt_3b067) (maxL := 2) (ret := (some .char)) (by decide) rfl ?_
  intro p e s m args below meth c s₁ B hml hv
  obtain ⟨rfl, ⟨rfl, hP, hK, hD0⟩, hX⟩ := hv
  have hx := B.exec
  have hb := B.bytes
  have hr := B.returns
  have hts := atoms_spec (ws := wsJ1_charAt_3b067) B.pre
  have hown : s.vm.findClass RJ1 = some m.cls := findClass_of_methodNamed B.named
  have hlocks := B.notSynchronized
  have hD := hD0.self (sz := s.heap.size)
  generalize hAe : va_A [] s.heap.size = A at hD hX ⊢
  have hA : ∀ q : Nat, s.heap.size ≤ q → A q := fun q h => by rw [← hAe]; exact Or.inr h
  have hS : va_S A s.heap s.heap [] := va_S.rf
  have hl := lv_entry ([.ref a.2, .int x]) (n := 2) (Nat.le_of_ble_eq_true rfl)
  rw [lg_entry_eq]
  generalize (lg_sl ([.ref a.2, .int x]) ++ List.replicate (2 - (lg_sl ([.ref a.2, .int x])).length) Slot.unset).toArray = ls at hl ⊢
  obtain ⟨hR, hV, hZ, hQ⟩ := (hX _ (List.mem_of_getElem? (i := 0) rfl)).2
  have hl : lv_has ls 2 [(0, .ref a.2), (1, .int x)] := hl
  have hT := (hV.1 0 (by decide)).2.2.2
  refine lv_iload_n hx hb dJ1_charAt_3b067_0 rfl (lv_at hl 1 rfl) ?_
  refine lv_aload_n hx hb dJ1_charAt_3b067_1 rfl (lv_at hl 0 rfl) ?_
  refine va_tlen hx hb hT hS (v := 8) rfl dJ1_charAt_3b067_2 ?_
  have hPc := hP.sub (ws' := []) [] rfl
  have hDc := hD.sub (ws' := []) [] (by decide) rfl
  have hFc := va_free (wc := []) hD hS hA [] rfl
  refine va_callv (va_runS (As := [.int x, .int 8]) (rest := []) ⟨hx, hb, hml, hown, hts⟩ (kJ0_checkIndex_df160 l D Y a s.heap.size x hg) (va_cwS 2 hts gJ1_charAt_3b067_J0_checkIndex_df160 rfl rfl rfl (by decide +kernel) ⟨by decide, by decide⟩) (pres_x hK hPc hDc hX (fun q hq => hq) hS hFc) rfl rfl hl.1 rfl (lv_room (Nat.le_of_ble_eq_true rfl)) dJ1_charAt_3b067_3 ⟨Nat.zero_le _, Nat.zero_le _⟩) hS (fun q _ h => hFc q h) hFc (fun u t H locs ht hvm hw hB hz1 hk1 hS => ?_)
  obtain ⟨hP1, hK1, hD1⟩ := hB
  rw [ht] at hP1
  obtain ⟨hP, hD⟩ := va_join (wr := []) (w1 := []) hP hD [] [] rfl rfl (by decide) (by decide) hk1 hFc hP1 hD1
  refine lv_aload_n hx hb dJ1_charAt_3b067_6 rfl (lv_at hl 0 rfl) ?_
  refine lv_iload_n hx hb dJ1_charAt_3b067_7 rfl (lv_at hl 1 rfl) ?_
  refine va_tb hx hb hT hS (gin_in hg) (v := .int (kMat x.toNatClampNeg)) rfl dJ1_charAt_3b067_8 ?_
  refine lv_sipush (v := 255) hx hb dJ1_charAt_3b067_9 (by decide) ?_
  refine lv_iand hx hb dJ1_charAt_3b067_12 ?_
  have hk : ∀ j, j < 8 → ((kMat j &&& 255).toUInt32 % 65536).toInt32 = kMat j ∧ narrow .char (.int (kMat j)) = .int (kMat j) := by decide +kernel
  obtain ⟨e1, e2⟩ := hk _ (gin_lt hg)
  refine lv_i2c (v := kMat x.toNatClampNeg) hx hb dJ1_charAt_3b067_13 e1 ?_
  exact W.zret (v := kMat x.toNatClampNeg) hx hb hr e2 (fun t ht hW => ⟨⟨_, (), rfl, rfl, by rw [ht]; exact hP, va_K.moved hW.alike hK, hD⟩, hS.F ht⟩) hS.2.2 dJ1_charAt_3b067_14
set_option maxHeartbeats 4000000 in
set_option maxRecDepth 100000 in
theorem kJ0_charAt_5068e (l : Launch) (D : va_G) (Y : Y4) (_ : Nat) (a : Nat × Nat) (sz : Nat) (x : Int32) (res : Int32) (hf : fJ_charAt 0 x = some res) : Met l yJ0_charAt_5068e wsJ0_charAt_5068e ({ frames := 3, cells := 0, slots := 0, locals := 90 }) (va_Pc [.ref a.1, .int x] (PREX D Y [] sz [e_sS a])) (va_Qi (fun r (_ : Unit) => r = res) (fun _ t => PST D Y (va_A [] sz) [] t) (va_A [] sz)) 0 0 (va_A [] sz) := by
  refine Met.ofW (cc := cJ0_charAt_5068e) (maxL := 2) (ret := (some .char)) (by decide) rfl ?_
  intro p e s m args below meth c s₁ B hml hv
  obtain ⟨rfl, ⟨rfl, hP, hK, hD0⟩, hX⟩ := hv
  have hx := B.exec
  have hb := B.bytes
  have hr := B.returns
  have hts := atoms_spec (ws := wsJ0_charAt_5068e) B.pre
  have hown : s.vm.findClass RJ0 = some m.cls := findClass_of_methodNamed B.named
  have hlocks := B.notSynchronized
  have hD := hD0.self (sz := s.heap.size)
  generalize hAe : va_A [] s.heap.size = A at hD hX ⊢
  have hA : ∀ q : Nat, s.heap.size ≤ q → A q := fun q h => by rw [← hAe]; exact Or.inr h
  have hS : va_S A s.heap s.heap [] := va_S.rf
  have hl := lv_entry ([.ref a.1, .int x]) (n := 2) (Nat.le_of_ble_eq_true rfl)
  rw [lg_entry_eq]
  generalize (lg_sl ([.ref a.1, .int x]) ++ List.replicate (2 - (lg_sl ([.ref a.1, .int x])).length) Slot.unset).toArray = ls at hl ⊢
  obtain ⟨hR, hV, hZ, hQ⟩ := (hX _ (List.mem_of_getElem? (i := 0) rfl)).2
  obtain ⟨hg, hf⟩ := gd hf
  obtain rfl := Option.some.inj hf
  have hl : lv_has ls 2 [(0, .ref a.1), (1, .int x)] := hl
  have hk : ∀ j, j < 8 → narrow .char (.int (kMat j)) = .int (kMat j) := by decide +kernel
  refine lv_aload_n hx hb dJ0_charAt_5068e_0 rfl (lv_at hl 0 rfl) ?_
  have hPc := hP.sub (ws' := []) [] rfl
  have hDc := hD.sub (ws' := []) [] (by decide) rfl
  have hFc := va_free (wc := []) hD hS hA [] rfl
  refine va_calli (va_runV (As := []) (rest := []) ⟨hx, hb, hml, hown, hts⟩ (kJ0_isLatin1_aae02 l D Y a s.heap.size) (cwV 0 hts gJ0_charAt_5068e_J0_isLatin1_aae02 rfl rfl rfl (by decide +kernel) ⟨by decide, by decide⟩) (prev_s hK hPc hDc hX (fun q hq => hq) hS hFc) rfl rfl hl.1 rfl (lv_room (Nat.le_of_ble_eq_true rfl)) dJ0_charAt_5068e_1 ⟨Nat.zero_le _, Nat.zero_le _⟩) hS (fun q _ h => hFc q h) hFc (fun r u t H locs ht hvm hw hB hz1 hk1 hS => ?_)
  obtain ⟨hP1, hK1, hD1⟩ := hB
  rw [ht] at hP1
  obtain ⟨hP, hD⟩ := va_join (wr := []) (w1 := []) hP hD [] [] rfl rfl (by decide) (by decide) hk1 hFc hP1 hD1
  have hw := hw.symm
  subst hw
  refine lv_if_eq (tgt := 16) hx hb dJ0_charAt_5068e_4 (by decide) (fun q => absurd q (by decide)) (fun _ => ?_)
  refine lv_aload_n hx hb dJ0_charAt_5068e_7 rfl (lv_at hl 0 rfl) ?_
  refine vk_getf hx hb (hV.1 0 (by decide)).2.2.1 hS hown (hts _ (List.mem_cons_of_mem _ u_678)) (fun _ h9 => h9) dJ0_charAt_5068e_8 ?_
  refine lv_iload_n hx hb dJ0_charAt_5068e_11 rfl (lv_at hl 1 rfl) ?_
  have hPc := hP.sub (ws' := []) [] rfl
  have hDc := hD.sub (ws' := []) [] (by decide) rfl
  have hFc := va_free (wc := []) hD hS hA [] rfl
  refine va_calli (va_runS (As := [.ref a.2, .int x]) (rest := []) ⟨hx, hb, hml, hown, hts⟩ (kJ1_charAt_3b067 l D Y a H.size x hg) (va_cwS 2 hts gJ0_charAt_5068e_J1_charAt_3b067 rfl rfl rfl (by decide +kernel) ⟨by decide, by decide⟩) (pres_x hK hPc hDc hX (fun q hq => hq) hS hFc) rfl rfl hl.1 rfl (lv_room (Nat.le_of_ble_eq_true rfl)) dJ0_charAt_5068e_12 ⟨Nat.zero_le _, Nat.zero_le _⟩) hS (fun q _ h => hFc q h) hFc (fun r u t H locs ht hvm hw hB hz1 hk1 hS => ?_)
  obtain ⟨hP1, hK1, hD1⟩ := hB
  rw [ht] at hP1
  obtain ⟨hP, hD⟩ := va_join (wr := []) (w1 := []) hP hD [] [] rfl rfl (by decide) (by decide) hk1 hFc hP1 hD1
  have hw := hw.symm
  subst hw
  exact W.zret (v := kMat x.toNatClampNeg) hx hb hr (hk _ (gin_lt hg)) (fun t ht hW => ⟨⟨_, (), rfl, rfl, by rw [ht]; exact hP, va_K.moved hW.alike hK, hD⟩, hS.F ht⟩) hS.2.2 dJ0_charAt_5068e_15
