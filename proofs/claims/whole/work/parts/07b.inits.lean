theorem mX8_init_6000_0 : Cond.methodLink RX8 3 objectInit ∈ wsX8_init := List.mem_cons_of_mem _ u_45
theorem mX8_init_6000_1 : Cond.instanceMethod objectInit ∈ wsX8_init := List.mem_cons_of_mem _ u_11
theorem mX8_init_6000_2 : Cond.code objectInit ⟨#[0xb1]⟩ 1 none ∈ wsX8_init := List.mem_cons_of_mem _ u_12
theorem mX8_init_6000_3 : Cond.methodLink RX8 9 Lib.Math.max.name ∈ wsX8_init := List.mem_cons_of_mem _ u_46
theorem mX8_init_6000_4 : Cond.static Lib.Math.max.name ∈ wsX8_init := List.mem_cons_of_mem _ u_47
theorem mX8_init_6000_5 : Cond.initialized "java/lang/Math" ∈ wsX8_init := List.mem_cons_of_mem _ u_48
theorem mX8_init_6000_6 : Cond.code Lib.Math.max.name Lib.Math.max.code 2 (some .int) ∈ wsX8_init := List.mem_cons_of_mem _ u_49
theorem mX8_init_6000_7 : Cond.fieldLink RX8 15 "StreamRemuxer$Row" "most" "I" ∈ wsX8_init := List.mem_cons_of_mem _ u_50
theorem mX8_init_6000_8 : Cond.arrayClass .int ∈ wsX8_init := List.mem_cons_of_mem _ u_51
theorem mX8_init_6000_9 : Cond.fieldLink RX8 21 "StreamRemuxer$Row" "words" "[I" ∈ wsX8_init := List.mem_cons_of_mem _ u_52
theorem iX8_init_6000_X8 : ∀ w ∈ wsX80, w ∈ wsX8_init := fun w h => List.mem_cons_of_mem _ (inlX8 w h)
set_option maxHeartbeats 4000000 in
set_option maxRecDepth 100000 in
theorem kX8_init_6000 (l : Launch) (D : va_G) (Y : Y4) (a_h : Nat) (sz : Nat) : Met l yX8_init wsX8_init ({ frames := 1, cells := 1, slots := 1501, locals := 24 }) (va_Pc [.ref a_h, .int 6000] (PRE D Y [(a_h, .inr (6, [.null, .int 0, .int 0, .int 0]))] sz)) (va_Qv (fun _ : Nat => True) (fun u t => PST D Y (va_A [(a_h, .inr (6, [.null, .int 0, .int 0, .int 0]))] sz) [oX8 a_h (.ref u) 6000 0 0, aI Y u 1501 (fun _ => 0)] t) (va_A [(a_h, .inr (6, [.null, .int 0, .int 0, .int 0]))] sz)) 1 1501 (va_A [(a_h, .inr (6, [.null, .int 0, .int 0, .int 0]))] sz) := by
  refine Met.ofW (cc := cX8_init) (maxL := 2) (ret := none) (by decide) rfl ?_
  intro p e s m args below meth c s₁ B hml hv
  obtain ⟨rfl, rfl, hP, hK, hD0⟩ := hv
  have hx := B.exec
  have hb := B.bytes
  have hr := B.returns
  have hts := atoms_spec (ws := wsX8_init) B.pre
  have hown : s.vm.findClass RX8 = some m.cls := findClass_of_methodNamed B.named
  have hlocks := B.notSynchronized
  have hin : meth.name = "<init>" := (name_of_methodNamed B.named B.method).1
  have hD := hD0.self (sz := s.heap.size)
  generalize hAe : va_A [(a_h, .inr (6, [.null, .int 0, .int 0, .int 0]))] s.heap.size = A at hD ⊢
  have hA : ∀ q : Nat, s.heap.size ≤ q → A q := fun q h => by rw [← hAe]; exact Or.inr h
  have hS : va_S A s.heap s.heap [] := va_S.rf
  have hl := lv_entry ([.ref a_h, .int 6000]) (n := 2) (Nat.le_of_ble_eq_true rfl)
  rw [lg_entry_eq]
  generalize (lg_sl ([.ref a_h, .int 6000]) ++ List.replicate (2 - (lg_sl ([.ref a_h, .int 6000])).length) Slot.unset).toArray = ls at hl ⊢
  have hl : lv_has ls 2 [(0, .ref a_h), (1, .int 6000)] := hl
  refine lv_aload_n hx hb dX8_init_0 rfl (lv_at hl 0 rfl) ?_
  refine W.objInit hx hb hown (hts _ mX8_init_6000_0) (hts _ mX8_init_6000_1) (hts _ mX8_init_6000_2) rfl (by rw [hml]; exact hl.1) rfl dX8_init_1 (Nat.le_of_ble_eq_true rfl) (Nat.le_of_ble_eq_true rfl) ?_
  refine W.eq (g2 := F0 m 4 ls []) rfl ?_
  refine lv_aload_n hx hb dX8_init_4 rfl (lv_at hl 0 rfl) ?_
  refine lv_iload_n hx hb dX8_init_5 rfl (lv_at hl 1 rfl) ?_
  refine lv_iconst (v := 0) hx hb dX8_init_6 (by decide) ?_
  refine va_mmax hx hb (by rw [hml]; exact hl.1.symm) hown (hts _ mX8_init_6000_3) (hts _ mX8_init_6000_4) (hts _ mX8_init_6000_5) (hts _ mX8_init_6000_6) (Nat.le_of_ble_eq_true rfl) (Nat.le_of_ble_eq_true rfl) (Nat.le_of_ble_eq_true rfl) (Nat.le_of_ble_eq_true rfl) dX8_init_7 ?_
  refine lv_topi (fun x1 ex1 => ?_)
  have ex1 : x1 = 6000 := ex1.trans (by decide)
  subst ex1
  refine va_putF (D := D) (ci := 6) (v := .int 6000) (ty := .int) (C := RX8) (T := TX8) (N := 4) hx hb hts iX8_init_6000_X8 tyX8 tyX8_ok nmX8 hown hK hP hD hS 0 rfl rfl 1 (by decide) (hts _ mX8_init_6000_7) (fun _ h9 => h9) rfl hin rfl (by decide +kernel) rfl rfl (Nat.le_of_ble_eq_true rfl) dX8_init_10 (fun H locs hP hD hS => ?_)
  have hP : va_P D vwCl [oX8 a_h (.null) 6000 0 0] H := hP
  have hD : va_D A [oX8 a_h (.null) 6000 0 0] := hD
  refine lv_aload_n hx hb dX8_init_13 rfl (lv_at hl 0 rfl) ?_
  refine lv_aload_n hx hb dX8_init_14 rfl (lv_at hl 0 rfl) ?_
  refine va_get (D := D) (ci := 6) (v := .int 6000) (C := RX8) (T := TX8) (N := 4) hx hb hts iX8_init_6000_X8 hown hK hP 0 rfl rfl 1 (by decide) (hts _ mX8_init_6000_7) (fun _ h9 => h9) rfl dX8_init_15 ?_
  refine lv_iconst (v := 4) hx hb dX8_init_18 (by decide) ?_
  refine lv_idiv hx hb dX8_init_19 (by decide) ?_
  refine lv_topi (fun x2 ex2 => ?_)
  have ex2 : x2 = 1500 := ex2.trans (by decide)
  subst ex2
  refine lv_iconst (v := 1) hx hb dX8_init_20 (by decide) ?_
  refine lv_iadd hx hb dX8_init_21 ?_
  refine lv_topi (fun x3 ex3 => ?_)
  have ex3 : x3 = 1501 := ex3.trans (by decide)
  subst ex3
  refine xnewa 1 (a0 := (1501, .inl (fun _ => 0))) hx hb (hts _ mX8_init_6000_8) rfl hK hP hD hS hA (fun _ => rfl) (by decide) (by decide) (by decide) (Nat.le_of_ble_eq_true rfl) (Nat.le_of_ble_eq_true rfl) rfl (fun _ => by simp) dX8_init_22 (fun a_n4 H hP hD hS => ?_)
  have hP : va_P D vwCl [oX8 a_h (.null) 6000 0 0, aI Y a_n4 1501 (fun _ => 0)] H := hP
  have hD : va_D A [oX8 a_h (.null) 6000 0 0, aI Y a_n4 1501 (fun _ => 0)] := hD
  refine W.widen (k := 1) (n := 1501) (Nat.le_of_ble_eq_true rfl) (Nat.le_of_ble_eq_true rfl) ?_
  refine va_putF (D := D) (ci := 6) (v := .ref a_n4) (ty := .array .int) (C := RX8) (T := TX8) (N := 4) hx hb hts iX8_init_6000_X8 tyX8 tyX8_ok nmX8 hown hK hP hD hS 0 rfl rfl 0 (by decide) (hts _ mX8_init_6000_9) (fun _ h9 => h9) rfl hin rfl (by decide +kernel) rfl rfl (Nat.le_of_ble_eq_true rfl) dX8_init_24 (fun H locs hP hD hS => ?_)
  have hP : va_P D vwCl [oX8 a_h (.ref a_n4) 6000 0 0, aI Y a_n4 1501 (fun _ => 0)] H := hP
  have hD : va_D A [oX8 a_h (.ref a_n4) 6000 0 0, aI Y a_n4 1501 (fun _ => 0)] := hD
  have hP9 := hP.sub (ws' := [oX8 a_h (.ref a_n4) 6000 0 0, aI Y a_n4 1501 (fun _ => 0)]) [0, 1] rfl
  have hD9 := hD.sub (ws' := [oX8 a_h (.ref a_n4) 6000 0 0, aI Y a_n4 1501 (fun _ => 0)]) [0, 1] (by decide) rfl
  exact W.vret hx hb hr (fun t ht hW => ⟨⟨a_n4, rfl, trivial, by rw [ht]; exact hP9, va_K.moved hW.alike hK, hD9⟩, hS.F ht⟩) hS.2.2 dX8_init_27
theorem mX8_init_2400_0 : Cond.methodLink RX8 3 objectInit ∈ wsX8_init := List.mem_cons_of_mem _ u_45
theorem mX8_init_2400_1 : Cond.instanceMethod objectInit ∈ wsX8_init := List.mem_cons_of_mem _ u_11
theorem mX8_init_2400_2 : Cond.code objectInit ⟨#[0xb1]⟩ 1 none ∈ wsX8_init := List.mem_cons_of_mem _ u_12
theorem mX8_init_2400_3 : Cond.methodLink RX8 9 Lib.Math.max.name ∈ wsX8_init := List.mem_cons_of_mem _ u_46
theorem mX8_init_2400_4 : Cond.static Lib.Math.max.name ∈ wsX8_init := List.mem_cons_of_mem _ u_47
theorem mX8_init_2400_5 : Cond.initialized "java/lang/Math" ∈ wsX8_init := List.mem_cons_of_mem _ u_48
theorem mX8_init_2400_6 : Cond.code Lib.Math.max.name Lib.Math.max.code 2 (some .int) ∈ wsX8_init := List.mem_cons_of_mem _ u_49
theorem mX8_init_2400_7 : Cond.fieldLink RX8 15 "StreamRemuxer$Row" "most" "I" ∈ wsX8_init := List.mem_cons_of_mem _ u_50
theorem mX8_init_2400_8 : Cond.arrayClass .int ∈ wsX8_init := List.mem_cons_of_mem _ u_51
theorem mX8_init_2400_9 : Cond.fieldLink RX8 21 "StreamRemuxer$Row" "words" "[I" ∈ wsX8_init := List.mem_cons_of_mem _ u_52
theorem iX8_init_2400_X8 : ∀ w ∈ wsX80, w ∈ wsX8_init := fun w h => List.mem_cons_of_mem _ (inlX8 w h)
set_option maxHeartbeats 4000000 in
set_option maxRecDepth 100000 in
theorem kX8_init_2400 (l : Launch) (D : va_G) (Y : Y4) (a_h : Nat) (sz : Nat) : Met l yX8_init wsX8_init ({ frames := 1, cells := 1, slots := 601, locals := 24 }) (va_Pc [.ref a_h, .int 2400] (PRE D Y [(a_h, .inr (6, [.null, .int 0, .int 0, .int 0]))] sz)) (va_Qv (fun _ : Nat => True) (fun u t => PST D Y (va_A [(a_h, .inr (6, [.null, .int 0, .int 0, .int 0]))] sz) [oX8 a_h (.ref u) 2400 0 0, aI Y u 601 (fun _ => 0)] t) (va_A [(a_h, .inr (6, [.null, .int 0, .int 0, .int 0]))] sz)) 1 601 (va_A [(a_h, .inr (6, [.null, .int 0, .int 0, .int 0]))] sz) := by
  refine Met.ofW (cc := cX8_init) (maxL := 2) (ret := none) (by decide) rfl ?_
  intro p e s m args below meth c s₁ B hml hv
  obtain ⟨rfl, rfl, hP, hK, hD0⟩ := hv
  have hx := B.exec
  have hb := B.bytes
  have hr := B.returns
  have hts := atoms_spec (ws := wsX8_init) B.pre
  have hown : s.vm.findClass RX8 = some m.cls := findClass_of_methodNamed B.named
  have hlocks := B.notSynchronized
  have hin : meth.name = "<init>" := (name_of_methodNamed B.named B.method).1
  have hD := hD0.self (sz := s.heap.size)
  generalize hAe : va_A [(a_h, .inr (6, [.null, .int 0, .int 0, .int 0]))] s.heap.size = A at hD ⊢
  have hA : ∀ q : Nat, s.heap.size ≤ q → A q := fun q h => by rw [← hAe]; exact Or.inr h
  have hS : va_S A s.heap s.heap [] := va_S.rf
  have hl := lv_entry ([.ref a_h, .int 2400]) (n := 2) (Nat.le_of_ble_eq_true rfl)
  rw [lg_entry_eq]
  generalize (lg_sl ([.ref a_h, .int 2400]) ++ List.replicate (2 - (lg_sl ([.ref a_h, .int 2400])).length) Slot.unset).toArray = ls at hl ⊢
  have hl : lv_has ls 2 [(0, .ref a_h), (1, .int 2400)] := hl
  refine lv_aload_n hx hb dX8_init_0 rfl (lv_at hl 0 rfl) ?_
  refine W.objInit hx hb hown (hts _ mX8_init_2400_0) (hts _ mX8_init_2400_1) (hts _ mX8_init_2400_2) rfl (by rw [hml]; exact hl.1) rfl dX8_init_1 (Nat.le_of_ble_eq_true rfl) (Nat.le_of_ble_eq_true rfl) ?_
  refine W.eq (g2 := F0 m 4 ls []) rfl ?_
  refine lv_aload_n hx hb dX8_init_4 rfl (lv_at hl 0 rfl) ?_
  refine lv_iload_n hx hb dX8_init_5 rfl (lv_at hl 1 rfl) ?_
  refine lv_iconst (v := 0) hx hb dX8_init_6 (by decide) ?_
  refine va_mmax hx hb (by rw [hml]; exact hl.1.symm) hown (hts _ mX8_init_2400_3) (hts _ mX8_init_2400_4) (hts _ mX8_init_2400_5) (hts _ mX8_init_2400_6) (Nat.le_of_ble_eq_true rfl) (Nat.le_of_ble_eq_true rfl) (Nat.le_of_ble_eq_true rfl) (Nat.le_of_ble_eq_true rfl) dX8_init_7 ?_
  refine lv_topi (fun x1 ex1 => ?_)
  have ex1 : x1 = 2400 := ex1.trans (by decide)
  subst ex1
  refine va_putF (D := D) (ci := 6) (v := .int 2400) (ty := .int) (C := RX8) (T := TX8) (N := 4) hx hb hts iX8_init_2400_X8 tyX8 tyX8_ok nmX8 hown hK hP hD hS 0 rfl rfl 1 (by decide) (hts _ mX8_init_2400_7) (fun _ h9 => h9) rfl hin rfl (by decide +kernel) rfl rfl (Nat.le_of_ble_eq_true rfl) dX8_init_10 (fun H locs hP hD hS => ?_)
  have hP : va_P D vwCl [oX8 a_h (.null) 2400 0 0] H := hP
  have hD : va_D A [oX8 a_h (.null) 2400 0 0] := hD
  refine lv_aload_n hx hb dX8_init_13 rfl (lv_at hl 0 rfl) ?_
  refine lv_aload_n hx hb dX8_init_14 rfl (lv_at hl 0 rfl) ?_
  refine va_get (D := D) (ci := 6) (v := .int 2400) (C := RX8) (T := TX8) (N := 4) hx hb hts iX8_init_2400_X8 hown hK hP 0 rfl rfl 1 (by decide) (hts _ mX8_init_2400_7) (fun _ h9 => h9) rfl dX8_init_15 ?_
  refine lv_iconst (v := 4) hx hb dX8_init_18 (by decide) ?_
  refine lv_idiv hx hb dX8_init_19 (by decide) ?_
  refine lv_topi (fun x2 ex2 => ?_)
  have ex2 : x2 = 600 := ex2.trans (by decide)
  subst ex2
  refine lv_iconst (v := 1) hx hb dX8_init_20 (by decide) ?_
  refine lv_iadd hx hb dX8_init_21 ?_
  refine lv_topi (fun x3 ex3 => ?_)
  have ex3 : x3 = 601 := ex3.trans (by decide)
  subst ex3
  refine xnewa 1 (a0 := (601, .inl (fun _ => 0))) hx hb (hts _ mX8_init_2400_8) rfl hK hP hD hS hA (fun _ => rfl) (by decide) (by decide) (by decide) (Nat.le_of_ble_eq_true rfl) (Nat.le_of_ble_eq_true rfl) rfl (fun _ => by simp) dX8_init_22 (fun a_n4 H hP hD hS => ?_)
  have hP : va_P D vwCl [oX8 a_h (.null) 2400 0 0, aI Y a_n4 601 (fun _ => 0)] H := hP
  have hD : va_D A [oX8 a_h (.null) 2400 0 0, aI Y a_n4 601 (fun _ => 0)] := hD
  refine W.widen (k := 1) (n := 601) (Nat.le_of_ble_eq_true rfl) (Nat.le_of_ble_eq_true rfl) ?_
  refine va_putF (D := D) (ci := 6) (v := .ref a_n4) (ty := .array .int) (C := RX8) (T := TX8) (N := 4) hx hb hts iX8_init_2400_X8 tyX8 tyX8_ok nmX8 hown hK hP hD hS 0 rfl rfl 0 (by decide) (hts _ mX8_init_2400_9) (fun _ h9 => h9) rfl hin rfl (by decide +kernel) rfl rfl (Nat.le_of_ble_eq_true rfl) dX8_init_24 (fun H locs hP hD hS => ?_)
  have hP : va_P D vwCl [oX8 a_h (.ref a_n4) 2400 0 0, aI Y a_n4 601 (fun _ => 0)] H := hP
  have hD : va_D A [oX8 a_h (.ref a_n4) 2400 0 0, aI Y a_n4 601 (fun _ => 0)] := hD
  have hP9 := hP.sub (ws' := [oX8 a_h (.ref a_n4) 2400 0 0, aI Y a_n4 601 (fun _ => 0)]) [0, 1] rfl
  have hD9 := hD.sub (ws' := [oX8 a_h (.ref a_n4) 2400 0 0, aI Y a_n4 601 (fun _ => 0)]) [0, 1] (by decide) rfl
  exact W.vret hx hb hr (fun t ht hW => ⟨⟨a_n4, rfl, trivial, by rw [ht]; exact hP9, va_K.moved hW.alike hK, hD9⟩, hS.F ht⟩) hS.2.2 dX8_init_27
theorem mX8_init_64_0 : Cond.methodLink RX8 3 objectInit ∈ wsX8_init := List.mem_cons_of_mem _ u_45
theorem mX8_init_64_1 : Cond.instanceMethod objectInit ∈ wsX8_init := List.mem_cons_of_mem _ u_11
theorem mX8_init_64_2 : Cond.code objectInit ⟨#[0xb1]⟩ 1 none ∈ wsX8_init := List.mem_cons_of_mem _ u_12
theorem mX8_init_64_3 : Cond.methodLink RX8 9 Lib.Math.max.name ∈ wsX8_init := List.mem_cons_of_mem _ u_46
theorem mX8_init_64_4 : Cond.static Lib.Math.max.name ∈ wsX8_init := List.mem_cons_of_mem _ u_47
theorem mX8_init_64_5 : Cond.initialized "java/lang/Math" ∈ wsX8_init := List.mem_cons_of_mem _ u_48
theorem mX8_init_64_6 : Cond.code Lib.Math.max.name Lib.Math.max.code 2 (some .int) ∈ wsX8_init := List.mem_cons_of_mem _ u_49
theorem mX8_init_64_7 : Cond.fieldLink RX8 15 "StreamRemuxer$Row" "most" "I" ∈ wsX8_init := List.mem_cons_of_mem _ u_50
theorem mX8_init_64_8 : Cond.arrayClass .int ∈ wsX8_init := List.mem_cons_of_mem _ u_51
theorem mX8_init_64_9 : Cond.fieldLink RX8 21 "StreamRemuxer$Row" "words" "[I" ∈ wsX8_init := List.mem_cons_of_mem _ u_52
theorem iX8_init_64_X8 : ∀ w ∈ wsX80, w ∈ wsX8_init := fun w h => List.mem_cons_of_mem _ (inlX8 w h)
set_option maxHeartbeats 4000000 in
set_option maxRecDepth 100000 in
theorem kX8_init_64 (l : Launch) (D : va_G) (Y : Y4) (a_h : Nat) (sz : Nat) : Met l yX8_init wsX8_init ({ frames := 1, cells := 1, slots := 17, locals := 24 }) (va_Pc [.ref a_h, .int 64] (PRE D Y [(a_h, .inr (6, [.null, .int 0, .int 0, .int 0]))] sz)) (va_Qv (fun _ : Nat => True) (fun u t => PST D Y (va_A [(a_h, .inr (6, [.null, .int 0, .int 0, .int 0]))] sz) [oX8 a_h (.ref u) 64 0 0, aI Y u 17 (fun _ => 0)] t) (va_A [(a_h, .inr (6, [.null, .int 0, .int 0, .int 0]))] sz)) 1 17 (va_A [(a_h, .inr (6, [.null, .int 0, .int 0, .int 0]))] sz) := by
  refine Met.ofW (cc := cX8_init) (maxL := 2) (ret := none) (by decide) rfl ?_
  intro p e s m args below meth c s₁ B hml hv
  obtain ⟨rfl, rfl, hP, hK, hD0⟩ := hv
  have hx := B.exec
  have hb := B.bytes
  have hr := B.returns
  have hts := atoms_spec (ws := wsX8_init) B.pre
  have hown : s.vm.findClass RX8 = some m.cls := findClass_of_methodNamed B.named
  have hlocks := B.notSynchronized
  have hin : meth.name = "<init>" := (name_of_methodNamed B.named B.method).1
  have hD := hD0.self (sz := s.heap.size)
  generalize hAe : va_A [(a_h, .inr (6, [.null, .int 0, .int 0, .int 0]))] s.heap.size = A at hD ⊢
  have hA : ∀ q : Nat, s.heap.size ≤ q → A q := fun q h => by rw [← hAe]; exact Or.inr h
  have hS : va_S A s.heap s.heap [] := va_S.rf
  have hl := lv_entry ([.ref a_h, .int 64]) (n := 2) (Nat.le_of_ble_eq_true rfl)
  rw [lg_entry_eq]
  generalize (lg_sl ([.ref a_h, .int 64]) ++ List.replicate (2 - (lg_sl ([.ref a_h, .int 64])).length) Slot.unset).toArray = ls at hl ⊢
  have hl : lv_has ls 2 [(0, .ref a_h), (1, .int 64)] := hl
  refine lv_aload_n hx hb dX8_init_0 rfl (lv_at hl 0 rfl) ?_
  refine W.objInit hx hb hown (hts _ mX8_init_64_0) (hts _ mX8_init_64_1) (hts _ mX8_init_64_2) rfl (by rw [hml]; exact hl.1) rfl dX8_init_1 (Nat.le_of_ble_eq_true rfl) (Nat.le_of_ble_eq_true rfl) ?_
  refine W.eq (g2 := F0 m 4 ls []) rfl ?_
  refine lv_aload_n hx hb dX8_init_4 rfl (lv_at hl 0 rfl) ?_
  refine lv_iload_n hx hb dX8_init_5 rfl (lv_at hl 1 rfl) ?_
  refine lv_iconst (v := 0) hx hb dX8_init_6 (by decide) ?_
  refine va_mmax hx hb (by rw [hml]; exact hl.1.symm) hown (hts _ mX8_init_64_3) (hts _ mX8_init_64_4) (hts _ mX8_init_64_5) (hts _ mX8_init_64_6) (Nat.le_of_ble_eq_true rfl) (Nat.le_of_ble_eq_true rfl) (Nat.le_of_ble_eq_true rfl) (Nat.le_of_ble_eq_true rfl) dX8_init_7 ?_
  refine lv_topi (fun x1 ex1 => ?_)
  have ex1 : x1 = 64 := ex1.trans (by decide)
  subst ex1
  refine va_putF (D := D) (ci := 6) (v := .int 64) (ty := .int) (C := RX8) (T := TX8) (N := 4) hx hb hts iX8_init_64_X8 tyX8 tyX8_ok nmX8 hown hK hP hD hS 0 rfl rfl 1 (by decide) (hts _ mX8_init_64_7) (fun _ h9 => h9) rfl hin rfl (by decide +kernel) rfl rfl (Nat.le_of_ble_eq_true rfl) dX8_init_10 (fun H locs hP hD hS => ?_)
  have hP : va_P D vwCl [oX8 a_h (.null) 64 0 0] H := hP
  have hD : va_D A [oX8 a_h (.null) 64 0 0] := hD
  refine lv_aload_n hx hb dX8_init_13 rfl (lv_at hl 0 rfl) ?_
  refine lv_aload_n hx hb dX8_init_14 rfl (lv_at hl 0 rfl) ?_
  refine va_get (D := D) (ci := 6) (v := .int 64) (C := RX8) (T := TX8) (N := 4) hx hb hts iX8_init_64_X8 hown hK hP 0 rfl rfl 1 (by decide) (hts _ mX8_init_64_7) (fun _ h9 => h9) rfl dX8_init_15 ?_
  refine lv_iconst (v := 4) hx hb dX8_init_18 (by decide) ?_
  refine lv_idiv hx hb dX8_init_19 (by decide) ?_
  refine lv_topi (fun x2 ex2 => ?_)
  have ex2 : x2 = 16 := ex2.trans (by decide)
  subst ex2
  refine lv_iconst (v := 1) hx hb dX8_init_20 (by decide) ?_
  refine lv_iadd hx hb dX8_init_21 ?_
  refine lv_topi (fun x3 ex3 => ?_)
  have ex3 : x3 = 17 := ex3.trans (by decide)
  subst ex3
  refine xnewa 1 (a0 := (17, .inl (fun _ => 0))) hx hb (hts _ mX8_init_64_8) rfl hK hP hD hS hA (fun _ => rfl) (by decide) (by decide) (by decide) (Nat.le_of_ble_eq_true rfl) (Nat.le_of_ble_eq_true rfl) rfl (fun _ => by simp) dX8_init_22 (fun a_n4 H hP hD hS => ?_)
  have hP : va_P D vwCl [oX8 a_h (.null) 64 0 0, aI Y a_n4 17 (fun _ => 0)] H := hP
  have hD : va_D A [oX8 a_h (.null) 64 0 0, aI Y a_n4 17 (fun _ => 0)] := hD
  refine W.widen (k := 1) (n := 17) (Nat.le_of_ble_eq_true rfl) (Nat.le_of_ble_eq_true rfl) ?_
  refine va_putF (D := D) (ci := 6) (v := .ref a_n4) (ty := .array .int) (C := RX8) (T := TX8) (N := 4) hx hb hts iX8_init_64_X8 tyX8 tyX8_ok nmX8 hown hK hP hD hS 0 rfl rfl 0 (by decide) (hts _ mX8_init_64_9) (fun _ h9 => h9) rfl hin rfl (by decide +kernel) rfl rfl (Nat.le_of_ble_eq_true rfl) dX8_init_24 (fun H locs hP hD hS => ?_)
  have hP : va_P D vwCl [oX8 a_h (.ref a_n4) 64 0 0, aI Y a_n4 17 (fun _ => 0)] H := hP
  have hD : va_D A [oX8 a_h (.ref a_n4) 64 0 0, aI Y a_n4 17 (fun _ => 0)] := hD
  have hP9 := hP.sub (ws' := [oX8 a_h (.ref a_n4) 64 0 0, aI Y a_n4 17 (fun _ => 0)]) [0, 1] rfl
  have hD9 := hD.sub (ws' := [oX8 a_h (.ref a_n4) 64 0 0, aI Y a_n4 17 (fun _ => 0)]) [0, 1] (by decide) rfl
  exact W.vret hx hb hr (fun t ht hW => ⟨⟨a_n4, rfl, trivial, by rw [ht]; exact hP9, va_K.moved hW.alike hK, hD9⟩, hS.F ht⟩) hS.2.2 dX8_init_27
theorem mX3_init_0 : Cond.methodLink RX3 1 objectInit ∈ wsX3_init := List.mem_cons_of_mem _ u_86
theorem mX3_init_1 : Cond.instanceMethod objectInit ∈ wsX3_init := List.mem_cons_of_mem _ u_11
theorem mX3_init_2 : Cond.code objectInit ⟨#[0xb1]⟩ 1 none ∈ wsX3_init := List.mem_cons_of_mem _ u_12
set_option maxHeartbeats 4000000 in
set_option maxRecDepth 100000 in
theorem kX3_init (l : Launch) (D : va_G) (Y : Y4) (a_h : Nat) (sz : Nat) : Met l yX3_init wsX3_init ({ frames := 1, cells := 0, slots := 0, locals := 20 }) (va_Pc [.ref a_h] (PRE D Y [(a_h, .inr (2, [.int 0, .int 0, .int 0, .int 0, .int 0]))] sz)) (va_Qv (fun _ : Unit => True) (fun u t => PST D Y (va_A [(a_h, .inr (2, [.int 0, .int 0, .int 0, .int 0, .int 0]))] sz) [oX3 a_h 0 0 0 0 0] t) (va_A [(a_h, .inr (2, [.int 0, .int 0, .int 0, .int 0, .int 0]))] sz)) 0 0 (va_A [(a_h, .inr (2, [.int 0, .int 0, .int 0, .int 0, .int 0]))] sz) := by
  refine Met.ofW (cc := cX3_init) (maxL := 1) (ret := none) (by decide) rfl ?_
  intro p e s m args below meth c s₁ B hml hv
  obtain ⟨rfl, rfl, hP, hK, hD0⟩ := hv
  have hx := B.exec
  have hb := B.bytes
  have hr := B.returns
  have hts := atoms_spec (ws := wsX3_init) B.pre
  have hown : s.vm.findClass RX3 = some m.cls := findClass_of_methodNamed B.named
  have hlocks := B.notSynchronized
  have hin : meth.name = "<init>" := (name_of_methodNamed B.named B.method).1
  have hD := hD0.self (sz := s.heap.size)
  generalize hAe : va_A [(a_h, .inr (2, [.int 0, .int 0, .int 0, .int 0, .int 0]))] s.heap.size = A at hD ⊢
  have hA : ∀ q : Nat, s.heap.size ≤ q → A q := fun q h => by rw [← hAe]; exact Or.inr h
  have hS : va_S A s.heap s.heap [] := va_S.rf
  have hl := lv_entry ([.ref a_h]) (n := 1) (Nat.le_of_ble_eq_true rfl)
  rw [lg_entry_eq]
  generalize (lg_sl ([.ref a_h]) ++ List.replicate (1 - (lg_sl ([.ref a_h])).length) Slot.unset).toArray = ls at hl ⊢
  have hl : lv_has ls 1 [(0, .ref a_h)] := hl
  refine lv_aload_n hx hb dX3_init_0 rfl (lv_at hl 0 rfl) ?_
  refine W.objInit hx hb hown (hts _ mX3_init_0) (hts _ mX3_init_1) (hts _ mX3_init_2) rfl (by rw [hml]; exact hl.1) rfl dX3_init_1 (Nat.le_of_ble_eq_true rfl) (Nat.le_of_ble_eq_true rfl) ?_
  refine W.eq (g2 := F0 m 4 ls []) rfl ?_
  have hP9 := hP.sub (ws' := [oX3 a_h 0 0 0 0 0]) [0] rfl
  have hD9 := hD.sub (ws' := [oX3 a_h 0 0 0 0 0]) [0] (by decide) rfl
  exact W.vret hx hb hr (fun t ht hW => ⟨⟨(), rfl, trivial, by rw [ht]; exact hP9, va_K.moved hW.alike hK, hD9⟩, hS.F ht⟩) hS.2.2 dX3_init_4
theorem mX4_init_0 : Cond.methodLink RX4 3 objectInit ∈ wsX4_init := List.mem_cons_of_mem _ u_55
theorem mX4_init_1 : Cond.instanceMethod objectInit ∈ wsX4_init := List.mem_cons_of_mem _ u_11
theorem mX4_init_2 : Cond.code objectInit ⟨#[0xb1]⟩ 1 none ∈ wsX4_init := List.mem_cons_of_mem _ u_12
theorem mX4_init_3 : Cond.classLink RX4 9 RX8 ∈ wsX4_init := List.mem_cons_of_mem _ u_56
theorem mX4_init_4 : Cond.instantiable RX8 4 ∈ wsX4_init := List.mem_cons_of_mem _ u_14
theorem mX4_init_5 : Cond.initialized RX8 ∈ wsX4_init := List.mem_cons_of_mem _ u_15
theorem mX4_init_6 : Cond.methodLink RX4 11 yX8_init ∈ wsX4_init := List.mem_cons_of_mem _ u_61
theorem mX4_init_7 : Cond.instanceMethod yX8_init ∈ wsX4_init := List.mem_cons_of_mem _ u_43
theorem mX4_init_8 : Cond.fieldLink RX4 14 "StreamRemuxer$PacketList" "bytes" "LStreamRemuxer$Row;" ∈ wsX4_init := List.mem_cons_of_mem _ u_57
theorem mX4_init_9 : Cond.arrayClass .int ∈ wsX4_init := List.mem_cons_of_mem _ u_51
theorem mX4_init_10 : Cond.fieldLink RX4 20 "StreamRemuxer$PacketList" "ends" "[I" ∈ wsX4_init := List.mem_cons_of_mem _ u_58
theorem mX4_init_11 : Cond.arrayClass .long ∈ wsX4_init := List.mem_cons_of_mem _ u_59
theorem mX4_init_12 : Cond.fieldLink RX4 24 "StreamRemuxer$PacketList" "times" "[J" ∈ wsX4_init := List.mem_cons_of_mem _ u_60
theorem iX4_init_X4 : ∀ w ∈ wsX40, w ∈ wsX4_init := fun w h => List.mem_cons_of_mem _ (inlX4 w h)
theorem iX4_init_X8 : ∀ w ∈ wsX80, w ∈ wsX4_init := fun w h => List.mem_cons_of_mem _ (inlX8 w h)
set_option maxHeartbeats 4000000 in
set_option maxRecDepth 100000 in
theorem kX4_init (l : Launch) (D : va_G) (Y : Y4) (a_h : Nat) (sz : Nat) : Met l yX4_init wsX4_init ({ frames := 2, cells := 4, slots := 733, locals := 45 }) (va_Pc [.ref a_h] (PRE D Y [(a_h, .inr (3, [.null, .null, .null, .int 0]))] sz)) (va_Qv (fun _ : Nat × Nat × Nat × Nat => True) (fun u t => PST D Y (va_A [(a_h, .inr (3, [.null, .null, .null, .int 0]))] sz) [oX4 a_h (.ref u.1) (.ref u.2.2.1) (.ref u.2.2.2) 0, oX8 u.1 (.ref u.2.1) 2400 0 0, aI Y u.2.1 601 (fun _ => 0), aI Y u.2.2.1 64 (fun _ => 0), aJ Y u.2.2.2 64 (fun _ => 0)] t) (va_A [(a_h, .inr (3, [.null, .null, .null, .int 0]))] sz)) 4 733 (va_A [(a_h, .inr (3, [.null, .null, .null, .int 0]))] sz) := by
  refine Met.ofW (cc := cX4_init) (maxL := 1) (ret := none) (by decide) rfl ?_
  intro p e s m args below meth c s₁ B hml hv
  obtain ⟨rfl, rfl, hP, hK, hD0⟩ := hv
  have hx := B.exec
  have hb := B.bytes
  have hr := B.returns
  have hts := atoms_spec (ws := wsX4_init) B.pre
  have hown : s.vm.findClass RX4 = some m.cls := findClass_of_methodNamed B.named
  have hlocks := B.notSynchronized
  have hin : meth.name = "<init>" := (name_of_methodNamed B.named B.method).1
  have hD := hD0.self (sz := s.heap.size)
  generalize hAe : va_A [(a_h, .inr (3, [.null, .null, .null, .int 0]))] s.heap.size = A at hD ⊢
  have hA : ∀ q : Nat, s.heap.size ≤ q → A q := fun q h => by rw [← hAe]; exact Or.inr h
  have hS : va_S A s.heap s.heap [] := va_S.rf
  have hl := lv_entry ([.ref a_h]) (n := 1) (Nat.le_of_ble_eq_true rfl)
  rw [lg_entry_eq]
  generalize (lg_sl ([.ref a_h]) ++ List.replicate (1 - (lg_sl ([.ref a_h])).length) Slot.unset).toArray = ls at hl ⊢
  have hl : lv_has ls 1 [(0, .ref a_h)] := hl
  refine lv_aload_n hx hb dX4_init_0 rfl (lv_at hl 0 rfl) ?_
  refine W.objInit hx hb hown (hts _ mX4_init_0) (hts _ mX4_init_1) (hts _ mX4_init_2) rfl (by rw [hml]; exact hl.1) rfl dX4_init_1 (Nat.le_of_ble_eq_true rfl) (Nat.le_of_ble_eq_true rfl) ?_
  refine W.eq (g2 := F0 m 4 ls []) rfl ?_
  refine lv_aload_n hx hb dX4_init_4 rfl (lv_at hl 0 rfl) ?_
  refine va_new (ci := 6) (fs := [.null, .int 0, .int 0, .int 0]) (C := RX8) (T := TX8) (N := 4) hx hb hts iX4_init_X8 tyX8 tyX8_ok hown (hts _ mX4_init_3) (hts _ mX4_init_4) (hts _ mX4_init_5) hK hP hD hS hA rfl (by decide +kernel) (Nat.le_of_ble_eq_true rfl) (Nat.le_of_ble_eq_true rfl) dX4_init_5 (fun a_n1 H hP hD hS => ?_)
  have hP : va_P D vwCl [oX4 a_h (.null) (.null) (.null) 0, oX8 a_n1 (.null) 0 0 0] H := hP
  have hD : va_D A [oX4 a_h (.null) (.null) (.null) 0, oX8 a_n1 (.null) 0 0 0] := hD
  refine W.widen (k := 1) (n := 4) (Nat.le_of_ble_eq_true rfl) (Nat.le_of_ble_eq_true rfl) ?_
  refine lv_dup hx hb dX4_init_8 rfl ?_
  refine lv_sipush (v := 2400) hx hb dX4_init_9 (by decide) ?_
  have hPc := hP.sub (ws' := [oX8 a_n1 (.null) 0 0 0]) [1] rfl
  have hDc := hD.sub (ws' := [oX8 a_n1 (.null) 0 0 0]) [1] (by decide) rfl
  have hFc := va_free (wc := [oX8 a_n1 (.null) 0 0 0]) hD hS hA [1] rfl
  refine va_callv (va_runI (As := [.int 2400]) (rest := [.ref a_n1, .ref a_h]) ⟨hx, hb, hml, hown, hts⟩ (kX8_init_2400 l D Y a_n1 H.size) (cwI 1 hts gX4_init_X8_init rfl rfl rfl (hts _ mX4_init_5) (hts _ mX4_init_6) (hts _ mX4_init_7) rfl (by decide +kernel) ⟨Nat.le_of_ble_eq_true rfl, Nat.le_of_ble_eq_true rfl⟩) (pres_0 hK hPc hDc) rfl rfl hl.1 rfl (lv_room (Nat.le_of_ble_eq_true rfl)) dX4_init_12 ⟨Nat.le_of_ble_eq_true rfl, Nat.le_of_ble_eq_true rfl⟩) hS (fun q _ h => hFc q h) hFc (fun a_n2 t H locs ht hvm hw hB hz1 hk1 hS => ?_)
  obtain ⟨hP1, hK1, hD1⟩ := hB
  rw [ht] at hP1
  obtain ⟨hP, hD⟩ := va_join (wr := [oX4 a_h (.null) (.null) (.null) 0]) (w1 := [oX8 a_n1 (.ref a_n2) 2400 0 0, aI Y a_n2 601 (fun _ => 0)]) hP hD [1] [0] rfl rfl (by decide) (by decide) hk1 hFc hP1 hD1
  have hP : va_P D vwCl [oX4 a_h (.null) (.null) (.null) 0, oX8 a_n1 (.ref a_n2) 2400 0 0, aI Y a_n2 601 (fun _ => 0)] H := hP
  have hD : va_D A [oX4 a_h (.null) (.null) (.null) 0, oX8 a_n1 (.ref a_n2) 2400 0 0, aI Y a_n2 601 (fun _ => 0)] := hD
  refine W.widen (k := 2) (n := 605) (Nat.le_of_ble_eq_true rfl) (Nat.le_of_ble_eq_true rfl) ?_
  refine va_putF (D := D) (ci := 3) (v := .ref a_n1) (ty := .object "StreamRemuxer$Row") (C := RX4) (T := TX4) (N := 4) hx hb hts iX4_init_X4 tyX4 tyX4_ok nmX4 hown hK hP hD hS 0 rfl rfl 0 (by decide) (hts _ mX4_init_8) (fun _ h9 => h9) rfl hin rfl (by decide +kernel) rfl rfl (Nat.le_of_ble_eq_true rfl) dX4_init_15 (fun H locs hP hD hS => ?_)
  have hP : va_P D vwCl [oX4 a_h (.ref a_n1) (.null) (.null) 0, oX8 a_n1 (.ref a_n2) 2400 0 0, aI Y a_n2 601 (fun _ => 0)] H := hP
  have hD : va_D A [oX4 a_h (.ref a_n1) (.null) (.null) 0, oX8 a_n1 (.ref a_n2) 2400 0 0, aI Y a_n2 601 (fun _ => 0)] := hD
  refine lv_aload_n hx hb dX4_init_18 rfl (lv_at hl 0 rfl) ?_
  refine lv_bipush (v := 64) hx hb dX4_init_19 (by decide) ?_
  refine xnewa 1 (a0 := (64, .inl (fun _ => 0))) hx hb (hts _ mX4_init_9) rfl hK hP hD hS hA (fun _ => rfl) (by decide) (by decide) (by decide) (Nat.le_of_ble_eq_true rfl) (Nat.le_of_ble_eq_true rfl) rfl (fun _ => by simp) dX4_init_21 (fun a_n3 H hP hD hS => ?_)
  have hP : va_P D vwCl [oX4 a_h (.ref a_n1) (.null) (.null) 0, oX8 a_n1 (.ref a_n2) 2400 0 0, aI Y a_n2 601 (fun _ => 0), aI Y a_n3 64 (fun _ => 0)] H := hP
  have hD : va_D A [oX4 a_h (.ref a_n1) (.null) (.null) 0, oX8 a_n1 (.ref a_n2) 2400 0 0, aI Y a_n2 601 (fun _ => 0), aI Y a_n3 64 (fun _ => 0)] := hD
  refine W.widen (k := 3) (n := 669) (Nat.le_of_ble_eq_true rfl) (Nat.le_of_ble_eq_true rfl) ?_
  refine va_putF (D := D) (ci := 3) (v := .ref a_n3) (ty := .array .int) (C := RX4) (T := TX4) (N := 4) hx hb hts iX4_init_X4 tyX4 tyX4_ok nmX4 hown hK hP hD hS 0 rfl rfl 1 (by decide) (hts _ mX4_init_10) (fun _ h9 => h9) rfl hin rfl (by decide +kernel) rfl rfl (Nat.le_of_ble_eq_true rfl) dX4_init_23 (fun H locs hP hD hS => ?_)
  have hP : va_P D vwCl [oX4 a_h (.ref a_n1) (.ref a_n3) (.null) 0, oX8 a_n1 (.ref a_n2) 2400 0 0, aI Y a_n2 601 (fun _ => 0), aI Y a_n3 64 (fun _ => 0)] H := hP
  have hD : va_D A [oX4 a_h (.ref a_n1) (.ref a_n3) (.null) 0, oX8 a_n1 (.ref a_n2) 2400 0 0, aI Y a_n2 601 (fun _ => 0), aI Y a_n3 64 (fun _ => 0)] := hD
  refine lv_aload_n hx hb dX4_init_26 rfl (lv_at hl 0 rfl) ?_
  refine lv_bipush (v := 64) hx hb dX4_init_27 (by decide) ?_
  refine xnewa 2 (a0 := (64, .inr (.inl (fun _ => 0)))) hx hb (hts _ mX4_init_11) rfl hK hP hD hS hA (fun _ => rfl) (by decide) (by decide) (by decide) (Nat.le_of_ble_eq_true rfl) (Nat.le_of_ble_eq_true rfl) rfl (fun _ => by simp) dX4_init_29 (fun a_n4 H hP hD hS => ?_)
  have hP : va_P D vwCl [oX4 a_h (.ref a_n1) (.ref a_n3) (.null) 0, oX8 a_n1 (.ref a_n2) 2400 0 0, aI Y a_n2 601 (fun _ => 0), aI Y a_n3 64 (fun _ => 0), aJ Y a_n4 64 (fun _ => 0)] H := hP
  have hD : va_D A [oX4 a_h (.ref a_n1) (.ref a_n3) (.null) 0, oX8 a_n1 (.ref a_n2) 2400 0 0, aI Y a_n2 601 (fun _ => 0), aI Y a_n3 64 (fun _ => 0), aJ Y a_n4 64 (fun _ => 0)] := hD
  refine W.widen (k := 4) (n := 733) (Nat.le_of_ble_eq_true rfl) (Nat.le_of_ble_eq_true rfl) ?_
  refine va_putF (D := D) (ci := 3) (v := .ref a_n4) (ty := .array .long) (C := RX4) (T := TX4) (N := 4) hx hb hts iX4_init_X4 tyX4 tyX4_ok nmX4 hown hK hP hD hS 0 rfl rfl 2 (by decide) (hts _ mX4_init_12) (fun _ h9 => h9) rfl hin rfl (by decide +kernel) rfl rfl (Nat.le_of_ble_eq_true rfl) dX4_init_31 (fun H locs hP hD hS => ?_)
  have hP : va_P D vwCl [oX4 a_h (.ref a_n1) (.ref a_n3) (.ref a_n4) 0, oX8 a_n1 (.ref a_n2) 2400 0 0, aI Y a_n2 601 (fun _ => 0), aI Y a_n3 64 (fun _ => 0), aJ Y a_n4 64 (fun _ => 0)] H := hP
  have hD : va_D A [oX4 a_h (.ref a_n1) (.ref a_n3) (.ref a_n4) 0, oX8 a_n1 (.ref a_n2) 2400 0 0, aI Y a_n2 601 (fun _ => 0), aI Y a_n3 64 (fun _ => 0), aJ Y a_n4 64 (fun _ => 0)] := hD
  have hP9 := hP.sub (ws' := [oX4 a_h (.ref a_n1) (.ref a_n3) (.ref a_n4) 0, oX8 a_n1 (.ref a_n2) 2400 0 0, aI Y a_n2 601 (fun _ => 0), aI Y a_n3 64 (fun _ => 0), aJ Y a_n4 64 (fun _ => 0)]) [0, 1, 2, 3, 4] rfl
  have hD9 := hD.sub (ws' := [oX4 a_h (.ref a_n1) (.ref a_n3) (.ref a_n4) 0, oX8 a_n1 (.ref a_n2) 2400 0 0, aI Y a_n2 601 (fun _ => 0), aI Y a_n3 64 (fun _ => 0), aJ Y a_n4 64 (fun _ => 0)]) [0, 1, 2, 3, 4] (by decide) rfl
  exact W.vret hx hb hr (fun t ht hW => ⟨⟨(a_n1, a_n2, a_n3, a_n4), rfl, trivial, by rw [ht]; exact hP9, va_K.moved hW.alike hK, hD9⟩, hS.F ht⟩) hS.2.2 dX4_init_34
theorem mX7_init_0 : Cond.methodLink RX7 3 objectInit ∈ wsX7_init := List.mem_cons_of_mem _ u_64
theorem mX7_init_1 : Cond.instanceMethod objectInit ∈ wsX7_init := List.mem_cons_of_mem _ u_11
theorem mX7_init_2 : Cond.code objectInit ⟨#[0xb1]⟩ 1 none ∈ wsX7_init := List.mem_cons_of_mem _ u_12
theorem mX7_init_3 : Cond.arrayClass .int ∈ wsX7_init := List.mem_cons_of_mem _ u_51
theorem mX7_init_4 : Cond.fieldLink RX7 11 "StreamRemuxer$PageWriter" "segmentSizes" "[I" ∈ wsX7_init := List.mem_cons_of_mem _ u_65
theorem iX7_init_X7 : ∀ w ∈ wsX70, w ∈ wsX7_init := fun w h => List.mem_cons_of_mem _ (inlX7 w h)
set_option maxHeartbeats 4000000 in
set_option maxRecDepth 100000 in
theorem kX7_init (l : Launch) (D : va_G) (Y : Y4) (a_h : Nat) (sz : Nat) : Met l yX7_init wsX7_init ({ frames := 1, cells := 1, slots := 255, locals := 20 }) (va_Pc [.ref a_h] (PRE D Y [(a_h, .inr (5, [.null, .null, .null, .int 0, .int 0, .int 0, .int 0, .int 0, .int 0, .int 0]))] sz)) (va_Qv (fun _ : Nat => True) (fun u t => PST D Y (va_A [(a_h, .inr (5, [.null, .null, .null, .int 0, .int 0, .int 0, .int 0, .int 0, .int 0, .int 0]))] sz) [oX7 a_h (.ref u) (.null) (.null) 0 0 0 0 0 0 0, aI Y u 255 (fun _ => 0)] t) (va_A [(a_h, .inr (5, [.null, .null, .null, .int 0, .int 0, .int 0, .int 0, .int 0, .int 0, .int 0]))] sz)) 1 255 (va_A [(a_h, .inr (5, [.null, .null, .null, .int 0, .int 0, .int 0, .int 0, .int 0, .int 0, .int 0]))] sz) := by
  refine Met.ofW (cc := cX7_init) (maxL := 1) (ret := none) (by decide) rfl ?_
  intro p e s m args below meth c s₁ B hml hv
  obtain ⟨rfl, rfl, hP, hK, hD0⟩ := hv
  have hx := B.exec
  have hb := B.bytes
  have hr := B.returns
  have hts := atoms_spec (ws := wsX7_init) B.pre
  have hown : s.vm.findClass RX7 = some m.cls := findClass_of_methodNamed B.named
  have hlocks := B.notSynchronized
  have hin : meth.name = "<init>" := (name_of_methodNamed B.named B.method).1
  have hD := hD0.self (sz := s.heap.size)
  generalize hAe : va_A [(a_h, .inr (5, [.null, .null, .null, .int 0, .int 0, .int 0, .int 0, .int 0, .int 0, .int 0]))] s.heap.size = A at hD ⊢
  have hA : ∀ q : Nat, s.heap.size ≤ q → A q := fun q h => by rw [← hAe]; exact Or.inr h
  have hS : va_S A s.heap s.heap [] := va_S.rf
  have hl := lv_entry ([.ref a_h]) (n := 1) (Nat.le_of_ble_eq_true rfl)
  rw [lg_entry_eq]
  generalize (lg_sl ([.ref a_h]) ++ List.replicate (1 - (lg_sl ([.ref a_h])).length) Slot.unset).toArray = ls at hl ⊢
  have hl : lv_has ls 1 [(0, .ref a_h)] := hl
  refine lv_aload_n hx hb dX7_init_0 rfl (lv_at hl 0 rfl) ?_
  refine W.objInit hx hb hown (hts _ mX7_init_0) (hts _ mX7_init_1) (hts _ mX7_init_2) rfl (by rw [hml]; exact hl.1) rfl dX7_init_1 (Nat.le_of_ble_eq_true rfl) (Nat.le_of_ble_eq_true rfl) ?_
  refine W.eq (g2 := F0 m 4 ls []) rfl ?_
  refine lv_aload_n hx hb dX7_init_4 rfl (lv_at hl 0 rfl) ?_
  refine lv_sipush (v := 255) hx hb dX7_init_5 (by decide) ?_
  refine xnewa 1 (a0 := (255, .inl (fun _ => 0))) hx hb (hts _ mX7_init_3) rfl hK hP hD hS hA (fun _ => rfl) (by decide) (by decide) (by decide) (Nat.le_of_ble_eq_true rfl) (Nat.le_of_ble_eq_true rfl) rfl (fun _ => by simp) dX7_init_8 (fun a_n1 H hP hD hS => ?_)
  have hP : va_P D vwCl [oX7 a_h (.null) (.null) (.null) 0 0 0 0 0 0 0, aI Y a_n1 255 (fun _ => 0)] H := hP
  have hD : va_D A [oX7 a_h (.null) (.null) (.null) 0 0 0 0 0 0 0, aI Y a_n1 255 (fun _ => 0)] := hD
  refine W.widen (k := 1) (n := 255) (Nat.le_of_ble_eq_true rfl) (Nat.le_of_ble_eq_true rfl) ?_
  refine va_putF (D := D) (ci := 5) (v := .ref a_n1) (ty := .array .int) (C := RX7) (T := TX7) (N := 10) hx hb hts iX7_init_X7 tyX7 tyX7_ok nmX7 hown hK hP hD hS 0 rfl rfl 0 (by decide) (hts _ mX7_init_4) (fun _ h9 => h9) rfl hin rfl (by decide +kernel) rfl rfl (Nat.le_of_ble_eq_true rfl) dX7_init_10 (fun H locs hP hD hS => ?_)
  have hP : va_P D vwCl [oX7 a_h (.ref a_n1) (.null) (.null) 0 0 0 0 0 0 0, aI Y a_n1 255 (fun _ => 0)] H := hP
  have hD : va_D A [oX7 a_h (.ref a_n1) (.null) (.null) 0 0 0 0 0 0 0, aI Y a_n1 255 (fun _ => 0)] := hD
  have hP9 := hP.sub (ws' := [oX7 a_h (.ref a_n1) (.null) (.null) 0 0 0 0 0 0 0, aI Y a_n1 255 (fun _ => 0)]) [0, 1] rfl
  have hD9 := hD.sub (ws' := [oX7 a_h (.ref a_n1) (.null) (.null) 0 0 0 0 0 0 0, aI Y a_n1 255 (fun _ => 0)]) [0, 1] (by decide) rfl
  exact W.vret hx hb hr (fun t ht hW => ⟨⟨a_n1, rfl, trivial, by rw [ht]; exact hP9, va_K.moved hW.alike hK, hD9⟩, hS.F ht⟩) hS.2.2 dX7_init_13
theorem mX6_init_0 : Cond.methodLink RX6 3 objectInit ∈ wsX6_init := List.mem_cons_of_mem _ u_68
theorem mX6_init_1 : Cond.instanceMethod objectInit ∈ wsX6_init := List.mem_cons_of_mem _ u_11
theorem mX6_init_2 : Cond.code objectInit ⟨#[0xb1]⟩ 1 none ∈ wsX6_init := List.mem_cons_of_mem _ u_12
set_option maxHeartbeats 4000000 in
set_option maxRecDepth 100000 in
theorem kX6_init (l : Launch) (D : va_G) (Y : Y4) (a_h : Nat) (sz : Nat) : Met l yX6_init wsX6_init ({ frames := 1, cells := 0, slots := 0, locals := 20 }) (va_Pc [.ref a_h] (PRE D Y [(a_h, .inr (4, [.int 0, .int 0, .int 0, .null, .int 0, .null, .int 0, .int 0, .int 0, .long 0]))] sz)) (va_Qv (fun _ : Unit => True) (fun u t => PST D Y (va_A [(a_h, .inr (4, [.int 0, .int 0, .int 0, .null, .int 0, .null, .int 0, .int 0, .int 0, .long 0]))] sz) [oX6 a_h 0 0 0 (.null) 0 (.null) 0 0 0 0] t) (va_A [(a_h, .inr (4, [.int 0, .int 0, .int 0, .null, .int 0, .null, .int 0, .int 0, .int 0, .long 0]))] sz)) 0 0 (va_A [(a_h, .inr (4, [.int 0, .int 0, .int 0, .null, .int 0, .null, .int 0, .int 0, .int 0, .long 0]))] sz) := by
  refine Met.ofW (cc := cX6_init) (maxL := 1) (ret := none) (by decide) rfl ?_
  intro p e s m args below meth c s₁ B hml hv
  obtain ⟨rfl, rfl, hP, hK, hD0⟩ := hv
  have hx := B.exec
  have hb := B.bytes
  have hr := B.returns
  have hts := atoms_spec (ws := wsX6_init) B.pre
  have hown : s.vm.findClass RX6 = some m.cls := findClass_of_methodNamed B.named
  have hlocks := B.notSynchronized
  have hin : meth.name = "<init>" := (name_of_methodNamed B.named B.method).1
  have hD := hD0.self (sz := s.heap.size)
  generalize hAe : va_A [(a_h, .inr (4, [.int 0, .int 0, .int 0, .null, .int 0, .null, .int 0, .int 0, .int 0, .long 0]))] s.heap.size = A at hD ⊢
  have hA : ∀ q : Nat, s.heap.size ≤ q → A q := fun q h => by rw [← hAe]; exact Or.inr h
  have hS : va_S A s.heap s.heap [] := va_S.rf
  have hl := lv_entry ([.ref a_h]) (n := 1) (Nat.le_of_ble_eq_true rfl)
  rw [lg_entry_eq]
  generalize (lg_sl ([.ref a_h]) ++ List.replicate (1 - (lg_sl ([.ref a_h])).length) Slot.unset).toArray = ls at hl ⊢
  have hl : lv_has ls 1 [(0, .ref a_h)] := hl
  refine lv_aload_n hx hb dX6_init_0 rfl (lv_at hl 0 rfl) ?_
  refine W.objInit hx hb hown (hts _ mX6_init_0) (hts _ mX6_init_1) (hts _ mX6_init_2) rfl (by rw [hml]; exact hl.1) rfl dX6_init_1 (Nat.le_of_ble_eq_true rfl) (Nat.le_of_ble_eq_true rfl) ?_
  refine W.eq (g2 := F0 m 4 ls []) rfl ?_
  have hP9 := hP.sub (ws' := [oX6 a_h 0 0 0 (.null) 0 (.null) 0 0 0 0]) [0] rfl
  have hD9 := hD.sub (ws' := [oX6 a_h 0 0 0 (.null) 0 (.null) 0 0 0 0]) [0] (by decide) rfl
  exact W.vret hx hb hr (fun t ht hW => ⟨⟨(), rfl, trivial, by rw [ht]; exact hP9, va_K.moved hW.alike hK, hD9⟩, hS.F ht⟩) hS.2.2 dX6_init_4
theorem mX2_init_0 : Cond.methodLink RX2 3 objectInit ∈ wsX2_init := List.mem_cons_of_mem _ u_71
theorem mX2_init_1 : Cond.instanceMethod objectInit ∈ wsX2_init := List.mem_cons_of_mem _ u_11
theorem mX2_init_2 : Cond.code objectInit ⟨#[0xb1]⟩ 1 none ∈ wsX2_init := List.mem_cons_of_mem _ u_12
theorem mX2_init_3 : Cond.classLink RX2 9 RX8 ∈ wsX2_init := List.mem_cons_of_mem _ u_72
theorem mX2_init_4 : Cond.instantiable RX8 4 ∈ wsX2_init := List.mem_cons_of_mem _ u_14
theorem mX2_init_5 : Cond.initialized RX8 ∈ wsX2_init := List.mem_cons_of_mem _ u_15
theorem mX2_init_6 : Cond.methodLink RX2 13 yX8_init ∈ wsX2_init := List.mem_cons_of_mem _ u_74
theorem mX2_init_7 : Cond.instanceMethod yX8_init ∈ wsX2_init := List.mem_cons_of_mem _ u_43
theorem mX2_init_8 : Cond.fieldLink RX2 16 "StreamRemuxer$ElementWriter" "blockHeader" "LStreamRemuxer$Row;" ∈ wsX2_init := List.mem_cons_of_mem _ u_73
theorem iX2_init_X2 : ∀ w ∈ wsX20, w ∈ wsX2_init := fun w h => List.mem_cons_of_mem _ (inlX2 w h)
theorem iX2_init_X8 : ∀ w ∈ wsX80, w ∈ wsX2_init := fun w h => List.mem_cons_of_mem _ (inlX8 w h)
set_option maxHeartbeats 4000000 in
set_option maxRecDepth 100000 in
theorem kX2_init (l : Launch) (D : va_G) (Y : Y4) (a_h : Nat) (sz : Nat) : Met l yX2_init wsX2_init ({ frames := 2, cells := 2, slots := 21, locals := 45 }) (va_Pc [.ref a_h] (PRE D Y [(a_h, .inr (1, [.null, .null, .null, .int 0, .int 0, .int 0]))] sz)) (va_Qv (fun _ : Nat × Nat => True) (fun u t => PST D Y (va_A [(a_h, .inr (1, [.null, .null, .null, .int 0, .int 0, .int 0]))] sz) [oX2 a_h (.ref u.1) (.null) (.null) 0 0 0, oX8 u.1 (.ref u.2) 64 0 0, aI Y u.2 17 (fun _ => 0)] t) (va_A [(a_h, .inr (1, [.null, .null, .null, .int 0, .int 0, .int 0]))] sz)) 2 21 (va_A [(a_h, .inr (1, [.null, .null, .null, .int 0, .int 0, .int 0]))] sz) := by
  refine Met.ofW (cc := cX2_init) (maxL := 1) (ret := none) (by decide) rfl ?_
  intro p e s m args below meth c s₁ B hml hv
  obtain ⟨rfl, rfl, hP, hK, hD0⟩ := hv
  have hx := B.exec
  have hb := B.bytes
  have hr := B.returns
  have hts := atoms_spec (ws := wsX2_init) B.pre
  have hown : s.vm.findClass RX2 = some m.cls := findClass_of_methodNamed B.named
  have hlocks := B.notSynchronized
  have hin : meth.name = "<init>" := (name_of_methodNamed B.named B.method).1
  have hD := hD0.self (sz := s.heap.size)
  generalize hAe : va_A [(a_h, .inr (1, [.null, .null, .null, .int 0, .int 0, .int 0]))] s.heap.size = A at hD ⊢
  have hA : ∀ q : Nat, s.heap.size ≤ q → A q := fun q h => by rw [← hAe]; exact Or.inr h
  have hS : va_S A s.heap s.heap [] := va_S.rf
  have hl := lv_entry ([.ref a_h]) (n := 1) (Nat.le_of_ble_eq_true rfl)
  rw [lg_entry_eq]
  generalize (lg_sl ([.ref a_h]) ++ List.replicate (1 - (lg_sl ([.ref a_h])).length) Slot.unset).toArray = ls at hl ⊢
  have hl : lv_has ls 1 [(0, .ref a_h)] := hl
  refine lv_aload_n hx hb dX2_init_0 rfl (lv_at hl 0 rfl) ?_
  refine W.objInit hx hb hown (hts _ mX2_init_0) (hts _ mX2_init_1) (hts _ mX2_init_2) rfl (by rw [hml]; exact hl.1) rfl dX2_init_1 (Nat.le_of_ble_eq_true rfl) (Nat.le_of_ble_eq_true rfl) ?_
  refine W.eq (g2 := F0 m 4 ls []) rfl ?_
  refine lv_aload_n hx hb dX2_init_4 rfl (lv_at hl 0 rfl) ?_
  refine va_new (ci := 6) (fs := [.null, .int 0, .int 0, .int 0]) (C := RX8) (T := TX8) (N := 4) hx hb hts iX2_init_X8 tyX8 tyX8_ok hown (hts _ mX2_init_3) (hts _ mX2_init_4) (hts _ mX2_init_5) hK hP hD hS hA rfl (by decide +kernel) (Nat.le_of_ble_eq_true rfl) (Nat.le_of_ble_eq_true rfl) dX2_init_5 (fun a_n1 H hP hD hS => ?_)
  have hP : va_P D vwCl [oX2 a_h (.null) (.null) (.null) 0 0 0, oX8 a_n1 (.null) 0 0 0] H := hP
  have hD : va_D A [oX2 a_h (.null) (.null) (.null) 0 0 0, oX8 a_n1 (.null) 0 0 0] := hD
  refine W.widen (k := 1) (n := 4) (Nat.le_of_ble_eq_true rfl) (Nat.le_of_ble_eq_true rfl) ?_
  refine lv_dup hx hb dX2_init_8 rfl ?_
  refine lv_bipush (v := 64) hx hb dX2_init_9 (by decide) ?_
  have hPc := hP.sub (ws' := [oX8 a_n1 (.null) 0 0 0]) [1] rfl
  have hDc := hD.sub (ws' := [oX8 a_n1 (.null) 0 0 0]) [1] (by decide) rfl
  have hFc := va_free (wc := [oX8 a_n1 (.null) 0 0 0]) hD hS hA [1] rfl
  refine va_callv (va_runI (As := [.int 64]) (rest := [.ref a_n1, .ref a_h]) ⟨hx, hb, hml, hown, hts⟩ (kX8_init_64 l D Y a_n1 H.size) (cwI 1 hts gX2_init_X8_init rfl rfl rfl (hts _ mX2_init_5) (hts _ mX2_init_6) (hts _ mX2_init_7) rfl (by decide +kernel) ⟨Nat.le_of_ble_eq_true rfl, Nat.le_of_ble_eq_true rfl⟩) (pres_0 hK hPc hDc) rfl rfl hl.1 rfl (lv_room (Nat.le_of_ble_eq_true rfl)) dX2_init_11 ⟨Nat.le_of_ble_eq_true rfl, Nat.le_of_ble_eq_true rfl⟩) hS (fun q _ h => hFc q h) hFc (fun a_n2 t H locs ht hvm hw hB hz1 hk1 hS => ?_)
  obtain ⟨hP1, hK1, hD1⟩ := hB
  rw [ht] at hP1
  obtain ⟨hP, hD⟩ := va_join (wr := [oX2 a_h (.null) (.null) (.null) 0 0 0]) (w1 := [oX8 a_n1 (.ref a_n2) 64 0 0, aI Y a_n2 17 (fun _ => 0)]) hP hD [1] [0] rfl rfl (by decide) (by decide) hk1 hFc hP1 hD1
  have hP : va_P D vwCl [oX2 a_h (.null) (.null) (.null) 0 0 0, oX8 a_n1 (.ref a_n2) 64 0 0, aI Y a_n2 17 (fun _ => 0)] H := hP
  have hD : va_D A [oX2 a_h (.null) (.null) (.null) 0 0 0, oX8 a_n1 (.ref a_n2) 64 0 0, aI Y a_n2 17 (fun _ => 0)] := hD
  refine W.widen (k := 2) (n := 21) (Nat.le_of_ble_eq_true rfl) (Nat.le_of_ble_eq_true rfl) ?_
  refine va_putF (D := D) (ci := 1) (v := .ref a_n1) (ty := .object "StreamRemuxer$Row") (C := RX2) (T := TX2) (N := 6) hx hb hts iX2_init_X2 tyX2 tyX2_ok nmX2 hown hK hP hD hS 0 rfl rfl 0 (by decide) (hts _ mX2_init_8) (fun _ h9 => h9) rfl hin rfl (by decide +kernel) rfl rfl (Nat.le_of_ble_eq_true rfl) dX2_init_14 (fun H locs hP hD hS => ?_)
  have hP : va_P D vwCl [oX2 a_h (.ref a_n1) (.null) (.null) 0 0 0, oX8 a_n1 (.ref a_n2) 64 0 0, aI Y a_n2 17 (fun _ => 0)] H := hP
  have hD : va_D A [oX2 a_h (.ref a_n1) (.null) (.null) 0 0 0, oX8 a_n1 (.ref a_n2) 64 0 0, aI Y a_n2 17 (fun _ => 0)] := hD
  have hP9 := hP.sub (ws' := [oX2 a_h (.ref a_n1) (.null) (.null) 0 0 0, oX8 a_n1 (.ref a_n2) 64 0 0, aI Y a_n2 17 (fun _ => 0)]) [0, 1, 2] rfl
  have hD9 := hD.sub (ws' := [oX2 a_h (.ref a_n1) (.null) (.null) 0 0 0, oX8 a_n1 (.ref a_n2) 64 0 0, aI Y a_n2 17 (fun _ => 0)]) [0, 1, 2] (by decide) rfl
  exact W.vret hx hb hr (fun t ht hW => ⟨⟨(a_n1, a_n2), rfl, trivial, by rw [ht]; exact hP9, va_K.moved hW.alike hK, hD9⟩, hS.F ht⟩) hS.2.2 dX2_init_17
