-- lacing: the loops; what comes out on both sides
def lcs (l : Nat) (B : Nat → Nat) (e : Nat) : Nat → Nat → Nat → (Nat → Nat) → Option (Nat × (Nat → Nat))
  | 0, _, a, s => some (a, s)
  | m + 1, i, a, s => (rdx l B e i a s).bind fun y => lcs l B e m (i + 1) y.2 (fun j => if j = i then y.1 else s j)
theorem lcs_ext {l : Nat} {B : Nat → Nat} (hB : ∀ k, B k < 256) {e : Nat} (he : e ≤ 6000) : ∀ (m i a : Nat) (s : Nat → Nat) (a' : Nat) (s' : Nat → Nat), lcs l B e m i a s = some (a', s') → a ≤ a' ∧ (a ≤ e → a' ≤ e) ∧ (∀ j, j < i → s' j = s j) ∧ ∀ j, i ≤ j → j < i + m → s' j ≤ 2000000 := by
  intro m
  induction m with
  | zero =>
    intro i a s a' s' h
    have h2 := Option.some.inj h
    have h3 : a = a' := congrArg Prod.fst h2
    have h4 : s = s' := congrArg Prod.snd h2
    subst h3 h4
    exact ⟨Nat.le_refl _, fun h => h, fun j _ => rfl, fun j h1 h2 => by omega⟩
  | succ m ih =>
    intro i a s a' s' h
    rw [lcs] at h
    cases hR : rdx l B e i a s with
    | none => rw [hR] at h; cases h
    | some y =>
      rw [hR, Option.bind_some] at h
      obtain ⟨x, b⟩ := y
      obtain ⟨p1, p2, p3⟩ := rdx_props hB he hR
      obtain ⟨q1, q2, q3, q4⟩ := ih (i + 1) b _ a' s' h
      dsimp only at q3
      refine ⟨by omega, fun _ => q2 p2, fun j hj => by rw [q3 j (by omega), if_neg (by omega)], fun j h1 h2 => ?_⟩
      rcases Nat.lt_or_ge i j with c | c
      · exact q4 j (by omega) (by omega)
      · have hji : j = i := by omega
        rw [q3 j (by omega), if_pos hji]
        exact p3
theorem psum_mem {s : Nat → Nat} {j : Nat} : ∀ {n : Nat}, j < n → s j ≤ psum s n := by
  intro n
  induction n with
  | zero => intro h; omega
  | succ n ih =>
    intro h
    have e : psum s (n + 1) = psum s n + s n := rfl
    rcases Nat.lt_or_ge j n with c | c
    · have := ih c; omega
    · rw [show j = n by omega]; omega
theorem psum_bd {s : Nat → Nat} {b : Nat} : ∀ {n : Nat}, (∀ j, j < n → s j ≤ b) → psum s n ≤ n * b := by
  intro n
  induction n with
  | zero => intro _; show (0 : Nat) ≤ _; omega
  | succ n ih =>
    intro h
    have e : psum s (n + 1) = psum s n + s n := rfl
    have h1 := ih (fun j hj => h j (by omega))
    have h2 := h n (by omega)
    rw [e, Nat.succ_mul]
    omega
theorem lr_loop {T e cnt l : Nat} {mt : Nat → Int32} {B : Nat → Nat} (hB : ∀ k, B k < 256) (hm : ∀ k, k < T → mt k &&& 255 = nI (B k)) (hT : T ≤ 6000) (he : e ≤ T) (hc : cnt ≤ 256) (hl : l = 1 ∨ l = 3) : ∀ (m n i a : Nat) (s : Nat → Nat) (z : Nat → Int32), i + m + 1 = cnt → m < n → a ≤ e → (∀ j, j < i → z j = nI (s j) ∧ s j ≤ 2000000) → (lcs l B e m i a s = none → ∃ z', fX10_laced_b59 Fu (nI e) mt (nI cnt) (nI l) n (nI i) (nI a) z = some (-1, z')) ∧ (∀ a' s', lcs l B e m i a s = some (a', s') → ∃ z', fX10_laced_b59 Fu (nI e) mt (nI cnt) (nI l) n (nI i) (nI a) z = some (nI a', z') ∧ ∀ j, j < i + m → z' j = nI (s' j)) := by
  intro m
  induction m with
  | zero =>
    intro n i a s z h1 h2 h3 hs
    obtain ⟨n', rfl⟩ : ∃ n', n = n' + 1 := ⟨n - 1, by omega⟩
    have hpr : nI cnt - 1 = nI (cnt - 1) := by rw [i1, pk_sub (by omega)]
    rw [fX10_laced_b59, hpr, if_pos (nI_le (by omega) (by omega)), lcs]
    refine ⟨(fun h => by cases h), fun a' s' h => ?_⟩
    have h2' := Option.some.inj h
    have h3' : a = a' := congrArg Prod.fst h2'
    have h4' : s = s' := congrArg Prod.snd h2'
    subst h3' h4'
    exact ⟨z, rfl, fun j hj => (hs j (by omega)).1⟩
  | succ m ih =>
    intro n i a s z h1 h2 h3 hs
    obtain ⟨n', rfl⟩ : ∃ n', n = n' + 1 := ⟨n - 1, by omega⟩
    have hpr : nI cnt - 1 = nI (cnt - 1) := by rw [i1, pk_sub (by omega)]
    rw [fX10_laced_b59, hpr, if_neg (nI_ge (by omega) (by omega)), lcs]
    have hstep : (rdx l B e i a s = none → (if nI l = 1 then (fX10_laced_b75 Fu (nI e) mt (fX10_laced_b59 Fu (nI e) mt (nI cnt) (nI l) n') Fu 0 (nI a) (nI i) z) else (if nI e ≤ nI a then (fX10_laced_b164 Fu (nI e) mt (fX10_laced_b59 Fu (nI e) mt (nI cnt) (nI l) n') (nI a) (nI i) 9 z) else ((fX10_at Fu mt (nI a)).bind fun o4 => (fX10_lengthBy Fu o4).bind fun o5 => fX10_laced_b164 Fu (nI e) mt (fX10_laced_b59 Fu (nI e) mt (nI cnt) (nI l) n') (nI a) (nI i) o5 z))) = some (-1, z)) ∧ (∀ x a', rdx l B e i a s = some (x, a') → (if nI l = 1 then (fX10_laced_b75 Fu (nI e) mt (fX10_laced_b59 Fu (nI e) mt (nI cnt) (nI l) n') Fu 0 (nI a) (nI i) z) else (if nI e ≤ nI a then (fX10_laced_b164 Fu (nI e) mt (fX10_laced_b59 Fu (nI e) mt (nI cnt) (nI l) n') (nI a) (nI i) 9 z) else ((fX10_at Fu mt (nI a)).bind fun o4 => (fX10_lengthBy Fu o4).bind fun o5 => fX10_laced_b164 Fu (nI e) mt (fX10_laced_b59 Fu (nI e) mt (nI cnt) (nI l) n') (nI a) (nI i) o5 z))) = fX10_laced_b59 Fu (nI e) mt (nI cnt) (nI l) n' (nI (i + 1)) (nI a') (upd z i (nI x))) := by
      unfold rdx
      rcases hl with hl1 | hl3
      · rw [if_pos hl1, if_pos (show nI l = 1 by rw [hl1]; rfl)]
        rcases sm_r Fu hB hm hT he (i := i) (by omega) (fX10_laced_b59 Fu (nI e) mt (nI cnt) (nI l) n') z (e + 1 - a) Fu a 0 (by omega) (by unfold Fu; omega) with h | h
        · exact h
        · omega
      · rw [if_neg (by omega), if_neg (show ¬ nI l = 1 by rw [hl3]; decide)]
        exact step3_r hB hm hT he (by omega) (by omega) hs (fX10_laced_b59 Fu (nI e) mt (nI cnt) (nI l) n')
    obtain ⟨g1, g2⟩ := hstep
    cases hR : rdx l B e i a s with
    | none =>
      rw [Option.bind_none]
      exact ⟨fun _ => ⟨z, g1 hR⟩, fun a' s' h => by cases h⟩
    | some y =>
      obtain ⟨x, b⟩ := y
      obtain ⟨p1, p2, p3⟩ := rdx_props hB (by omega) hR
      rw [g2 x b hR, Option.bind_some]
      have h := ih n' (i + 1) b (fun j => if j = i then x else s j) (upd z i (nI x)) (by omega) (by omega) p2 (fun j hj => by
        rw [upd_app]
        by_cases c : j = i
        · rw [if_pos c, if_pos c]; exact ⟨rfl, p3⟩
        · rw [if_neg c, if_neg c]; exact hs j (by omega))
      rw [show i + (m + 1) = i + 1 + m by omega]
      exact h
theorem b117_neg (F : Nat) (p2 p3 : Int32) (rc : Int32 → Int64 → Int32 → Int32 → (Nat → Int32) → Option (Int32 × Int32 × (Nat → Int32))) (cnt : Int32) (t : Int64) (i la : Int32) (hz : Nat → Int32) : fX1_readLacing_b117 F p2 p3 rc cnt t i (-1) la hz = some (-1, la, hz) := by
  unfold fX1_readLacing_b117
  rw [if_pos (by decide)]
theorem b117_pos (F : Nat) {e p i x tot : Nat} (hpe : p ≤ e) (he : e ≤ 6000) (hi : i < 256) (hx : x < 2 ^ 62) (rc : Int32 → Int64 → Int32 → Int32 → (Nat → Int32) → Option (Int32 × Int32 × (Nat → Int32))) (cnt la : Int32) (hz : Nat → Int32) : fX1_readLacing_b117 F (nI p) (nI e) rc cnt (lN tot) (nI i) (lN x) la hz = if x ≤ e - p then rc (nI (i + 1)) (lN (tot + x)) cnt la (upd hz i (nI x)) else some (-1, la, hz) := by
  unfold fX1_readLacing_b117
  have h0 : (0 : Int64) = lN 0 := rfl
  rw [h0, if_neg (by rw [pk_lLT (by omega) (by omega)]; omega), pk_sub hpe, nI_l (by omega)]
  by_cases c : x ≤ e - p
  · rw [if_pos c, if_pos (by rw [pk_lLE (by omega) (by omega)]; exact c), if_pos (gin_nI (by omega) (by omega)), nm_eq, nm_eq, nm_eq, nI_clamp (by omega), lN_i, lN_add, nI_1]
  · rw [if_neg c, if_neg (by rw [pk_lLE (by omega) (by omega)]; exact c)]
theorem lc_loop {T e p cnt l : Nat} {fw : Nat → Int32} (hT : T ≤ 6000) (he : e ≤ T) (hpe : p ≤ e) (hc : cnt ≤ 256) (hl : l = 1 ∨ l = 3) : ∀ (m n i a : Nat) (s : Nat → Nat) (hz : Nat → Int32), i + m + 1 = cnt → m < n → a ≤ e → p ≤ a → (∀ j, j < i → hz j = nI (s j) ∧ s j ≤ 2000000) → (lcs l (bw fw) e m i a s = none → ∃ la z, fX1_readLacing_b88 Fu (nI T) 1501 fw (nI l) (nI p) (nI e) n (nI i) (lN (psum s i)) (nI cnt) (nI a) hz = some (-1, la, z)) ∧ (∀ a' s', lcs l (bw fw) e m i a s = some (a', s') → (¬ psum s' (cnt - 1) ≤ e - a' → ∃ la z, fX1_readLacing_b88 Fu (nI T) 1501 fw (nI l) (nI p) (nI e) n (nI i) (lN (psum s i)) (nI cnt) (nI a) hz = some (-1, la, z)) ∧ (psum s' (cnt - 1) ≤ e - a' → ∃ z, fX1_readLacing_b88 Fu (nI T) 1501 fw (nI l) (nI p) (nI e) n (nI i) (lN (psum s i)) (nI cnt) (nI a) hz = some (nI cnt, nI a', z) ∧ (∀ j, j < cnt - 1 → z j = nI (s' j)) ∧ z (cnt - 1) = nI (e - a' - psum s' (cnt - 1)))) := by
  intro m
  induction m with
  | zero =>
    intro n i a s hz h1 h2 h3 h3' hs
    obtain ⟨n', rfl⟩ : ∃ n', n = n' + 1 := ⟨n - 1, by omega⟩
    have hpr : nI cnt - 1 = nI (cnt - 1) := by rw [i1, pk_sub (by omega)]
    have hps := psum_bd (fun j hj => (hs j hj).2)
    have hi : i = cnt - 1 := by omega
    have hbd : i * 2000000 ≤ 256 * 2000000 := Nat.mul_le_mul_right _ (by omega)
    rw [fX1_readLacing_b88, hpr, if_pos (nI_le (by omega) (by omega)), lcs, pk_sub h3, nI_l (by omega)]
    refine ⟨(fun h => by cases h), fun a' s' h => ?_⟩
    have h2' := Option.some.inj h
    have h4 : a = a' := congrArg Prod.fst h2'
    have h5 : s = s' := congrArg Prod.snd h2'
    subst h4 h5
    rw [← hi]
    refine ⟨fun hg => ?_, fun hg => ?_⟩
    · rw [if_neg (by rw [pk_lLE (by omega) (by omega)]; exact hg)]
      exact ⟨_, _, rfl⟩
    · rw [if_pos (by rw [pk_lLE (by omega) (by omega)]; exact hg), if_pos (gin_nI (by omega) (by omega)), nm_eq, nI_clamp (by omega), lN_i, pk_sub hg]
      refine ⟨_, rfl, fun j hj => ?_, ?_⟩
      · rw [upd_app, if_neg (by omega)]
        exact (hs j hj).1
      · rw [upd_app, if_pos rfl]
  | succ m ih =>
    intro n i a s hz h1 h2 h3 h3' hs
    obtain ⟨n', rfl⟩ : ∃ n', n = n' + 1 := ⟨n - 1, by omega⟩
    have hpr : nI cnt - 1 = nI (cnt - 1) := by rw [i1, pk_sub (by omega)]
    rw [fX1_readLacing_b88, hpr, if_neg (nI_ge (by omega) (by omega)), lcs]
    have hstep : (rdx l (bw fw) e i a s = none → ∃ la, (if nI l = 1 then ((fX1_readSummedSize Fu (nI a) (nI T) 1501 fw (nI e)).bind fun o7 => fX1_readLacing_b117 Fu (nI p) (nI e) (fX1_readLacing_b88 Fu (nI T) 1501 fw (nI l) (nI p) (nI e) n') (nI cnt) (lN (psum s i)) (nI i) o7.1 o7.2 hz) else ((fX1_readSizeOrDifference Fu (nI a) hz (nI T) 1501 fw (nI i) (nI e)).bind fun o6 => fX1_readLacing_b117 Fu (nI p) (nI e) (fX1_readLacing_b88 Fu (nI T) 1501 fw (nI l) (nI p) (nI e) n') (nI cnt) (lN (psum s i)) (nI i) o6.1 o6.2 hz)) = some (-1, la, hz)) ∧ (∀ x a', rdx l (bw fw) e i a s = some (x, a') → (if nI l = 1 then ((fX1_readSummedSize Fu (nI a) (nI T) 1501 fw (nI e)).bind fun o7 => fX1_readLacing_b117 Fu (nI p) (nI e) (fX1_readLacing_b88 Fu (nI T) 1501 fw (nI l) (nI p) (nI e) n') (nI cnt) (lN (psum s i)) (nI i) o7.1 o7.2 hz) else ((fX1_readSizeOrDifference Fu (nI a) hz (nI T) 1501 fw (nI i) (nI e)).bind fun o6 => fX1_readLacing_b117 Fu (nI p) (nI e) (fX1_readLacing_b88 Fu (nI T) 1501 fw (nI l) (nI p) (nI e) n') (nI cnt) (lN (psum s i)) (nI i) o6.1 o6.2 hz)) = if x ≤ e - p then fX1_readLacing_b88 Fu (nI T) 1501 fw (nI l) (nI p) (nI e) n' (nI (i + 1)) (lN (psum s i + x)) (nI cnt) (nI a') (upd hz i (nI x)) else some (-1, nI a', hz)) := by
      unfold rdx
      rcases hl with hl1 | hl3
      · rw [if_pos hl1, if_pos (show nI l = 1 by rw [hl1]; rfl)]
        unfold fX1_readSummedSize
        rcases sm_c Fu hT he (nI a) (fw := fw) (e + 1 - a) Fu a 0 (by omega) (by unfold Fu; omega) with ⟨g1, g2⟩ | h
        · refine ⟨fun h => ?_, fun x a' h => ?_⟩
          · have g1' : fX1_readSummedSize_b8 Fu (nI a) (nI T) 1501 fw (nI e) Fu (nI a) 0 = _ := g1 h
            rw [g1', Option.bind_some, b117_neg]
            exact ⟨_, rfl⟩
          · have g2' : fX1_readSummedSize_b8 Fu (nI a) (nI T) 1501 fw (nI e) Fu (nI a) 0 = _ := g2 x a' h
            have hp := sm_props (bw_lt fw) e _ _ _ _ _ h
            rw [g2', Option.bind_some, b117_pos Fu hpe (by omega) (by omega) (by omega)]
        · omega
      · rw [if_neg (by omega), if_neg (show ¬ nI l = 1 by rw [hl3]; decide)]
        exact step3_c hT he hpe (by omega) hs (by omega) _ (nI cnt) (psum s i)
    obtain ⟨g1, g2⟩ := hstep
    cases hR : rdx l (bw fw) e i a s with
    | none =>
      rw [Option.bind_none]
      obtain ⟨la, g3⟩ := g1 hR
      exact ⟨fun _ => ⟨la, hz, g3⟩, fun a' s' h => by cases h⟩
    | some y =>
      obtain ⟨x, b⟩ := y
      obtain ⟨p1, p2, p3⟩ := rdx_props (bw_lt fw) (by omega) hR
      rw [g2 x b hR, Option.bind_some]
      dsimp only
      by_cases cx : x ≤ e - p
      · rw [if_pos cx]
        have hpe2 : psum (fun j => if j = i then x else s j) (i + 1) = psum s i + x := by
          have e1 : psum (fun j => if j = i then x else s j) (i + 1) = psum (fun j => if j = i then x else s j) i + (if i = i then x else s i) := rfl
          rw [e1, if_pos rfl, psum_congr (a := fun j => if j = i then x else s j) (b := s) (fun j hj => by rw [if_neg (by omega)])]
        have h := ih n' (i + 1) b (fun j => if j = i then x else s j) (upd hz i (nI x)) (by omega) (by omega) p2 (by omega) (fun j hj => by
          rw [upd_app]
          by_cases c : j = i
          · rw [if_pos c, if_pos c]; exact ⟨rfl, p3⟩
          · rw [if_neg c, if_neg c]; exact hs j (by omega))
        rw [hpe2] at h
        exact h
      · rw [if_neg cx]
        refine ⟨fun _ => ⟨_, _, rfl⟩, fun a' s' h => ⟨fun _ => ⟨_, _, rfl⟩, fun hg => ?_⟩⟩
        exfalso
        obtain ⟨q1, q2, q3, q4⟩ := lcs_ext (bw_lt fw) (by omega) _ _ _ _ _ _ h
        have h5 := q3 i (by omega)
        rw [if_pos rfl] at h5
        have h6 := psum_mem (s := s') (j := i) (n := cnt - 1) (by omega)
        omega
-- all alike
theorem sh_c (F : Nat) {cnt b : Nat} (hc1 : 1 ≤ cnt) (hc : cnt ≤ 256) (hb : b ≤ 6000) : ∀ (m n i : Nat) (hz : Nat → Int32), i + m = cnt → m < n → ∃ z, fX1_shareAlike_b15 F (nI cnt) (nI b) n (nI i) hz = some (nI cnt, z) ∧ ∀ j, z j = if i ≤ j ∧ j < cnt then nI (b / cnt) else hz j := by
  intro m
  induction m with
  | zero =>
    intro n i hz h1 h2
    obtain ⟨n', rfl⟩ : ∃ n', n = n' + 1 := ⟨n - 1, by omega⟩
    refine ⟨hz, ?_, fun j => by rw [if_neg (by omega)]⟩
    unfold fX1_shareAlike_b15 fX1_shareAlike_b44
    rw [if_pos (nI_le (by omega) (by omega))]
  | succ m ih =>
    intro n i hz h1 h2
    obtain ⟨n', rfl⟩ : ∃ n', n = n' + 1 := ⟨n - 1, by omega⟩
    have h256 : (256 : Int32) = nI 256 := rfl
    obtain ⟨z, d1, d2⟩ := ih n' (i + 1) (upd hz i (nI (b / cnt))) (by omega) (by omega)
    refine ⟨z, ?_, fun j => ?_⟩
    · rw [fX1_shareAlike_b15, if_neg (nI_ge (by omega) (by omega)), h256, if_neg (nI_ge (by omega) (by omega)), if_neg (nI_ne0 (by omega) (by omega)), if_pos (gin_nI (by omega) (by omega)), nm_eq, nm_eq, nI_clamp (by omega), pk_div (by omega) (by omega) (by omega), nI_1]
      exact d1
    · rw [d2 j, upd_app]
      by_cases c1 : i + 1 ≤ j ∧ j < cnt
      · rw [if_pos c1, if_pos (by omega)]
      · rw [if_neg c1]
        by_cases c2 : j = i
        · rw [if_pos c2, if_pos (by omega)]
        · rw [if_neg c2, if_neg (by omega)]
theorem sh_r (F : Nat) {cnt e p : Nat} (hc1 : 1 ≤ cnt) (hc : cnt ≤ 256) (hpe : p ≤ e) (he : e ≤ 6000) : ∀ (m n i : Nat) (z0 : Nat → Int32), i + m = cnt → m < n → ∃ z, fX10_laced_b25 F (nI e) (nI p) (nI cnt) n (nI i) z0 = some (nI p, z) ∧ ∀ j, z j = if i ≤ j ∧ j < cnt then nI ((e - p) / cnt) else z0 j := by
  intro m
  induction m with
  | zero =>
    intro n i z0 h1 h2
    obtain ⟨n', rfl⟩ : ∃ n', n = n' + 1 := ⟨n - 1, by omega⟩
    refine ⟨z0, ?_, fun j => by rw [if_neg (by omega)]⟩
    rw [fX10_laced_b25, if_pos (nI_le (by omega) (by omega))]
  | succ m ih =>
    intro n i z0 h1 h2
    obtain ⟨n', rfl⟩ : ∃ n', n = n' + 1 := ⟨n - 1, by omega⟩
    obtain ⟨z, d1, d2⟩ := ih n' (i + 1) (upd z0 i (nI ((e - p) / cnt))) (by omega) (by omega)
    refine ⟨z, ?_, fun j => ?_⟩
    · rw [fX10_laced_b25, if_neg (nI_ge (by omega) (by omega)), if_neg (nI_ne0 (by omega) (by omega)), if_pos (gin_nI (by omega) (by omega)), nm_eq, nm_eq, nI_clamp (by omega), pk_sub hpe, pk_div (by omega) (by omega) (by omega), nI_1]
      exact d1
    · rw [d2 j, upd_app]
      by_cases c1 : i + 1 ≤ j ∧ j < cnt
      · rw [if_pos c1, if_pos (by omega)]
      · rw [if_neg c1]
        by_cases c2 : j = i
        · rw [if_pos c2, if_pos (by omega)]
        · rw [if_neg c2, if_neg (by omega)]
theorem psum_const (q : Nat) : ∀ n, psum (fun _ => q) n = n * q := by
  intro n
  induction n with
  | zero => show (0 : Nat) = _; omega
  | succ n ih =>
    have e : psum (fun _ => q) (n + 1) = psum (fun _ => q) n + q := rfl
    rw [e, ih, Nat.succ_mul]
/-- the lacing as a whole: it fails on both sides, or gives the same sizes -/
theorem lace_eq {T e p l : Nat} {fw mt : Nat → Int32} (hm : ∀ k, k < T → mt k &&& 255 = nI (bw fw k)) (hT : T ≤ 6000) (he : e ≤ T) (hpe : p ≤ e) (hl : l < 4) (hz sz0 : Nat → Int32) :
    ((∃ la z, fX1_readLacing Fu hz (nI T) 1501 fw (nI l) (nI p) (nI e) = some (-1, la, z)) ∧ ((¬ l = 0 ∧ e ≤ p) ∨ (¬ l = 0 ∧ p < e ∧ ((∃ z, fX10_laced Fu (nI e) mt sz0 (nI (p + 1)) (nI (bw fw p + 1)) (nI l) = some (-1, z)) ∨ ∃ (a : Nat) (s : Nat → Nat) (z : Nat → Int32), p + 1 ≤ a ∧ a ≤ e ∧ fX10_laced Fu (nI e) mt sz0 (nI (p + 1)) (nI (bw fw p + 1)) (nI l) = some (nI a, z) ∧ (∀ j, j < bw fw p → z j = nI (s j) ∧ s j ≤ 2000000) ∧ ¬ psum s (bw fw p) ≤ e - a)))) ∨
    (∃ (cnt a : Nat) (s : Nat → Nat) (z : Nat → Int32), 1 ≤ cnt ∧ cnt ≤ 256 ∧ p ≤ a ∧ a ≤ e ∧ psum s cnt = e - a ∧ fX1_readLacing Fu hz (nI T) 1501 fw (nI l) (nI p) (nI e) = some (nI cnt, nI a, z) ∧ (∀ j, j < cnt → z j = nI (s j)) ∧ ((l = 0 ∧ cnt = 1 ∧ a = p) ∨ (¬ l = 0 ∧ p < e ∧ cnt = bw fw p + 1 ∧ ∃ z', fX10_laced Fu (nI e) mt sz0 (nI (p + 1)) (nI (bw fw p + 1)) (nI l) = some (nI a, z') ∧ ∀ j, j < cnt - 1 → z' j = nI (s j) ∧ s j ≤ 2000000))) := by
  have hb := bw_lt fw p
  unfold fX1_readLacing
  by_cases l0 : l = 0
  · right
    refine ⟨1, p, fun _ => e - p, upd hz 0 (nI (e - p)), by omega, by omega, Nat.le_refl _, hpe, ?_, ?_, fun j hj => ?_, Or.inl ⟨l0, rfl, rfl⟩⟩
    · rw [psum_const]; omega
    · rw [if_pos (by rw [l0]; exact nI_0), if_pos (by decide), nm_eq, pk_sub hpe]
      rfl
    · rw [upd_app, if_pos (by omega)]
  have hl0 : ¬ nI l = 0 := nI_ne0 (by omega) (by omega)
  rw [if_neg hl0]
  by_cases c1 : p < e
  · have h256 : (256 : Int32) = nI 256 := rfl
    rw [if_pos (nI_lt c1 (by omega)), at_bw Fu (by omega) (by omega) (by omega) (by omega), Option.bind_some, nm_eq, nI_1, if_neg (show ¬ nI (bw fw p + 1) < 1 by rw [i1]; exact nI_nlt (by omega) (by omega)), h256, if_pos (nI_le (by omega) (by omega)), nm_eq, nI_1]
    unfold fX10_laced
    by_cases l2 : l = 2
    · have hl2 : nI l = 2 := by rw [l2]; rfl
      rw [if_pos hl2]
      simp only [if_pos hl2]
      unfold fX1_shareAlike
      rw [if_neg (show ¬ nI (bw fw p + 1) < 1 by rw [i1]; exact nI_nlt (by omega) (by omega)), if_neg (nI_ne0 (by omega) (by omega)), pk_sub (by omega), pk_rem (by omega) (by omega) (by omega)]
      simp only [if_neg (nI_ne0 (show 0 < bw fw p + 1 by omega) (by omega))]
      by_cases cd : (e - (p + 1)) % (bw fw p + 1) = 0
      · right
        obtain ⟨z, d1, d2⟩ := sh_c Fu (cnt := bw fw p + 1) (b := e - (p + 1)) (by omega) (by omega) (by omega) (bw fw p + 1) Fu 0 hz (by omega) (by unfold Fu; omega)
        obtain ⟨z2, f1, f2⟩ := sh_r Fu (cnt := bw fw p + 1) (e := e) (p := p + 1) (by omega) (by omega) (by omega) (by omega) (bw fw p + 1) Fu 0 sz0 (by omega) (by unfold Fu; omega)
        have d1' : fX1_shareAlike_b15 Fu (nI (bw fw p + 1)) (nI (e - (p + 1))) Fu 0 hz = _ := d1
        have f1' : fX10_laced_b25 Fu (nI e) (nI (p + 1)) (nI (bw fw p + 1)) Fu 0 sz0 = _ := f1
        have hdm := Nat.div_add_mod (e - (p + 1)) (bw fw p + 1)
        have hq : (e - (p + 1)) / (bw fw p + 1) ≤ e - (p + 1) := Nat.div_le_self _ _
        refine ⟨bw fw p + 1, p + 1, fun _ => (e - (p + 1)) / (bw fw p + 1), z, by omega, by omega, by omega, by omega, ?_, ?_, fun j hj => by rw [d2 j, if_pos (by omega)], Or.inr ⟨l0, c1, rfl, z2, ?_, fun j hj => ⟨by rw [f2 j, if_pos (by omega)], by dsimp only; omega⟩⟩⟩
        · rw [psum_const]
          omega
        · rw [if_pos (by rw [cd]; exact nI_0), d1', Option.bind_some]
        · rw [if_pos (by rw [cd]; exact nI_0), f1']
      · left
        have hz0 : ¬ nI ((e - (p + 1)) % (bw fw p + 1)) = 0 := nI_ne0 (by omega) (by have := Nat.mod_lt (e - (p + 1)) (show 0 < bw fw p + 1 by omega); omega)
        refine ⟨⟨nI (p + 1), hz, ?_⟩, Or.inr ⟨l0, c1, Or.inl ⟨sz0, ?_⟩⟩⟩
        · rw [if_neg hz0, Option.bind_some]
        · rw [if_neg hz0]
    · have hl2 : ¬ nI l = 2 := by rw [i2, nI_eq (by omega) (by omega)]; exact l2
      have hl13 : l = 1 ∨ l = 3 := by omega
      rw [if_neg hl2]
      simp only [if_neg hl2]
      obtain ⟨r1, r2⟩ := lr_loop (bw_lt fw) hm hT he (cnt := bw fw p + 1) (by omega) hl13 (bw fw p) Fu 0 (p + 1) (fun _ => 0) sz0 (by omega) (by unfold Fu; omega) (by omega) (fun j hj => by omega)
      obtain ⟨k1, k2⟩ := lc_loop hT he hpe (cnt := bw fw p + 1) (fw := fw) (by omega) hl13 (bw fw p) Fu 0 (p + 1) (fun _ => 0) hz (by omega) (by unfold Fu; omega) (by omega) (by omega) (fun j hj => by omega)
      have e0 : fX1_readLacing_b88 Fu (nI T) 1501 fw (nI l) (nI p) (nI e) Fu 0 0 (nI (bw fw p + 1)) (nI (p + 1)) hz = fX1_readLacing_b88 Fu (nI T) 1501 fw (nI l) (nI p) (nI e) Fu (nI 0) (lN (psum (fun _ => 0) 0)) (nI (bw fw p + 1)) (nI (p + 1)) hz := rfl
      have e1 : fX10_laced_b59 Fu (nI e) mt (nI (bw fw p + 1)) (nI l) Fu 0 (nI (p + 1)) sz0 = fX10_laced_b59 Fu (nI e) mt (nI (bw fw p + 1)) (nI l) Fu (nI 0) (nI (p + 1)) sz0 := rfl
      rw [e0]
      simp only [e1]
      cases hX : lcs l (bw fw) e (bw fw p) 0 (p + 1) (fun _ => 0) with
      | none =>
        left
        obtain ⟨la, z, g1⟩ := k1 hX
        obtain ⟨z', g2⟩ := r1 hX
        exact ⟨⟨la, z, g1⟩, Or.inr ⟨l0, c1, Or.inl ⟨z', g2⟩⟩⟩
      | some y =>
        obtain ⟨a', s'⟩ := y
        obtain ⟨x1, x2, x3, x4⟩ := lcs_ext (bw_lt fw) (by omega) _ _ _ _ _ _ hX
        obtain ⟨g1, g2⟩ := k2 a' s' hX
        obtain ⟨z', g3, g4⟩ := r2 a' s' hX
        rw [show bw fw p + 1 - 1 = bw fw p by omega] at g1 g2
        by_cases hg : psum s' (bw fw p) ≤ e - a'
        · right
          obtain ⟨z, g5, g6, g7⟩ := g2 hg
          refine ⟨bw fw p + 1, a', fun j => if j = bw fw p then e - a' - psum s' (bw fw p) else s' j, z, by omega, by omega, by omega, x2 (by omega), ?_, g5, fun j hj => ?_, Or.inr ⟨l0, c1, rfl, z', g3, fun j hj => ?_⟩⟩
          · have e2 : psum (fun j => if j = bw fw p then e - a' - psum s' (bw fw p) else s' j) (bw fw p + 1) = psum (fun j => if j = bw fw p then e - a' - psum s' (bw fw p) else s' j) (bw fw p) + (if bw fw p = bw fw p then e - a' - psum s' (bw fw p) else s' (bw fw p)) := rfl
            rw [e2, if_pos rfl, psum_congr (a := fun j => if j = bw fw p then e - a' - psum s' (bw fw p) else s' j) (b := s') (fun j hj => by rw [if_neg (by omega)])]
            omega
          · dsimp only
            by_cases cj : j = bw fw p
            · rw [if_pos cj, cj]; exact g7
            · rw [if_neg cj]; exact g6 j (by omega)
          · dsimp only
            rw [if_neg (by omega)]
            exact ⟨g4 j (by omega), x4 j (by omega) (by omega)⟩
        · left
          obtain ⟨la, z, g5⟩ := g1 hg
          exact ⟨⟨la, z, g5⟩, Or.inr ⟨l0, c1, Or.inr ⟨a', s', z', by omega, x2 (by omega), g3, fun j hj => ⟨g4 j (by omega), x4 j (by omega) (by omega)⟩, hg⟩⟩⟩
  · left
    rw [if_neg (nI_nlt (by omega) (by omega))]
    exact ⟨⟨_, _, rfl⟩, Or.inl ⟨l0, by omega⟩⟩
