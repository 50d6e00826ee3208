-- a block's packets, taken on both sides
def TPI (fw w0 e0 : Nat → Int32) (t0 : Nat → Int64) (s : Nat → Nat) (N0 T0 a : Nat) (tm : Int64) (i : Nat) (w e : Nat → Int32) (t : Nat → Int64) : Prop :=
  (∀ j, j < T0 → rb w j = rb w0 j) ∧ (∀ j, T0 ≤ j → j < T0 + psum s i → rb w j = rb fw (a + (j - T0))) ∧ (∀ j, j < N0 → e j = e0 j ∧ t j = t0 j) ∧ ∀ j, j < i → e (N0 + j) = nI (T0 + psum s (j + 1)) ∧ t (N0 + j) = if j = 0 then tm else -1
theorem psum_mn (s : Nat → Nat) : ∀ {a b : Nat}, a ≤ b → psum s a ≤ psum s b := by
  intro a b
  induction b with
  | zero => intro h; rw [show a = 0 by omega]; exact Nat.le_refl _
  | succ b ih =>
    intro h
    rcases (show a ≤ b ∨ a = b + 1 by omega) with q | q
    · have h2 := ih q
      have h3 : psum s (b + 1) = psum s b + s b := rfl
      omega
    · rw [q]; exact Nat.le_refl _
theorem tp_loop {T cnt a N0 T0 : Nat} {fw z w0 e0 : Nat → Int32} {t0 : Nat → Int64} {s : Nat → Nat} {tm : Int64} (hT : T ≤ 6000) (hN : N0 + cnt ≤ 64) (hb : T0 + psum s cnt ≤ 2400) (ha : a + psum s cnt ≤ T) (hz : ∀ j, j < cnt → z j = nI (s j)) (ov : Int32) : ∀ (m n i : Nat) (w e : Nat → Int32) (t : Nat → Int64), i + m = cnt → m < n → TPI fw w0 e0 t0 s N0 T0 a tm i w e t → ∃ w' e' t', fX1_takePackets_b9 Fu z (nI T) 1501 fw 2400 601 (nI cnt) tm n (nI i) (nI (a + psum s i)) (nI (N0 + i)) (nI (T0 + psum s i)) ov w e t = some (nI (N0 + cnt), nI (T0 + psum s cnt), ov, w', e', t') ∧ TPI fw w0 e0 t0 s N0 T0 a tm cnt w' e' t' := by
  intro m
  induction m with
  | zero =>
    intro n i w e t h1 h2 h
    obtain ⟨n', rfl⟩ : ∃ n', n = n' + 1 := ⟨n - 1, by omega⟩
    have hi : i = cnt := by omega
    subst hi
    refine ⟨w, e, t, ?_, h⟩
    rw [fX1_takePackets_b9, if_pos (nI_le (Nat.le_refl _) (by omega))]
  | succ m ih =>
    intro n i w e t h1 h2 h
    obtain ⟨n', rfl⟩ : ∃ n', n = n' + 1 := ⟨n - 1, by omega⟩
    obtain ⟨g1, g2, g3, g4⟩ := h
    have hs : psum s (i + 1) = psum s i + s i := rfl
    have hle := psum_mn s (show i + 1 ≤ cnt by omega)
    obtain ⟨w1, a1, a2, a3⟩ := addPart_fun Fu (cap := 2400) (nw := 601) (by omega) (by omega) (by omega) (S := T) (mw := 1501) (a := a + psum s i) (t := s i) (T := T0 + psum s i) (q := fw) (by omega) (by omega) (by omega) (by omega) (by unfold Fu; omega) (by omega) ov w
    have a1' : fX8_addPart Fu 2400 (nI (T0 + psum s i)) ov 601 w (nI T) 1501 fw (nI (a + psum s i)) (nI (s i)) = _ := a1
    have hJ : TPI fw w0 e0 t0 s N0 T0 a tm (i + 1) w1 (upd e (N0 + i) (nI (T0 + psum s i + s i))) (vp_updL t (N0 + i) (if i = 0 then tm else -1)) := by
      refine ⟨fun j hj => ?_, fun j h3 h4 => ?_, fun j hj => ?_, fun j hj => ?_⟩
      · rw [a2 j (by omega)]; exact g1 j hj
      · rcases Nat.lt_or_ge j (T0 + psum s i) with q | q
        · rw [a2 j q]; exact g2 j h3 q
        · rw [a3 j q (by omega), show a + psum s i + (j - (T0 + psum s i)) = a + (j - T0) by omega]
      · rw [upd_app, updL_app, if_neg (by omega), if_neg (by omega)]
        exact g3 j hj
      · rw [upd_app, updL_app]
        by_cases c : j = i
        · rw [if_pos (by omega), if_pos (by omega), c, hs, Nat.add_assoc]
          exact ⟨rfl, rfl⟩
        · rw [if_neg (by omega), if_neg (by omega)]
          exact g4 j (by omega)
    obtain ⟨w', e', t', d1, d2⟩ := ih n' (i + 1) _ _ _ (by omega) (by omega) hJ
    refine ⟨w', e', t', ?_, d2⟩
    rw [← d1, fX1_takePackets_b9, if_neg (nI_ge (by omega) (by omega)), i256, if_neg (nI_ge (by omega) (by omega)), if_pos (gin_nI (by omega) (by omega)), nI_clamp (by omega), hz i (by omega), a1', Option.bind_some]
    unfold fX1_takePackets_b64
    dsimp only
    rw [endPacket_in Fu (by omega), endPacket_in Fu (by omega), Option.bind_some, Option.bind_some]
    have hg := gin_nI (k := i) (n := 256) (by omega) (by omega)
    simp only [nm_eq, if_pos hg]
    rw [nI_clamp (by omega), hz i (by omega), nI_add, nI_1, hs, ← Nat.add_assoc, ← Nat.add_assoc, ← Nat.add_assoc]
    by_cases c : i = 0
    · rw [if_pos (show nI i = 0 by rw [c]; exact nI_0), if_pos c]
    · rw [if_neg (nI_ne0 (by omega) (by omega)), if_neg c]
def RTI (rs0 : Nat → Int32) (rt0 : Nat → Int64) (s : Nat → Nat) (N0 : Nat) (tm : Int64) (i : Nat) (rs : Nat → Int32) (rt : Nat → Int64) : Prop :=
  (∀ j, j < N0 → rs j = rs0 j ∧ rt j = rt0 j) ∧ ∀ j, j < i → rs (N0 + j) = nI (s j) ∧ rt (N0 + j) = if j = 0 then tm else -1
theorem rk_loop {cnt N0 : Nat} {z rs0 : Nat → Int32} {rt0 : Nat → Int64} {s : Nat → Nat} {tm : Int64} (hN : N0 + cnt ≤ 64) (hz : ∀ j, j < cnt → z j = nI (s j)) (rtot hf hfa to p bls : Int32) (mt rby : Nat → Int32) : ∀ (m n i : Nat) (rs : Nat → Int32) (rt : Nat → Int64), i + m = cnt → m < n → RTI rs0 rt0 s N0 tm i rs rt → ∃ rs' rt', fX10_block_b374 Fu rtot hf hfa to mt rby n (nI i) p tm (nI cnt) (nI (N0 + i)) bls rs rt z = fX10_block_b438 Fu hf hfa to mt Fu p (nI (N0 + cnt)) rtot bls rs' rt' rby z ∧ RTI rs0 rt0 s N0 tm cnt rs' rt' := by
  intro m
  induction m with
  | zero =>
    intro n i rs rt h1 h2 h
    obtain ⟨n', rfl⟩ : ∃ n', n = n' + 1 := ⟨n - 1, by omega⟩
    have hi : i = cnt := by omega
    subst hi
    refine ⟨rs, rt, ?_, h⟩
    rw [fX10_block_b374, if_pos (nI_le (Nat.le_refl _) (by omega))]
  | succ m ih =>
    intro n i rs rt h1 h2 h
    obtain ⟨n', rfl⟩ : ∃ n', n = n' + 1 := ⟨n - 1, by omega⟩
    obtain ⟨g3, g4⟩ := h
    have hJ : RTI rs0 rt0 s N0 tm (i + 1) (upd rs (N0 + i) (nI (s i))) (vp_updL rt (N0 + i) (if i = 0 then tm else -1)) := by
      refine ⟨fun j hj => ?_, fun j hj => ?_⟩
      · rw [upd_app, updL_app, if_neg (by omega), if_neg (by omega)]
        exact g3 j hj
      · rw [upd_app, updL_app]
        by_cases c : j = i
        · rw [if_pos (by omega), if_pos (by omega), c]
          exact ⟨rfl, rfl⟩
        · rw [if_neg (by omega), if_neg (by omega)]
          exact g4 j (by omega)
    obtain ⟨rs', rt', d1, d2⟩ := ih n' (i + 1) _ _ (by omega) (by omega) hJ
    refine ⟨rs', rt', ?_, d2⟩
    rw [← d1, fX10_block_b374, if_neg (nI_ge (by omega) (by omega)), if_pos (gin_nI (by omega) (by omega)), if_pos (gin_nI (by omega) (by omega))]
    unfold fX10_block_b418
    have hg := gin_nI (k := N0 + i) (n := 64) (by omega) (by omega)
    simp only [nm_eq, if_pos hg]
    rw [nI_clamp (show i < 2 ^ 31 by omega), nI_clamp (show N0 + i < 2 ^ 31 by omega), hz i (by omega), nI_1, nI_1, ← Nat.add_assoc]
    by_cases c : i = 0
    · rw [if_pos (show nI i = 0 by rw [c]; exact nI_0), if_pos c]
    · rw [if_neg (nI_ne0 (by omega) (by omega)), if_neg c]
theorem by_loop {T a e T0 : Nat} {mt : Nat → Int32} (hT : T ≤ 6000) (he : e ≤ T) (hae : a ≤ e) (hb : T0 + (e - a) ≤ 2400) (hf hfa N bls : Int32) (rs z : Nat → Int32) (rt : Nat → Int64) : ∀ (m n i : Nat) (f : Nat → Int32), i + m = e - a → m < n → ∃ g, fX10_block_b438 Fu hf hfa (nI e) mt n (nI (a + i)) N (nI (T0 + i)) bls rs rt f z = some (1, N, nI (T0 + (e - a)), hf, hfa, bls, rs, rt, g, z) ∧ ∀ j, g j &&& 255 = if T0 + i ≤ j ∧ j < T0 + (e - a) then mt (a + (j - T0)) &&& 255 else f j &&& 255 := by
  intro m
  induction m with
  | zero =>
    intro n i f h1 h2
    obtain ⟨n', rfl⟩ : ∃ n', n = n' + 1 := ⟨n - 1, by omega⟩
    refine ⟨f, ?_, fun j => by rw [if_neg (by omega)]⟩
    rw [fX10_block_b438, if_pos (nI_le (by omega) (by omega)), show i = e - a by omega]
  | succ m ih =>
    intro n i f h1 h2
    obtain ⟨n', rfl⟩ : ∃ n', n = n' + 1 := ⟨n - 1, by omega⟩
    obtain ⟨g, d1, d2⟩ := ih n' (i + 1) (upd f (T0 + i) (mt (a + i)).toInt8.toInt32) (by omega) (by omega)
    refine ⟨g, ?_, fun j => ?_⟩
    · rw [fX10_block_b438, if_neg (nI_ge (by omega) (by omega)), if_pos (gin_nI (by omega) (by omega)), if_pos (gin_nI (by omega) (by omega))]
      simp only [nm_eq]
      rw [nI_clamp (show a + i < 2 ^ 31 by omega), nI_clamp (show T0 + i < 2 ^ 31 by omega), nI_1, nI_1]
      exact d1
    · rw [d2 j, upd_app]
      by_cases c1 : T0 + (i + 1) ≤ j ∧ j < T0 + (e - a)
      · rw [if_pos c1, if_pos (by omega)]
      · rw [if_neg c1]
        by_cases c2 : j = T0 + i
        · rw [if_pos c2, if_pos (by omega), bp_b0, c2, show T0 + i - T0 = i by omega]
        · rw [if_neg c2, if_neg (by omega)]
/-- the list behind a block's packets -/
theorem RLi_block {N0 T0 cnt a e T : Nat} {sz s : Nat → Nat} {fw mt w0 e0 w e1 rs0 rs rby0 rby : Nat → Int32} {t0 t rt0 rt : Nat → Int64} {tm : Int64} (hm : ∀ k, k < T → mt k &&& 255 = nI (bw fw k)) (he : e ≤ T) (hae : a ≤ e) (hN : N0 + cnt ≤ 64) (hT0 : T0 + psum s cnt ≤ 2400) (hps : psum s cnt = e - a) (hsz : psum sz N0 = T0) (hli : ∀ i, i < N0 → rs0 i = nI (sz i) ∧ e0 i = nI (psum sz (i + 1)) ∧ t0 i = rt0 i ∧ -1 ≤ t0 i ∧ t0 i ≤ 1099511627775) (hby : ∀ k, k < T0 → rb w0 k = rby0 k &&& 255) (h1 : TPI fw w0 e0 t0 s N0 T0 a tm cnt w e1 t) (h2 : RTI rs0 rt0 s N0 tm cnt rs rt) (h3 : ∀ j, rby j &&& 255 = if T0 + 0 ≤ j ∧ j < T0 + (e - a) then mt (a + (j - T0)) &&& 255 else rby0 j &&& 255) (ht1 : ¬ tm < 0) (ht2 : tm ≤ 1099511627775) : RLi (nI (N0 + cnt)) (nI (T0 + psum s cnt)) w e1 t (nI (N0 + cnt)) (nI (T0 + (e - a))) rs rt rby := by
  obtain ⟨g1, g2, g3, g4⟩ := h1
  obtain ⟨r1, r2⟩ := h2
  have z1 : ∀ M, M ≤ N0 → psum (fun i => if i < N0 then sz i else s (i - N0)) M = psum sz M := fun M hM => psum_congr (fun i hi => by rw [if_pos (by omega)])
  have z2 : ∀ M, psum (fun i => if i < N0 then sz i else s (i - N0)) (N0 + M) = T0 + psum s M := by
    intro M
    induction M with
    | zero => rw [Nat.add_zero, z1 N0 (Nat.le_refl _), hsz]; rfl
    | succ M ih =>
      have q1 : psum (fun i => if i < N0 then sz i else s (i - N0)) (N0 + (M + 1)) = psum (fun i => if i < N0 then sz i else s (i - N0)) (N0 + M) + (if N0 + M < N0 then sz (N0 + M) else s (N0 + M - N0)) := rfl
      have q2 : psum s (M + 1) = psum s M + s M := rfl
      rw [q1, ih, if_neg (by omega), q2, show N0 + M - N0 = M by omega, Nat.add_assoc]
  refine ⟨N0 + cnt, T0 + psum s cnt, fun i => if i < N0 then sz i else s (i - N0), hN, hT0, rfl, rfl, rfl, by rw [hps], z2 cnt, fun i hi => ?_, fun k hk => ?_⟩
  · dsimp only
    by_cases c : i < N0
    · rw [if_pos c, (r1 i c).1, (r1 i c).2, (g3 i c).1, (g3 i c).2, z1 (i + 1) (by omega)]
      exact hli i c
    · obtain ⟨j, rfl⟩ : ∃ j, i = N0 + j := ⟨i - N0, by omega⟩
      rw [if_neg c, (r2 j (by omega)).1, (r2 j (by omega)).2, (g4 j (by omega)).1, (g4 j (by omega)).2, show N0 + j - N0 = j by omega, Nat.add_assoc, z2 (j + 1)]
      refine ⟨rfl, rfl, rfl, ?_⟩
      by_cases c0 : j = 0
      · rw [if_pos c0]
        refine ⟨?_, ht2⟩
        have h0 : (0 : Int64) ≤ tm := Int64.not_lt.mp ht1
        exact Int64.le_trans (by decide) h0
      · rw [if_neg c0]; decide
  · rw [h3 k]
    rcases Nat.lt_or_ge k T0 with q | q
    · rw [if_neg (by omega), g1 k q, hby k q]
    · rw [if_pos (by omega), g2 k q hk, hm _ (by omega), rb_bw]
/-- the sum of the told sizes -/
theorem bs_loop {cnt : Nat} {s : Nat → Nat} {z : Nat → Int32} (hc : cnt ≤ 256) (hc1 : 1 ≤ cnt) (hz : ∀ j, j < cnt - 1 → z j = nI (s j) ∧ s j ≤ 2000000) (rm rtot hf hfa to p bls k : Int32) (mt rs rby : Nat → Int32) (rt : Nat → Int64) (tm : Int64) : ∀ (m n i : Nat), i + m = cnt - 1 → m < n → ∃ n', fX10_block_b267 Fu rm rtot hf hfa to mt rs rt rby k n (nI i) (lN (psum s i)) p tm (nI cnt) bls z = fX10_block_b267 Fu rm rtot hf hfa to mt rs rt rby k (n' + 1) (nI (cnt - 1)) (lN (psum s (cnt - 1))) p tm (nI cnt) bls z := by
  intro m
  induction m with
  | zero =>
    intro n i h1 h2
    refine ⟨n - 1, ?_⟩
    rw [show n - 1 + 1 = n by omega, show i = cnt - 1 by omega]
  | succ m ih =>
    intro n i h1 h2
    obtain ⟨n', rfl⟩ : ∃ n', n = n' + 1 := ⟨n - 1, by omega⟩
    obtain ⟨n2, d⟩ := ih n' (i + 1) (by omega) (by omega)
    refine ⟨n2, ?_⟩
    have hpr : nI cnt - 1 = nI (cnt - 1) := by rw [i1, pk_sub (by omega)]
    obtain ⟨q1, q2⟩ := hz i (by omega)
    have hs : psum s (i + 1) = psum s i + s i := rfl
    rw [← d, fX10_block_b267, hpr, if_neg (nI_ge (by omega) (by omega)), if_pos (gin_nI (by omega) (by omega)), nm_eq, nm_eq, nI_clamp (by omega), q1, nI_l (by omega), lN_add, nI_1, hs]
