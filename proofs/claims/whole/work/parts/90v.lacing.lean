-- a block's lacing, on both sides
def sm (B : Nat → Nat) (e : Nat) : Nat → Nat → Nat → Option (Nat × Nat)
  | 0, _, _ => none
  | f + 1, a, v => if e ≤ a then none else if B a = 255 then sm B e f (a + 1) (v + 255) else some (v + B a, a + 1)
theorem sm_props {B : Nat → Nat} (hB : ∀ k, B k < 256) (e : Nat) : ∀ (m a v x a' : Nat), sm B e m a v = some (x, a') → a < a' ∧ a' ≤ e ∧ x ≤ v + 255 * m := by
  intro m
  induction m with
  | zero => intro a v x a' h; cases h
  | succ m ih =>
    intro a v x a' h
    rw [sm] at h
    by_cases c1 : e ≤ a
    · rw [if_pos c1] at h; cases h
    · rw [if_neg c1] at h
      by_cases c2 : B a = 255
      · rw [if_pos c2] at h
        have := ih _ _ _ _ h
        omega
      · rw [if_neg c2] at h
        have h2 := Option.some.inj h
        have h3 : v + B a = x := congrArg Prod.fst h2
        have h4 : a + 1 = a' := congrArg Prod.snd h2
        have := hB a
        omega
theorem sm_c (F : Nat) {T e : Nat} {fw : Nat → Int32} (hT : T ≤ 6000) (he : e ≤ T) (la : Int32) : ∀ (m n a v : Nat), a + m = e + 1 → m ≤ n → (sm (bw fw) e m a v = none → fX1_readSummedSize_b8 F la (nI T) 1501 fw (nI e) n (nI a) (lN v) = some (-1, la)) ∧ (∀ x a', sm (bw fw) e m a v = some (x, a') → fX1_readSummedSize_b8 F la (nI T) 1501 fw (nI e) n (nI a) (lN v) = some (lN x, nI a')) ∨ m = 0 := by
  intro m
  induction m with
  | zero => intro n a v h1 h2; exact Or.inr rfl
  | succ m ih =>
    intro n a v h1 h2
    left
    obtain ⟨n', rfl⟩ : ∃ n', n = n' + 1 := ⟨n - 1, by omega⟩
    rw [sm, fX1_readSummedSize_b8]
    by_cases c1 : e ≤ a
    · rw [if_pos c1, if_pos (nI_le c1 (by omega))]
      exact ⟨fun _ => rfl, fun x a' h => by cases h⟩
    · have hb := bw_lt fw a
      rw [if_neg c1, if_neg (nI_ge (by omega) (by omega)), at_bw F (by omega) (by omega) (by omega) (by omega), Option.bind_some, nm_eq, Option.bind_some, nI_l (by omega), lN_add, nm_eq, nm_eq, nI_1, i255]
      by_cases c2 : bw fw a = 255
      · rw [if_pos c2, if_pos (nI_le (by omega) (by omega))]
        rcases ih n' (a + 1) (v + 255) (by omega) (by omega) with h | h
        · rw [c2]; exact h
        · omega
      · rw [if_neg c2, if_neg (nI_ge (by omega) (by omega))]
        refine ⟨(fun h => by cases h), fun x a' h => ?_⟩
        have h3 := Option.some.inj h
        have h4 : v + bw fw a = x := congrArg Prod.fst h3
        have h5 : a + 1 = a' := congrArg Prod.snd h3
        rw [h4, h5]
theorem sm_r (F : Nat) {T e i : Nat} {mt : Nat → Int32} {B : Nat → Nat} (hB : ∀ k, B k < 256) (hm : ∀ k, k < T → mt k &&& 255 = nI (B k)) (hT : T ≤ 6000) (he : e ≤ T) (hi : i < 256) (rc : Int32 → Int32 → (Nat → Int32) → Option (Int32 × (Nat → Int32))) (z : Nat → Int32) : ∀ (m n a v : Nat), a + m = e + 1 → m ≤ n → (sm B e m a v = none → fX10_laced_b75 F (nI e) mt rc n (nI v) (nI a) (nI i) z = some (-1, z)) ∧ (∀ x a', sm B e m a v = some (x, a') → fX10_laced_b75 F (nI e) mt rc n (nI v) (nI a) (nI i) z = rc (nI (i + 1)) (nI a') (upd z i (nI x))) ∨ m = 0 := by
  intro m
  induction m with
  | zero => intro n a v h1 h2; exact Or.inr rfl
  | succ m ih =>
    intro n a v h1 h2
    left
    obtain ⟨n', rfl⟩ : ∃ n', n = n' + 1 := ⟨n - 1, by omega⟩
    rw [sm, fX10_laced_b75]
    unfold fX10_laced_b108 fX10_laced_b275
    simp only [nm_eq]
    by_cases c1 : e ≤ a
    · rw [if_pos c1, if_pos (nI_le c1 (by omega)), if_neg (nI_nlt c1 (by omega))]
      exact ⟨fun _ => rfl, fun x a' h => by cases h⟩
    · have hb := hB a
      rw [if_neg c1, if_neg (nI_ge (by omega) (by omega)), rat_B F hm hT (by omega), Option.bind_some, i255]
      by_cases c2 : B a = 255
      · rw [if_pos c2, if_pos (by rw [c2]), nI_add, nI_1]
        rcases ih n' (a + 1) (v + 255) (by omega) (by omega) with h | h
        · exact h
        · omega
      · rw [if_neg c2, if_neg (by rw [nI_eq (by omega) (by omega)]; exact c2), if_pos (nI_lt (by omega) (by omega)), Option.bind_some, if_pos (gin_nI hi (by omega)), nI_clamp (by omega), nI_add, nI_1, nI_1]
        refine ⟨(fun h => by cases h), fun x a' h => ?_⟩
        have h3 := Option.some.inj h
        have h4 : v + B a = x := congrArg Prod.fst h3
        have h5 : a + 1 = a' := congrArg Prod.snd h3
        rw [h4, h5]
def rd3 (B : Nat → Nat) (e i a : Nat) (s : Nat → Nat) : Option (Nat × Nat) :=
  if e ≤ a then none else if wid (B a) = 9 then none else if e < a + wid (B a) then none else if szv B a (wid (B a)) = 2 ^ (7 * wid (B a)) - 1 then none else
  if i = 0 then (if szv B a (wid (B a)) ≤ 6000 then some (szv B a (wid (B a)), a + wid (B a)) else none)
  else if s (i - 1) + szv B a (wid (B a)) + 1 < 2 ^ (7 * wid (B a) - 1) then none
  else if s (i - 1) + szv B a (wid (B a)) + 1 - 2 ^ (7 * wid (B a) - 1) ≤ 6000 then some (s (i - 1) + szv B a (wid (B a)) + 1 - 2 ^ (7 * wid (B a) - 1), a + wid (B a)) else none
def rdx (l : Nat) (B : Nat → Nat) (e i a : Nat) (s : Nat → Nat) : Option (Nat × Nat) := if l = 1 then sm B e (e + 1 - a) a 0 else rd3 B e i a s
theorem rd3_props {B : Nat → Nat} (hB : ∀ k, B k < 256) {e i a : Nat} {s : Nat → Nat} {x a' : Nat} (h : rd3 B e i a s = some (x, a')) : a < a' ∧ a' ≤ e ∧ x ≤ 6000 := by
  obtain ⟨w1, w2, w3, w4⟩ := wid_b _ (hB a)
  unfold rd3 at h
  by_cases c1 : e ≤ a
  · rw [if_pos c1] at h; cases h
  rw [if_neg c1] at h
  by_cases c2 : wid (B a) = 9
  · rw [if_pos c2] at h; cases h
  rw [if_neg c2] at h
  by_cases c3 : e < a + wid (B a)
  · rw [if_pos c3] at h; cases h
  rw [if_neg c3] at h
  by_cases c4 : szv B a (wid (B a)) = 2 ^ (7 * wid (B a)) - 1
  · rw [if_pos c4] at h; cases h
  rw [if_neg c4] at h
  by_cases c5 : i = 0
  · rw [if_pos c5] at h
    by_cases c6 : szv B a (wid (B a)) ≤ 6000
    · rw [if_pos c6] at h
      have h3 := Option.some.inj h
      have h4 : szv B a (wid (B a)) = x := congrArg Prod.fst h3
      have h5 : a + wid (B a) = a' := congrArg Prod.snd h3
      omega
    · rw [if_neg c6] at h; cases h
  · rw [if_neg c5] at h
    by_cases c6 : s (i - 1) + szv B a (wid (B a)) + 1 < 2 ^ (7 * wid (B a) - 1)
    · rw [if_pos c6] at h; cases h
    rw [if_neg c6] at h
    by_cases c7 : s (i - 1) + szv B a (wid (B a)) + 1 - 2 ^ (7 * wid (B a) - 1) ≤ 6000
    · rw [if_pos c7] at h
      have h3 := Option.some.inj h
      have h4 : s (i - 1) + szv B a (wid (B a)) + 1 - 2 ^ (7 * wid (B a) - 1) = x := congrArg Prod.fst h3
      have h5 : a + wid (B a) = a' := congrArg Prod.snd h3
      omega
    · rw [if_neg c7] at h; cases h
theorem rdx_props {l : Nat} {B : Nat → Nat} (hB : ∀ k, B k < 256) {e i a : Nat} (he : e ≤ 6000) {s : Nat → Nat} {x a' : Nat} (h : rdx l B e i a s = some (x, a')) : a < a' ∧ a' ≤ e ∧ x ≤ 2000000 := by
  unfold rdx at h
  by_cases c : l = 1
  · rw [if_pos c] at h
    have := sm_props hB e _ _ _ _ _ h
    omega
  · rw [if_neg c] at h
    have := rd3_props hB h
    omega
theorem s61n : ∀ n, n < 9 → 1 ≤ n → shl64 1 (((7 : Int32) * nI n) - 1) = lN (2 ^ (7 * n - 1)) := by decide +kernel
theorem pow71 {n : Nat} (h1 : 1 ≤ n) (h8 : n ≤ 8) : 64 ≤ 2 ^ (7 * n - 1) ∧ 2 ^ (7 * n - 1) ≤ 2 ^ 55 := ⟨Nat.le_trans (show 64 ≤ 2 ^ 6 by decide) (Nat.pow_le_pow_right (by omega) (by omega)), Nat.pow_le_pow_right (by omega) (by omega)⟩
/-- the class's single SIZE or difference; what the class does with it -/
theorem step3_c {T e p : Nat} {fw : Nat → Int32} (hT : T ≤ 6000) (he : e ≤ T) (hpe : p ≤ e) {i a : Nat} (hi : i < 255) {s : Nat → Nat} {hz : Nat → Int32} (hs : ∀ j, j < i → hz j = nI (s j) ∧ s j ≤ 2000000) (hae : a ≤ 6000) (rc : Int32 → Int64 → Int32 → Int32 → (Nat → Int32) → Option (Int32 × Int32 × (Nat → Int32))) (cnt : Int32) (tot : Nat) : (rd3 (bw fw) e i a s = none → ∃ la, ((fX1_readSizeOrDifference Fu (nI a) hz (nI T) 1501 fw (nI i) (nI e)).bind fun o6 => fX1_readLacing_b117 Fu (nI p) (nI e) rc cnt (lN tot) (nI i) o6.1 o6.2 hz) = some (-1, la, hz)) ∧ (∀ x a', rd3 (bw fw) e i a s = some (x, a') → ((fX1_readSizeOrDifference Fu (nI a) hz (nI T) 1501 fw (nI i) (nI e)).bind fun o6 => fX1_readLacing_b117 Fu (nI p) (nI e) rc cnt (lN tot) (nI i) o6.1 o6.2 hz) = if x ≤ e - p then rc (nI (i + 1)) (lN (tot + x)) cnt (nI a') (upd hz i (nI x)) else some (-1, nI a', hz)) := by
  obtain ⟨w1, w2, w3, w4⟩ := wid_b _ (bw_lt fw a)
  have hneg : ∀ la, fX1_readLacing_b117 Fu (nI p) (nI e) rc cnt (lN tot) (nI i) (-1) la hz = some (-1, la, hz) := by
    intro la
    unfold fX1_readLacing_b117
    rw [if_pos (by decide)]
  have hpos : ∀ (x : Nat) la, x < 2 ^ 62 → fX1_readLacing_b117 Fu (nI p) (nI e) rc cnt (lN tot) (nI i) (lN x) la hz = if x ≤ e - p then rc (nI (i + 1)) (lN (tot + x)) cnt la (upd hz i (nI x)) else some (-1, la, hz) := by
    intro x la hx
    unfold fX1_readLacing_b117
    have h0 : (0 : Int64) = lN 0 := rfl
    rw [h0, if_neg (by rw [pk_lLT (by omega) (by omega)]; omega), pk_sub hpe, nI_l (by omega)]
    by_cases c : x ≤ e - p
    · rw [if_pos c, if_pos (by rw [pk_lLE (by omega) (by omega)]; exact c), if_pos (gin_nI (by omega) (by omega)), nm_eq, nm_eq, nm_eq, nI_clamp (by omega), lN_i, lN_add, nI_1]
    · rw [if_neg c, if_neg (by rw [pk_lLE (by omega) (by omega)]; exact c)]
  have hneg2 : ∀ (x : Int64) la, x < 0 → fX1_readLacing_b117 Fu (nI p) (nI e) rc cnt (lN tot) (nI i) x la hz = some (-1, la, hz) := by
    intro x la hx
    unfold fX1_readLacing_b117
    rw [if_pos hx]
  unfold fX1_readSizeOrDifference fX1_readSizeOrDifference_b67 rd3
  by_cases c1 : e ≤ a
  · rw [sizeWidth_o Fu c1 (by omega), if_pos c1, Option.bind_some, if_neg (by decide), Option.bind_some, hneg]
    exact ⟨fun _ => ⟨_, rfl⟩, fun x a' h => by cases h⟩
  rw [if_neg c1, sizeWidth_c hT (by omega) he, Option.bind_some]
  by_cases c2 : wid (bw fw a) = 9
  · rw [if_pos c2, if_pos c2, if_neg (by decide), Option.bind_some, hneg]
    exact ⟨fun _ => ⟨_, rfl⟩, fun x a' h => by cases h⟩
  rw [if_neg c2, if_neg c2]
  by_cases c3 : e < a + wid (bw fw a)
  · rw [if_neg (show ¬ a + wid (bw fw a) ≤ e by omega), if_pos c3, if_neg (by decide), Option.bind_some, hneg]
    exact ⟨fun _ => ⟨_, rfl⟩, fun x a' h => by cases h⟩
  have hn8 : wid (bw fw a) ≤ 8 := by omega
  have hsv := szv_lt (bw_lt fw) a w1 hn8
  have hp7 := pow7 hn8
  obtain ⟨hp71, hp72⟩ := pow71 w1 hn8
  rw [if_pos (show a + wid (bw fw a) ≤ e by omega), if_neg c3, if_pos (show (1 : Int32) ≤ nI (wid (bw fw a)) by rw [i1]; exact nI_le w1 (by omega)), sizeNumber_bw Fu (by unfold Fu; omega) hT (by omega) w1 hn8, Option.bind_some]
  unfold SZ
  by_cases c4 : szv (bw fw) a (wid (bw fw a)) = 2 ^ (7 * wid (bw fw a)) - 1
  · rw [if_pos c4, if_pos c4, if_pos (rfl : (-1 : Int64) = -1), Option.bind_some, hneg]
    exact ⟨fun _ => ⟨_, rfl⟩, fun x a' h => by cases h⟩
  have hne : ¬ lN (szv (bw fw) a (wid (bw fw a))) = -1 := by
    intro h
    have h2 := congrArg Int64.toInt h
    have h3 : (-1 : Int64).toInt = -1 := by decide +kernel
    rw [pk_lT (by omega), h3] at h2
    omega
  rw [if_neg c4, if_neg c4, if_neg hne, nm_eq, nI_add]
  by_cases c5 : i = 0
  · rw [if_pos c5, if_pos (show nI i < 1 by rw [c5]; decide), Option.bind_some, hpos _ _ (by omega)]
    by_cases c6 : szv (bw fw) a (wid (bw fw a)) ≤ 6000
    · rw [if_pos c6]
      refine ⟨(fun h => by cases h), fun x a' h => ?_⟩
      have h3 := Option.some.inj h
      have h4 : szv (bw fw) a (wid (bw fw a)) = x := congrArg Prod.fst h3
      have h5 : a + wid (bw fw a) = a' := congrArg Prod.snd h3
      rw [h4, h5]
    · rw [if_neg c6, if_neg (by omega)]
      exact ⟨fun _ => ⟨_, rfl⟩, fun x a' h => by cases h⟩
  · obtain ⟨q1, q2⟩ := hs (i - 1) (by omega)
    have hpr : nI i - 1 = nI (i - 1) := by rw [i1, pk_sub (by omega)]
    have hds : fX0_differenceShift Fu (nI (wid (bw fw a))) = some (lN (2 ^ (7 * wid (bw fw a) - 1)) - 1) := by
      unfold fX0_differenceShift
      rw [s61n _ (by omega) w1]
    have hl1 : (1 : Int64) = lN 1 := rfl
    have h256 : (256 : Int32) = nI 256 := rfl
    rw [if_neg c5, if_neg (show ¬ nI i < 1 by rw [i1]; exact nI_nlt (by omega) (by omega)), h256, if_pos (nI_le (by omega) (by omega)), hpr, nm_eq, if_pos (gin_nI (by omega) (by omega)), nI_clamp (by omega), q1, hds, Option.bind_some, Option.bind_some, nI_l (by omega), lN_add, hl1, lN_sub (by omega)]
    by_cases c6 : s (i - 1) + szv (bw fw) a (wid (bw fw a)) + 1 < 2 ^ (7 * wid (bw fw a) - 1)
    · rw [if_pos c6, hneg2]
      · exact ⟨fun _ => ⟨_, rfl⟩, fun x a' h => by cases h⟩
      · rw [Int64.lt_iff_toInt_lt, ti0, Int64.toInt_sub, pk_lT (by omega), pk_lT (by omega), Int.bmod_eq_of_le (by omega) (by omega)]
        omega
    · rw [if_neg c6, lN_sub (by omega), show s (i - 1) + szv (bw fw) a (wid (bw fw a)) - (2 ^ (7 * wid (bw fw a) - 1) - 1) = s (i - 1) + szv (bw fw) a (wid (bw fw a)) + 1 - 2 ^ (7 * wid (bw fw a) - 1) by omega, hpos _ _ (by omega)]
      by_cases c7 : s (i - 1) + szv (bw fw) a (wid (bw fw a)) + 1 - 2 ^ (7 * wid (bw fw a) - 1) ≤ 6000
      · rw [if_pos c7]
        refine ⟨(fun h => by cases h), fun x a' h => ?_⟩
        have h3 := Option.some.inj h
        have h4 : s (i - 1) + szv (bw fw) a (wid (bw fw a)) + 1 - 2 ^ (7 * wid (bw fw a) - 1) = x := congrArg Prod.fst h3
        have h5 : a + wid (bw fw a) = a' := congrArg Prod.snd h3
        rw [h4, h5]
      · rw [if_neg c7, if_neg (by omega)]
        exact ⟨fun _ => ⟨_, rfl⟩, fun x a' h => by cases h⟩
theorem step3_r {T e : Nat} {mt : Nat → Int32} {B : Nat → Nat} (hB : ∀ k, B k < 256) (hm : ∀ k, k < T → mt k &&& 255 = nI (B k)) (hT : T ≤ 6000) (he : e ≤ T) {i a : Nat} (hi : i < 255) (hae : a ≤ 6000) {s : Nat → Nat} {z : Nat → Int32} (hs : ∀ j, j < i → z j = nI (s j) ∧ s j ≤ 2000000) (rc : Int32 → Int32 → (Nat → Int32) → Option (Int32 × (Nat → Int32))) : (rd3 B e i a s = none → (if nI e ≤ nI a then (fX10_laced_b164 Fu (nI e) mt rc (nI a) (nI i) 9 z) else ((fX10_at Fu mt (nI a)).bind fun o4 => (fX10_lengthBy Fu o4).bind fun o5 => fX10_laced_b164 Fu (nI e) mt rc (nI a) (nI i) o5 z)) = some (-1, z)) ∧ (∀ x a', rd3 B e i a s = some (x, a') → (if nI e ≤ nI a then (fX10_laced_b164 Fu (nI e) mt rc (nI a) (nI i) 9 z) else ((fX10_at Fu mt (nI a)).bind fun o4 => (fX10_lengthBy Fu o4).bind fun o5 => fX10_laced_b164 Fu (nI e) mt rc (nI a) (nI i) o5 z)) = rc (nI (i + 1)) (nI a') (upd z i (nI x))) := by
  obtain ⟨w1, w2, w3, w4⟩ := wid_b _ (hB a)
  have h240 : ∀ (x n : Nat), x < 2 ^ 62 → fX10_laced_b240 Fu rc (lN x) (nI n) (nI a) (nI i) z = if x ≤ 6000 then rc (nI (i + 1)) (nI (a + n)) (upd z i (nI x)) else some (-1, z) := by
    intro x n hx
    unfold fX10_laced_b240 fX10_laced_b275
    have h0 : (0 : Int64) = lN 0 := rfl
    have h6 : (6000 : Int64) = lN 6000 := rfl
    simp only [nm_eq]
    rw [h0, if_neg (by rw [pk_lLT (by omega) (by omega)]; omega), h6]
    by_cases c : x ≤ 6000
    · rw [if_pos c, if_pos (by rw [pk_lLE (by omega) (by omega)]; exact c), if_pos (gin_nI (by omega) (by omega)), nI_clamp (by omega), lN_i, nI_add, nI_1]
    · rw [if_neg c, if_neg (by rw [pk_lLE (by omega) (by omega)]; exact c)]
  unfold rd3
  by_cases c1 : e ≤ a
  · rw [if_pos c1, if_pos (nI_le c1 (by omega))]
    unfold fX10_laced_b164
    rw [if_pos (by decide)]
    exact ⟨fun _ => rfl, fun x a' h => by cases h⟩
  rw [if_neg c1, if_neg (nI_ge (by omega) (by omega)), rat_B Fu hm hT (by omega), Option.bind_some, len_r _ (hB _), Option.bind_some]
  unfold fX10_laced_b164
  by_cases c2 : wid (B a) = 9
  · rw [if_pos c2, c2, if_pos (by decide)]
    exact ⟨fun _ => rfl, fun x a' h => by cases h⟩
  have hn8 : wid (B a) ≤ 8 := by omega
  rw [if_neg c2, i8, if_neg (nI_nlt hn8 (by omega)), nI_add]
  by_cases c3 : e < a + wid (B a)
  · rw [if_pos c3, if_neg (nI_ge c3 (by omega))]
    exact ⟨fun _ => rfl, fun x a' h => by cases h⟩
  have hsv := szv_lt hB a w1 hn8
  have hp7 := pow7 hn8
  obtain ⟨hp71, hp72⟩ := pow71 w1 hn8
  rw [if_neg c3, if_pos (nI_le (by omega) (by omega)), sizeAt_B Fu (by unfold Fu; omega) hB hm hT (by omega) w1 hn8, Option.bind_some]
  unfold SZ
  by_cases c4 : szv B a (wid (B a)) = 2 ^ (7 * wid (B a)) - 1
  · rw [if_pos c4, if_pos c4, if_pos (rfl : (-1 : Int64) = -1)]
    exact ⟨fun _ => rfl, fun x a' h => by cases h⟩
  have hne : ¬ lN (szv B a (wid (B a))) = -1 := by
    intro h
    have h2 := congrArg Int64.toInt h
    have h3 : (-1 : Int64).toInt = -1 := by decide +kernel
    rw [pk_lT (by omega), h3] at h2
    omega
  rw [if_neg c4, if_neg c4, if_neg hne]
  by_cases c5 : i = 0
  · rw [if_pos c5, if_pos (show nI i ≤ 0 by rw [c5]; decide), h240 _ _ (by omega)]
    by_cases c6 : szv B a (wid (B a)) ≤ 6000
    · rw [if_pos c6, if_pos c6]
      refine ⟨(fun h => by cases h), fun x a' h => ?_⟩
      have h3 := Option.some.inj h
      have h4 : szv B a (wid (B a)) = x := congrArg Prod.fst h3
      have h5 : a + wid (B a) = a' := congrArg Prod.snd h3
      rw [h4, h5]
    · rw [if_neg c6, if_neg c6]
      exact ⟨fun _ => rfl, fun x a' h => by cases h⟩
  · obtain ⟨q1, q2⟩ := hs (i - 1) (by omega)
    have hpr : nI i - 1 = nI (i - 1) := by rw [i1, pk_sub (by omega)]
    have hl1 : (1 : Int64) = lN 1 := rfl
    rw [if_neg c5, if_neg (nI_nle (by omega) (by omega)), hpr, nm_eq, if_pos (gin_nI (by omega) (by omega)), nI_clamp (by omega), q1, nm_eq, s61n _ (by omega) w1, nI_l (by omega), lN_add]
    by_cases c6 : s (i - 1) + szv B a (wid (B a)) + 1 < 2 ^ (7 * wid (B a) - 1)
    · rw [if_pos c6]
      refine ⟨fun _ => ?_, fun x a' h => by cases h⟩
      unfold fX10_laced_b240
      rw [if_pos]
      rw [Int64.lt_iff_toInt_lt, ti0, Int64.toInt_add, Int64.toInt_sub, pk_lT (by omega), pk_lT (by omega), hl1, pk_lT (by omega), Int.bmod_eq_of_le (n := ((s (i - 1) + szv B a (wid (B a)) : Nat) : Int) - ((2 ^ (7 * wid (B a) - 1) : Nat) : Int)) (by omega) (by omega), Int.bmod_eq_of_le (by omega) (by omega)]
      omega
    · have hval : lN (s (i - 1) + szv B a (wid (B a))) - lN (2 ^ (7 * wid (B a) - 1)) + 1 = lN (s (i - 1) + szv B a (wid (B a)) + 1 - 2 ^ (7 * wid (B a) - 1)) := by
        apply Int64.toInt_inj.mp
        rw [Int64.toInt_add, Int64.toInt_sub, pk_lT (by omega), pk_lT (by omega), hl1, pk_lT (by omega), pk_lT (by omega), Int.bmod_eq_of_le (n := ((s (i - 1) + szv B a (wid (B a)) : Nat) : Int) - ((2 ^ (7 * wid (B a) - 1) : Nat) : Int)) (by omega) (by omega), Int.bmod_eq_of_le (by omega) (by omega)]
        omega
      rw [if_neg c6, hval, h240 _ _ (by omega)]
      by_cases c7 : s (i - 1) + szv B a (wid (B a)) + 1 - 2 ^ (7 * wid (B a) - 1) ≤ 6000
      · rw [if_pos c7, if_pos c7]
        refine ⟨(fun h => by cases h), fun x a' h => ?_⟩
        have h3 := Option.some.inj h
        have h4 : s (i - 1) + szv B a (wid (B a)) + 1 - 2 ^ (7 * wid (B a) - 1) = x := congrArg Prod.fst h3
        have h5 : a + wid (B a) = a' := congrArg Prod.snd h3
        rw [h4, h5]
      · rw [if_neg c7, if_neg c7]
        exact ⟨fun _ => rfl, fun x a' h => by cases h⟩
