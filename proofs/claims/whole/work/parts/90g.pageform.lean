-- what class and reference know of a page: mark, end, SUM
def bw (w : Nat → Int32) (k : Nat) : Nat := (rb w k).toBitVec.toNat % 256
theorem nI_by (x : Int32) : x &&& 255 = nI (x.toBitVec.toNat % 256) := pk_and x 8 (by decide)
theorem rb_bw (w : Nat → Int32) (k : Nat) : rb w k = nI (bw w k) := by unfold bw; rw [← nI_by, rb_255]
theorem bw_lt (w : Nat → Int32) (k : Nat) : bw w k < 256 := Nat.mod_lt _ (by omega)
theorem at_bw (F : Nat) {T n : Nat} {w : Nat → Int32} {k : Nat} (hk : k < T) (hn : k / 4 < n) (hT : T < 2 ^ 31) (hn2 : n < 2 ^ 31) : fX8_at F (nI T) n w (nI k) = some (nI (bw w k)) := by rw [at_in F hk hn hT hn2, rb_bw]
theorem rat_B (F : Nat) {mt : Nat → Int32} {B : Nat → Nat} {T k : Nat} (hm : ∀ k, k < T → mt k &&& 255 = nI (B k)) (hT : T ≤ 6000) (hk : k < T) : fX10_at F mt (nI k) = some (nI (B k)) := by
  unfold fX10_at
  rw [if_pos (gin_nI (by omega) (by omega)), nI_clamp (by omega), hm k hk]
def crS (B : Nat → Nat) (k : Nat) : Nat → Int32
  | 0 => 0
  | n + 1 => crB (crS B k n) (if 22 ≤ n ∧ n < 26 then 0 else B (k + n))
theorem gin15 (x : Int32) : gin (x &&& 15) 16 = true := by
  obtain ⟨j, hj, e⟩ := pk_andE x (m := 15) 4 (by decide)
  rw [e]; exact gin_nI hj (by omega)
theorem b53_eq (F : Nat) (rc : Int32 → Int32 → Option Int32) (r l : Int32) {b : Nat} (hb : b < 256) : fX5_sumOf_b53 F rc r l (nI b) = rc (l + 1) (crB r b) := by
  unfold fX5_sumOf_b53
  dsimp only [nm]
  rw [if_pos (gin15 _), if_pos (gin15 _), ← crB_eq r hb]
  rfl
theorem sumOf_loop (F : Nat) {T nw k t : Nat} {w : Nat → Int32} (hT : T < 2 ^ 30) (hw : T ≤ 4 * nw) (hnw : nw < 2 ^ 30) (hkt : k + t ≤ T) : ∀ (m n j : Nat), j + m = t → m < n → fX5_sumOf_b5 F (nI T) nw w (nI k) (nI (k + t)) n (nI (k + j)) (crS (bw w) k j) = some (crS (bw w) k t) := by
  intro m
  induction m with
  | zero =>
    intro n j h1 h2
    cases n with
    | zero => omega
    | succ n =>
      unfold fX5_sumOf_b5
      rw [if_pos (nI_le (by omega) (by omega)), show j = t by omega]
  | succ m ih =>
    intro n j h1 h2
    cases n with
    | zero => omega
    | succ n =>
      have ih' := ih n (j + 1) (by omega) (by omega)
      unfold fX5_sumOf_b5 fX5_sumOf_b35 fX5_sumOf_b36
      rw [if_neg (nI_ge (by omega) (by omega)), i22, i4, nI_add, nI_add]
      have hat : fX8_at F (nI T) nw w (nI (k + j)) = some (nI (bw w (k + j))) := at_bw F (by omega) (by omega) (by omega) (by omega)
      by_cases c1 : j < 22
      · rw [if_pos (nI_lt (by omega) (by omega)), if_pos rfl, hat, Option.bind_some, b53_eq F _ _ _ (bw_lt _ _), nI_1]
        have e : crS (bw w) k (j + 1) = crB (crS (bw w) k j) (bw w (k + j)) := by rw [crS, if_neg (by omega)]
        rw [← e]; exact ih'
      · rw [if_neg (nI_nlt (by omega) (by omega))]
        by_cases c2 : 26 ≤ j
        · rw [if_pos (nI_le (by omega) (by omega)), if_pos rfl, hat, Option.bind_some, b53_eq F _ _ _ (bw_lt _ _), nI_1]
          have e : crS (bw w) k (j + 1) = crB (crS (bw w) k j) (bw w (k + j)) := by rw [crS, if_neg (by omega)]
          rw [← e]; exact ih'
        · rw [if_neg (nI_ge (by omega) (by omega)), if_neg (by decide), ← nI_0, b53_eq F _ _ _ (by omega), nI_1]
          have e : crS (bw w) k (j + 1) = crB (crS (bw w) k j) 0 := by rw [crS, if_pos (by omega)]
          rw [← e]; exact ih'
theorem sumOf_bw (F : Nat) {T nw k t : Nat} {w : Nat → Int32} (hT : T < 2 ^ 30) (hw : T ≤ 4 * nw) (hnw : nw < 2 ^ 30) (hkt : k + t ≤ T) (hF : t < F) : fX5_sumOf F (nI T) nw w (nI k) (nI (k + t)) = some (crS (bw w) k t) := sumOf_loop F hT hw hnw hkt t F 0 (by omega) hF
theorem b52_step (F : Nat) (rc : Int32 → Int32 → Option Int32) (n i : Nat) (hi : i < 8) (r l : Int32) : fX10_sumOf_b52 F rc (n + 1) (nI i) r l = fX10_sumOf_b52 F rc n (nI (i + 1)) (cr1 r) l := by
  rw [fX10_sumOf_b52]
  unfold fX10_sumOf_b75 cr1
  dsimp only [nm]
  rw [i8, if_neg (nI_ge hi (by omega)), nI_1]
  by_cases h : 0 ≤ r
  · rw [if_pos h, if_pos h]; rfl
  · rw [if_neg h, if_neg h]; rfl
theorem b52_eq (F : Nat) (rc : Int32 → Int32 → Option Int32) (hF : 9 ≤ F) (r l : Int32) : fX10_sumOf_b52 F rc F 0 r l = rc (l + 1) (cr4 (cr4 r)) := by
  obtain ⟨n, hn⟩ : ∃ n, F = n + 9 := ⟨F - 9, by omega⟩
  have e : ∀ G, fX10_sumOf_b52 G rc (n + 9) (nI 0) r l = rc (l + 1) (cr4 (cr4 r)) := by
    intro G
    rw [b52_step G rc _ 0 (by omega), b52_step G rc _ 1 (by omega), b52_step G rc _ 2 (by omega), b52_step G rc _ 3 (by omega), b52_step G rc _ 4 (by omega), b52_step G rc _ 5 (by omega), b52_step G rc _ 6 (by omega), b52_step G rc _ 7 (by omega), fX10_sumOf_b52, if_pos (by decide)]
    rfl
  have := e F
  rw [← hn] at this
  exact this
theorem rsum_loop (F : Nat) (hF : 9 ≤ F) {N k t : Nat} {f : Nat → Int32} {B : Nat → Nat} (hN : N < 2 ^ 30) (hkt : k + t ≤ N) (hB : ∀ j, j < t → f (k + j) &&& 255 = nI (B (k + j))) : ∀ (m n j : Nat), j + m = t → m < n → fX10_sumOf_b5 F N f (nI k) (nI t) n (nI j) (crS B k j) = some (crS B k t) := by
  intro m
  induction m with
  | zero =>
    intro n j h1 h2
    cases n with
    | zero => omega
    | succ n =>
      unfold fX10_sumOf_b5
      rw [if_pos (nI_le (by omega) (by omega)), show j = t by omega]
  | succ m ih =>
    intro n j h1 h2
    cases n with
    | zero => omega
    | succ n =>
      have ih' := ih n (j + 1) (by omega) (by omega)
      unfold fX10_sumOf_b5 fX10_sumOf_b29 fX10_sumOf_b39
      dsimp only [nm]
      rw [if_neg (nI_ge (by omega) (by omega)), i22, i26, nI_add, if_pos (gin_nI (by omega) (by omega)), nI_clamp (by omega), hB j (by omega), b52_eq F _ hF, b52_eq F _ hF, nI_1]
      by_cases c1 : j < 22
      · rw [if_pos (nI_lt (by omega) (by omega))]
        have e : crS B k (j + 1) = crB (crS B k j) (B (k + j)) := by rw [crS, if_neg (by omega)]
        rw [e] at ih'
        exact ih'
      · rw [if_neg (nI_nlt (by omega) (by omega))]
        by_cases c2 : 26 ≤ j
        · rw [if_pos (nI_le (by omega) (by omega))]
          have e : crS B k (j + 1) = crB (crS B k j) (B (k + j)) := by rw [crS, if_neg (by omega)]
          rw [e] at ih'
          exact ih'
        · rw [if_neg (nI_ge (by omega) (by omega))]
          have e : crS B k (j + 1) = crB (crS B k j) 0 := by rw [crS, if_pos (by omega)]
          rw [e] at ih'
          exact ih'
theorem rsumOf_B (F : Nat) (hF : 9 ≤ F) {N k t : Nat} {f : Nat → Int32} {B : Nat → Nat} (hN : N < 2 ^ 30) (hkt : k + t ≤ N) (htF : t < F) (hB : ∀ j, j < t → f (k + j) &&& 255 = nI (B (k + j))) : fX10_sumOf F N f (nI k) (nI t) = some (crS B k t) := rsum_loop F hF hN hkt hB t F 0 (by omega) htF
