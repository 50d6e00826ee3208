-- sum
theorem msr_loop (F : Nat) {T nw k : Nat} (s : Int32) (hT : T < 2 ^ 30) (hw : T ≤ 4 * nw) (hnw : nw < 2 ^ 30) (hk : k ≤ T) : ∀ (m n i : Nat) (w : Nat → Int32), i + m = 4 → m < n → ∃ w', fX5_makeSumRight_b10 F (nI T) nw (nI k) n (nI i) s w = some w' ∧ ∀ j, j < T → rb w' j = if k + 22 + i ≤ j ∧ j < k + 26 then hb s.toInt64 (j - k - 22) else rb w j := by
  intro m
  induction m with
  | zero =>
    intro n i w h1 h2
    cases n with
    | zero => omega
    | succ n =>
      unfold fX5_makeSumRight_b10
      rw [i4, if_pos (nI_le (by omega) (by omega))]
      exact ⟨w, rfl, fun j hj => by rw [if_neg (by omega)]⟩
  | succ m ih =>
    intro n i w h1 h2
    cases n with
    | zero => omega
    | succ n =>
      unfold fX5_makeSumRight_b10
      dsimp only [nm]
      rw [i4, if_neg (nI_ge (by omega) (by omega)), i22, nI_add, nI_add, m8, nI_1]
      rcases Nat.lt_or_ge (k + 22 + i) T with q | q
      · rw [change_in F _ q (by omega) (by omega) (by omega), Option.bind_some]
        obtain ⟨w', h3, h4⟩ := ih n (i + 1) (wset w (k + 22 + i) (ushr32 s (nI (8 * i)))) (by omega) (by omega)
        refine ⟨w', h3, fun j hj => ?_⟩
        rw [h4 j hj, rb_wset]
        by_cases c1 : k + 22 + (i + 1) ≤ j ∧ j < k + 26
        · rw [if_pos c1, if_pos (by omega)]
        · rw [if_neg c1]
          by_cases c2 : j = k + 22 + i
          · rw [if_pos c2, if_pos (by omega), hb_u32 _ (by omega), show j - k - 22 = i by omega]
          · rw [if_neg c2, if_neg (by omega)]
      · rw [change_ge F (nI_le q (by omega)), Option.bind_some]
        obtain ⟨w', h3, h4⟩ := ih n (i + 1) w (by omega) (by omega)
        refine ⟨w', h3, fun j hj => ?_⟩
        rw [h4 j hj]
        by_cases c1 : k + 22 + (i + 1) ≤ j ∧ j < k + 26
        · rw [if_pos c1, if_pos (by omega)]
        · rw [if_neg c1, if_neg (by omega)]
theorem msr_bw (F : Nat) {T nw k t : Nat} {w : Nat → Int32} (hT : T < 2 ^ 30) (hw : T ≤ 4 * nw) (hnw : nw < 2 ^ 30) (hkt : k + t ≤ T) (hF : t < F) (hF4 : 4 < F) : ∃ w', fX5_makeSumRight F (nI T) nw w (nI k) (nI (k + t)) = some w' ∧ ∀ j, j < T → rb w' j = if k + 22 ≤ j ∧ j < k + 26 then hb (crS (bw w) k t).toInt64 (j - k - 22) else rb w j := by
  unfold fX5_makeSumRight
  rw [sumOf_bw F hT hw hnw hkt hF, Option.bind_some]
  exact msr_loop F _ hT hw hnw (by omega) 4 F 0 w (by omega) hF4
theorem psum_loop (F : Nat) {N k : Nat} (s : Int32) (hN : N < 2 ^ 30) (hk : k + 26 ≤ N) : ∀ (m n i : Nat) (f : Nat → Int32), i + m = 4 → m < n → ∃ g, fX10_putSum_b10 F N (nI k) n (nI i) s f = some g ∧ ∀ j, g j &&& 255 = if k + 22 + i ≤ j ∧ j < k + 26 then hb s.toInt64 (j - k - 22) else f j &&& 255 := by
  intro m
  induction m with
  | zero =>
    intro n i f h1 h2
    cases n with
    | zero => omega
    | succ n =>
      unfold fX10_putSum_b10
      rw [i4, if_pos (nI_le (by omega) (by omega))]
      exact ⟨f, rfl, fun j => by rw [if_neg (by omega)]⟩
  | succ m ih =>
    intro n i f h1 h2
    cases n with
    | zero => omega
    | succ n =>
      unfold fX10_putSum_b10
      dsimp only [nm]
      rw [i4, if_neg (nI_ge (by omega) (by omega)), i22, nI_add, nI_add, m8, nI_1, if_pos (gin_nI (by omega) (by omega)), nI_clamp (by omega)]
      obtain ⟨g, h3, h4⟩ := ih n (i + 1) (upd f (k + 22 + i) ((s >>> (nI (8 * i) &&& 31)).toInt8.toInt32).toInt8.toInt32) (by omega) (by omega)
      refine ⟨g, h3, fun j => ?_⟩
      rw [h4 j, upd_app]
      by_cases c1 : k + 22 + (i + 1) ≤ j ∧ j < k + 26
      · rw [if_pos c1, if_pos (by omega)]
      · rw [if_neg c1]
        by_cases c2 : j = k + 22 + i
        · rw [if_pos c2, if_pos (by omega), bp_2, hb_i32 _ (by omega), show j - k - 22 = i by omega]
        · rw [if_neg c2, if_neg (by omega)]
theorem putSum_B (F : Nat) (hF : 9 ≤ F) {N k t : Nat} {f : Nat → Int32} {B : Nat → Nat} (hN : N < 2 ^ 30) (hkt : k + t ≤ N) (hk : k + 26 ≤ N) (htF : t < F) (hB : ∀ j, j < t → f (k + j) &&& 255 = nI (B (k + j))) : ∃ g, fX10_putSum F N f (nI k) (nI t) = some g ∧ ∀ j, g j &&& 255 = if k + 22 ≤ j ∧ j < k + 26 then hb (crS B k t).toInt64 (j - k - 22) else f j &&& 255 := by
  unfold fX10_putSum
  rw [rsumOf_B F hF hN hkt htF hB, Option.bind_some]
  exact psum_loop F _ hN hk 4 F 0 f (by omega) (by omega)
-- numbers of bytes
theorem acc8 {x b : Nat} (hx : x < 2 ^ 54) (hb : b < 256) : shl64 (lN x) (nI 8) ||| (nI b).toInt64 = lN (x * 256 + b) := by
  have h1 : (shl64 (lN x) (nI 8)).toBitVec = BitVec.ofNat 64 (x * 256) := by
    unfold shl64
    rw [Int64.toBitVec_shiftLeft]
    show (lN x).toBitVec <<< (((nI 8).toInt64 &&& 63).toBitVec.smod 64).toNat = _
    rw [s_l64 8 (by omega)]
    apply BitVec.eq_of_toNat_eq
    rw [BitVec.toNat_shiftLeft, Nat.shiftLeft_eq]
    show (BitVec.ofNat 64 x).toNat * 2 ^ 8 % 2 ^ 64 = _
    rw [BitVec.toNat_ofNat, BitVec.toNat_ofNat, Nat.mod_eq_of_lt (show x < 2 ^ 64 by omega)]
  apply Int64.toBitVec_inj.mp
  rw [Int64.toBitVec_or, h1, nI_l (by omega)]
  show BitVec.ofNat 64 (x * 256) ||| BitVec.ofNat 64 b = BitVec.ofNat 64 (x * 256 + b)
  apply BitVec.eq_of_toNat_eq
  rw [BitVec.toNat_or, BitVec.toNat_ofNat, BitVec.toNat_ofNat, BitVec.toNat_ofNat, Nat.mod_eq_of_lt (show x * 256 < 2 ^ 64 by omega), Nat.mod_eq_of_lt (show b < 2 ^ 64 by omega), Nat.mod_eq_of_lt (show x * 256 + b < 2 ^ 64 by omega)]
  have := Nat.two_pow_add_eq_or_of_lt (i := 8) (b := b) hb x
  rw [show x * 256 = 2 ^ 8 * x by omega, this]
def hiN (B : Nat → Nat) (k : Nat) : Nat → Nat
  | 0 => 0
  | n + 1 => hiN B k n * 256 + B (k + n)
theorem hiN_lt {B : Nat → Nat} (hB : ∀ k, B k < 256) (k : Nat) : ∀ n, hiN B k n < 256 ^ n := by
  intro n
  induction n with
  | zero => exact Nat.one_pos
  | succ n ih => rw [hiN, Nat.pow_succ]; have := hB (k + n); omega
theorem nb255 {b : Nat} (hb : b < 256) : nI b &&& 255 = nI b := by rw [pk_andN (by omega) 8 (by decide), Nat.mod_eq_of_lt hb]
theorem hi_loop (F : Nat) {T nw k t : Nat} {w : Nat → Int32} (hT : T < 2 ^ 30) (hw : T ≤ 4 * nw) (hnw : nw < 2 ^ 30) (hkt : k + t ≤ T) (ht : t ≤ 7) : ∀ (m n i : Nat), i + m = t → m < n → fX8_highFirst_b5 F (nI T) nw w (nI k) (nI t) n (nI i) (lN (hiN (bw w) k i)) = some (lN (hiN (bw w) k t)) := by
  intro m
  induction m with
  | zero =>
    intro n i h1 h2
    cases n with
    | zero => omega
    | succ n =>
      unfold fX8_highFirst_b5
      rw [if_pos (nI_le (by omega) (by omega)), show i = t by omega]
  | succ m ih =>
    intro n i h1 h2
    cases n with
    | zero => omega
    | succ n =>
      have ih' := ih n (i + 1) (by omega) (by omega)
      unfold fX8_highFirst_b5
      dsimp only [nm]
      rw [if_neg (nI_ge (by omega) (by omega)), nI_add, at_bw F (by omega) (by omega) (by omega) (by omega), Option.bind_some, nb255 (bw_lt _ _), nI_1, i8]
      have hlt : hiN (bw w) k i < 2 ^ 54 := by
        have h3 := hiN_lt (bw_lt w) k i
        have h4 : 256 ^ i ≤ 256 ^ 6 := Nat.pow_le_pow_right (by omega) (by omega)
        omega
      rw [acc8 hlt (bw_lt _ _)]
      exact ih'
theorem high_bw (F : Nat) {T nw k t : Nat} {w : Nat → Int32} (hT : T < 2 ^ 30) (hw : T ≤ 4 * nw) (hnw : nw < 2 ^ 30) (hkt : k + t ≤ T) (ht : t ≤ 7) (hF : t < F) : fX8_highFirst F (nI T) nw w (nI k) (nI t) = some (lN (hiN (bw w) k t)) := hi_loop F hT hw hnw hkt ht t F 0 (by omega) hF
theorem at_tot (F : Nat) {T n : Nat} {w : Nat → Int32} (hT : T ≤ 4 * n) (hn2 : n < 2 ^ 28) (q : Int32) : ∃ v, fX8_at F (nI T) n w q = some v := by
  rcases pk_ix q (n := T) (by omega) with h | h | ⟨j, hj, rfl⟩
  · exact ⟨_, at_neg F h⟩
  · exact ⟨_, at_ge F h⟩
  · exact ⟨_, at_in F hj (by omega) (by omega) (by omega)⟩
theorem hitot_loop (F : Nat) {T nw t : Nat} {w : Nat → Int32} {q : Int32} (hT : T ≤ 4 * nw) (hnw : nw < 2 ^ 28) (ht : t ≤ 100) : ∀ (m n i : Nat) (x : Int64), i + m = t → m < n → ∃ v, fX8_highFirst_b5 F (nI T) nw w q (nI t) n (nI i) x = some v := by
  intro m
  induction m with
  | zero =>
    intro n i x h1 h2
    cases n with
    | zero => omega
    | succ n =>
      unfold fX8_highFirst_b5
      rw [if_pos (nI_le (by omega) (by omega))]
      exact ⟨_, rfl⟩
  | succ m ih =>
    intro n i x h1 h2
    cases n with
    | zero => omega
    | succ n =>
      unfold fX8_highFirst_b5
      dsimp only [nm]
      obtain ⟨v, hv⟩ := at_tot F (w := w) hT hnw (q + nI i)
      rw [if_neg (nI_ge (by omega) (by omega)), hv, Option.bind_some, nI_1]
      exact ih n (i + 1) _ (by omega) (by omega)
def marked (B : Nat → Nat) (k : Nat) : Prop := B k = 79 ∧ B (k + 1) = 103 ∧ B (k + 2) = 103 ∧ B (k + 3) = 83
theorem nI_inj {a b : Nat} (ha : a < 2 ^ 32) (hb : b < 2 ^ 32) (h : nI a = nI b) : a = b := by rw [← pk_tn ha, ← pk_tn hb, h]
theorem isMarked_in (F : Nat) {T nw k : Nat} {w : Nat → Int32} (hT : T < 2 ^ 30) (hw : T ≤ 4 * nw) (hnw : nw < 2 ^ 30) (hk : k + 4 ≤ T) (hF : 4 < F) : (marked (bw w) k → fX5_isMarked F (nI T) nw w (nI k) = some 1) ∧ (¬ marked (bw w) k → fX5_isMarked F (nI T) nw w (nI k) = some 0) := by
  have e : fX8_highFirst F (nI T) nw w (nI k) 4 = some (lN (hiN (bw w) k 4)) := high_bw F hT hw hnw (t := 4) hk (by omega) hF
  have hv : hiN (bw w) k 4 = ((bw w k * 256 + bw w (k + 1)) * 256 + bw w (k + 2)) * 256 + bw w (k + 3) := by
    simp only [hiN, Nat.zero_mul, Nat.zero_add, Nat.add_zero]
  have h0 := bw_lt w k
  have h1 := bw_lt w (k + 1)
  have h2 := bw_lt w (k + 2)
  have h3 := bw_lt w (k + 3)
  have hm : (1332176723 : Int32) = nI 1332176723 := rfl
  unfold fX5_isMarked fX5_isMarked_b17 marked
  rw [e, Option.bind_some, lN_i, hm, hv]
  constructor
  · rintro ⟨a, b, c, d⟩
    rw [a, b, c, d, if_pos rfl, if_pos isb1]
  · intro hn
    rw [if_neg, if_pos isb0]
    intro h
    have := nI_inj (by omega) (by omega) h
    omega
theorem isMarked_tot (F : Nat) {T nw : Nat} {w : Nat → Int32} {q : Int32} (hT : T ≤ 4 * nw) (hnw : nw < 2 ^ 28) (hF : 4 < F) : fX5_isMarked F (nI T) nw w q = some 1 ∨ fX5_isMarked F (nI T) nw w q = some 0 := by
  obtain ⟨v, hv⟩ := hitot_loop F (w := w) (q := q) hT hnw (t := 4) (by omega) 4 F 0 0 (by omega) hF
  have hv' : fX8_highFirst F (nI T) nw w q 4 = some v := hv
  unfold fX5_isMarked fX5_isMarked_b17
  rw [hv', Option.bind_some]
  by_cases c : v.toInt32 = 1332176723
  · left; rw [if_pos c, if_pos isb1]
  · right; rw [if_neg c, if_pos isb0]
theorem isMark_B (F : Nat) {mt : Nat → Int32} {B : Nat → Nat} {T k : Nat} (hB : ∀ k, B k < 256) (hm : ∀ k, k < T → mt k &&& 255 = nI (B k)) (hT : T ≤ 6000) (hk : k + 4 ≤ T) : (marked B k → fX10_isMark F mt (nI k) = some 1) ∧ (¬ marked B k → fX10_isMark F mt (nI k) = some 0) := by
  have h0 := hB k
  have h1 := hB (k + 1)
  have h2 := hB (k + 2)
  have h3 := hB (k + 3)
  unfold fX10_isMark fX10_isMark_b51 marked
  have e79 : (79 : Int32) = nI 79 := rfl
  have e103 : (103 : Int32) = nI 103 := rfl
  have e83 : (83 : Int32) = nI 83 := rfl
  have e0 : fX10_at F mt (nI k) = _ := rat_B F hm hT (by omega)
  have e1 : fX10_at F mt (nI k + 1) = some (nI (B (k + 1))) := by rw [nI_1]; exact rat_B F hm hT (by omega)
  have e2 : fX10_at F mt (nI k + 2) = some (nI (B (k + 2))) := by rw [i2, nI_add]; exact rat_B F hm hT (by omega)
  have e3 : fX10_at F mt (nI k + 3) = some (nI (B (k + 3))) := by rw [i3, nI_add]; exact rat_B F hm hT (by omega)
  simp only [e0, e1, e2, e3, Option.bind_some, e79, e103, e83, isb0, isb1, if_true]
  simp (disch := omega) only [nI_eq]
  constructor
  · rintro ⟨a, b, c, d⟩
    rw [if_pos a, if_pos b, if_pos c, if_pos d]
  · intro hn
    by_cases a : B k = 79
    · by_cases b : B (k + 1) = 103
      · by_cases c : B (k + 2) = 103
        · rw [if_pos a, if_pos b, if_pos c, if_neg (fun d => hn ⟨a, b, c, d⟩)]
        · rw [if_pos a, if_pos b, if_neg c]
      · rw [if_pos a, if_neg b]
    · rw [if_neg a]

def ssum (B : Nat → Nat) (k : Nat) : Nat → Nat
  | 0 => 0
  | n + 1 => ssum B k n + B (k + 27 + n)
theorem ssum_le {B : Nat → Nat} (hB : ∀ k, B k < 256) (k : Nat) : ∀ n, ssum B k n ≤ 255 * n := by
  intro n
  induction n with
  | zero => exact Nat.le_refl _
  | succ n ih => rw [ssum]; have := hB (k + 27 + n); omega
theorem ssum_mono (B : Nat → Nat) (k : Nat) : ∀ {a b : Nat}, a ≤ b → ssum B k a ≤ ssum B k b := by
  intro a b h
  induction b with
  | zero => rw [show a = 0 by omega]; exact Nat.le_refl _
  | succ b ih =>
    rcases Nat.lt_or_ge a (b + 1) with q | q
    · exact Nat.le_trans (ih (by omega)) (Nat.le_add_right _ _)
    · rw [show a = b + 1 by omega]; exact Nat.le_refl _
/-- the bytes of the page at k -/
def plen (B : Nat → Nat) (k : Nat) : Nat := 27 + B (k + 26) + ssum B k (B (k + 26))
def whole' (B : Nat → Nat) (k n : Nat) : Prop := k + 27 ≤ n ∧ k + 27 + B (k + 26) ≤ n ∧ k + plen B k ≤ n
theorem end_loop (F : Nat) {T nw k lim s : Nat} {w : Nat → Int32} (hT : T ≤ 6000) (hw : T ≤ 4 * nw) (hnw : nw < 2 ^ 28) (hl : lim ≤ T) (hs : k + 27 + s ≤ lim) (hs2 : s < 256) : ∀ (m n i : Nat), i + m = s → m < n → fX5_endOf_b42 F (nI T) nw w (nI k) (nI lim) n (nI i) (nI (k + 27 + s + ssum (bw w) k i)) (nI s) = some (if k + 27 + s + ssum (bw w) k s ≤ lim then nI (k + 27 + s + ssum (bw w) k s) else -1) := by
  intro m
  induction m with
  | zero =>
    intro n i h1 h2
    have := ssum_le (bw_lt w) k s
    cases n with
    | zero => omega
    | succ n =>
      unfold fX5_endOf_b42 fX5_endOf_b82
      rw [if_pos (nI_le (by omega) (by omega)), show i = s by omega]
      by_cases c : k + 27 + s + ssum (bw w) k s ≤ lim
      · rw [if_neg (nI_nlt c (by omega)), if_pos c]
      · rw [if_pos (nI_lt (by omega) (by omega)), if_neg c]
  | succ m ih =>
    intro n i h1 h2
    cases n with
    | zero => omega
    | succ n =>
      unfold fX5_endOf_b42
      dsimp only [nm]
      rw [if_neg (nI_ge (by omega) (by omega)), i27, nI_add, nI_add, at_bw F (by omega) (by omega) (by omega) (by omega), Option.bind_some, nI_add, nI_1]
      have e := ih n (i + 1) (by omega) (by omega)
      rw [ssum, ← Nat.add_assoc] at e
      exact e
theorem endOf_in (F : Nat) {T nw k lim : Nat} {w : Nat → Int32} (hT : T ≤ 6000) (hw : T ≤ 4 * nw) (hnw : nw < 2 ^ 28) (hk : k < 2 ^ 31) (hl : lim ≤ T) (hF : 256 ≤ F) : (whole' (bw w) k lim → fX5_endOf F (nI T) nw w (nI k) (nI lim) = some (nI (k + plen (bw w) k))) ∧ (¬ whole' (bw w) k lim → fX5_endOf F (nI T) nw w (nI k) (nI lim) = some (-1)) := by
  unfold fX5_endOf whole'
  dsimp only [nm]
  rw [if_neg (nI_pos hk)]
  by_cases c1 : k + 27 ≤ lim
  · have hb := bw_lt w (k + 26)
    rw [pk_sub (by omega), i27, if_pos (nI_le (by omega) (by omega)), i26, nI_add, at_bw F (by omega) (by omega) (by omega) (by omega), Option.bind_some, nI_add, nI_add]
    by_cases c2 : k + 27 + bw w (k + 26) ≤ lim
    · rw [if_pos (nI_le c2 (by omega))]
      have e := end_loop F (w := w) hT hw hnw hl c2 hb (bw w (k + 26)) F 0 (by omega) (by omega)
      have e' : fX5_endOf_b42 F (nI T) nw w (nI k) (nI lim) F 0 (nI (k + 27 + bw w (k + 26))) (nI (bw w (k + 26))) = _ := e
      rw [e']
      unfold plen
      rw [show k + 27 + bw w (k + 26) + ssum (bw w) k (bw w (k + 26)) = k + (27 + bw w (k + 26) + ssum (bw w) k (bw w (k + 26))) by omega]
      constructor
      · intro h; rw [if_pos h.2.2]
      · intro h; rw [if_neg (fun q => h ⟨c1, c2, q⟩)]
    · rw [if_neg (nI_ge (by omega) (by omega))]
      exact ⟨fun h => absurd h.2.1 c2, fun _ => rfl⟩
  · have hn : ¬ (27 : Int32) ≤ nI lim - nI k := by
      rw [Int32.le_iff_toInt_le]
      rcases Nat.lt_or_ge k (2 ^ 30) with q | q
      · rw [pk_sub_toInt (by omega) q]
        show ¬ (27 : Int) ≤ _
        omega
      · have h : (nI lim - nI k).toInt = (lim : Int) - k := by
          rw [Int32.toInt_sub, nI_toInt (by omega), nI_toInt hk, Int.bmod_def]
          omega
        rw [h]
        show ¬ (27 : Int) ≤ _
        omega
    rw [if_neg hn]
    exact ⟨fun h => absurd h.1 c1, fun _ => rfl⟩
theorem len_loop (F : Nat) {mt : Nat → Int32} {B : Nat → Nat} {T k : Nat} (hB : ∀ k, B k < 256) (hm : ∀ k, k < T → mt k &&& 255 = nI (B k)) (hT : T ≤ 6000) (hs : k + 27 + B (k + 26) ≤ T) : ∀ (m n i : Nat), i + m = B (k + 26) → m < n → fX10_lengthOf_b14 F mt (nI k) n (nI i) (nI (27 + B (k + 26) + ssum B k i)) = some (nI (plen B k)) := by
  have hb := hB (k + 26)
  intro m
  induction m with
  | zero =>
    intro n i h1 h2
    cases n with
    | zero => omega
    | succ n =>
      unfold fX10_lengthOf_b14
      rw [i26, nI_add, rat_B F hm hT (by omega), Option.bind_some, if_pos (nI_le (by omega) (by omega)), show i = B (k + 26) by omega]
      rfl
  | succ m ih =>
    intro n i h1 h2
    cases n with
    | zero => omega
    | succ n =>
      unfold fX10_lengthOf_b14
      dsimp only [nm]
      rw [i26, nI_add, rat_B F hm hT (by omega), Option.bind_some, if_neg (nI_ge (by omega) (by omega)), i27, nI_add, nI_add, rat_B F hm hT (by omega), Option.bind_some, nI_add, nI_1]
      have e := ih n (i + 1) (by omega) (by omega)
      rw [ssum, ← Nat.add_assoc] at e
      exact e
theorem lengthOf_B (F : Nat) (hF : 256 ≤ F) {mt : Nat → Int32} {B : Nat → Nat} {T k : Nat} (hB : ∀ k, B k < 256) (hm : ∀ k, k < T → mt k &&& 255 = nI (B k)) (hT : T ≤ 6000) (hs : k + 27 + B (k + 26) ≤ T) : fX10_lengthOf F mt (nI k) = some (nI (plen B k)) := by
  have hb := hB (k + 26)
  unfold fX10_lengthOf
  dsimp only [nm]
  rw [i26, nI_add, rat_B F hm hT (by omega), Option.bind_some, i27, nI_add]
  exact len_loop F hB hm hT hs (B (k + 26)) F 0 (by omega) (by omega)
theorem isWhole_B (F : Nat) (hF : 256 ≤ F) {mt : Nat → Int32} {B : Nat → Nat} {T k n : Nat} (hB : ∀ k, B k < 256) (hm : ∀ k, k < T → mt k &&& 255 = nI (B k)) (hT : T ≤ 6000) (hn : n ≤ T) (hk : k + 27 ≤ n) : (whole' B k n → fX10_isWhole F mt (nI k) (nI n) = some 1) ∧ (¬ whole' B k n → fX10_isWhole F mt (nI k) (nI n) = some 0) := by
  have hb := hB (k + 26)
  have hle := ssum_le hB k (B (k + 26))
  have hp : plen B k = 27 + B (k + 26) + ssum B k (B (k + 26)) := rfl
  unfold fX10_isWhole fX10_isWhole_b33 whole'
  rw [i26, nI_add, rat_B F hm hT (by omega), Option.bind_some, i27, nI_add, nI_add]
  by_cases c2 : k + 27 + B (k + 26) ≤ n
  · rw [if_neg (nI_nlt c2 (by omega)), lengthOf_B F hF hB hm hT (by omega), Option.bind_some, nI_add]
    by_cases c3 : k + plen B k ≤ n
    · rw [if_neg (nI_nlt c3 (by omega)), if_pos isb1]
      exact ⟨fun _ => rfl, fun h => absurd ⟨hk, c2, c3⟩ h⟩
    · rw [if_pos (nI_lt (by omega) (by omega)), if_pos isb0]
      exact ⟨fun h => absurd h.2.2 c3, fun _ => rfl⟩
  · rw [if_pos (nI_lt (by omega) (by omega)), if_pos isb0]
    exact ⟨fun h => absurd h.2.1 c2, fun _ => rfl⟩
theorem m1_eq {n : Nat} (h : n < 2 ^ 31) : ¬ nI n = -1 := by
  intro q
  have h1 : ¬ nI n < 0 := nI_pos h
  rw [q] at h1
  exact h1 (by decide)
theorem ok_sum : OP_sum Fu := by
  intro a_length c_aw M_taped c_Mtape o_length c_ow l_packets lb_length c_lbw c_le c_lt h_fault h_faultPlace h_pagesRead h_clustersRead h_blocksRead M_outMany c_Mout M_many M_total c_Msize c_Mtime c_Mbytes M_told M_toldAt M_pageCount M_clusterCount M_blockCount c_MheadRow c_MinfoRow c_MtracksRow c_McodecRow q0 hrel
  obtain ⟨⟨T, hT, e1, e2, hA⟩, hO, hL, hf, hC⟩ := id hrel
  subst e1 e2
  have hFu : (256 : Nat) ≤ Fu := by unfold Fu; omega
  have hFv : 6000 < Fu := by unfold Fu; omega
  have hm : ∀ k, k < T → c_Mtape k &&& 255 = nI (bw c_aw k) := fun k hk => by rw [← hA k hk, rb_bw]
  unfold fX9_sum fX10_sum
  by_cases h0 : q0 < 0
  · rw [if_pos h0, if_pos h0]
    exact ⟨_, _, rfl, rfl, rfl, hrel⟩
  rw [if_neg h0, if_neg h0]
  obtain ⟨k, hk, rfl⟩ := nI_of h0
  by_cases c1 : k + 27 ≤ T
  · rw [i27, pk_sub (by omega), if_neg (nI_nlt (by omega) (by omega))]
    obtain ⟨a1, a2⟩ := isMarked_in Fu (T := T) (nw := 1501) (k := k) (w := c_aw) (by omega) (by omega) (by omega) (by omega) (by omega)
    obtain ⟨b1, b2⟩ := isMark_B Fu (k := k) (bw_lt c_aw) hm hT (by omega)
    by_cases hmk : marked (bw c_aw) k
    · rw [a1 hmk, b1 hmk, Option.bind_some, Option.bind_some, if_neg (by decide), if_neg (by decide)]
      obtain ⟨a3, a4⟩ := endOf_in Fu (T := T) (nw := 1501) (k := k) (lim := T) (w := c_aw) hT (by omega) (by omega) hk (Nat.le_refl _) hFu
      obtain ⟨b3, b4⟩ := isWhole_B Fu hFu (k := k) (n := T) (bw_lt c_aw) hm hT (Nat.le_refl _) c1
      by_cases hwh : whole' (bw c_aw) k T
      · rw [a3 hwh, b3 hwh, Option.bind_some, Option.bind_some, if_neg (m1_eq (by have := hwh.2.2; omega)), if_neg (by decide), lengthOf_B Fu hFu (bw_lt c_aw) hm hT hwh.2.1, Option.bind_some]
        have hpl : 27 ≤ plen (bw c_aw) k := by unfold plen; omega
        obtain ⟨w', c3, c4⟩ := msr_bw Fu (T := T) (nw := 1501) (k := k) (t := plen (bw c_aw) k) (w := c_aw) (by omega) (by omega) (by omega) hwh.2.2 (by have := hwh.2.2; omega) (by omega)
        obtain ⟨g, d3, d4⟩ := putSum_B Fu (by omega) (N := 6000) (k := k) (t := plen (bw c_aw) k) (f := c_Mtape) (B := bw c_aw) (by omega) (by have := hwh.2.2; omega) (by omega) (by have := hwh.2.2; omega) (fun j hj => hm _ (by have := hwh.2.2; omega))
        rw [c3, d3, Option.bind_some, Option.bind_some]
        refine ⟨_, _, rfl, rfl, rfl, ⟨T, hT, rfl, rfl, fun j hj => ?_⟩, hO, hL, hf, hC⟩
        show rb w' j = g j &&& 255
        rw [c4 j hj, d4 j, hA j hj]
      · rw [a4 hwh, b4 hwh, Option.bind_some, Option.bind_some, if_pos rfl, if_pos rfl]
        exact ⟨_, _, rfl, rfl, rfl, hrel⟩
    · rw [a2 hmk, b2 hmk, Option.bind_some, Option.bind_some, if_pos rfl, if_pos rfl]
      exact ⟨_, _, rfl, rfl, rfl, hrel⟩
  · have hn : nI T - 27 < nI k := by
      rw [Int32.lt_iff_toInt_lt, Int32.toInt_sub, nI_toInt (by omega), nI_toInt hk, show (27 : Int32).toInt = 27 from rfl, Int.bmod_def]
      omega
    rw [if_pos hn]
    obtain ⟨a3, a4⟩ := endOf_in Fu (T := T) (nw := 1501) (k := k) (lim := T) (w := c_aw) hT (by omega) (by omega) hk (Nat.le_refl _) hFu
    rw [a4 (fun h => c1 h.1)]
    rcases isMarked_tot Fu (T := T) (nw := 1501) (w := c_aw) (q := nI k) (by omega) (by omega) (by omega) with h | h
    · rw [h, Option.bind_some, if_neg (by decide), Option.bind_some, if_pos rfl]
      exact ⟨_, _, rfl, rfl, rfl, hrel⟩
    · rw [h, Option.bind_some, if_pos rfl]
      exact ⟨_, _, rfl, rfl, rfl, hrel⟩
