/-! pure facts: numbers, bits, rows of bytes -/
def Fu : Nat := 20000
def bt (x : Int32) (i : Nat) : Bool := x.toBitVec.getLsbD i
theorem b_ext {x y : Int32} (h : ∀ i, i < 32 → bt x i = bt y i) : x = y := Int32.toBitVec_inj.mp (BitVec.eq_of_getLsbD_eq (fun i hi => h i hi))
theorem b_or (x y : Int32) (i : Nat) : bt (x ||| y) i = (bt x i || bt y i) := by unfold bt; rw [Int32.toBitVec_or, BitVec.getLsbD_or]
theorem b_and (x y : Int32) (i : Nat) : bt (x &&& y) i = (bt x i && bt y i) := by unfold bt; rw [Int32.toBitVec_and, BitVec.getLsbD_and]
theorem b_xor (x y : Int32) (i : Nat) : bt (x ^^^ y) i = (bt x i ^^ bt y i) := by unfold bt; rw [Int32.toBitVec_xor, BitVec.getLsbD_xor]
theorem b_big {x : Int32} {i : Nat} (h : 32 ≤ i) : bt x i = false := BitVec.getLsbD_of_ge _ _ h
theorem b_255 (i : Nat) : bt 255 i = decide (i < 8) := by
  rcases Nat.lt_or_ge i 32 with h | h
  · exact (by decide +kernel : ∀ i, i < 32 → bt 255 i = decide (i < 8)) i h
  · rw [b_big h, decide_eq_false (by omega)]
theorem b_65535 (i : Nat) : bt 65535 i = decide (i < 16) := by
  rcases Nat.lt_or_ge i 32 with h | h
  · exact (by decide +kernel : ∀ i, i < 32 → bt 65535 i = decide (i < 16)) i h
  · rw [b_big h, decide_eq_false (by omega)]
theorem b_m1 : ∀ i, i < 32 → bt (-1) i = true := by decide +kernel
theorem b_0 (i : Nat) : bt 0 i = false := BitVec.getLsbD_zero
theorem s_l : ∀ n, n < 32 → ((nI n &&& 31).toBitVec.smod 32).toNat = n := by decide +kernel
theorem s_u : ∀ n, n < 32 → (((nI n).toUInt32 &&& Int32.toUInt32 31).toBitVec % 32).toNat = n := by decide +kernel
theorem b_shl (n : Nat) (hn : n < 32) (x : Int32) {i : Nat} (hi : i < 32) : bt (x <<< (nI n &&& 31)) i = (decide (n ≤ i) && bt x (i - n)) := by
  unfold bt
  rw [Int32.toBitVec_shiftLeft]
  show (x.toBitVec <<< ((nI n &&& 31).toBitVec.smod 32).toNat).getLsbD i = _
  rw [s_l n hn, BitVec.getLsbD_shiftLeft]
  rcases Nat.lt_or_ge i n with h | h
  · simp [h, Nat.not_le.mpr h]
  · simp [hi, h, Nat.not_lt.mpr h]
theorem b_ushr (n : Nat) (hn : n < 32) (x : Int32) (i : Nat) : bt ((x.toUInt32 >>> ((nI n).toUInt32 &&& Int32.toUInt32 31)).toInt32) i = bt x (n + i) := by
  show (x.toUInt32 >>> ((nI n).toUInt32 &&& Int32.toUInt32 31)).toBitVec.getLsbD i = x.toUInt32.toBitVec.getLsbD (n + i)
  rw [UInt32.toBitVec_shiftRight]
  show (x.toUInt32.toBitVec >>> (((nI n).toUInt32 &&& Int32.toUInt32 31).toBitVec % 32).toNat).getLsbD i = _
  rw [s_u n hn, BitVec.getLsbD_ushiftRight]
theorem b_sshr (n : Nat) (hn : n < 32) (x : Int32) {i : Nat} (hi : i < 32) : bt (x >>> (nI n &&& 31)) i = if n + i < 32 then bt x (n + i) else bt x 31 := by
  unfold bt
  rw [Int32.toBitVec_shiftRight]
  show (x.toBitVec.sshiftRight ((nI n &&& 31).toBitVec.smod 32).toNat).getLsbD i = _
  rw [s_l n hn, BitVec.getLsbD_sshiftRight, BitVec.msb_eq_getLsbD_last]
  simp [hi]

theorem gin_nI {k n : Nat} (h : k < n) (hn : n < 2 ^ 31) : gin (nI k) n = true := decide_eq_true (nI_in h hn)
theorem sh2 {k : Nat} (h : k < 2 ^ 31) : nI k >>> ((2 : Int32) &&& 31) = nI (k / 4) := pk_shrN h _ 2 (by decide)
theorem an3 {k : Nat} (h : k < 2 ^ 32) : nI k &&& 3 = nI (k % 4) := pk_andN h 2 (by decide)
theorem m8 (r : Nat) : (8 : Int32) * nI r = nI (8 * r) := pk_mul 8 r
theorem isb1 : isb 1 = true := by decide
theorem isb0 : isb 0 = true := by decide
theorem at_in (F : Nat) {T n : Nat} {w : Nat → Int32} {k : Nat} (hk : k < T) (hn : k / 4 < n) (hT : T < 2 ^ 31) (hn2 : n < 2 ^ 31) : fX8_at F (nI T) n w (nI k) = some (rb w k) := by
  unfold fX8_at nm
  rw [if_neg (nI_pos (by omega)), if_pos (nI_lt hk hT), sh2 (by omega)]
  simp only []
  rw [if_pos (gin_nI hn hn2), nI_clamp (by omega), an3 (by omega)]
  rfl
theorem at_neg (F : Nat) {len : Int32} {n : Nat} {w : Nat → Int32} {q : Int32} (h : q < 0) : fX8_at F len n w q = some (-1) := by
  unfold fX8_at
  rw [if_pos h]
theorem at_ge (F : Nat) {len : Int32} {n : Nat} {w : Nat → Int32} {q : Int32} (h : len ≤ q) : fX8_at F len n w q = some (-1) := by
  unfold fX8_at
  by_cases h0 : q < 0
  · rw [if_pos h0]
  · rw [if_neg h0, if_neg (by rw [Int32.not_lt]; exact h)]
theorem bt_255 (x : Int32) (i : Nat) : bt (x &&& 255) i = (bt x i && decide (i < 8)) := by rw [b_and, b_255]
theorem bt_ush (x : Int32) (n : Nat) (hn : n < 32) (i : Nat) : bt (ushr32 x (nI n)) i = bt x (n + i) := b_ushr n hn x i
theorem rb_bt (w : Nat → Int32) (k i : Nat) : bt (rb w k) i = (bt (w (k / 4)) (8 * (k % 4) + i) && decide (i < 8)) := by
  unfold rb
  rw [bt_255, m8, bt_ush _ _ (by omega)]
/-- byte r of a word made v -/
def wch (x : Int32) (r : Nat) (v : Int32) : Int32 := (x &&& (((255 : Int32) <<< (nI (8 * r) &&& 31)) ^^^ (-1))) ||| ((v &&& 255) <<< (nI (8 * r) &&& 31))
theorem wch_bt (x : Int32) {r : Nat} (hr : r < 4) (v : Int32) {m : Nat} (hm : m < 32) : bt (wch x r v) m = if 8 * r ≤ m ∧ m < 8 * r + 8 then bt v (m - 8 * r) else bt x m := by
  unfold wch
  rw [b_or, b_and, b_xor, b_shl _ (by omega) _ hm, b_shl _ (by omega) _ hm, b_m1 m hm, b_255, bt_255]
  by_cases h : 8 * r ≤ m ∧ m < 8 * r + 8
  · rw [if_pos h]
    have h1 : decide (8 * r ≤ m) = true := decide_eq_true h.1
    have h2 : decide (m - 8 * r < 8) = true := decide_eq_true (by omega)
    rw [h1, h2]
    cases bt x m <;> cases bt v (m - 8 * r) <;> rfl
  · rw [if_neg h]
    have h1 : (decide (8 * r ≤ m) && decide (m - 8 * r < 8)) = false := by
      rw [← Bool.not_eq_true, Bool.and_eq_true, decide_eq_true_eq, decide_eq_true_eq]; omega
    have h3 : (decide (8 * r ≤ m) && (bt v (m - 8 * r) && decide (m - 8 * r < 8))) = false := by
      rw [Bool.and_comm (bt v _), ← Bool.and_assoc, h1]; rfl
    rw [h1, h3]
    cases bt x m <;> rfl
theorem rb_upd (w : Nat → Int32) (k : Nat) (v : Int32) (j : Nat) : rb (upd w (k / 4) (wch (w (k / 4)) (k % 4) v)) j = if j = k then v &&& 255 else rb w j := by
  refine b_ext (fun i hi => ?_)
  rw [rb_bt]
  by_cases hq : j / 4 = k / 4
  · rw [hq, pk_us]
    by_cases h8 : i < 8
    · rw [wch_bt _ (by omega) _ (by omega)]
      by_cases hjk : j = k
      · subst hjk
        rw [if_pos ⟨by omega, by omega⟩, if_pos rfl, bt_255, show 8 * (j % 4) + i - 8 * (j % 4) = i by omega]
      · rw [if_neg (by omega), if_neg hjk, rb_bt, hq]
    · have hd : decide (i < 8) = false := decide_eq_false h8
      by_cases hjk : j = k
      · rw [if_pos hjk, bt_255, hd, Bool.and_false, Bool.and_false]
      · rw [if_neg hjk, rb_bt, hd, Bool.and_false, Bool.and_false]
  · rw [pk_un hq, if_neg (fun h => hq (by rw [h])), rb_bt]
theorem change_in (F : Nat) {T n : Nat} {w : Nat → Int32} {k : Nat} (v : Int32) (hk : k < T) (hn : k / 4 < n) (hT : T < 2 ^ 31) (hn2 : n < 2 ^ 31) : fX8_change F (nI T) n w (nI k) v = some (1, upd w (k / 4) (wch (w (k / 4)) (k % 4) v)) := by
  unfold fX8_change nm
  rw [if_neg (nI_pos (by omega)), if_pos (nI_lt hk hT), sh2 (by omega), an3 (by omega), m8]
  simp only []
  rw [if_pos (gin_nI hn hn2), if_pos (gin_nI hn hn2), nI_clamp (by omega)]
  rfl
theorem change_neg (F : Nat) {len : Int32} {n : Nat} {w : Nat → Int32} {q v : Int32} (h : q < 0) : fX8_change F len n w q v = some (0, w) := by
  unfold fX8_change
  rw [if_pos h]
theorem change_ge (F : Nat) {len : Int32} {n : Nat} {w : Nat → Int32} {q v : Int32} (h : len ≤ q) : fX8_change F len n w q v = some (0, w) := by
  unfold fX8_change
  by_cases h0 : q < 0
  · rw [if_pos h0]
  · rw [if_neg h0, if_neg (by rw [Int32.not_lt]; exact h)]
theorem bp_b0 (x : Int32) : x.toInt8.toInt32 &&& 255 = x &&& 255 := by
  apply Int32.toBitVec_inj.mp
  rw [Int32.toBitVec_and, Int32.toBitVec_and, Int8.toBitVec_toInt32, Int32.toBitVec_toInt8]
  apply BitVec.eq_of_getLsbD_eq
  intro i hi
  rw [BitVec.getLsbD_and, BitVec.getLsbD_and]
  have hm : ∀ i < 32, 8 ≤ i → (255 : Int32).toBitVec.getLsbD i = false := by decide
  rcases Nat.lt_or_ge i 8 with z | z
  · rw [BitVec.getLsbD_signExtend, BitVec.getLsbD_signExtend, if_pos z, if_pos hi]
    simp only [z, hi, decide_true, Bool.true_and]
  · rw [hm i hi z]; simp
theorem bt_i8 (x : Int32) {i : Nat} (hi : i < 8) : bt x.toInt8.toInt32 i = bt x i := by
  have h : x.toInt8.toInt32 &&& 255 = x &&& 255 := bp_b0 x
  have h1 : bt (x.toInt8.toInt32 &&& 255) i = bt (x &&& 255) i := by rw [h]
  rw [bt_255, bt_255, decide_eq_true hi, Bool.and_true, Bool.and_true] at h1
  exact h1
