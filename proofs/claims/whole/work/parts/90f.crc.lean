-- the SUM: four shifts at once are four single ones
def pol : Int32 := 79764919
def cr1 (r : Int32) : Int32 := if 0 ≤ r then r <<< (nI 1 &&& 31) else (r <<< (nI 1 &&& 31)) ^^^ pol
def cr4 (r : Int32) : Int32 := cr1 (cr1 (cr1 (cr1 r)))
def nib (r x : Int32) : Int32 := (r <<< (nI 4 &&& 31)) ^^^ (kFour (x &&& 15).toNatClampNeg)
theorem bt31 (r : Int32) : bt r 31 = decide (r < 0) := by
  unfold bt
  have h : (r.toBitVec.getLsbD 31) = r.toBitVec.msb := by rw [BitVec.msb_eq_getLsbD_last]
  rw [h, BitVec.msb_eq_toInt]
  refine decide_eq_decide.mpr ?_
  rw [Int32.lt_iff_toInt_lt]
  exact Iff.rfl
theorem cr1_eq (r : Int32) : cr1 r = (r <<< (nI 1 &&& 31)) ^^^ (if bt r 31 = true then pol else 0) := by
  unfold cr1
  rw [bt31]
  by_cases h : 0 ≤ r
  · rw [if_pos h, if_neg (by rw [decide_eq_true_eq, Int32.not_lt]; exact h), Int32.xor_zero]
  · rw [if_neg h, if_pos (by rw [decide_eq_true_eq, ← Int32.not_le]; exact h)]
theorem xs4 (a b c d : Int32) : (a ^^^ b) ^^^ (c ^^^ d) = (a ^^^ c) ^^^ (b ^^^ d) := by
  refine b_ext (fun i _ => ?_)
  simp only [b_xor]
  cases bt a i <;> cases bt b i <;> cases bt c i <;> cases bt d i <;> rfl
theorem shl_xor (x y : Int32) (n : Nat) (hn : n < 32) : (x ^^^ y) <<< (nI n &&& 31) = (x <<< (nI n &&& 31)) ^^^ (y <<< (nI n &&& 31)) := by
  refine b_ext (fun i hi => ?_)
  rw [b_xor, b_shl _ hn _ hi, b_shl _ hn _ hi, b_shl _ hn _ hi, b_xor]
  cases decide (n ≤ i) <;> rfl
theorem cr1_xor (x y : Int32) : cr1 (x ^^^ y) = cr1 x ^^^ cr1 y := by
  rw [cr1_eq, cr1_eq, cr1_eq, xs4]
  have h : (x ^^^ y) <<< (nI 1 &&& 31) = (x <<< (nI 1 &&& 31)) ^^^ (y <<< (nI 1 &&& 31)) := shl_xor x y 1 (by omega)
  rw [h, b_xor]
  congr 1
  cases bt x 31 <;> cases bt y 31 <;> decide
theorem cr4_xor (x y : Int32) : cr4 (x ^^^ y) = cr4 x ^^^ cr4 y := by unfold cr4; rw [cr1_xor, cr1_xor, cr1_xor, cr1_xor]
theorem cr1_low (x : Int32) (h : bt x 31 = false) : cr1 x = x <<< (nI 1 &&& 31) := by
  rw [cr1_eq, h, if_neg (by decide), Int32.xor_zero]
theorem shl_bt31 (x : Int32) : bt (x <<< (nI 1 &&& 31)) 31 = bt x 30 := by rw [b_shl 1 (by omega) _ (by omega)]; rfl
theorem cr4_low (x : Int32) (h : ∀ i, 28 ≤ i → i < 32 → bt x i = false) : cr4 x = x <<< (nI 4 &&& 31) := by
  have s : ∀ (y : Int32) (i : Nat), i < 32 → bt (y <<< (nI 1 &&& 31)) i = (decide (1 ≤ i) && bt y (i - 1)) := fun y i hi => b_shl 1 (by omega) y hi
  unfold cr4
  have d : decide (1 ≤ 31) = true := rfl
  have b1 : bt (x <<< (nI 1 &&& 31)) 31 = false := by rw [s _ _ (by omega), h (31 - 1) (by omega) (by omega), Bool.and_false]
  have b2 : bt ((x <<< (nI 1 &&& 31)) <<< (nI 1 &&& 31)) 31 = false := by rw [s _ _ (by omega), s _ _ (by omega), h (31 - 1 - 1) (by omega) (by omega), Bool.and_false, Bool.and_false]
  have b3 : bt (((x <<< (nI 1 &&& 31)) <<< (nI 1 &&& 31)) <<< (nI 1 &&& 31)) 31 = false := by rw [s _ _ (by omega), s _ _ (by omega), s _ _ (by omega), h (31 - 1 - 1 - 1) (by omega) (by omega), Bool.and_false, Bool.and_false, Bool.and_false]
  rw [cr1_low x (h 31 (by omega) (by omega)), cr1_low _ b1, cr1_low _ b2, cr1_low _ b3]
  refine b_ext (fun i hi => ?_)
  rw [b_shl 4 (by omega) _ hi, s _ _ hi]
  rcases Nat.lt_or_ge i 1 with q | q
  · rw [decide_eq_false (by omega), decide_eq_false (by omega), Bool.false_and, Bool.false_and]
  · rw [s _ _ (by omega)]
    rcases Nat.lt_or_ge i 2 with q | q
    · rw [decide_eq_false (show ¬ 1 ≤ i - 1 by omega), decide_eq_false (show ¬ 4 ≤ i by omega)]; simp
    · rw [s _ _ (by omega)]
      rcases Nat.lt_or_ge i 3 with q | q
      · rw [decide_eq_false (show ¬ 1 ≤ i - 1 - 1 by omega), decide_eq_false (show ¬ 4 ≤ i by omega)]; simp
      · rw [s _ _ (by omega)]
        rcases Nat.lt_or_ge i 4 with q | q
        · rw [decide_eq_false (show ¬ 1 ≤ i - 1 - 1 - 1 by omega), decide_eq_false (show ¬ 4 ≤ i by omega)]; simp
        · rw [decide_eq_true (show 1 ≤ i by omega), decide_eq_true (show 1 ≤ i - 1 by omega), decide_eq_true (show 1 ≤ i - 1 - 1 by omega), decide_eq_true (show 1 ≤ i - 1 - 1 - 1 by omega), decide_eq_true (show 4 ≤ i by omega), show i - 1 - 1 - 1 - 1 = i - 4 by omega]; rfl
theorem cr4_high : ∀ n, n < 16 → cr4 (nI n <<< (nI 28 &&& 31)) = kFour n := by decide +kernel
theorem ltc16 : ∀ n, n < 16 → (nI n).toNatClampNeg = n := by decide +kernel
theorem b_15 (i : Nat) : bt 15 i = decide (i < 4) := by
  rcases Nat.lt_or_ge i 32 with h | h
  · exact (by decide +kernel : ∀ i, i < 32 → bt 15 i = decide (i < 4)) i h
  · rw [b_big h, decide_eq_false (by omega)]
theorem cr4_eq (x : Int32) : cr4 x = nib x (ushr32 x (nI 28)) := by
  have hx : x = ((ushr32 x (nI 28) &&& 15) <<< (nI 28 &&& 31)) ^^^ (ushr32 (x <<< (nI 4 &&& 31)) (nI 4)) := by
    refine b_ext (fun i hi => ?_)
    rw [b_xor, b_shl 28 (by omega) _ hi, bt_ush _ 4 (by omega), b_and, bt_ush _ 28 (by omega), b_15]
    rcases Nat.lt_or_ge i 28 with q | q
    · rw [decide_eq_false (by omega), Bool.false_and, b_shl 4 (by omega) _ (by omega), decide_eq_true (by omega), show 4 + i - 4 = i by omega]
      cases bt x i <;> rfl
    · rw [decide_eq_true (by omega), decide_eq_true (by omega), b_big (x := x <<< (nI 4 &&& 31)) (show 32 ≤ 4 + i by omega), show 28 + (i - 28) = i by omega]
      cases bt x i <;> rfl
  obtain ⟨n, hn, hn2⟩ := pk_andE (ushr32 x (nI 28)) (m := 15) 4 (by decide)
  have hl : cr4 (ushr32 (x <<< (nI 4 &&& 31)) (nI 4)) = (ushr32 (x <<< (nI 4 &&& 31)) (nI 4)) <<< (nI 4 &&& 31) := cr4_low _ (fun i h1 h2 => by rw [bt_ush _ 4 (by omega), b_big (by omega)])
  have hs : (ushr32 (x <<< (nI 4 &&& 31)) (nI 4)) <<< (nI 4 &&& 31) = x <<< (nI 4 &&& 31) := by
    refine b_ext (fun i hi => ?_)
    rw [b_shl 4 (by omega) _ hi, b_shl 4 (by omega) _ hi, bt_ush _ 4 (by omega)]
    rcases Nat.lt_or_ge i 4 with q | q
    · rw [decide_eq_false (by omega), Bool.false_and, Bool.false_and]
    · rw [show 4 + (i - 4) = i by omega, b_shl 4 (by omega) _ hi, decide_eq_true (by omega), Bool.true_and, Bool.true_and]
  rw [hn2] at hx
  have e1 : cr4 x = cr4 ((nI n <<< (nI 28 &&& 31)) ^^^ (ushr32 (x <<< (nI 4 &&& 31)) (nI 4))) := congrArg cr4 hx
  rw [e1, cr4_xor, cr4_high n hn, hl]
  unfold nib
  have e2 : ushr32 x (nI 28) &&& 15 = nI n := hn2
  rw [e2, ltc16 n hn]
  have hs' : (ushr32 (x <<< (nI 4 &&& 31)) (nI 4)) <<< (nI 4 &&& 31) = x <<< (nI 4 &&& 31) := hs
  rw [hs', Int32.xor_comm]
/-- a byte more -/
def crB (r : Int32) (b : Nat) : Int32 := cr4 (cr4 (r ^^^ (nI b <<< (nI 24 &&& 31))))
theorem b_nI {b : Nat} (hb : b < 256) {i : Nat} (hi : 8 ≤ i) : bt (nI b) i = false := by
  have e : nI b = nI b &&& 255 := by rw [pk_andN (by omega) 8 (by decide), Nat.mod_eq_of_lt hb]
  rw [e, bt_255, decide_eq_false (by omega), Bool.and_false]
theorem crB_eq (r : Int32) {b : Nat} (hb : b < 256) : nib (nib r (ushr32 r (nI 28) ^^^ (nI b >>> (nI 4 &&& 31)))) (ushr32 (nib r (ushr32 r (nI 28) ^^^ (nI b >>> (nI 4 &&& 31)))) (nI 28) ^^^ nI b) = crB r b := by
  unfold crB
  have e1 : cr4 (r ^^^ (nI b <<< (nI 24 &&& 31))) = (nib r (ushr32 r (nI 28) ^^^ (nI b >>> (nI 4 &&& 31)))) ^^^ (nI b <<< (nI 28 &&& 31)) := by
    rw [cr4_eq]
    unfold nib
    have i1 : ushr32 (r ^^^ (nI b <<< (nI 24 &&& 31))) (nI 28) &&& 15 = (ushr32 r (nI 28) ^^^ (nI b >>> (nI 4 &&& 31))) &&& 15 := by
      refine b_ext (fun i hi => ?_)
      rw [b_and, b_and, b_xor, bt_ush _ 28 (by omega), bt_ush _ 28 (by omega), b_xor, b_15, b_sshr 4 (by omega) _ hi]
      rcases Nat.lt_or_ge i 4 with q | q
      · rw [b_shl 24 (by omega) _ (by omega), if_pos (by omega), decide_eq_true (show 24 ≤ 28 + i by omega), show 28 + i - 24 = 4 + i by omega, Bool.true_and]
      · rw [decide_eq_false (by omega), Bool.and_false, Bool.and_false]
    rw [i1]
    have i2 : (r ^^^ (nI b <<< (nI 24 &&& 31))) <<< (nI 4 &&& 31) = (r <<< (nI 4 &&& 31)) ^^^ (nI b <<< (nI 28 &&& 31)) := by
      rw [shl_xor r (nI b <<< (nI 24 &&& 31)) 4 (by omega)]
      have z : (nI b <<< (nI 24 &&& 31)) <<< (nI 4 &&& 31) = nI b <<< (nI 28 &&& 31) := by
        refine b_ext (fun i hi => ?_)
        rw [b_shl 4 (by omega) _ hi, b_shl 28 (by omega) _ hi]
        rcases Nat.lt_or_ge i 4 with q | q
        · rw [decide_eq_false (by omega), decide_eq_false (by omega), Bool.false_and, Bool.false_and]
        · rw [b_shl 24 (by omega) _ (by omega), show i - 4 - 24 = i - 28 by omega]
          by_cases c : 28 ≤ i
          · rw [decide_eq_true c, decide_eq_true (show 4 ≤ i by omega), decide_eq_true (show 24 ≤ i - 4 by omega), Bool.true_and, Bool.true_and]
          · rw [decide_eq_false c, decide_eq_false (show ¬ 24 ≤ i - 4 by omega), Bool.false_and, Bool.and_false]
      rw [z]
    rw [i2, Int32.xor_assoc, Int32.xor_comm (nI b <<< _), ← Int32.xor_assoc]
  rw [e1]
  generalize nib r (ushr32 r (nI 28) ^^^ (nI b >>> (nI 4 &&& 31))) = q
  rw [cr4_eq]
  unfold nib
  have i1 : ushr32 (q ^^^ (nI b <<< (nI 28 &&& 31))) (nI 28) &&& 15 = (ushr32 q (nI 28) ^^^ nI b) &&& 15 := by
    refine b_ext (fun i hi => ?_)
    rw [b_and, b_and, b_xor, bt_ush _ 28 (by omega), bt_ush _ 28 (by omega), b_xor, b_15]
    rcases Nat.lt_or_ge i 4 with c | c
    · rw [b_shl 28 (by omega) _ (by omega), decide_eq_true (show 28 ≤ 28 + i by omega), show 28 + i - 28 = i by omega, Bool.true_and]
    · rw [decide_eq_false (by omega), Bool.and_false, Bool.and_false]
  rw [i1]
  have i2 : (q ^^^ (nI b <<< (nI 28 &&& 31))) <<< (nI 4 &&& 31) = q <<< (nI 4 &&& 31) := by
    rw [shl_xor q (nI b <<< (nI 28 &&& 31)) 4 (by omega)]
    have z : (nI b <<< (nI 28 &&& 31)) <<< (nI 4 &&& 31) = 0 := by
      refine b_ext (fun i hi => ?_)
      rw [b_shl 4 (by omega) _ hi, b_0]
      rcases Nat.lt_or_ge i 4 with c | c
      · rw [decide_eq_false (by omega), Bool.false_and]
      · rw [b_shl 28 (by omega) _ (by omega), decide_eq_false (show ¬ 28 ≤ i - 4 by omega), Bool.false_and, Bool.and_false]
    rw [z, Int32.xor_zero]
  rw [i2]
