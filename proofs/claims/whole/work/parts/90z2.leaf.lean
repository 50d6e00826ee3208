-- elements in which no others stand: both sides
abbrev CT : Type := Int32 × Int32 × Int32 × Int32 × Int32 × Int32 × Int64 × Int64 × Int64 × Int32 × (Nat → Int32) × (Nat → Int32) × (Nat → Int32) × (Nat → Int32) × (Nat → Int32) × (Nat → Int32) × Int32 × Int32 × Int32 × (Nat → Int32) × (Nat → Int32) × (Nat → Int64)
abbrev RT : Type := Int32 × Int32 × Int32 × Int32 × Int32 × Int32 × Int32 × Int32 × Int64 × Int32 × Int32 × Int32 × Int32 × Int32 × Int32 × (Nat → Int32) × (Nat → Int64) × (Nat → Int32) × (Nat → Int32)
abbrev PT : Type := Int32 × Int32 × Int32 × Int32 × Int32 × Int32 × Int32 × Int64 × Int32 × (Nat → Int32) × (Nat → Int64) × (Nat → Int32) × (Nat → Int32)
theorem pl_2 (rm rtot hf hfa bls num : Int32) (ctm : Int64) (has fr to : Int32) (mt rs : Nat → Int32) (rt : Nat → Int64) (rby sz : Nat → Int32) (k : Int32) : fX10_plain Fu rm rtot hf hfa bls num ctm has (idr 2) fr to mt rs rt rby sz k = (fX10_isWithin Fu hf hfa fr to mt k (kTold (2 * 6 + 4)) (kTold (2 * 6 + 5))).bind fun o2 => if isb o2.1 = true then some (o2.1, rm, rtot, o2.2.1, o2.2.2, bls, num, ctm, has, rs, rt, rby, sz) else none := by
  have e1 : idr 2 = 17030 := by decide +kernel
  have e2 : kTold (2 * 6 + 4) = 1 := by decide +kernel
  have e3 : kTold (2 * 6 + 5) = 1 := by decide +kernel
  unfold fX10_plain
  rw [e1, e2, e3, if_neg (by decide), if_neg (by decide), if_neg (by decide), if_neg (by decide), if_neg (by decide), if_neg (by decide), if_neg (by decide), if_neg (by decide), if_neg (by decide), if_neg (by decide), if_pos rfl]
theorem pl_3 (rm rtot hf hfa bls num : Int32) (ctm : Int64) (has fr to : Int32) (mt rs : Nat → Int32) (rt : Nat → Int64) (rby sz : Nat → Int32) (k : Int32) : fX10_plain Fu rm rtot hf hfa bls num ctm has (idr 3) fr to mt rs rt rby sz k = (fX10_isWithin Fu hf hfa fr to mt k (kTold (3 * 6 + 4)) (kTold (3 * 6 + 5))).bind fun o2 => if isb o2.1 = true then some (o2.1, rm, rtot, o2.2.1, o2.2.2, bls, num, ctm, has, rs, rt, rby, sz) else none := by
  have e1 : idr 3 = 17143 := by decide +kernel
  have e2 : kTold (3 * 6 + 4) = 1 := by decide +kernel
  have e3 : kTold (3 * 6 + 5) = 1 := by decide +kernel
  unfold fX10_plain
  rw [e1, e2, e3, if_neg (by decide), if_neg (by decide), if_neg (by decide), if_neg (by decide), if_neg (by decide), if_neg (by decide), if_neg (by decide), if_neg (by decide), if_neg (by decide), if_neg (by decide), if_neg (by decide), if_neg (by decide), if_neg (by decide), if_neg (by decide), if_pos rfl]
theorem pl_4 (rm rtot hf hfa bls num : Int32) (ctm : Int64) (has fr to : Int32) (mt rs : Nat → Int32) (rt : Nat → Int64) (rby sz : Nat → Int32) (k : Int32) : fX10_plain Fu rm rtot hf hfa bls num ctm has (idr 4) fr to mt rs rt rby sz k = (fX10_isWithin Fu hf hfa fr to mt k (kTold (4 * 6 + 4)) (kTold (4 * 6 + 5))).bind fun o2 => if isb o2.1 = true then some (o2.1, rm, rtot, o2.2.1, o2.2.2, bls, num, ctm, has, rs, rt, rby, sz) else none := by
  have e1 : idr 4 = 17138 := by decide +kernel
  have e2 : kTold (4 * 6 + 4) = 4 := by decide +kernel
  have e3 : kTold (4 * 6 + 5) = 4 := by decide +kernel
  unfold fX10_plain
  rw [e1, e2, e3, if_neg (by decide), if_neg (by decide), if_neg (by decide), if_neg (by decide), if_neg (by decide), if_neg (by decide), if_neg (by decide), if_neg (by decide), if_neg (by decide), if_neg (by decide), if_neg (by decide), if_neg (by decide), if_pos rfl]
theorem pl_5 (rm rtot hf hfa bls num : Int32) (ctm : Int64) (has fr to : Int32) (mt rs : Nat → Int32) (rt : Nat → Int64) (rby sz : Nat → Int32) (k : Int32) : fX10_plain Fu rm rtot hf hfa bls num ctm has (idr 5) fr to mt rs rt rby sz k = (fX10_isWithin Fu hf hfa fr to mt k (kTold (5 * 6 + 4)) (kTold (5 * 6 + 5))).bind fun o2 => if isb o2.1 = true then some (o2.1, rm, rtot, o2.2.1, o2.2.2, bls, num, ctm, has, rs, rt, rby, sz) else none := by
  have e1 : idr 5 = 17139 := by decide +kernel
  have e2 : kTold (5 * 6 + 4) = 8 := by decide +kernel
  have e3 : kTold (5 * 6 + 5) = 8 := by decide +kernel
  unfold fX10_plain
  rw [e1, e2, e3, if_neg (by decide), if_neg (by decide), if_neg (by decide), if_neg (by decide), if_neg (by decide), if_neg (by decide), if_neg (by decide), if_neg (by decide), if_neg (by decide), if_neg (by decide), if_neg (by decide), if_neg (by decide), if_neg (by decide), if_pos rfl]
theorem pl_7 (rm rtot hf hfa bls num : Int32) (ctm : Int64) (has fr to : Int32) (mt rs : Nat → Int32) (rt : Nat → Int64) (rby sz : Nat → Int32) (k : Int32) : fX10_plain Fu rm rtot hf hfa bls num ctm has (idr 7) fr to mt rs rt rby sz k = (fX10_isWithin Fu hf hfa fr to mt k (kTold (7 * 6 + 4)) (kTold (7 * 6 + 5))).bind fun o2 => if isb o2.1 = true then some (o2.1, rm, rtot, o2.2.1, o2.2.2, bls, num, ctm, has, rs, rt, rby, sz) else none := by
  have e1 : idr 7 = 17031 := by decide +kernel
  have e2 : kTold (7 * 6 + 4) = 1 := by decide +kernel
  have e3 : kTold (7 * 6 + 5) = 4 := by decide +kernel
  unfold fX10_plain
  rw [e1, e2, e3, if_neg (by decide), if_neg (by decide), if_neg (by decide), if_neg (by decide), if_neg (by decide), if_neg (by decide), if_neg (by decide), if_neg (by decide), if_neg (by decide), if_neg (by decide), if_neg (by decide), if_pos rfl]
theorem pl_8 (rm rtot hf hfa bls num : Int32) (ctm : Int64) (has fr to : Int32) (mt rs : Nat → Int32) (rt : Nat → Int64) (rby sz : Nat → Int32) (k : Int32) : fX10_plain Fu rm rtot hf hfa bls num ctm has (idr 8) fr to mt rs rt rby sz k = (fX10_isWithin Fu hf hfa fr to mt k (kTold (8 * 6 + 4)) (kTold (8 * 6 + 5))).bind fun o2 => if isb o2.1 = true then some (o2.1, rm, rtot, o2.2.1, o2.2.2, bls, num, ctm, has, rs, rt, rby, sz) else none := by
  have e1 : idr 8 = 17029 := by decide +kernel
  have e2 : kTold (8 * 6 + 4) = 1 := by decide +kernel
  have e3 : kTold (8 * 6 + 5) = 4 := by decide +kernel
  unfold fX10_plain
  rw [e1, e2, e3, if_neg (by decide), if_neg (by decide), if_neg (by decide), if_neg (by decide), if_neg (by decide), if_neg (by decide), if_neg (by decide), if_neg (by decide), if_neg (by decide), if_pos rfl]
theorem pl_11 (rm rtot hf hfa bls num : Int32) (ctm : Int64) (has fr to : Int32) (mt rs : Nat → Int32) (rt : Nat → Int64) (rby sz : Nat → Int32) (k : Int32) : fX10_plain Fu rm rtot hf hfa bls num ctm has (idr 11) fr to mt rs rt rby sz k = (fX10_isWithin Fu hf hfa fr to mt k (kTold (11 * 6 + 4)) (kTold (11 * 6 + 5))).bind fun o2 => if isb o2.1 = true then some (o2.1, rm, rtot, o2.2.1, o2.2.2, bls, num, ctm, has, rs, rt, rby, sz) else none := by
  have e1 : idr 11 = 2807729 := by decide +kernel
  have e2 : kTold (11 * 6 + 4) = 1 := by decide +kernel
  have e3 : kTold (11 * 6 + 5) = 4611686018427387903 := by decide +kernel
  unfold fX10_plain
  rw [e1, e2, e3, if_neg (by decide), if_neg (by decide), if_neg (by decide), if_neg (by decide), if_neg (by decide), if_neg (by decide), if_neg (by decide), if_neg (by decide), if_neg (by decide), if_neg (by decide), if_neg (by decide), if_neg (by decide), if_neg (by decide), if_neg (by decide), if_neg (by decide), if_neg (by decide), if_pos rfl]
theorem pl_17 (rm rtot hf hfa bls num : Int32) (ctm : Int64) (has fr to : Int32) (mt rs : Nat → Int32) (rt : Nat → Int64) (rby sz : Nat → Int32) (k : Int32) : fX10_plain Fu rm rtot hf hfa bls num ctm has (idr 17) fr to mt rs rt rby sz k = (fX10_isWithin Fu hf hfa fr to mt k (kTold (17 * 6 + 4)) (kTold (17 * 6 + 5))).bind fun o2 => if isb o2.1 = true then some (o2.1, rm, rtot, o2.2.1, o2.2.2, bls, num, ctm, has, rs, rt, rby, sz) else none := by
  have e1 : idr 17 = 131 := by decide +kernel
  have e2 : kTold (17 * 6 + 4) = 2 := by decide +kernel
  have e3 : kTold (17 * 6 + 5) = 2 := by decide +kernel
  unfold fX10_plain
  rw [e1, e2, e3, if_pos rfl]
theorem pl_19 (rm rtot hf hfa bls num : Int32) (ctm : Int64) (has fr to : Int32) (mt rs : Nat → Int32) (rt : Nat → Int64) (rby sz : Nat → Int32) (k : Int32) : fX10_plain Fu rm rtot hf hfa bls num ctm has (idr 19) fr to mt rs rt rby sz k = (fX10_isWithin Fu hf hfa fr to mt k (kTold (19 * 6 + 4)) (kTold (19 * 6 + 5))).bind fun o2 => if isb o2.1 = true then some (o2.1, rm, rtot, o2.2.1, o2.2.2, bls, num, ctm, has, rs, rt, rby, sz) else none := by
  have e1 : idr 19 = 29637 := by decide +kernel
  have e2 : kTold (19 * 6 + 4) = 1 := by decide +kernel
  have e3 : kTold (19 * 6 + 5) = 4611686018427387903 := by decide +kernel
  unfold fX10_plain
  rw [e1, e2, e3, if_neg (by decide), if_neg (by decide), if_neg (by decide), if_neg (by decide), if_neg (by decide), if_neg (by decide), if_neg (by decide), if_neg (by decide), if_neg (by decide), if_neg (by decide), if_neg (by decide), if_neg (by decide), if_neg (by decide), if_neg (by decide), if_neg (by decide), if_pos rfl]
theorem pl_20 (rm rtot hf hfa bls num : Int32) (ctm : Int64) (has fr to : Int32) (mt rs : Nat → Int32) (rt : Nat → Int64) (rby sz : Nat → Int32) (k : Int32) : fX10_plain Fu rm rtot hf hfa bls num ctm has (idr 20) fr to mt rs rt rby sz k = (fX10_isWithin Fu hf hfa fr to mt k (kTold (20 * 6 + 4)) (kTold (20 * 6 + 5))).bind fun o2 => if isb o2.1 = true then some (o2.1, rm, rtot, o2.2.1, o2.2.2, bls, num, ctm, has, rs, rt, rby, sz) else none := by
  have e1 : idr 20 = 156 := by decide +kernel
  have e2 : kTold (20 * 6 + 4) = 0 := by decide +kernel
  have e3 : kTold (20 * 6 + 5) = 1 := by decide +kernel
  unfold fX10_plain
  rw [e1, e2, e3, if_neg (by decide), if_neg (by decide), if_neg (by decide), if_pos rfl]
theorem pl_26 (rm rtot hf hfa bls num : Int32) (ctm : Int64) (has fr to : Int32) (mt rs : Nat → Int32) (rt : Nat → Int64) (rby sz : Nat → Int32) (k : Int32) : fX10_plain Fu rm rtot hf hfa bls num ctm has (idr 26) fr to mt rs rt rby sz k = (fX10_isWithin Fu hf hfa fr to mt k (kTold (26 * 6 + 4)) (kTold (26 * 6 + 5))).bind fun o2 => if isb o2.1 = true then some (o2.1, rm, rtot, o2.2.1, o2.2.2, bls, num, ctm, has, rs, rt, rby, sz) else none := by
  have e1 : idr 26 = 155 := by decide +kernel
  have e2 : kTold (26 * 6 + 4) = 0 := by decide +kernel
  have e3 : kTold (26 * 6 + 5) = 4611686018427387903 := by decide +kernel
  unfold fX10_plain
  rw [e1, e2, e3, if_neg (by decide), if_neg (by decide), if_pos rfl]
theorem pl_16 (rm rtot hf hfa bls num : Int32) (ctm : Int64) (has fr to : Int32) (mt rs : Nat → Int32) (rt : Nat → Int64) (rby sz : Nat → Int32) (k : Int32) : fX10_plain Fu rm rtot hf hfa bls num ctm has (idr 16) fr to mt rs rt rby sz k = (fX10_uint Fu fr to mt).bind fun o1 => (fX10_isWithin Fu hf hfa fr to mt k (kTold (16 * 6 + 4)) (kTold (16 * 6 + 5))).bind fun o2 => if isb o2.1 = true then some (o2.1, rm, rtot, o2.2.1, o2.2.2, bls, o1.toInt32, ctm, has, rs, rt, rby, sz) else none := by
  have e1 : idr 16 = 215 := by decide +kernel
  have e2 : kTold (16 * 6 + 4) = 1 := by decide +kernel
  have e3 : kTold (16 * 6 + 5) = 126 := by decide +kernel
  unfold fX10_plain
  rw [e1, e2, e3, if_neg (by decide), if_neg (by decide), if_neg (by decide), if_neg (by decide), if_neg (by decide), if_neg (by decide), if_pos rfl]
  rfl
theorem pl_22 (rm rtot hf hfa bls num : Int32) (ctm : Int64) (has fr to : Int32) (mt rs : Nat → Int32) (rt : Nat → Int64) (rby sz : Nat → Int32) (k : Int32) : fX10_plain Fu rm rtot hf hfa bls num ctm has (idr 22) fr to mt rs rt rby sz k = (fX10_uint Fu fr to mt).bind fun o1 => (fX10_isWithin Fu hf hfa fr to mt k (kTold (22 * 6 + 4)) (kTold (22 * 6 + 5))).bind fun o2 => if isb o2.1 = true then some (o2.1, rm, rtot, o2.2.1, o2.2.2, bls, num, o1, 1, rs, rt, rby, sz) else none := by
  have e1 : idr 22 = 231 := by decide +kernel
  have e2 : kTold (22 * 6 + 4) = 0 := by decide +kernel
  have e3 : kTold (22 * 6 + 5) = 1099511627775 := by decide +kernel
  unfold fX10_plain
  rw [e1, e2, e3, if_neg (by decide), if_neg (by decide), if_neg (by decide), if_neg (by decide), if_neg (by decide), if_neg (by decide), if_neg (by decide), if_pos rfl]
theorem pl_12 (rm rtot hf hfa bls num : Int32) (ctm : Int64) (has fr to : Int32) (mt rs : Nat → Int32) (rt : Nat → Int64) (rby sz : Nat → Int32) (k : Int32) : fX10_plain Fu rm rtot hf hfa bls num ctm has (idr 12) fr to mt rs rt rby sz k = some (1, rm, rtot, hf, hfa, bls, num, ctm, has, rs, rt, rby, sz) := by
  have e1 : idr 12 = 19840 := by decide +kernel
  unfold fX10_plain
  rw [e1, if_neg (by decide), if_neg (by decide), if_neg (by decide), if_neg (by decide), if_neg (by decide), if_neg (by decide), if_neg (by decide), if_neg (by decide), if_neg (by decide), if_neg (by decide), if_neg (by decide), if_neg (by decide), if_neg (by decide), if_neg (by decide), if_neg (by decide), if_neg (by decide), if_neg (by decide)]
theorem pl_13 (rm rtot hf hfa bls num : Int32) (ctm : Int64) (has fr to : Int32) (mt rs : Nat → Int32) (rt : Nat → Int64) (rby sz : Nat → Int32) (k : Int32) : fX10_plain Fu rm rtot hf hfa bls num ctm has (idr 13) fr to mt rs rt rby sz k = some (1, rm, rtot, hf, hfa, bls, num, ctm, has, rs, rt, rby, sz) := by
  have e1 : idr 13 = 22337 := by decide +kernel
  unfold fX10_plain
  rw [e1, if_neg (by decide), if_neg (by decide), if_neg (by decide), if_neg (by decide), if_neg (by decide), if_neg (by decide), if_neg (by decide), if_neg (by decide), if_neg (by decide), if_neg (by decide), if_neg (by decide), if_neg (by decide), if_neg (by decide), if_neg (by decide), if_neg (by decide), if_neg (by decide), if_neg (by decide)]
theorem pl_18 (rm rtot hf hfa bls num : Int32) (ctm : Int64) (has fr to : Int32) (mt rs : Nat → Int32) (rt : Nat → Int64) (rby sz : Nat → Int32) (k : Int32) : fX10_plain Fu rm rtot hf hfa bls num ctm has (idr 18) fr to mt rs rt rby sz k = if fr < to then some (1, rm, rtot, hf, hfa, bls, num, ctm, has, rs, rt, rby, sz) else some (0, rm, rtot, 5, k, bls, num, ctm, has, rs, rt, rby, sz) := by
  have e1 : idr 18 = 134 := by decide +kernel
  unfold fX10_plain fX10_plain_b279 fX10_plain_b284 fX10_fails
  rw [e1, if_neg (by decide), if_pos rfl, Option.bind_some]
  dsimp only
  rw [if_pos (rfl : (0 : Int32) = 0), if_pos isb0, if_pos isb1]
theorem pl_6 (rm rtot hf hfa bls num : Int32) (ctm : Int64) (has fr to : Int32) (mt rs : Nat → Int32) (rt : Nat → Int64) (rby sz : Nat → Int32) (k : Int32) : fX10_plain Fu rm rtot hf hfa bls num ctm has (idr 6) fr to mt rs rt rby sz k = (fX10_isMatroska Fu fr to mt).bind fun o1 => if o1 = 0 then some (0, rm, rtot, 5, k, bls, num, ctm, has, rs, rt, rby, sz) else some (1, rm, rtot, hf, hfa, bls, num, ctm, has, rs, rt, rby, sz) := by
  have e1 : idr 6 = 17026 := by decide +kernel
  unfold fX10_plain fX10_plain_b214 fX10_plain_b219 fX10_fails
  rw [e1, if_neg (by decide), if_neg (by decide), if_neg (by decide), if_neg (by decide), if_neg (by decide), if_neg (by decide), if_neg (by decide), if_neg (by decide), if_pos rfl]
  simp only [Option.bind_some, isb0, isb1, if_true]
theorem pl_23 (rm rtot hf hfa bls num : Int32) (ctm : Int64) (has fr to : Int32) (mt rs : Nat → Int32) (rt : Nat → Int64) (rby sz : Nat → Int32) (k : Int32) : fX10_plain Fu rm rtot hf hfa bls num ctm has (idr 23) fr to mt rs rt rby sz k = (fX10_block Fu rm rtot hf hfa bls num ctm has (idr 23) fr to mt rs rt rby sz k).bind fun o2 => if isb o2.1 = true then some (o2.1, o2.2.1, o2.2.2.1, o2.2.2.2.1, o2.2.2.2.2.1, o2.2.2.2.2.2.1, num, ctm, has, o2.2.2.2.2.2.2.1, o2.2.2.2.2.2.2.2.1, o2.2.2.2.2.2.2.2.2.1, o2.2.2.2.2.2.2.2.2.2) else none := by
  have e1 : idr 23 = 163 := by decide +kernel
  unfold fX10_plain
  rw [e1, if_neg (by decide), if_neg (by decide), if_neg (by decide), if_neg (by decide), if_neg (by decide), if_pos rfl]
theorem pl_25 (rm rtot hf hfa bls num : Int32) (ctm : Int64) (has fr to : Int32) (mt rs : Nat → Int32) (rt : Nat → Int64) (rby sz : Nat → Int32) (k : Int32) : fX10_plain Fu rm rtot hf hfa bls num ctm has (idr 25) fr to mt rs rt rby sz k = (fX10_block Fu rm rtot hf hfa bls num ctm has (idr 25) fr to mt rs rt rby sz k).bind fun o2 => if isb o2.1 = true then some (o2.1, o2.2.1, o2.2.2.1, o2.2.2.2.1, o2.2.2.2.2.1, o2.2.2.2.2.2.1, num, ctm, has, o2.2.2.2.2.2.2.1, o2.2.2.2.2.2.2.2.1, o2.2.2.2.2.2.2.2.2.1, o2.2.2.2.2.2.2.2.2.2) else none := by
  have e1 : idr 25 = 161 := by decide +kernel
  unfold fX10_plain
  rw [e1, if_neg (by decide), if_neg (by decide), if_neg (by decide), if_neg (by decide), if_pos rfl]
theorem uv_in {B : Nat → Nat} {q n : Nat} {lo hi : Int64} (hlo : 0 ≤ lo.toInt) (h : ¬ (if n ≤ 8 then UV B q n else -1) < lo ∧ (if n ≤ 8 then UV B q n else -1) ≤ hi) : ∃ x : Nat, n ≤ 8 ∧ x < 2 ^ 62 ∧ UV B q n = lN x ∧ lo.toInt ≤ x ∧ (x : Int) ≤ hi.toInt := by
  have hm1 : (-1 : Int64).toInt = -1 := by decide +kernel
  by_cases c : n ≤ 8
  · rw [if_pos c] at h
    unfold UV at h ⊢
    by_cases d : hiN B q n < 2 ^ 62
    · rw [if_pos d] at h ⊢
      rw [Int64.lt_iff_toInt_lt, Int64.le_iff_toInt_le, pk_lT (by omega)] at h
      exact ⟨hiN B q n, c, d, rfl, by omega, h.2⟩
    · rw [if_neg d, Int64.lt_iff_toInt_lt, hm1] at h
      exfalso
      omega
  · rw [if_neg c, Int64.lt_iff_toInt_lt, hm1] at h
    exfalso
    omega
def isU (r : Nat) : Bool := decide (r = 2) || decide (r = 3) || decide (r = 4) || decide (r = 5) || decide (r = 7) || decide (r = 8) || decide (r = 11) || decide (r = 17) || decide (r = 19) || decide (r = 20) || decide (r = 26)
theorem kT : ∀ r, r < 27 → (isU r = true ∨ r = 16 ∨ r = 22) → (kTold (r * 6 + 3)).toInt32 = 1 ∧ 0 ≤ (kTold (r * 6 + 4)).toInt ∧ (kTold (r * 6 + 5)).toInt < 2 ^ 62 := by decide +kernel
theorem kU : ∀ r, r < 27 → isU r = true → ¬ kTold (r * 6) = 215 ∧ ¬ kTold (r * 6) = 231 ∧ r ≠ 16 ∧ r ≠ 22 := by decide +kernel
theorem cu {T k q e r : Nat} {fw : Nat → Int32} (hT : T ≤ 6000) (hqe : q ≤ e) (he : e ≤ T) (hr : r < 27) (hu : isU r = true ∨ r = 16 ∨ r = 22) (tn ct : Int64) (pk pbl : Int32) (pbw pe : Nat → Int32) (pt : Nat → Int64) (hf hp cl bl la ov dep : Int32) (bs : Int64) (hz ids mp en seen till : Nat → Int32) : fX1_readElement_b173 Fu cl bl dep tn ct la hz ids mp en till (nI T) 1501 fw pk 2400 pbl ov 601 pbw pe pt (nI k) (idr r) (nI r) (nI q) (nI e) hf hp bs seen = if ¬ (if e - q ≤ 8 then UV (bw fw) q (e - q) else -1) < kTold (r * 6 + 4) ∧ (if e - q ≤ 8 then UV (bw fw) q (e - q) else -1) ≤ kTold (r * 6 + 5) then some (nI e, hf, hp, cl, bl, dep, (if kTold (r * 6) = 215 then UV (bw fw) q (e - q) else tn), (if kTold (r * 6) = 231 then UV (bw fw) q (e - q) else ct), bs, la, hz, ids, mp, en, seen, till, pk, pbl, ov, pbw, pe, pt) else some (-1, 5, nI k, cl, bl, dep, tn, ct, bs, la, hz, ids, mp, en, seen, till, pk, pbl, ov, pbw, pe, pt) := by
  obtain ⟨k3, k4, k5⟩ := kT r hr hu
  have c3 : fX1_column Fu (nI r) 3 = some (kTold (r * 6 + 3)) := col Fu hr (c := 3) (by omega)
  unfold fX1_readElement_b173
  rw [c3, Option.bind_some, nm_eq, k3, if_neg (show ¬ (1 : Int32) = 0 by decide), if_pos (rfl : (1 : Int32) = 1), readUint_c hT hqe he hr k4 k5]
  by_cases ok : ¬ (if e - q ≤ 8 then UV (bw fw) q (e - q) else -1) < kTold (r * 6 + 4) ∧ (if e - q ≤ 8 then UV (bw fw) q (e - q) else -1) ≤ kTold (r * 6 + 5)
  · rw [if_pos ok, if_pos ok, Option.bind_some]
  · rw [if_neg ok, if_neg ok, Option.bind_some]
theorem leaf_u {T k q e : Nat} {fw mt : Nat → Int32} (hm : ∀ k, k < T → mt k &&& 255 = nI (bw fw k)) (hT : T ≤ 6000) (hqe : q ≤ e) (he : e ≤ T) {tn ct ctm : Int64} {num has : Int32} {pc : Prop} (hct : pc → CTR ct ctm has) {pk pbl rm rtot : Int32} {pbw pe rs rby : Nat → Int32} {pt rt : Nat → Int64} (hrl : RLi pk pbl pbw pe pt rm rtot rs rt rby) (hf hp hfa cl bl bls la ov dep : Int32) (bs : Int64) (hz sz ids mp en seen till : Nat → Int32) {r : Nat} (hr : r < 27) (hu : isU r = true) (hpl : ∀ (rm rtot hf hfa bls num : Int32) (ctm : Int64) (has fr to : Int32) (mt rs : Nat → Int32) (rt : Nat → Int64) (rby sz : Nat → Int32) (k : Int32), fX10_plain Fu rm rtot hf hfa bls num ctm has (idr r) fr to mt rs rt rby sz k = (fX10_isWithin Fu hf hfa fr to mt k (kTold (r * 6 + 4)) (kTold (r * 6 + 5))).bind fun o2 => if isb o2.1 = true then some (o2.1, rm, rtot, o2.2.1, o2.2.2, bls, num, ctm, has, rs, rt, rby, sz) else none) :
    (∃ (f : Int32) (X : CT) (Z : PT), 0 < f ∧ fX1_readElement_b173 Fu cl bl dep tn ct la hz ids mp en till (nI T) 1501 fw pk 2400 pbl ov 601 pbw pe pt (nI k) (idr r) (nI r) (nI q) (nI e) hf hp bs seen = some X ∧ X.1 = -1 ∧ X.2.1 = f ∧ X.2.2.1 = nI k ∧ fX10_plain Fu rm rtot hf hfa bls num ctm has (idr r) (nI q) (nI e) mt rs rt rby sz (nI k) = some Z ∧ Z.1 = 0 ∧ Z.2.2.2.1 = f ∧ Z.2.2.2.2.1 = nI k) ∨
    (∃ (bl' : Int32) (tn' ct' : Int64) (la' : Int32) (hz' : Nat → Int32) (pk' pbl' : Int32) (pbw' pe' : Nat → Int32) (pt' : Nat → Int64) (rm' rtot' bls' num' : Int32) (ctm' : Int64) (has' : Int32) (rs' : Nat → Int32) (rt' : Nat → Int64) (rby' sz' : Nat → Int32), fX1_readElement_b173 Fu cl bl dep tn ct la hz ids mp en till (nI T) 1501 fw pk 2400 pbl ov 601 pbw pe pt (nI k) (idr r) (nI r) (nI q) (nI e) hf hp bs seen = some (nI e, hf, hp, cl, bl', dep, tn', ct', bs, la', hz', ids, mp, en, seen, till, pk', pbl', ov, pbw', pe', pt') ∧ fX10_plain Fu rm rtot hf hfa bls num ctm has (idr r) (nI q) (nI e) mt rs rt rby sz (nI k) = some (1, rm', rtot', hf, hfa, bls', num', ctm', has', rs', rt', rby', sz') ∧ RLi pk' pbl' pbw' pe' pt' rm' rtot' rs' rt' rby' ∧ (pc → CTR ct' ctm' has') ∧ (bl = bls → bl' = bls') ∧ (NUM tn num → NUM tn' num') ∧ (r = 16 → NUM tn' num') ∧ has' = if r = 22 then 1 else has) := by
  obtain ⟨u1, u2, u3, u4⟩ := kU r hr hu
  obtain ⟨k3, k4, k5⟩ := kT r hr (Or.inl hu)
  rw [cu hT hqe he hr (Or.inl hu), hpl, within_r (bw_lt fw) hm hT hqe he]
  by_cases ok : ¬ (if e - q ≤ 8 then UV (bw fw) q (e - q) else -1) < kTold (r * 6 + 4) ∧ (if e - q ≤ 8 then UV (bw fw) q (e - q) else -1) ≤ kTold (r * 6 + 5)
  · right
    rw [if_pos ok, if_pos ok, Option.bind_some, if_pos isb1, if_neg u1, if_neg u2]
    exact ⟨_, _, _, _, _, _, _, _, _, _, _, _, _, _, _, _, _, _, _, _, rfl, rfl, hrl, hct, id, id, fun h => absurd h u3, by rw [if_neg u4]⟩
  · left
    rw [if_neg ok, if_neg ok, Option.bind_some, if_pos isb0]
    exact ⟨5, _, _, by decide, rfl, rfl, rfl, rfl, rfl, rfl, rfl, rfl⟩
theorem leaf_16 {T k q e : Nat} {fw mt : Nat → Int32} (hm : ∀ k, k < T → mt k &&& 255 = nI (bw fw k)) (hT : T ≤ 6000) (hqe : q ≤ e) (he : e ≤ T) {tn ct ctm : Int64} {num has : Int32} {pc : Prop} (hct : pc → CTR ct ctm has) {pk pbl rm rtot : Int32} {pbw pe rs rby : Nat → Int32} {pt rt : Nat → Int64} (hrl : RLi pk pbl pbw pe pt rm rtot rs rt rby) (hf hp hfa cl bl bls la ov dep : Int32) (bs : Int64) (hz sz ids mp en seen till : Nat → Int32) :
    (∃ (f : Int32) (X : CT) (Z : PT), 0 < f ∧ fX1_readElement_b173 Fu cl bl dep tn ct la hz ids mp en till (nI T) 1501 fw pk 2400 pbl ov 601 pbw pe pt (nI k) (idr 16) (nI 16) (nI q) (nI e) hf hp bs seen = some X ∧ X.1 = -1 ∧ X.2.1 = f ∧ X.2.2.1 = nI k ∧ fX10_plain Fu rm rtot hf hfa bls num ctm has (idr 16) (nI q) (nI e) mt rs rt rby sz (nI k) = some Z ∧ Z.1 = 0 ∧ Z.2.2.2.1 = f ∧ Z.2.2.2.2.1 = nI k) ∨
    (∃ (bl' : Int32) (tn' ct' : Int64) (la' : Int32) (hz' : Nat → Int32) (pk' pbl' : Int32) (pbw' pe' : Nat → Int32) (pt' : Nat → Int64) (rm' rtot' bls' num' : Int32) (ctm' : Int64) (has' : Int32) (rs' : Nat → Int32) (rt' : Nat → Int64) (rby' sz' : Nat → Int32), fX1_readElement_b173 Fu cl bl dep tn ct la hz ids mp en till (nI T) 1501 fw pk 2400 pbl ov 601 pbw pe pt (nI k) (idr 16) (nI 16) (nI q) (nI e) hf hp bs seen = some (nI e, hf, hp, cl, bl', dep, tn', ct', bs, la', hz', ids, mp, en, seen, till, pk', pbl', ov, pbw', pe', pt') ∧ fX10_plain Fu rm rtot hf hfa bls num ctm has (idr 16) (nI q) (nI e) mt rs rt rby sz (nI k) = some (1, rm', rtot', hf, hfa, bls', num', ctm', has', rs', rt', rby', sz') ∧ RLi pk' pbl' pbw' pe' pt' rm' rtot' rs' rt' rby' ∧ (pc → CTR ct' ctm' has') ∧ (bl = bls → bl' = bls') ∧ (NUM tn num → NUM tn' num') ∧ (16 = 16 → NUM tn' num') ∧ has' = if 16 = 22 then 1 else has) := by
  obtain ⟨k3, k4, k5⟩ := kT 16 (by omega) (Or.inr (Or.inl rfl))
  rw [cu hT hqe he (by omega) (Or.inr (Or.inl rfl)), pl_16, within_r (bw_lt fw) hm hT hqe he, uint_r (bw_lt fw) hm hT hqe he, Option.bind_some]
  by_cases ok : ¬ (if e - q ≤ 8 then UV (bw fw) q (e - q) else -1) < kTold (16 * 6 + 4) ∧ (if e - q ≤ 8 then UV (bw fw) q (e - q) else -1) ≤ kTold (16 * 6 + 5)
  · right
    obtain ⟨x, x1, x2, x3, x4, x5⟩ := uv_in k4 ok
    have e4 : (kTold (16 * 6 + 4)).toInt = 1 := by decide +kernel
    have e5 : (kTold (16 * 6 + 5)).toInt = 126 := by decide +kernel
    rw [e4] at x4
    rw [e5] at x5
    have hn : NUM (lN x) (nI x) := ⟨x, by omega, by omega, rfl, rfl⟩
    rw [if_pos ok, if_pos ok, Option.bind_some, if_pos isb1, if_pos (show kTold (16 * 6) = 215 by decide +kernel), if_neg (show ¬ kTold (16 * 6) = 231 by decide +kernel), if_pos x1, x3, lN_i]
    exact ⟨_, _, _, _, _, _, _, _, _, _, _, _, _, _, _, _, _, _, _, _, rfl, rfl, hrl, hct, id, fun _ => hn, fun _ => hn, rfl⟩
  · left
    rw [if_neg ok, if_neg ok, Option.bind_some, if_pos isb0]
    exact ⟨5, _, _, by decide, rfl, rfl, rfl, rfl, rfl, rfl, rfl, rfl⟩
theorem leaf_22 {T k q e : Nat} {fw mt : Nat → Int32} (hm : ∀ k, k < T → mt k &&& 255 = nI (bw fw k)) (hT : T ≤ 6000) (hqe : q ≤ e) (he : e ≤ T) {tn ct ctm : Int64} {num has : Int32} {pc : Prop} (hct : pc → CTR ct ctm has) {pk pbl rm rtot : Int32} {pbw pe rs rby : Nat → Int32} {pt rt : Nat → Int64} (hrl : RLi pk pbl pbw pe pt rm rtot rs rt rby) (hf hp hfa cl bl bls la ov dep : Int32) (bs : Int64) (hz sz ids mp en seen till : Nat → Int32) :
    (∃ (f : Int32) (X : CT) (Z : PT), 0 < f ∧ fX1_readElement_b173 Fu cl bl dep tn ct la hz ids mp en till (nI T) 1501 fw pk 2400 pbl ov 601 pbw pe pt (nI k) (idr 22) (nI 22) (nI q) (nI e) hf hp bs seen = some X ∧ X.1 = -1 ∧ X.2.1 = f ∧ X.2.2.1 = nI k ∧ fX10_plain Fu rm rtot hf hfa bls num ctm has (idr 22) (nI q) (nI e) mt rs rt rby sz (nI k) = some Z ∧ Z.1 = 0 ∧ Z.2.2.2.1 = f ∧ Z.2.2.2.2.1 = nI k) ∨
    (∃ (bl' : Int32) (tn' ct' : Int64) (la' : Int32) (hz' : Nat → Int32) (pk' pbl' : Int32) (pbw' pe' : Nat → Int32) (pt' : Nat → Int64) (rm' rtot' bls' num' : Int32) (ctm' : Int64) (has' : Int32) (rs' : Nat → Int32) (rt' : Nat → Int64) (rby' sz' : Nat → Int32), fX1_readElement_b173 Fu cl bl dep tn ct la hz ids mp en till (nI T) 1501 fw pk 2400 pbl ov 601 pbw pe pt (nI k) (idr 22) (nI 22) (nI q) (nI e) hf hp bs seen = some (nI e, hf, hp, cl, bl', dep, tn', ct', bs, la', hz', ids, mp, en, seen, till, pk', pbl', ov, pbw', pe', pt') ∧ fX10_plain Fu rm rtot hf hfa bls num ctm has (idr 22) (nI q) (nI e) mt rs rt rby sz (nI k) = some (1, rm', rtot', hf, hfa, bls', num', ctm', has', rs', rt', rby', sz') ∧ RLi pk' pbl' pbw' pe' pt' rm' rtot' rs' rt' rby' ∧ (pc → CTR ct' ctm' has') ∧ (bl = bls → bl' = bls') ∧ (NUM tn num → NUM tn' num') ∧ (22 = 16 → NUM tn' num') ∧ has' = if 22 = 22 then 1 else has) := by
  obtain ⟨k3, k4, k5⟩ := kT 22 (by omega) (Or.inr (Or.inr rfl))
  rw [cu hT hqe he (by omega) (Or.inr (Or.inr rfl)), pl_22, within_r (bw_lt fw) hm hT hqe he, uint_r (bw_lt fw) hm hT hqe he, Option.bind_some]
  by_cases ok : ¬ (if e - q ≤ 8 then UV (bw fw) q (e - q) else -1) < kTold (22 * 6 + 4) ∧ (if e - q ≤ 8 then UV (bw fw) q (e - q) else -1) ≤ kTold (22 * 6 + 5)
  · right
    obtain ⟨x, x1, x2, x3, x4, x5⟩ := uv_in k4 ok
    have e5 : (kTold (22 * 6 + 5)).toInt = 1099511627775 := by decide +kernel
    rw [e5] at x5
    have hc : CTR (lN x) (lN x) 1 := Or.inr ⟨rfl, rfl, x, by omega, rfl⟩
    rw [if_pos ok, if_pos ok, Option.bind_some, if_pos isb1, if_neg (show ¬ kTold (22 * 6) = 215 by decide +kernel), if_pos (show kTold (22 * 6) = 231 by decide +kernel), if_pos x1, x3]
    exact ⟨_, _, _, _, _, _, _, _, _, _, _, _, _, _, _, _, _, _, _, _, rfl, rfl, hrl, fun _ => hc, id, id, fun h => absurd h (by decide), rfl⟩
  · left
    rw [if_neg ok, if_neg ok, Option.bind_some, if_pos isb0]
    exact ⟨5, _, _, by decide, rfl, rfl, rfl, rfl, rfl, rfl, rfl, rfl⟩
theorem leaf_12 {T k q e : Nat} {fw mt : Nat → Int32} (hm : ∀ k, k < T → mt k &&& 255 = nI (bw fw k)) (hT : T ≤ 6000) (hqe : q ≤ e) (he : e ≤ T) {tn ct ctm : Int64} {num has : Int32} {pc : Prop} (hct : pc → CTR ct ctm has) {pk pbl rm rtot : Int32} {pbw pe rs rby : Nat → Int32} {pt rt : Nat → Int64} (hrl : RLi pk pbl pbw pe pt rm rtot rs rt rby) (hf hp hfa cl bl bls la ov dep : Int32) (bs : Int64) (hz sz ids mp en seen till : Nat → Int32) :
    (∃ (f : Int32) (X : CT) (Z : PT), 0 < f ∧ fX1_readElement_b173 Fu cl bl dep tn ct la hz ids mp en till (nI T) 1501 fw pk 2400 pbl ov 601 pbw pe pt (nI k) (idr 12) (nI 12) (nI q) (nI e) hf hp bs seen = some X ∧ X.1 = -1 ∧ X.2.1 = f ∧ X.2.2.1 = nI k ∧ fX10_plain Fu rm rtot hf hfa bls num ctm has (idr 12) (nI q) (nI e) mt rs rt rby sz (nI k) = some Z ∧ Z.1 = 0 ∧ Z.2.2.2.1 = f ∧ Z.2.2.2.2.1 = nI k) ∨
    (∃ (bl' : Int32) (tn' ct' : Int64) (la' : Int32) (hz' : Nat → Int32) (pk' pbl' : Int32) (pbw' pe' : Nat → Int32) (pt' : Nat → Int64) (rm' rtot' bls' num' : Int32) (ctm' : Int64) (has' : Int32) (rs' : Nat → Int32) (rt' : Nat → Int64) (rby' sz' : Nat → Int32), fX1_readElement_b173 Fu cl bl dep tn ct la hz ids mp en till (nI T) 1501 fw pk 2400 pbl ov 601 pbw pe pt (nI k) (idr 12) (nI 12) (nI q) (nI e) hf hp bs seen = some (nI e, hf, hp, cl, bl', dep, tn', ct', bs, la', hz', ids, mp, en, seen, till, pk', pbl', ov, pbw', pe', pt') ∧ fX10_plain Fu rm rtot hf hfa bls num ctm has (idr 12) (nI q) (nI e) mt rs rt rby sz (nI k) = some (1, rm', rtot', hf, hfa, bls', num', ctm', has', rs', rt', rby', sz') ∧ RLi pk' pbl' pbw' pe' pt' rm' rtot' rs' rt' rby' ∧ (pc → CTR ct' ctm' has') ∧ (bl = bls → bl' = bls') ∧ (NUM tn num → NUM tn' num') ∧ (12 = 16 → NUM tn' num') ∧ has' = if 12 = 22 then 1 else has) := by
  have c3 : fX1_column Fu (nI 12) 3 = some 2 := by decide +kernel
  have c4 : fX1_column Fu (nI 12) 4 = some 0 := by decide +kernel
  right
  unfold fX1_readElement_b173 fX1_readElement_b300
  rw [c3, Option.bind_some, nm_eq, if_neg (show ¬ (2 : Int64).toInt32 = 0 by decide), if_neg (show ¬ (2 : Int64).toInt32 = 1 by decide), if_pos (show (2 : Int64).toInt32 = 2 by decide), c4, Option.bind_some, pk_sub hqe, nI_l (by omega), if_neg (show ¬ lN (e - q) < 0 from fun h => by have h0 : (0 : Int64) = lN 0 := rfl; rw [h0, pk_lLT (by omega) (by omega)] at h; omega), pl_12]
  exact ⟨_, _, _, _, _, _, _, _, _, _, _, _, _, _, _, _, _, _, _, _, rfl, rfl, hrl, hct, id, id, fun h => absurd h (by decide), rfl⟩
theorem leaf_13 {T k q e : Nat} {fw mt : Nat → Int32} (hm : ∀ k, k < T → mt k &&& 255 = nI (bw fw k)) (hT : T ≤ 6000) (hqe : q ≤ e) (he : e ≤ T) {tn ct ctm : Int64} {num has : Int32} {pc : Prop} (hct : pc → CTR ct ctm has) {pk pbl rm rtot : Int32} {pbw pe rs rby : Nat → Int32} {pt rt : Nat → Int64} (hrl : RLi pk pbl pbw pe pt rm rtot rs rt rby) (hf hp hfa cl bl bls la ov dep : Int32) (bs : Int64) (hz sz ids mp en seen till : Nat → Int32) :
    (∃ (f : Int32) (X : CT) (Z : PT), 0 < f ∧ fX1_readElement_b173 Fu cl bl dep tn ct la hz ids mp en till (nI T) 1501 fw pk 2400 pbl ov 601 pbw pe pt (nI k) (idr 13) (nI 13) (nI q) (nI e) hf hp bs seen = some X ∧ X.1 = -1 ∧ X.2.1 = f ∧ X.2.2.1 = nI k ∧ fX10_plain Fu rm rtot hf hfa bls num ctm has (idr 13) (nI q) (nI e) mt rs rt rby sz (nI k) = some Z ∧ Z.1 = 0 ∧ Z.2.2.2.1 = f ∧ Z.2.2.2.2.1 = nI k) ∨
    (∃ (bl' : Int32) (tn' ct' : Int64) (la' : Int32) (hz' : Nat → Int32) (pk' pbl' : Int32) (pbw' pe' : Nat → Int32) (pt' : Nat → Int64) (rm' rtot' bls' num' : Int32) (ctm' : Int64) (has' : Int32) (rs' : Nat → Int32) (rt' : Nat → Int64) (rby' sz' : Nat → Int32), fX1_readElement_b173 Fu cl bl dep tn ct la hz ids mp en till (nI T) 1501 fw pk 2400 pbl ov 601 pbw pe pt (nI k) (idr 13) (nI 13) (nI q) (nI e) hf hp bs seen = some (nI e, hf, hp, cl, bl', dep, tn', ct', bs, la', hz', ids, mp, en, seen, till, pk', pbl', ov, pbw', pe', pt') ∧ fX10_plain Fu rm rtot hf hfa bls num ctm has (idr 13) (nI q) (nI e) mt rs rt rby sz (nI k) = some (1, rm', rtot', hf, hfa, bls', num', ctm', has', rs', rt', rby', sz') ∧ RLi pk' pbl' pbw' pe' pt' rm' rtot' rs' rt' rby' ∧ (pc → CTR ct' ctm' has') ∧ (bl = bls → bl' = bls') ∧ (NUM tn num → NUM tn' num') ∧ (13 = 16 → NUM tn' num') ∧ has' = if 13 = 22 then 1 else has) := by
  have c3 : fX1_column Fu (nI 13) 3 = some 2 := by decide +kernel
  have c4 : fX1_column Fu (nI 13) 4 = some 0 := by decide +kernel
  right
  unfold fX1_readElement_b173 fX1_readElement_b300
  rw [c3, Option.bind_some, nm_eq, if_neg (show ¬ (2 : Int64).toInt32 = 0 by decide), if_neg (show ¬ (2 : Int64).toInt32 = 1 by decide), if_pos (show (2 : Int64).toInt32 = 2 by decide), c4, Option.bind_some, pk_sub hqe, nI_l (by omega), if_neg (show ¬ lN (e - q) < 0 from fun h => by have h0 : (0 : Int64) = lN 0 := rfl; rw [h0, pk_lLT (by omega) (by omega)] at h; omega), pl_13]
  exact ⟨_, _, _, _, _, _, _, _, _, _, _, _, _, _, _, _, _, _, _, _, rfl, rfl, hrl, hct, id, id, fun h => absurd h (by decide), rfl⟩
theorem leaf_18 {T k q e : Nat} {fw mt : Nat → Int32} (hm : ∀ k, k < T → mt k &&& 255 = nI (bw fw k)) (hT : T ≤ 6000) (hqe : q ≤ e) (he : e ≤ T) {tn ct ctm : Int64} {num has : Int32} {pc : Prop} (hct : pc → CTR ct ctm has) {pk pbl rm rtot : Int32} {pbw pe rs rby : Nat → Int32} {pt rt : Nat → Int64} (hrl : RLi pk pbl pbw pe pt rm rtot rs rt rby) (hf hp hfa cl bl bls la ov dep : Int32) (bs : Int64) (hz sz ids mp en seen till : Nat → Int32) :
    (∃ (f : Int32) (X : CT) (Z : PT), 0 < f ∧ fX1_readElement_b173 Fu cl bl dep tn ct la hz ids mp en till (nI T) 1501 fw pk 2400 pbl ov 601 pbw pe pt (nI k) (idr 18) (nI 18) (nI q) (nI e) hf hp bs seen = some X ∧ X.1 = -1 ∧ X.2.1 = f ∧ X.2.2.1 = nI k ∧ fX10_plain Fu rm rtot hf hfa bls num ctm has (idr 18) (nI q) (nI e) mt rs rt rby sz (nI k) = some Z ∧ Z.1 = 0 ∧ Z.2.2.2.1 = f ∧ Z.2.2.2.2.1 = nI k) ∨
    (∃ (bl' : Int32) (tn' ct' : Int64) (la' : Int32) (hz' : Nat → Int32) (pk' pbl' : Int32) (pbw' pe' : Nat → Int32) (pt' : Nat → Int64) (rm' rtot' bls' num' : Int32) (ctm' : Int64) (has' : Int32) (rs' : Nat → Int32) (rt' : Nat → Int64) (rby' sz' : Nat → Int32), fX1_readElement_b173 Fu cl bl dep tn ct la hz ids mp en till (nI T) 1501 fw pk 2400 pbl ov 601 pbw pe pt (nI k) (idr 18) (nI 18) (nI q) (nI e) hf hp bs seen = some (nI e, hf, hp, cl, bl', dep, tn', ct', bs, la', hz', ids, mp, en, seen, till, pk', pbl', ov, pbw', pe', pt') ∧ fX10_plain Fu rm rtot hf hfa bls num ctm has (idr 18) (nI q) (nI e) mt rs rt rby sz (nI k) = some (1, rm', rtot', hf, hfa, bls', num', ctm', has', rs', rt', rby', sz') ∧ RLi pk' pbl' pbw' pe' pt' rm' rtot' rs' rt' rby' ∧ (pc → CTR ct' ctm' has') ∧ (bl = bls → bl' = bls') ∧ (NUM tn num → NUM tn' num') ∧ (18 = 16 → NUM tn' num') ∧ has' = if 18 = 22 then 1 else has) := by
  have c3 : fX1_column Fu (nI 18) 3 = some 2 := by decide +kernel
  have c4 : fX1_column Fu (nI 18) 4 = some 1 := by decide +kernel
  unfold fX1_readElement_b173 fX1_readElement_b300 fX1_fail
  rw [c3, Option.bind_some, nm_eq, if_neg (show ¬ (2 : Int64).toInt32 = 0 by decide), if_neg (show ¬ (2 : Int64).toInt32 = 1 by decide), if_pos (show (2 : Int64).toInt32 = 2 by decide), c4, Option.bind_some, pk_sub hqe, nI_l (by omega), pl_18, Option.bind_some]
  have h1 : (1 : Int64) = lN 1 := rfl
  by_cases c : q < e
  · right
    rw [if_neg (show ¬ lN (e - q) < 1 from fun h => by rw [h1, pk_lLT (by omega) (by omega)] at h; omega), if_pos (nI_lt c (by omega))]
    exact ⟨_, _, _, _, _, _, _, _, _, _, _, _, _, _, _, _, _, _, _, _, rfl, rfl, hrl, hct, id, id, fun h => absurd h (by decide), rfl⟩
  · left
    rw [if_pos (show lN (e - q) < 1 by rw [h1, pk_lLT (by omega) (by omega)]; omega), if_neg (nI_nlt (by omega) (by omega))]
    exact ⟨5, _, _, by decide, rfl, rfl, rfl, rfl, rfl, rfl, rfl, rfl⟩
theorem leaf_6 {T k q e : Nat} {fw mt : Nat → Int32} (hm : ∀ k, k < T → mt k &&& 255 = nI (bw fw k)) (hT : T ≤ 6000) (hqe : q ≤ e) (he : e ≤ T) {tn ct ctm : Int64} {num has : Int32} {pc : Prop} (hct : pc → CTR ct ctm has) {pk pbl rm rtot : Int32} {pbw pe rs rby : Nat → Int32} {pt rt : Nat → Int64} (hrl : RLi pk pbl pbw pe pt rm rtot rs rt rby) (hf hp hfa cl bl bls la ov dep : Int32) (bs : Int64) (hz sz ids mp en seen till : Nat → Int32) :
    (∃ (f : Int32) (X : CT) (Z : PT), 0 < f ∧ fX1_readElement_b173 Fu cl bl dep tn ct la hz ids mp en till (nI T) 1501 fw pk 2400 pbl ov 601 pbw pe pt (nI k) (idr 6) (nI 6) (nI q) (nI e) hf hp bs seen = some X ∧ X.1 = -1 ∧ X.2.1 = f ∧ X.2.2.1 = nI k ∧ fX10_plain Fu rm rtot hf hfa bls num ctm has (idr 6) (nI q) (nI e) mt rs rt rby sz (nI k) = some Z ∧ Z.1 = 0 ∧ Z.2.2.2.1 = f ∧ Z.2.2.2.2.1 = nI k) ∨
    (∃ (bl' : Int32) (tn' ct' : Int64) (la' : Int32) (hz' : Nat → Int32) (pk' pbl' : Int32) (pbw' pe' : Nat → Int32) (pt' : Nat → Int64) (rm' rtot' bls' num' : Int32) (ctm' : Int64) (has' : Int32) (rs' : Nat → Int32) (rt' : Nat → Int64) (rby' sz' : Nat → Int32), fX1_readElement_b173 Fu cl bl dep tn ct la hz ids mp en till (nI T) 1501 fw pk 2400 pbl ov 601 pbw pe pt (nI k) (idr 6) (nI 6) (nI q) (nI e) hf hp bs seen = some (nI e, hf, hp, cl, bl', dep, tn', ct', bs, la', hz', ids, mp, en, seen, till, pk', pbl', ov, pbw', pe', pt') ∧ fX10_plain Fu rm rtot hf hfa bls num ctm has (idr 6) (nI q) (nI e) mt rs rt rby sz (nI k) = some (1, rm', rtot', hf, hfa, bls', num', ctm', has', rs', rt', rby', sz') ∧ RLi pk' pbl' pbw' pe' pt' rm' rtot' rs' rt' rby' ∧ (pc → CTR ct' ctm' has') ∧ (bl = bls → bl' = bls') ∧ (NUM tn num → NUM tn' num') ∧ (6 = 16 → NUM tn' num') ∧ has' = if 6 = 22 then 1 else has) := by
  have c3 : fX1_column Fu (nI 6) 3 = some 3 := by decide +kernel
  obtain ⟨v, hv, n1, n2⟩ := name_eq hm hT hqe he
  unfold fX1_readElement_b173 fX1_readElement_b261 fX1_fail
  rw [c3, Option.bind_some, nm_eq, if_neg (show ¬ (3 : Int64).toInt32 = 0 by decide), if_neg (show ¬ (3 : Int64).toInt32 = 1 by decide), if_neg (show ¬ (3 : Int64).toInt32 = 2 by decide), if_pos (show (3 : Int64).toInt32 = 3 by decide), n1, Option.bind_some, pl_6, n2, Option.bind_some, Option.bind_some]
  rcases hv with h | h
  · left
    rw [if_pos h, if_pos h]
    exact ⟨5, _, _, by decide, rfl, rfl, rfl, rfl, rfl, rfl, rfl, rfl⟩
  · right
    have h0 : ¬ v = 0 := by rw [h]; decide
    rw [if_neg h0, if_neg h0]
    exact ⟨_, _, _, _, _, _, _, _, _, _, _, _, _, _, _, _, _, _, _, _, rfl, rfl, hrl, hct, id, id, fun h => absurd h (by decide), rfl⟩
theorem leaf_23 {T k q e : Nat} {fw mt : Nat → Int32} (hm : ∀ k, k < T → mt k &&& 255 = nI (bw fw k)) (hT : T ≤ 6000) (hqe : q ≤ e) (he : e ≤ T) {tn ct ctm : Int64} {num has : Int32} {pc : Prop} (hct : pc → CTR ct ctm has) {pk pbl rm rtot : Int32} {pbw pe rs rby : Nat → Int32} {pt rt : Nat → Int64} (hrl : RLi pk pbl pbw pe pt rm rtot rs rt rby) (hf hp hfa cl bl bls la ov dep : Int32) (bs : Int64) (hz sz ids mp en seen till : Nat → Int32) (hn : pc ∧ NUM tn num) :
    (∃ (f : Int32) (X : CT) (Z : PT), 0 < f ∧ fX1_readElement_b173 Fu cl bl dep tn ct la hz ids mp en till (nI T) 1501 fw pk 2400 pbl ov 601 pbw pe pt (nI k) (idr 23) (nI 23) (nI q) (nI e) hf hp bs seen = some X ∧ X.1 = -1 ∧ X.2.1 = f ∧ X.2.2.1 = nI k ∧ fX10_plain Fu rm rtot hf hfa bls num ctm has (idr 23) (nI q) (nI e) mt rs rt rby sz (nI k) = some Z ∧ Z.1 = 0 ∧ Z.2.2.2.1 = f ∧ Z.2.2.2.2.1 = nI k) ∨
    (∃ (bl' : Int32) (tn' ct' : Int64) (la' : Int32) (hz' : Nat → Int32) (pk' pbl' : Int32) (pbw' pe' : Nat → Int32) (pt' : Nat → Int64) (rm' rtot' bls' num' : Int32) (ctm' : Int64) (has' : Int32) (rs' : Nat → Int32) (rt' : Nat → Int64) (rby' sz' : Nat → Int32), fX1_readElement_b173 Fu cl bl dep tn ct la hz ids mp en till (nI T) 1501 fw pk 2400 pbl ov 601 pbw pe pt (nI k) (idr 23) (nI 23) (nI q) (nI e) hf hp bs seen = some (nI e, hf, hp, cl, bl', dep, tn', ct', bs, la', hz', ids, mp, en, seen, till, pk', pbl', ov, pbw', pe', pt') ∧ fX10_plain Fu rm rtot hf hfa bls num ctm has (idr 23) (nI q) (nI e) mt rs rt rby sz (nI k) = some (1, rm', rtot', hf, hfa, bls', num', ctm', has', rs', rt', rby', sz') ∧ RLi pk' pbl' pbw' pe' pt' rm' rtot' rs' rt' rby' ∧ (pc → CTR ct' ctm' has') ∧ (bl = bls → bl' = bls') ∧ (NUM tn num → NUM tn' num') ∧ (23 = 16 → NUM tn' num') ∧ has' = if 23 = 22 then 1 else has) := by
  have c3 : fX1_column Fu (nI 23) 3 = some 4 := by decide +kernel
  unfold fX1_readElement_b173
  rw [c3, Option.bind_some, nm_eq, if_neg (show ¬ (4 : Int64).toInt32 = 0 by decide), if_neg (show ¬ (4 : Int64).toInt32 = 1 by decide), if_neg (show ¬ (4 : Int64).toInt32 = 2 by decide), if_neg (show ¬ (4 : Int64).toInt32 = 3 by decide), if_pos (show (4 : Int64).toInt32 = 4 by decide), pl_23]
  rcases block_eq hm hT hqe he hn.2 (hct hn.1) hrl (idr 23) hf hp hfa bl bls la ov hz sz (k := k) with ⟨f, X, Y, h0, h1, h2, h3, h4, h5, h6, h7, h8⟩ | ⟨la', hz', pk', pbl', pbw', pe', pt', rm', rtot', rs', rt', rby', sz', h1, h2, h3⟩
  · left
    rw [h1, h5, Option.bind_some, Option.bind_some, h6, if_pos isb0]
    exact ⟨f, _, _, h0, rfl, h2, h3, h4, rfl, rfl, h7, h8⟩
  · right
    rw [h1, h2, Option.bind_some, Option.bind_some, if_pos isb1]
    exact ⟨_, _, _, _, _, _, _, _, _, _, _, _, _, _, _, _, _, _, _, _, rfl, rfl, h3, hct, fun h => by rw [h], id, fun h => absurd h (by decide), rfl⟩
theorem leaf_25 {T k q e : Nat} {fw mt : Nat → Int32} (hm : ∀ k, k < T → mt k &&& 255 = nI (bw fw k)) (hT : T ≤ 6000) (hqe : q ≤ e) (he : e ≤ T) {tn ct ctm : Int64} {num has : Int32} {pc : Prop} (hct : pc → CTR ct ctm has) {pk pbl rm rtot : Int32} {pbw pe rs rby : Nat → Int32} {pt rt : Nat → Int64} (hrl : RLi pk pbl pbw pe pt rm rtot rs rt rby) (hf hp hfa cl bl bls la ov dep : Int32) (bs : Int64) (hz sz ids mp en seen till : Nat → Int32) (hn : pc ∧ NUM tn num) :
    (∃ (f : Int32) (X : CT) (Z : PT), 0 < f ∧ fX1_readElement_b173 Fu cl bl dep tn ct la hz ids mp en till (nI T) 1501 fw pk 2400 pbl ov 601 pbw pe pt (nI k) (idr 25) (nI 25) (nI q) (nI e) hf hp bs seen = some X ∧ X.1 = -1 ∧ X.2.1 = f ∧ X.2.2.1 = nI k ∧ fX10_plain Fu rm rtot hf hfa bls num ctm has (idr 25) (nI q) (nI e) mt rs rt rby sz (nI k) = some Z ∧ Z.1 = 0 ∧ Z.2.2.2.1 = f ∧ Z.2.2.2.2.1 = nI k) ∨
    (∃ (bl' : Int32) (tn' ct' : Int64) (la' : Int32) (hz' : Nat → Int32) (pk' pbl' : Int32) (pbw' pe' : Nat → Int32) (pt' : Nat → Int64) (rm' rtot' bls' num' : Int32) (ctm' : Int64) (has' : Int32) (rs' : Nat → Int32) (rt' : Nat → Int64) (rby' sz' : Nat → Int32), fX1_readElement_b173 Fu cl bl dep tn ct la hz ids mp en till (nI T) 1501 fw pk 2400 pbl ov 601 pbw pe pt (nI k) (idr 25) (nI 25) (nI q) (nI e) hf hp bs seen = some (nI e, hf, hp, cl, bl', dep, tn', ct', bs, la', hz', ids, mp, en, seen, till, pk', pbl', ov, pbw', pe', pt') ∧ fX10_plain Fu rm rtot hf hfa bls num ctm has (idr 25) (nI q) (nI e) mt rs rt rby sz (nI k) = some (1, rm', rtot', hf, hfa, bls', num', ctm', has', rs', rt', rby', sz') ∧ RLi pk' pbl' pbw' pe' pt' rm' rtot' rs' rt' rby' ∧ (pc → CTR ct' ctm' has') ∧ (bl = bls → bl' = bls') ∧ (NUM tn num → NUM tn' num') ∧ (25 = 16 → NUM tn' num') ∧ has' = if 25 = 22 then 1 else has) := by
  have c3 : fX1_column Fu (nI 25) 3 = some 4 := by decide +kernel
  unfold fX1_readElement_b173
  rw [c3, Option.bind_some, nm_eq, if_neg (show ¬ (4 : Int64).toInt32 = 0 by decide), if_neg (show ¬ (4 : Int64).toInt32 = 1 by decide), if_neg (show ¬ (4 : Int64).toInt32 = 2 by decide), if_neg (show ¬ (4 : Int64).toInt32 = 3 by decide), if_pos (show (4 : Int64).toInt32 = 4 by decide), pl_25]
  rcases block_eq hm hT hqe he hn.2 (hct hn.1) hrl (idr 25) hf hp hfa bl bls la ov hz sz (k := k) with ⟨f, X, Y, h0, h1, h2, h3, h4, h5, h6, h7, h8⟩ | ⟨la', hz', pk', pbl', pbw', pe', pt', rm', rtot', rs', rt', rby', sz', h1, h2, h3⟩
  · left
    rw [h1, h5, Option.bind_some, Option.bind_some, h6, if_pos isb0]
    exact ⟨f, _, _, h0, rfl, h2, h3, h4, rfl, rfl, h7, h8⟩
  · right
    rw [h1, h2, Option.bind_some, Option.bind_some, if_pos isb1]
    exact ⟨_, _, _, _, _, _, _, _, _, _, _, _, _, _, _, _, _, _, _, _, rfl, rfl, h3, hct, fun h => by rw [h], id, fun h => absurd h (by decide), rfl⟩
def isL (r : Nat) : Bool := isU r || decide (r = 16) || decide (r = 22) || decide (r = 12) || decide (r = 13) || decide (r = 18) || decide (r = 6) || decide (r = 23) || decide (r = 25)
theorem leaf_eq {T k q e : Nat} {fw mt : Nat → Int32} (hm : ∀ k, k < T → mt k &&& 255 = nI (bw fw k)) (hT : T ≤ 6000) (hqe : q ≤ e) (he : e ≤ T) {tn ct ctm : Int64} {num has : Int32} {pc : Prop} (hct : pc → CTR ct ctm has) {pk pbl rm rtot : Int32} {pbw pe rs rby : Nat → Int32} {pt rt : Nat → Int64} (hrl : RLi pk pbl pbw pe pt rm rtot rs rt rby) (hf hp hfa cl bl bls la ov dep : Int32) (bs : Int64) (hz sz ids mp en seen till : Nat → Int32) {r : Nat} (hr : r < 27) (hl : isL r = true) (hn : (r = 23 ∨ r = 25) → pc ∧ NUM tn num) :
    (∃ (f : Int32) (X : CT) (Z : PT), 0 < f ∧ fX1_readElement_b173 Fu cl bl dep tn ct la hz ids mp en till (nI T) 1501 fw pk 2400 pbl ov 601 pbw pe pt (nI k) (idr r) (nI r) (nI q) (nI e) hf hp bs seen = some X ∧ X.1 = -1 ∧ X.2.1 = f ∧ X.2.2.1 = nI k ∧ fX10_plain Fu rm rtot hf hfa bls num ctm has (idr r) (nI q) (nI e) mt rs rt rby sz (nI k) = some Z ∧ Z.1 = 0 ∧ Z.2.2.2.1 = f ∧ Z.2.2.2.2.1 = nI k) ∨
    (∃ (bl' : Int32) (tn' ct' : Int64) (la' : Int32) (hz' : Nat → Int32) (pk' pbl' : Int32) (pbw' pe' : Nat → Int32) (pt' : Nat → Int64) (rm' rtot' bls' num' : Int32) (ctm' : Int64) (has' : Int32) (rs' : Nat → Int32) (rt' : Nat → Int64) (rby' sz' : Nat → Int32), fX1_readElement_b173 Fu cl bl dep tn ct la hz ids mp en till (nI T) 1501 fw pk 2400 pbl ov 601 pbw pe pt (nI k) (idr r) (nI r) (nI q) (nI e) hf hp bs seen = some (nI e, hf, hp, cl, bl', dep, tn', ct', bs, la', hz', ids, mp, en, seen, till, pk', pbl', ov, pbw', pe', pt') ∧ fX10_plain Fu rm rtot hf hfa bls num ctm has (idr r) (nI q) (nI e) mt rs rt rby sz (nI k) = some (1, rm', rtot', hf, hfa, bls', num', ctm', has', rs', rt', rby', sz') ∧ RLi pk' pbl' pbw' pe' pt' rm' rtot' rs' rt' rby' ∧ (pc → CTR ct' ctm' has') ∧ (bl = bls → bl' = bls') ∧ (NUM tn num → NUM tn' num') ∧ (r = 16 → NUM tn' num') ∧ has' = if r = 22 then 1 else has) := by
  have hcs : r = 2 ∨ r = 3 ∨ r = 4 ∨ r = 5 ∨ r = 7 ∨ r = 8 ∨ r = 11 ∨ r = 17 ∨ r = 19 ∨ r = 20 ∨ r = 26 ∨ r = 16 ∨ r = 22 ∨ r = 12 ∨ r = 13 ∨ r = 18 ∨ r = 6 ∨ r = 23 ∨ r = 25 := by
    simp only [isL, isU, Bool.or_eq_true, decide_eq_true_eq] at hl
    omega
  rcases hcs with h | h | h | h | h | h | h | h | h | h | h | h | h | h | h | h | h | h | h
  · subst h
    exact leaf_u hm hT hqe he hct hrl hf hp hfa cl bl bls la ov dep bs hz sz ids mp en seen till hr rfl pl_2
  · subst h
    exact leaf_u hm hT hqe he hct hrl hf hp hfa cl bl bls la ov dep bs hz sz ids mp en seen till hr rfl pl_3
  · subst h
    exact leaf_u hm hT hqe he hct hrl hf hp hfa cl bl bls la ov dep bs hz sz ids mp en seen till hr rfl pl_4
  · subst h
    exact leaf_u hm hT hqe he hct hrl hf hp hfa cl bl bls la ov dep bs hz sz ids mp en seen till hr rfl pl_5
  · subst h
    exact leaf_u hm hT hqe he hct hrl hf hp hfa cl bl bls la ov dep bs hz sz ids mp en seen till hr rfl pl_7
  · subst h
    exact leaf_u hm hT hqe he hct hrl hf hp hfa cl bl bls la ov dep bs hz sz ids mp en seen till hr rfl pl_8
  · subst h
    exact leaf_u hm hT hqe he hct hrl hf hp hfa cl bl bls la ov dep bs hz sz ids mp en seen till hr rfl pl_11
  · subst h
    exact leaf_u hm hT hqe he hct hrl hf hp hfa cl bl bls la ov dep bs hz sz ids mp en seen till hr rfl pl_17
  · subst h
    exact leaf_u hm hT hqe he hct hrl hf hp hfa cl bl bls la ov dep bs hz sz ids mp en seen till hr rfl pl_19
  · subst h
    exact leaf_u hm hT hqe he hct hrl hf hp hfa cl bl bls la ov dep bs hz sz ids mp en seen till hr rfl pl_20
  · subst h
    exact leaf_u hm hT hqe he hct hrl hf hp hfa cl bl bls la ov dep bs hz sz ids mp en seen till hr rfl pl_26
  · subst h
    exact leaf_16 hm hT hqe he hct hrl hf hp hfa cl bl bls la ov dep bs hz sz ids mp en seen till
  · subst h
    exact leaf_22 hm hT hqe he hct hrl hf hp hfa cl bl bls la ov dep bs hz sz ids mp en seen till
  · subst h
    exact leaf_12 hm hT hqe he hct hrl hf hp hfa cl bl bls la ov dep bs hz sz ids mp en seen till
  · subst h
    exact leaf_13 hm hT hqe he hct hrl hf hp hfa cl bl bls la ov dep bs hz sz ids mp en seen till
  · subst h
    exact leaf_18 hm hT hqe he hct hrl hf hp hfa cl bl bls la ov dep bs hz sz ids mp en seen till
  · subst h
    exact leaf_6 hm hT hqe he hct hrl hf hp hfa cl bl bls la ov dep bs hz sz ids mp en seen till
  · subst h
    exact leaf_23 hm hT hqe he hct hrl hf hp hfa cl bl bls la ov dep bs hz sz ids mp en seen till (hn (Or.inl rfl))
  · subst h
    exact leaf_25 hm hT hqe he hct hrl hf hp hfa cl bl bls la ov dep bs hz sz ids mp en seen till (hn (Or.inr rfl))
