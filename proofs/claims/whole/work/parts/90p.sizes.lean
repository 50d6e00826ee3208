-- sizes, differences, sums of 255: on both sides
def szn (x : Nat) : Nat := if x ≤ 126 then 1 else 2
def szL (x : Nat) : List Int32 := if x ≤ 126 then hiL ((128 : Int64) ||| lN x) 1 else hiL ((16384 : Int64) ||| lN x) 2
theorem szL_len (x : Nat) : (szL x).length = szn x := by
  unfold szL szn
  by_cases c : x ≤ 126
  · rw [if_pos c, if_pos c, hiL_len]
  · rw [if_neg c, if_neg c, hiL_len]
theorem szn_le (x : Nat) : szn x ≤ 2 := by
  unfold szn
  by_cases c : x ≤ 126
  · rw [if_pos c]; omega
  · rw [if_neg c]; omega
theorem hsz1 (F : Nat) : fX0_highestSize F 1 = some (lN 126) := by unfold fX0_highestSize; decide +kernel
theorem hsz2 (F : Nat) : fX0_highestSize F 2 = some (lN 16382) := by unfold fX0_highestSize; decide +kernel
theorem s71 : shl64 1 ((7 : Int32) * 1) = 128 := by decide +kernel
theorem s72 : shl64 1 ((7 : Int32) * 2) = 16384 := by decide +kernel
theorem s61 : shl64 1 (((7 : Int32) * 1) - 1) = 64 := by decide +kernel
theorem s62 : shl64 1 (((7 : Int32) * 2) - 1) = 8192 := by decide +kernel
theorem p11 : (1 : Int32) + 1 = 2 := by decide
theorem hi_g (F : Nat) (hF : 10 < F) {cap nw : Nat} (hc : cap < 2 ^ 30) (hn : cap / 4 < nw) (hn2 : nw < 2 ^ 30) (v : Int64) {o : Int32} {len ov : Int32} {w : Nat → Int32} {c : Option (List Int32)} (h : CR cap o len ov (rb w) c) : (∃ r, fX8_addHighFirst F (nI cap) len ov nw w v 1 = some r ∧ CR cap o r.1 r.2.1 (rb r.2.2) (app cap c (hiL v 1))) ∧ (∃ r, fX8_addHighFirst F (nI cap) len ov nw w v 2 = some r ∧ CR cap o r.1 r.2.1 (rb r.2.2) (app cap c (hiL v 2))) := ⟨addHigh_CR F hc hn hn2 v 1 (by omega) (by omega) h, addHigh_CR F hc hn hn2 v 2 (by omega) (by omega) h⟩
theorem phi_g (F : Nat) (hF : 10 < F) (v : Int64) {len ov : Int32} {w : Nat → Int32} {c : Option (List Int32)} (h : CR 6000 0 len ov (fun k => w k &&& 255) c) : (∃ r, fX10_putHigh F len ov w v 1 = some r ∧ CR 6000 0 r.1 r.2.1 (fun k => r.2.2 k &&& 255) (app 6000 c (hiL v 1))) ∧ (∃ r, fX10_putHigh F len ov w v 2 = some r ∧ CR 6000 0 r.1 r.2.1 (fun k => r.2.2 k &&& 255) (app 6000 c (hiL v 2))) := ⟨putHigh_CR F v 1 (by omega) (by omega) h, putHigh_CR F v 2 (by omega) (by omega) h⟩
theorem cputSize (F : Nat) (hF : 10 < F) {cap nw : Nat} (hc : cap < 2 ^ 30) (hn : cap / 4 < nw) (hn2 : nw < 2 ^ 30) {x : Nat} (hx : x ≤ 16000) {o : Int32} {len ov : Int32} {w : Nat → Int32} {c : Option (List Int32)} (h : CR cap o len ov (rb w) c) : ∃ r, fX2_putSize F (nI cap) len ov nw w (lN x) = some r ∧ CR cap o r.1 r.2.1 (rb r.2.2) (app cap c (szL x)) := by
  obtain ⟨f, hf⟩ : ∃ f, F = f + 1 + 1 := ⟨F - 2, by omega⟩
  unfold fX2_putSize szL
  have h0 : fX2_putSize_b2 F (nI cap) len ov nw w (lN x) F 1 = fX2_putSize_b2 F (nI cap) len ov nw w (lN x) (f + 1 + 1) 1 := by rw [← hf]
  rw [h0, fX2_putSize_b2, if_neg (show ¬ (8 : Int32) ≤ 1 by decide), hsz1, Option.bind_some]
  by_cases c1 : x ≤ 126
  · rw [if_pos ((pk_lLE (by omega) (by omega)).mpr c1), if_pos c1]
    obtain ⟨r, a1, a2⟩ := (hi_g F hF hc hn hn2 ((128 : Int64) ||| lN x) h).1
    unfold fX2_putSize_b23
    rw [s71, a1, Option.bind_some]
    exact ⟨_, rfl, a2⟩
  · rw [if_neg (fun q => c1 ((pk_lLE (by omega) (by omega)).mp q)), if_neg c1, nm_eq, p11, fX2_putSize_b2, if_neg (show ¬ (8 : Int32) ≤ 2 by decide), hsz2, Option.bind_some, if_pos ((pk_lLE (by omega) (by omega)).mpr (by omega))]
    obtain ⟨r, a1, a2⟩ := (hi_g F hF hc hn hn2 ((16384 : Int64) ||| lN x) h).2
    unfold fX2_putSize_b23
    rw [s72, a1, Option.bind_some]
    exact ⟨_, rfl, a2⟩
theorem l127 : (128 : Int64) - 1 = lN 127 := by decide +kernel
theorem l16383 : (16384 : Int64) - 1 = lN 16383 := by decide +kernel
theorem rsizeLength (F : Nat) (hF : 10 < F) {x : Nat} (hx : x ≤ 16000) : fX10_sizeLength F (lN x) = some (nI (szn x)) := by
  obtain ⟨f, hf⟩ : ∃ f, F = f + 1 + 1 := ⟨F - 2, by omega⟩
  unfold fX10_sizeLength szn
  have h0 : fX10_sizeLength_b2 F (lN x) F 1 = fX10_sizeLength_b2 F (lN x) (f + 1 + 1) 1 := by rw [← hf]
  rw [h0, fX10_sizeLength_b2, s71, l127]
  by_cases c1 : x ≤ 126
  · rw [if_pos ((pk_lLT (by omega) (by omega)).mpr (by omega)), if_pos c1]
    rfl
  · rw [if_neg (fun q => absurd ((pk_lLT (by omega) (by omega)).mp q) (by omega)), if_neg c1, nm_eq, p11, fX10_sizeLength_b2, s72, l16383, if_pos ((pk_lLT (by omega) (by omega)).mpr (by omega))]
    rfl
theorem rputSize (F : Nat) (hF : 10 < F) {x : Nat} (hx : x ≤ 16000) {len ov : Int32} {w : Nat → Int32} {c : Option (List Int32)} (h : CR 6000 0 len ov (fun k => w k &&& 255) c) : ∃ r, fX10_putSize F len ov w (lN x) = some r ∧ CR 6000 0 r.1 r.2.1 (fun k => r.2.2 k &&& 255) (app 6000 c (szL x)) := by
  unfold fX10_putSize szL
  rw [rsizeLength F hF hx, Option.bind_some]
  unfold szn
  by_cases c1 : x ≤ 126
  · rw [if_pos c1, if_pos c1, ← i1, s71, Int64.or_comm (lN x)]
    obtain ⟨r, a1, a2⟩ := (phi_g F hF ((128 : Int64) ||| lN x) h).1
    rw [a1, Option.bind_some]
    exact ⟨_, rfl, a2⟩
  · rw [if_neg c1, if_neg c1, ← i2, s72, Int64.or_comm (lN x)]
    obtain ⟨r, a1, a2⟩ := (phi_g F hF ((16384 : Int64) ||| lN x) h).2
    rw [a1, Option.bind_some]
    exact ⟨_, rfl, a2⟩
-- differences
def dfn (d : Int64) : Nat := if -63 ≤ d.toInt ∧ d.toInt ≤ 63 then 1 else 2
def dfL (d : Int64) : List Int32 := if -63 ≤ d.toInt ∧ d.toInt ≤ 63 then hiL ((128 : Int64) ||| (d + 63)) 1 else hiL ((16384 : Int64) ||| (d + 8191)) 2
theorem dfL_len (d : Int64) : (dfL d).length = dfn d := by
  unfold dfL dfn
  by_cases c : -63 ≤ d.toInt ∧ d.toInt ≤ 63
  · rw [if_pos c, if_pos c, hiL_len]
  · rw [if_neg c, if_neg c, hiL_len]
theorem dfn_le (d : Int64) : dfn d ≤ 2 := by
  unfold dfn
  by_cases c : -63 ≤ d.toInt ∧ d.toInt ≤ 63
  · rw [if_pos c]; omega
  · rw [if_neg c]; omega
theorem ds1 (F : Nat) : fX0_differenceShift F 1 = some 63 := by unfold fX0_differenceShift; decide +kernel
theorem ds2 (F : Nat) : fX0_differenceShift F 2 = some 8191 := by unfold fX0_differenceShift; decide +kernel
theorem ti0 : (0 : Int64).toInt = 0 := by decide +kernel
theorem ti63 : (63 : Int64).toInt = 63 := by decide +kernel
theorem ti8191 : (8191 : Int64).toInt = 8191 := by decide +kernel
theorem tim63 : ((1 : Int64) - 64).toInt = -63 := by decide +kernel
theorem tim8191 : ((1 : Int64) - 8192).toInt = -8191 := by decide +kernel
theorem abs_toInt {d : Int64} (h1 : -2400 ≤ d.toInt) (h2 : d.toInt ≤ 2400) : (if 0 < d then d else -d).toInt = if 0 < d.toInt then d.toInt else -d.toInt := by
  by_cases c : 0 < d
  · have c2 := c
    rw [Int64.lt_iff_toInt_lt, ti0] at c2
    rw [if_pos c, if_pos c2]
  · have c2 := c
    rw [Int64.lt_iff_toInt_lt, ti0] at c2
    rw [if_neg c, if_neg c2, Int64.toInt_neg, Int.bmod_eq_of_le (by omega) (by omega)]
theorem cputDiff (F : Nat) (hF : 10 < F) {cap nw : Nat} (hc : cap < 2 ^ 30) (hn : cap / 4 < nw) (hn2 : nw < 2 ^ 30) {d : Int64} (h1 : -2400 ≤ d.toInt) (h2 : d.toInt ≤ 2400) {o : Int32} {len ov : Int32} {w : Nat → Int32} {c : Option (List Int32)} (h : CR cap o len ov (rb w) c) : ∃ r, fX2_putDifference F (nI cap) len ov nw w d = some r ∧ CR cap o r.1 r.2.1 (rb r.2.2) (app cap c (dfL d)) := by
  obtain ⟨f, hf⟩ : ∃ f, F = f + 1 + 1 := ⟨F - 2, by omega⟩
  unfold fX2_putDifference dfL
  have h0 : fX2_putDifference_b2 F (nI cap) len ov nw w d F 1 = fX2_putDifference_b2 F (nI cap) len ov nw w d (f + 1 + 1) 1 := by rw [← hf]
  have hab := abs_toInt h1 h2
  rw [h0, fX2_putDifference_b2, if_neg (show ¬ (8 : Int32) ≤ 1 by decide), ds1, Option.bind_some]
  by_cases c1 : -63 ≤ d.toInt ∧ d.toInt ≤ 63
  · have hle : (if 0 < d then d else -d) ≤ 63 := by
      rw [Int64.le_iff_toInt_le, hab, ti63]
      by_cases q : 0 < d.toInt
      · rw [if_pos q]; omega
      · rw [if_neg q]; omega
    rw [if_pos hle, if_pos c1]
    obtain ⟨r, a1, a2⟩ := (hi_g F hF hc hn hn2 ((128 : Int64) ||| (d + 63)) h).1
    unfold fX2_putDifference_b26
    rw [ds1, Option.bind_some, nm_eq, s71, a1, Option.bind_some]
    exact ⟨_, rfl, a2⟩
  · have hle : ¬ (if 0 < d then d else -d) ≤ 63 := by
      rw [Int64.le_iff_toInt_le, hab, ti63]
      by_cases q : 0 < d.toInt
      · rw [if_pos q]; omega
      · rw [if_neg q]; omega
    have hle2 : (if 0 < d then d else -d) ≤ 8191 := by
      rw [Int64.le_iff_toInt_le, hab, ti8191]
      by_cases q : 0 < d.toInt
      · rw [if_pos q]; omega
      · rw [if_neg q]; omega
    rw [if_neg hle, if_neg c1, nm_eq, p11, fX2_putDifference_b2, if_neg (show ¬ (8 : Int32) ≤ 2 by decide), ds2, Option.bind_some, if_pos hle2]
    obtain ⟨r, a1, a2⟩ := (hi_g F hF hc hn hn2 ((16384 : Int64) ||| (d + 8191)) h).2
    unfold fX2_putDifference_b26
    rw [ds2, Option.bind_some, nm_eq, s72, a1, Option.bind_some]
    exact ⟨_, rfl, a2⟩
theorem l64m : (64 : Int64) - 1 = 63 := by decide +kernel
theorem l8192m : (8192 : Int64) - 1 = 8191 := by decide +kernel
theorem rsignedLength (F : Nat) (hF : 10 < F) {d : Int64} (h1 : -2400 ≤ d.toInt) (h2 : d.toInt ≤ 2400) : fX10_signedLength F d = some (nI (dfn d)) := by
  obtain ⟨f, hf⟩ : ∃ f, F = f + 1 + 1 := ⟨F - 2, by omega⟩
  unfold fX10_signedLength dfn
  have h0 : fX10_signedLength_b2 F d F 1 = fX10_signedLength_b2 F d (f + 1 + 1) 1 := by rw [← hf]
  rw [h0, fX10_signedLength_b2, s61, l64m]
  unfold fX10_signedLength_b32
  rw [nm_eq, p11]
  by_cases c1 : -63 ≤ d.toInt ∧ d.toInt ≤ 63
  · rw [if_neg (by rw [Int64.lt_iff_toInt_lt, ti63]; omega), if_pos (by rw [Int64.le_iff_toInt_le, tim63]; omega), if_pos c1]
    rfl
  · rw [if_neg c1]
    have h2' : fX10_signedLength_b2 F d (f + 1) 2 = some 2 := by
      rw [fX10_signedLength_b2, s62, l8192m, if_neg (by rw [Int64.lt_iff_toInt_lt, ti8191]; omega), if_pos (by rw [Int64.le_iff_toInt_le, tim8191]; omega)]
    rw [h2']
    by_cases c2 : (63 : Int64) < d
    · rw [if_pos c2]; rfl
    · rw [if_neg c2, if_neg (by rw [Int64.le_iff_toInt_le, tim63]; rw [Int64.lt_iff_toInt_lt, ti63] at c2; omega)]
      rfl
theorem add_sub1 (d a b : Int64) (h : a - 1 = b) : d + a - 1 = d + b := by
  rw [← h, Int64.sub_eq_add_neg, Int64.sub_eq_add_neg, Int64.add_assoc]
theorem rputDiff (F : Nat) (hF : 10 < F) {d : Int64} (h1 : -2400 ≤ d.toInt) (h2 : d.toInt ≤ 2400) {len ov : Int32} {w : Nat → Int32} {c : Option (List Int32)} (h : CR 6000 0 len ov (fun k => w k &&& 255) c) : ∃ r, fX10_putHigh F len ov w (((d + (shl64 1 (((7 : Int32) * nI (dfn d)) - 1))) - 1) ||| (shl64 1 ((7 : Int32) * nI (dfn d)))) (nI (dfn d)) = some r ∧ CR 6000 0 r.1 r.2.1 (fun k => r.2.2 k &&& 255) (app 6000 c (dfL d)) := by
  unfold dfn dfL
  by_cases c1 : -63 ≤ d.toInt ∧ d.toInt ≤ 63
  · rw [if_pos c1, if_pos c1, ← i1, s61, s71, add_sub1 d 64 63 l64m, Int64.or_comm]
    exact (phi_g F hF ((128 : Int64) ||| (d + 63)) h).1
  · rw [if_neg c1, if_neg c1, ← i2, s62, s72, add_sub1 d 8192 8191 l8192m, Int64.or_comm]
    exact (phi_g F hF ((16384 : Int64) ||| (d + 8191)) h).2
theorem dif_b {a b : Nat} (ha : a ≤ 2400) (hb : b ≤ 2400) : -2400 ≤ (nI a - nI b).toInt64.toInt ∧ (nI a - nI b).toInt64.toInt ≤ 2400 := by
  rw [Int32.toInt_toInt64, pk_sub_toInt (by omega) (by omega)]
  omega
-- sums of 255
def smL (x : Nat) : List Int32 := seg (fun _ => (255 : Int32) &&& 255) 0 (x / 255) ++ [nI (x % 255) &&& 255]
theorem smL_len (x : Nat) : (smL x).length = x / 255 + 1 := by
  unfold smL
  rw [List.length_append, seg_len]
  rfl
theorem csum_loop (F : Nat) {cap nw : Nat} (hc : cap < 2 ^ 30) (hn : cap / 4 < nw) (hn2 : nw < 2 ^ 30) {x : Nat} (hx : x ≤ 2400) {o : Int32} : ∀ (m n i : Nat) (len ov : Int32) (w : Nat → Int32) (c : Option (List Int32)), i + m = x / 255 → m < n → CR cap o len ov (rb w) c → ∃ r, fX2_putSummedSize_b8 F (nI cap) nw (nI x) n (nI i) (nI (x / 255)) len ov w = some r ∧ CR cap o r.1 r.2.1 (rb r.2.2) (app cap c (seg (fun _ => (255 : Int32) &&& 255) i m ++ [nI (x % 255) &&& 255])) := by
  intro m
  induction m with
  | zero =>
    intro n i len ov w c h1 h2 h
    obtain ⟨n', rfl⟩ : ∃ n', n = n' + 1 := ⟨n - 1, by omega⟩
    obtain ⟨r, a1, a2⟩ := add_CR F hc hn hn2 h (nI (x % 255))
    rw [fX2_putSummedSize_b8, if_pos (nI_le (by omega) (by omega)), i255, pk_mul, pk_sub (by omega), show x - 255 * (x / 255) = x % 255 by omega, a1, Option.bind_some]
    exact ⟨_, rfl, a2⟩
  | succ m ih =>
    intro n i len ov w c h1 h2 h
    obtain ⟨n', rfl⟩ : ∃ n', n = n' + 1 := ⟨n - 1, by omega⟩
    obtain ⟨r, a1, a2⟩ := add_CR F hc hn hn2 h 255
    obtain ⟨r2, b1, b2⟩ := ih n' (i + 1) r.1 r.2.1 r.2.2 _ (by omega) (by omega) a2
    rw [app_app] at b2
    refine ⟨r2, ?_, b2⟩
    rw [fX2_putSummedSize_b8, if_neg (nI_ge (by omega) (by omega)), a1, Option.bind_some, nm_eq, nI_1]
    exact b1
theorem cputSum (F : Nat) (hF : 2400 < F) {cap nw : Nat} (hc : cap < 2 ^ 30) (hn : cap / 4 < nw) (hn2 : nw < 2 ^ 30) {x : Nat} (hx : x ≤ 2400) {o : Int32} {len ov : Int32} {w : Nat → Int32} {c : Option (List Int32)} (h : CR cap o len ov (rb w) c) : ∃ r, fX2_putSummedSize F (nI cap) len ov nw w (nI x) = some r ∧ CR cap o r.1 r.2.1 (rb r.2.2) (app cap c (smL x)) := by
  unfold fX2_putSummedSize
  rw [nm_eq, i255, pk_div (by omega) (by omega) (by omega)]
  exact csum_loop F hc hn hn2 hx (x / 255) F 0 len ov w c (by omega) (by omega) h
theorem rsum212 (F : Nat) {ms : Nat → Int32} {p i x : Nat} (hpi : p + i < 64) (hms : ms (p + i) = nI x) (hx : x ≤ 2400) (rc : Int32 → Int32 → Int32 → (Nat → Int32) → Option (Int32 × Int32 × (Nat → Int32))) : ∀ (m n j : Nat) (md mf : Int32) (dr : Nat → Int32) (c : Option (List Int32)), j + m = x / 255 → m < n → CR 6000 0 md mf (fun k => dr k &&& 255) c → ∃ r : Int32 × Int32 × (Nat → Int32), fX10_putBlock_b212 F ms (nI p) rc n (nI j) (nI i) md mf dr = fX10_putBlock_b354 F rc (nI i) r.1 r.2.1 r.2.2 ∧ CR 6000 0 r.1 r.2.1 (fun k => r.2.2 k &&& 255) (app 6000 c (seg (fun _ => (255 : Int32) &&& 255) j m ++ [nI (x % 255) &&& 255])) := by
  intro m
  have hg := gin_nI (k := p + i) (n := 64) hpi (by omega)
  induction m with
  | zero =>
    intro n j md mf dr c h1 h2 h
    obtain ⟨n', rfl⟩ : ∃ n', n = n' + 1 := ⟨n - 1, by omega⟩
    obtain ⟨r, a1, a2⟩ := put_CR F h (nI (x % 255))
    refine ⟨r, ?_, a2⟩
    rw [fX10_putBlock_b212, nm_eq, nm_eq, nI_add, if_pos hg, if_pos hg, nI_clamp (by omega), hms, i255, pk_rem (by omega) (by omega) (by omega), pk_div (by omega) (by omega) (by omega), if_pos (nI_le (by omega) (by omega)), a1, Option.bind_some]
  | succ m ih =>
    intro n j md mf dr c h1 h2 h
    obtain ⟨n', rfl⟩ : ∃ n', n = n' + 1 := ⟨n - 1, by omega⟩
    obtain ⟨r, a1, a2⟩ := put_CR F h 255
    obtain ⟨r2, b1, b2⟩ := ih n' (j + 1) r.1 r.2.1 r.2.2 _ (by omega) (by omega) a2
    rw [app_app] at b2
    refine ⟨r2, ?_, b2⟩
    have hd : nI x / 255 = nI (x / 255) := by rw [i255, pk_div (by omega) (by omega) (by omega)]
    rw [fX10_putBlock_b212, nm_eq, nI_add, if_pos hg, nI_clamp (by omega), hms, hd, if_neg (nI_ge (by omega) (by omega)), a1, Option.bind_some, nm_eq, nI_1]
    exact b1
