-- numbers of elements, the document's name
theorem acc8b {x b : Nat} (hx : x < 2 ^ 56) (hb : b < 256) : shl64 (lN x) (nI 8) ||| (nI b).toInt64 = lN (x * 256 + b) := by
  have h1 : (shl64 (lN x) (nI 8)).toBitVec = BitVec.ofNat 64 (x * 256) := by
    unfold shl64
    rw [Int64.toBitVec_shiftLeft]
    show (lN x).toBitVec <<< (((nI 8).toInt64 &&& 63).toBitVec.smod 64).toNat = _
    rw [s_l64 8 (by omega)]
    apply BitVec.eq_of_toNat_eq
    rw [BitVec.toNat_shiftLeft, Nat.shiftLeft_eq]
    show (BitVec.ofNat 64 x).toNat * 2 ^ 8 % 2 ^ 64 = _
    rw [BitVec.toNat_ofNat, BitVec.toNat_ofNat, Nat.mod_eq_of_lt (show x < 2 ^ 64 by omega)]
  apply Int64.toBitVec_inj.mp
  rw [Int64.toBitVec_or, h1, nI_l (by omega)]
  show BitVec.ofNat 64 (x * 256) ||| BitVec.ofNat 64 b = BitVec.ofNat 64 (x * 256 + b)
  apply BitVec.eq_of_toNat_eq
  rw [BitVec.toNat_or, BitVec.toNat_ofNat, BitVec.toNat_ofNat, BitVec.toNat_ofNat, Nat.mod_eq_of_lt (show x * 256 < 2 ^ 64 by omega), Nat.mod_eq_of_lt (show b < 2 ^ 64 by omega), Nat.mod_eq_of_lt (show x * 256 + b < 2 ^ 64 by omega)]
  have := Nat.two_pow_add_eq_or_of_lt (i := 8) (b := b) hb x
  rw [show x * 256 = 2 ^ 8 * x by omega, this]
theorem hi8_loop (F : Nat) {T k t : Nat} {w : Nat → Int32} (hT : T ≤ 6000) (hkt : k + t ≤ T) (ht : t ≤ 8) : ∀ (m n i : Nat), i + m = t → m < n → fX8_highFirst_b5 F (nI T) 1501 w (nI k) (nI t) n (nI i) (lN (hiN (bw w) k i)) = some (lN (hiN (bw w) k t)) := by
  intro m
  induction m with
  | zero =>
    intro n i h1 h2
    obtain ⟨n', rfl⟩ : ∃ n', n = n' + 1 := ⟨n - 1, by omega⟩
    rw [fX8_highFirst_b5, if_pos (nI_le (by omega) (by omega)), show i = t by omega]
  | succ m ih =>
    intro n i h1 h2
    obtain ⟨n', rfl⟩ : ∃ n', n = n' + 1 := ⟨n - 1, by omega⟩
    have hlt : hiN (bw w) k i < 2 ^ 56 := by
      have h3 := hiN_lt (bw_lt w) k i
      have h4 : 256 ^ i ≤ 256 ^ 7 := Nat.pow_le_pow_right (by omega) (by omega)
      omega
    rw [fX8_highFirst_b5, if_neg (nI_ge (by omega) (by omega))]
    simp only [nm_eq]
    rw [nI_add, at_bw F (by omega) (by omega) (by omega) (by omega), Option.bind_some, nb255 (bw_lt _ _), nI_1, i8, acc8b hlt (bw_lt _ _)]
    exact ih n' (i + 1) (by omega) (by omega)
theorem high8_bw (F : Nat) {T k t : Nat} {w : Nat → Int32} (hT : T ≤ 6000) (hkt : k + t ≤ T) (ht : t ≤ 8) (hF : 8 < F) : fX8_highFirst F (nI T) 1501 w (nI k) (nI t) = some (lN (hiN (bw w) k t)) := hi8_loop F hT hkt ht t F 0 (by omega) (by omega)
def UV (B : Nat → Nat) (f n : Nat) : Int64 := if hiN B f n < 2 ^ 62 then lN (hiN B f n) else -1
theorem l54 : (18014398509481984 : Int64) = lN (2 ^ 54) := by decide +kernel
theorem ui_loop (F : Nat) {T f n : Nat} {mt : Nat → Int32} {B : Nat → Nat} (hB : ∀ k, B k < 256) (hm : ∀ k, k < T → mt k &&& 255 = nI (B k)) (hT : T ≤ 6000) (hf : f + n ≤ T) (hn : n ≤ 8) : ∀ (m g i : Nat), i + m = n → m < g → hiN B f i < 2 ^ 62 → fX10_uint_b25 F (nI (f + n)) mt g (nI (f + i)) (lN (hiN B f i)) = some (UV B f n) := by
  intro m
  induction m with
  | zero =>
    intro g i h1 h2 h3
    obtain ⟨g', rfl⟩ : ∃ n', g = n' + 1 := ⟨g - 1, by omega⟩
    have hi : i = n := by omega
    subst hi
    unfold UV
    rw [fX10_uint_b25, if_pos (nI_le (Nat.le_refl _) (by omega)), if_pos h3]
  | succ m ih =>
    intro g i h1 h2 h3
    obtain ⟨g', rfl⟩ : ∃ n', g = n' + 1 := ⟨g - 1, by omega⟩
    have hb := hB (f + i)
    have hs : hiN B f (i + 1) = hiN B f i * 256 + B (f + i) := rfl
    rw [fX10_uint_b25, if_neg (nI_ge (by omega) (by omega)), l54]
    by_cases c : hiN B f i < 2 ^ 54
    · rw [if_pos (by rw [pk_lLT (by omega) (by omega)]; exact c), rat_B F hm hT (by omega), Option.bind_some, nm_eq, nm_eq, i8, acc8 c hb, nI_1]
      exact ih g' (i + 1) (by omega) (by omega) (by omega)
    · rw [if_neg (by rw [pk_lLT (by omega) (by omega)]; exact c)]
      have h7 : i = 7 := by
        rcases Nat.lt_or_ge i 7 with q | q
        · have h3 := hiN_lt hB f i
          have h4 : 256 ^ i ≤ 256 ^ 6 := Nat.pow_le_pow_right (by omega) (by omega)
          omega
        · omega
      have hn8 : n = i + 1 := by omega
      unfold UV
      rw [hn8, if_neg (by omega)]
theorem uint_r {T f t : Nat} {mt : Nat → Int32} {B : Nat → Nat} (hB : ∀ k, B k < 256) (hm : ∀ k, k < T → mt k &&& 255 = nI (B k)) (hT : T ≤ 6000) (hft : f ≤ t) (ht : t ≤ T) : fX10_uint Fu (nI f) (nI t) mt = some (if t - f ≤ 8 then UV B f (t - f) else -1) := by
  unfold fX10_uint
  rw [pk_sub hft, i8]
  by_cases c : t - f ≤ 8
  · rw [if_pos (nI_le c (by omega)), if_pos c]
    have h := ui_loop Fu hB hm hT (f := f) (n := t - f) (by omega) c (t - f) Fu 0 (by omega) (by unfold Fu; omega) (by show (0 : Nat) < _; omega)
    rw [show f + (t - f) = t by omega] at h
    exact h
  · rw [if_neg (nI_ge (by omega) (by omega)), if_neg c]
theorem within_r {T f t : Nat} {mt : Nat → Int32} {B : Nat → Nat} (hB : ∀ k, B k < 256) (hm : ∀ k, k < T → mt k &&& 255 = nI (B k)) (hT : T ≤ 6000) (hft : f ≤ t) (ht : t ≤ T) (lo hi : Int64) (hf hfa k : Int32) : fX10_isWithin Fu hf hfa (nI f) (nI t) mt k lo hi = if ¬ (if t - f ≤ 8 then UV B f (t - f) else -1) < lo ∧ (if t - f ≤ 8 then UV B f (t - f) else -1) ≤ hi then some (1, hf, hfa) else some (0, 5, k) := by
  unfold fX10_isWithin fX10_isWithin_b21 fX10_isWithin_b30 fX10_isWithin_b35 fX10_fails
  rw [uint_r hB hm hT hft ht, Option.bind_some, Option.bind_some]
  dsimp only
  rw [if_pos (rfl : (0 : Int32) = 0), if_pos isb0, if_pos isb1]
  generalize (if t - f ≤ 8 then UV B f (t - f) else -1) = U
  by_cases c1 : U < lo
  · rw [if_pos c1, if_neg (fun h => h.1 c1)]
  · rw [if_neg c1]
    by_cases c2 : U ≤ hi
    · rw [if_pos c2, if_pos ⟨c1, c2⟩]
    · rw [if_neg c2, if_neg (fun h => c2 h.2)]
theorem col (F : Nat) {r c : Nat} (hr : r < 27) (hc : c < 6) : fX1_column F (nI r) (nI c) = some (kTold (r * 6 + c)) := by
  unfold fX1_column fX1_column_b27 fX1_column_b30
  have h162 : (162 : Int32) = nI 162 := rfl
  rw [i6, pk_mul, nI_add, nm_eq, if_neg (nI_pos (by omega)), h162, if_neg (nI_ge (by omega) (by omega)), if_pos (gin_nI (by omega) (by omega)), nI_clamp (by omega)]
theorem lN_toI {x : Nat} (hx : x < 2 ^ 64) : (lN x).toInt = if x < 2 ^ 63 then (x : Int) else (x : Int) - 2 ^ 64 := by
  by_cases c : x < 2 ^ 63
  · rw [if_pos c, pk_lT c]
  · rw [if_neg c]
    show (BitVec.ofNat 64 x).toInt = _
    rw [BitVec.toInt_eq_toNat_cond, BitVec.toNat_ofNat, Nat.mod_eq_of_lt hx, if_neg (by omega)]
    omega
/-- the class's number and the reference's are within the same bounds -/
theorem uint_iff {B : Nat → Nat} (hB : ∀ k, B k < 256) {f n : Nat} (hn : n ≤ 8) {lo hi : Int64} (hlo : 0 ≤ lo.toInt) (hhi : hi.toInt < 2 ^ 62) : (¬ lN (hiN B f n) < lo ∧ lN (hiN B f n) ≤ hi ↔ ¬ UV B f n < lo ∧ UV B f n ≤ hi) ∧ (¬ UV B f n < lo ∧ UV B f n ≤ hi → lN (hiN B f n) = UV B f n) := by
  have h3 := hiN_lt hB f n
  have h4 : 256 ^ n ≤ 256 ^ 8 := Nat.pow_le_pow_right (by omega) hn
  have h5 : hiN B f n < 2 ^ 64 := by omega
  unfold UV
  by_cases c : hiN B f n < 2 ^ 62
  · rw [if_pos c]
    exact ⟨Iff.rfl, fun _ => rfl⟩
  · rw [if_neg c]
    have hm1 : (-1 : Int64).toInt = -1 := by decide +kernel
    have hneg : ¬ (¬ (-1 : Int64) < lo ∧ (-1 : Int64) ≤ hi) := by
      rw [Int64.lt_iff_toInt_lt, hm1]
      omega
    refine ⟨⟨fun h => ?_, fun h => absurd h hneg⟩, fun h => absurd h hneg⟩
    exfalso
    have h6 := lN_toI h5
    rw [Int64.lt_iff_toInt_lt, Int64.le_iff_toInt_le, h6] at h
    by_cases c2 : hiN B f n < 2 ^ 63
    · rw [if_pos c2] at h; omega
    · rw [if_neg c2] at h; omega
theorem readUint_c {T f t : Nat} {fw : Nat → Int32} (hT : T ≤ 6000) (hft : f ≤ t) (ht : t ≤ T) {r : Nat} (hr : r < 27) (hlo : 0 ≤ (kTold (r * 6 + 4)).toInt) (hhi : (kTold (r * 6 + 5)).toInt < 2 ^ 62) (hf hp k : Int32) (tn ct : Int64) : fX1_readUint Fu hf hp tn ct (nI T) 1501 fw (nI r) k (nI f) (nI t) = if ¬ (if t - f ≤ 8 then UV (bw fw) f (t - f) else -1) < kTold (r * 6 + 4) ∧ (if t - f ≤ 8 then UV (bw fw) f (t - f) else -1) ≤ kTold (r * 6 + 5) then some (nI t, hf, hp, (if kTold (r * 6) = 215 then UV (bw fw) f (t - f) else tn), (if kTold (r * 6) = 231 then UV (bw fw) f (t - f) else ct)) else some (-1, 5, k, tn, ct) := by
  have c4 : fX1_column Fu (nI r) 4 = some (kTold (r * 6 + 4)) := col Fu hr (c := 4) (by omega)
  have c5 : fX1_column Fu (nI r) 5 = some (kTold (r * 6 + 5)) := col Fu hr (c := 5) (by omega)
  have c0 : fX1_column Fu (nI r) 0 = some (kTold (r * 6)) := col Fu hr (c := 0) (by omega)
  unfold fX1_readUint fX1_readUint_b52 fX1_readUint_b77 fX1_readUint_b95 fX1_fail
  rw [pk_sub hft, i8]
  by_cases c : t - f ≤ 8
  · rw [if_pos (nI_le c (by omega)), high8_bw Fu hT (by omega) c (by unfold Fu; omega), Option.bind_some, c4, Option.bind_some, c5, Option.bind_some, c0, Option.bind_some, Option.bind_some]
    simp only [if_pos c, Option.bind_some]
    obtain ⟨q1, q2⟩ := uint_iff (bw_lt fw) (f := f) c hlo hhi
    by_cases ok : ¬ UV (bw fw) f (t - f) < kTold (r * 6 + 4) ∧ UV (bw fw) f (t - f) ≤ kTold (r * 6 + 5)
    · have ok2 := q1.mpr ok
      rw [if_neg ok2.1, if_pos ok2.2, if_pos ok, q2 ok]
      by_cases z1 : kTold (r * 6) = 215
      · rw [if_pos z1, if_pos z1]
        by_cases z2 : kTold (r * 6) = 231
        · rw [if_pos z2, if_pos z2]
        · rw [if_neg z2, if_neg z2]
      · rw [if_neg z1, if_neg z1]
        by_cases z2 : kTold (r * 6) = 231
        · rw [if_pos z2, if_pos z2]
        · rw [if_neg z2, if_neg z2]
    · rw [if_neg ok]
      by_cases z1 : lN (hiN (bw fw) f (t - f)) < kTold (r * 6 + 4)
      · rw [if_pos z1]
      · rw [if_neg z1, if_neg (fun z2 => ok (q1.mp ⟨z1, z2⟩))]
  · rw [if_neg (nI_ge (by omega) (by omega)), Option.bind_some]
    simp only [if_neg c]
    rw [if_neg]
    have hm1 : (-1 : Int64).toInt = -1 := by decide +kernel
    rw [Int64.lt_iff_toInt_lt, hm1]
    omega
-- the document's name
def matN (i : Nat) : Nat := (if i = 0 then 109 else if i = 1 then 97 else if i = 2 then 116 else if i = 3 then 114 else if i = 4 then 111 else if i = 5 then 115 else if i = 6 then 107 else 97) % 256
theorem matN_lt (i : Nat) : matN i < 256 := Nat.mod_lt _ (by omega)
theorem mat_c (F : Nat) : ∀ i, i < 8 → fJ_charAt F (nI i) = some (nI (matN i)) := by
  intro i hi
  unfold fJ_charAt
  rw [if_pos (gin_nI hi (by omega)), nI_clamp (by omega)]
  have h : ∀ i, i < 8 → kMat i = nI (matN i) := by decide +kernel
  rw [h i hi]
theorem hiN_inj {B C : Nat → Nat} (hB : ∀ k, B k < 256) (hC : ∀ k, C k < 256) (f g : Nat) : ∀ n, hiN B f n = hiN C g n ↔ ∀ i, i < n → B (f + i) = C (g + i) := by
  intro n
  induction n with
  | zero => exact ⟨fun _ i hi => by omega, fun _ => rfl⟩
  | succ n ih =>
    have h1 := hB (f + n)
    have h2 := hC (g + n)
    have e1 : hiN B f (n + 1) = hiN B f n * 256 + B (f + n) := rfl
    have e2 : hiN C g (n + 1) = hiN C g n * 256 + C (g + n) := rfl
    constructor
    · intro h i hi
      have h3 : hiN B f n = hiN C g n := by omega
      have h4 : B (f + n) = C (g + n) := by omega
      rcases Nat.lt_or_ge i n with q | q
      · exact ih.mp h3 i q
      · rw [show i = n by omega]; exact h4
    · intro h
      have h3 := ih.mpr (fun i hi => h i (by omega))
      have h4 := h n (by omega)
      omega
theorem dn_loop (F : Nat) {T f : Nat} {fw : Nat → Int32} (hT : T ≤ 6000) (hf : f + 8 ≤ T) : ∀ (m n i : Nat), i + m = 8 → m < n → ((∀ j, i ≤ j → j < 8 → bw fw (f + j) = matN j) → fX1_isDocumentName_b15 F (nI T) 1501 fw (nI f) n (nI i) = some 1) ∧ (¬ (∀ j, i ≤ j → j < 8 → bw fw (f + j) = matN j) → fX1_isDocumentName_b15 F (nI T) 1501 fw (nI f) n (nI i) = some 0) := by
  intro m
  induction m with
  | zero =>
    intro n i h1 h2
    obtain ⟨n', rfl⟩ : ∃ n', n = n' + 1 := ⟨n - 1, by omega⟩
    refine ⟨fun _ => ?_, fun h => absurd (fun j h3 h4 => by omega) h⟩
    rw [fX1_isDocumentName_b15]
    unfold fJ_length
    rw [Option.bind_some, i8, if_pos (nI_le (by omega) (by omega))]
  | succ m ih =>
    intro n i h1 h2
    obtain ⟨n', rfl⟩ : ∃ n', n = n' + 1 := ⟨n - 1, by omega⟩
    have hb := bw_lt fw (f + i)
    have hc := matN_lt i
    have hstep : fX1_isDocumentName_b15 F (nI T) 1501 fw (nI f) (n' + 1) (nI i) = if nI (bw fw (f + i)) = nI (matN i) then fX1_isDocumentName_b15 F (nI T) 1501 fw (nI f) n' (nI (i + 1)) else some 0 := by
      rw [fX1_isDocumentName_b15]
      unfold fJ_length
      rw [Option.bind_some, i8, if_neg (nI_ge (by omega) (by omega)), nI_add, at_bw F (by omega) (by omega) (by omega) (by omega), Option.bind_some, mat_c F i (by omega), Option.bind_some, nm_eq, nI_1]
    obtain ⟨q1, q2⟩ := ih n' (i + 1) (by omega) (by omega)
    rw [hstep]
    by_cases c : bw fw (f + i) = matN i
    · rw [if_pos (by rw [c])]
      refine ⟨fun h => q1 (fun j h3 h4 => h j (by omega) h4), fun h => q2 (fun d => h (fun j h3 h4 => ?_))⟩
      rcases (show j = i ∨ i + 1 ≤ j by omega) with q | q
      · rw [q]; exact c
      · exact d j q h4
    · rw [if_neg (by rw [nI_eq (by omega) (by omega)]; exact c)]
      exact ⟨fun h => absurd (h i (Nat.le_refl _) (by omega)) c, fun _ => rfl⟩
theorem lN_inj {x y : Nat} (hx : x < 2 ^ 64) (hy : y < 2 ^ 64) (h : lN x = lN y) : x = y := by
  have h2 : (BitVec.ofNat 64 x).toNat = (BitVec.ofNat 64 y).toNat := congrArg (fun z : Int64 => z.toBitVec.toNat) h
  rw [BitVec.toNat_ofNat, BitVec.toNat_ofNat, Nat.mod_eq_of_lt hx, Nat.mod_eq_of_lt hy] at h2
  exact h2
theorem matc : (7881708857720007521 : Int64) = lN (hiN matN 0 8) := by decide +kernel
theorem im_loop (F : Nat) {T f : Nat} {mt : Nat → Int32} {B : Nat → Nat} (hB : ∀ k, B k < 256) (hm : ∀ k, k < T → mt k &&& 255 = nI (B k)) (hT : T ≤ 6000) (hf : f + 8 ≤ T) : ∀ (m g i : Nat), i + m = 8 → m < g → fX10_isMatroska_b7 F (nI f) (nI (f + 8)) mt g (nI (f + i)) (lN (hiN B f i)) = fX10_isMatroska_b47 F (lN (hiN B f 8)) := by
  intro m
  induction m with
  | zero =>
    intro g i h1 h2
    obtain ⟨g', rfl⟩ : ∃ n', g = n' + 1 := ⟨g - 1, by omega⟩
    rw [fX10_isMatroska_b7, if_pos (nI_le (by omega) (by omega)), show i = 8 by omega]
  | succ m ih =>
    intro g i h1 h2
    obtain ⟨g', rfl⟩ : ∃ n', g = n' + 1 := ⟨g - 1, by omega⟩
    have hlt : hiN B f i < 2 ^ 56 := by
      have h3 := hiN_lt hB f i
      have h4 : 256 ^ i ≤ 256 ^ 7 := Nat.pow_le_pow_right (by omega) (by omega)
      omega
    rw [fX10_isMatroska_b7, if_neg (nI_ge (by omega) (by omega)), pk_sub (by omega), show f + 8 - f = 8 by omega, if_pos (show nI 8 = (8 : Int32) from rfl), rat_B F hm hT (by omega), Option.bind_some, nm_eq, nm_eq, i8, acc8b hlt (hB _), nI_1]
    exact ih g' (i + 1) (by omega) (by omega)
theorem name_eq {T f t : Nat} {fw mt : Nat → Int32} (hm : ∀ k, k < T → mt k &&& 255 = nI (bw fw k)) (hT : T ≤ 6000) (hft : f ≤ t) (ht : t ≤ T) : ∃ v : Int32, (v = 0 ∨ v = 1) ∧ fX1_isDocumentName Fu (nI T) 1501 fw (nI f) (nI t) = some v ∧ fX10_isMatroska Fu (nI f) (nI t) mt = some v := by
  unfold fX1_isDocumentName fJ_length fX10_isMatroska
  rw [Option.bind_some, pk_sub hft]
  by_cases c : t - f = 8
  · have htf : t = f + 8 := by omega
    subst htf
    obtain ⟨n1, n2⟩ := dn_loop Fu hT (f := f) (fw := fw) (by omega) 8 Fu 0 (by omega) (by unfold Fu; omega)
    have h2 := im_loop Fu (bw_lt fw) hm hT (f := f) (by omega) 8 Fu 0 (by omega) (by unfold Fu; omega)
    have h2' : fX10_isMatroska_b7 Fu (nI f) (nI (f + 8)) mt Fu (nI f) 0 = _ := h2
    rw [c, if_pos (show nI 8 = (8 : Int32) from rfl), h2']
    unfold fX10_isMatroska_b47 fX10_isMatroska_b60
    rw [if_pos isb1, if_pos isb0, matc]
    have hinj := hiN_inj (bw_lt fw) matN_lt f 0 8
    have b1 := hiN_lt (bw_lt fw) f 8
    have b2 := hiN_lt matN_lt 0 8
    by_cases d : ∀ i, i < 8 → bw fw (f + i) = matN (0 + i)
    · refine ⟨1, Or.inr rfl, n1 (fun j _ h4 => by have := d j h4; rw [Nat.zero_add] at this; exact this), by rw [if_pos (by rw [hinj.mpr d])]⟩
    · refine ⟨0, Or.inl rfl, n2 (fun h => d (fun j h4 => by rw [Nat.zero_add]; exact h j (Nat.zero_le _) h4)), by rw [if_neg (fun h => d (hinj.mp (lN_inj (by omega) (by omega) h)))]⟩
  · refine ⟨0, Or.inl rfl, ?_, ?_⟩
    · rw [if_neg (show ¬ nI (t - f) = 8 by rw [i8, nI_eq (by omega) (by omega)]; exact c)]
    · have h47 : fX10_isMatroska_b47 Fu 0 = some 0 := by
        unfold fX10_isMatroska_b47 fX10_isMatroska_b60
        rw [if_neg (by decide), if_pos isb0]
      unfold Fu at h47 ⊢
      rw [fX10_isMatroska_b7, h47]
      by_cases d : nI t ≤ nI f
      · rw [if_pos d]
      · rw [if_neg d, pk_sub hft, if_neg (show ¬ nI (t - f) = 8 by rw [i8, nI_eq (by omega) (by omega)]; exact c)]
