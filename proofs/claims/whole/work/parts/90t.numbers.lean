-- reading elements: widths, numbers, names, sizes
def wid (b : Nat) : Nat := if 128 ≤ b then 1 else if 64 ≤ b then 2 else if 32 ≤ b then 3 else if 16 ≤ b then 4 else if 8 ≤ b then 5 else if 4 ≤ b then 6 else if 2 ≤ b then 7 else if 1 ≤ b then 8 else 9
theorem wid_b : ∀ b, b < 256 → 1 ≤ wid b ∧ wid b ≤ 9 ∧ (16 ≤ b ↔ wid b ≤ 4) ∧ (wid b = 4 → b < 32) := by decide +kernel
theorem mw_c : ∀ b, b < 256 → fX1_markedWidth Fu (nI b) = some (if wid b = 9 then 0 else nI (wid b)) := by decide +kernel
theorem len_r : ∀ b, b < 256 → fX10_lengthBy Fu (nI b) = some (nI (wid b)) := by decide +kernel
theorem mask_c : ∀ n, n < 9 → ∀ b, b < 256 → nI b &&& ((255 : Int32) >>> (nI n &&& 31)) = nI (b % 2 ^ (8 - n)) := by decide +kernel
theorem mask_r : ∀ n, n < 9 → ∀ b, b < 256 → nI b &&& (((1 : Int32) <<< (((8 : Int32) - nI n) &&& 31)) - 1) = nI (b % 2 ^ (8 - n)) := by decide +kernel
theorem s7n : ∀ n, n < 9 → shl64 1 ((7 : Int32) * nI n) = lN (2 ^ (7 * n)) := by decide +kernel
def hiM (B : Nat → Nat) (p x : Nat) : Nat → Nat
  | 0 => x
  | i + 1 => hiM B p x i * 256 + B (p + (i + 1))
theorem hiM_lt {B : Nat → Nat} (hB : ∀ k, B k < 256) (p : Nat) {x e : Nat} (hx : x < 2 ^ e) : ∀ i, hiM B p x i < 2 ^ (e + 8 * i) := by
  intro i
  induction i with
  | zero => exact hx
  | succ i ih =>
    rw [hiM, show e + 8 * (i + 1) = (e + 8 * i) + 8 by omega, Nat.pow_add]
    have := hB (p + (i + 1))
    omega
/-- the number of a SIZE of n bytes -/
def szv (B : Nat → Nat) (p n : Nat) : Nat := hiM B p (B p % 2 ^ (8 - n)) (n - 1)
theorem szv_lt {B : Nat → Nat} (hB : ∀ k, B k < 256) (p : Nat) {n : Nat} (h1 : 1 ≤ n) (h8 : n ≤ 8) : szv B p n < 2 ^ (7 * n) := by
  have h := hiM_lt hB p (Nat.mod_lt (B p) (Nat.two_pow_pos (8 - n))) (n - 1)
  rw [show 8 - n + 8 * (n - 1) = 7 * n by omega] at h
  exact h
def SZ (B : Nat → Nat) (p n : Nat) : Int64 := if szv B p n = 2 ^ (7 * n) - 1 then -1 else lN (szv B p n)
theorem pow7 {n : Nat} (h8 : n ≤ 8) : 2 ^ (7 * n) ≤ 2 ^ 56 := Nat.pow_le_pow_right (by omega) (by omega)
theorem sn_loop (F : Nat) {T p n : Nat} {w : Nat → Int32} (hT : T ≤ 6000) (hpn : p + n ≤ T) (h1 : 1 ≤ n) (h8 : n ≤ 8) : ∀ (m f i : Nat), i + m = n - 1 → m < f → fX1_sizeNumber_b19 F (nI T) 1501 w (nI p) (nI n) f (nI (i + 1)) (lN (hiM (bw w) p (bw w p % 2 ^ (8 - n)) i)) = some (SZ (bw w) p n) := by
  have hp7 := pow7 h8
  have hp1 := Nat.two_pow_pos (7 * n)
  have hsv := szv_lt (bw_lt w) p h1 h8
  intro m
  induction m with
  | zero =>
    intro f i h2 h3
    obtain ⟨f', rfl⟩ : ∃ f', f = f' + 1 := ⟨f - 1, by omega⟩
    have hi : i = n - 1 := by omega
    have hb : 4 ≤ 2 ^ (7 * n) := Nat.le_trans (show 4 ≤ 2 ^ 7 by decide) (Nat.pow_le_pow_right (by omega) (by omega))
    have hhs : fX0_highestSize F (nI n) = some (lN (2 ^ (7 * n) - 2)) := by
      unfold fX0_highestSize
      rw [s7n n (by omega)]
      have : (2 : Int64) = lN 2 := rfl
      rw [this, lN_sub (by omega)]
    have hv : hiM (bw w) p (bw w p % 2 ^ (8 - n)) (n - 1) = szv (bw w) p n := rfl
    rw [fX1_sizeNumber_b19, if_pos (nI_le (by omega) (by omega)), hhs, Option.bind_some, hi, hv]
    unfold fX1_sizeNumber_b65 SZ
    by_cases c : szv (bw w) p n = 2 ^ (7 * n) - 1
    · rw [if_pos c, if_neg (fun q => by rw [pk_lLE (by omega) (by omega)] at q; omega)]
    · rw [if_neg c, if_pos (by rw [pk_lLE (by omega) (by omega)]; omega)]
  | succ m ih =>
    intro f i h2 h3
    obtain ⟨f', rfl⟩ : ∃ f', f = f' + 1 := ⟨f - 1, by omega⟩
    have hlt := hiM_lt (bw_lt w) p (Nat.mod_lt (bw w p) (Nat.two_pow_pos (8 - n))) i
    have hle : 2 ^ (8 - n + 8 * i) ≤ 2 ^ 54 := Nat.pow_le_pow_right (by omega) (by omega)
    rw [fX1_sizeNumber_b19, if_neg (nI_ge (by omega) (by omega)), nI_add, at_bw F (by omega) (by omega) (by omega) (by omega), Option.bind_some, nm_eq, nm_eq, i8, acc8 (by omega) (bw_lt _ _), nI_1]
    exact ih f' (i + 1) (by omega) (by omega)
theorem sizeNumber_bw (F : Nat) (hF : 10 < F) {T p n : Nat} {w : Nat → Int32} (hT : T ≤ 6000) (hpn : p + n ≤ T) (h1 : 1 ≤ n) (h8 : n ≤ 8) : fX1_sizeNumber F (nI T) 1501 w (nI p) (nI n) = some (SZ (bw w) p n) := by
  unfold fX1_sizeNumber
  rw [at_bw F (by omega) (by omega) (by omega) (by omega), Option.bind_some, nm_eq, mask_c n (by omega) _ (bw_lt _ _), nI_l (by have := Nat.mod_le (bw w p) (2 ^ (8 - n)); have := bw_lt w p; omega)]
  exact sn_loop F hT hpn h1 h8 (n - 1) F 0 (by omega) (by omega)
theorem sa_loop (F : Nat) {T p n : Nat} {mt : Nat → Int32} {B : Nat → Nat} (hB : ∀ k, B k < 256) (hm : ∀ k, k < T → mt k &&& 255 = nI (B k)) (hT : T ≤ 6000) (hpn : p + n ≤ T) (h1 : 1 ≤ n) (h8 : n ≤ 8) : ∀ (m f i : Nat), i + m = n - 1 → m < f → fX10_sizeAt_b19 F mt (nI p) (nI n) f (nI (i + 1)) (lN (hiM B p (B p % 2 ^ (8 - n)) i)) = some (SZ B p n) := by
  have hp7 := pow7 h8
  have hp1 := Nat.two_pow_pos (7 * n)
  have hsv := szv_lt hB p h1 h8
  intro m
  induction m with
  | zero =>
    intro f i h2 h3
    obtain ⟨f', rfl⟩ : ∃ f', f = f' + 1 := ⟨f - 1, by omega⟩
    have hi : i = n - 1 := by omega
    have hb : 4 ≤ 2 ^ (7 * n) := Nat.le_trans (show 4 ≤ 2 ^ 7 by decide) (Nat.pow_le_pow_right (by omega) (by omega))
    have hhs : shl64 1 ((7 : Int32) * nI n) - 1 = lN (2 ^ (7 * n) - 1) := by
      rw [s7n n (by omega)]
      have : (1 : Int64) = lN 1 := rfl
      rw [this, lN_sub (by omega)]
    have hv : hiM B p (B p % 2 ^ (8 - n)) (n - 1) = szv B p n := rfl
    rw [fX10_sizeAt_b19, if_pos (nI_le (by omega) (by omega)), hhs, hi, hv]
    unfold fX10_sizeAt_b66 SZ
    by_cases c : szv B p n = 2 ^ (7 * n) - 1
    · rw [if_pos c, if_pos (by rw [c])]
    · rw [if_neg c, if_neg (by rw [pk_lEQ (by omega) (by omega)]; exact c)]
  | succ m ih =>
    intro f i h2 h3
    obtain ⟨f', rfl⟩ : ∃ f', f = f' + 1 := ⟨f - 1, by omega⟩
    have hlt := hiM_lt hB p (Nat.mod_lt (B p) (Nat.two_pow_pos (8 - n))) i
    have hle : 2 ^ (8 - n + 8 * i) ≤ 2 ^ 54 := Nat.pow_le_pow_right (by omega) (by omega)
    rw [fX10_sizeAt_b19, if_neg (nI_ge (by omega) (by omega)), nI_add, rat_B F hm hT (by omega), Option.bind_some, nm_eq, nm_eq, i8, acc8 (by omega) (hB _), nI_1]
    exact ih f' (i + 1) (by omega) (by omega)
theorem sizeAt_B (F : Nat) (hF : 10 < F) {T p n : Nat} {mt : Nat → Int32} {B : Nat → Nat} (hB : ∀ k, B k < 256) (hm : ∀ k, k < T → mt k &&& 255 = nI (B k)) (hT : T ≤ 6000) (hpn : p + n ≤ T) (h1 : 1 ≤ n) (h8 : n ≤ 8) : fX10_sizeAt F mt (nI p) (nI n) = some (SZ B p n) := by
  unfold fX10_sizeAt
  rw [rat_B F hm hT (by omega), Option.bind_some, nm_eq, mask_r n (by omega) _ (hB _), nI_l (by have := Nat.mod_le (B p) (2 ^ (8 - n)); have := hB p; omega)]
  exact sa_loop F hB hm hT hpn h1 h8 (n - 1) F 0 (by omega) (by omega)
-- the name
theorem acc32 {x b : Nat} (hx : x < 2 ^ 22) (hb : b < 256) : (nI x <<< ((8 : Int32) &&& 31)) ||| nI b = nI (x * 256 + b) := by
  rw [pk_shlN _ 8 (by decide) (by omega)]
  apply Int32.toBitVec_inj.mp
  rw [Int32.toBitVec_or]
  show BitVec.ofNat 32 (x * 2 ^ 8) ||| BitVec.ofNat 32 b = BitVec.ofNat 32 (x * 256 + b)
  apply BitVec.eq_of_toNat_eq
  rw [BitVec.toNat_or, BitVec.toNat_ofNat, BitVec.toNat_ofNat, BitVec.toNat_ofNat, Nat.mod_eq_of_lt (show x * 2 ^ 8 < 2 ^ 32 by omega), Nat.mod_eq_of_lt (show b < 2 ^ 32 by omega), Nat.mod_eq_of_lt (show x * 256 + b < 2 ^ 32 by omega)]
  have := Nat.two_pow_add_eq_or_of_lt (i := 8) (b := b) hb x
  rw [show x * 2 ^ 8 = 2 ^ 8 * x by omega]
  exact (this.symm.trans (by omega))
theorem hiN_id {B : Nat → Nat} (hB : ∀ k, B k < 256) {k n : Nat} (hn : n ≤ 4) (h4 : n = 4 → B k < 32) : hiN B k n < 2 ^ 29 := by
  have h0 := hB k
  have h1 := hB (k + 1)
  have h2 := hB (k + 2)
  have h3 := hB (k + 3)
  rcases (show n = 0 ∨ n = 1 ∨ n = 2 ∨ n = 3 ∨ n = 4 by omega) with h | h | h | h | h
  · subst h; show (0 : Nat) < _; omega
  · subst h; show (0 * 256 + B (k + 0)) < _; rw [Nat.add_zero]; omega
  · subst h; show ((0 * 256 + B (k + 0)) * 256 + B (k + 1)) < _; rw [Nat.add_zero]; omega
  · subst h; show (((0 * 256 + B (k + 0)) * 256 + B (k + 1)) * 256 + B (k + 2)) < _; rw [Nat.add_zero]; omega
  · have := h4 h
    subst h; show ((((0 * 256 + B (k + 0)) * 256 + B (k + 1)) * 256 + B (k + 2)) * 256 + B (k + 3)) < _; rw [Nat.add_zero]; omega
theorem nm_loop (F : Nat) {T k n : Nat} {mt : Nat → Int32} {B : Nat → Nat} (hB : ∀ k, B k < 256) (hm : ∀ k, k < T → mt k &&& 255 = nI (B k)) (hT : T ≤ 6000) (hk : k + n ≤ T) (hn : n ≤ 4) (h4 : n = 4 → B k < 32) (hf hfa p3 p4 : Int32) : ∀ (m f i : Nat), i + m = n → m < f → fX10_name_b51 F hf hfa mt (nI k) p3 p4 f (nI i) (nI n) (nI (hiN B k i)) = ((fX10_mayStand F (nI (hiN B k n)) p3 p4).bind fun o3 => if o3 = 0 then some (0, 2, nI k, nI (hiN B k n), nI (k + n)) else some (1, hf, hfa, nI (hiN B k n), nI (k + n))) := by
  intro m
  induction m with
  | zero =>
    intro f i h1 h2
    obtain ⟨f', rfl⟩ : ∃ f', f = f' + 1 := ⟨f - 1, by omega⟩
    have hi : i = n := by omega
    subst hi
    rw [fX10_name_b51, if_pos (nI_le (Nat.le_refl _) (by omega)), nm_eq, nI_add]
    unfold fX10_fails fX10_name_b111 fX10_name_b116
    rw [Option.bind_some]
    dsimp only
    rw [if_pos (rfl : (0 : Int32) = 0), if_pos isb0, if_pos isb1]
  | succ m ih =>
    intro f i h1 h2
    obtain ⟨f', rfl⟩ : ∃ f', f = f' + 1 := ⟨f - 1, by omega⟩
    have hlt : hiN B k i < 2 ^ 22 := by
      have h3 := hiN_lt hB k i
      rcases (show i ≤ 2 ∨ i = 3 by omega) with h | h
      · have h4 : 256 ^ i ≤ 256 ^ 2 := Nat.pow_le_pow_right (by omega) h
        omega
      · have h5 := h4 (by omega)
        have h1 := hB (k + 1)
        have h2 := hB (k + 2)
        subst h
        show (((0 * 256 + B (k + 0)) * 256 + B (k + 1)) * 256 + B (k + 2)) < _
        rw [Nat.add_zero]
        omega
    rw [fX10_name_b51, if_neg (nI_ge (by omega) (by omega)), nI_add, rat_B F hm hT (by omega), Option.bind_some, nm_eq, nm_eq, acc32 hlt (hB _), nI_1]
    exact ih f' (i + 1) (by omega) (by omega)
theorem name_cases {T k e : Nat} {fw mt : Nat → Int32} (hm : ∀ k, k < T → mt k &&& 255 = nI (bw fw k)) (hT : T ≤ 6000) (hk : k < e) (he : e ≤ T) (id0 fr0 p3 p4 : Int32) :
    (∃ f : Int32, 0 < f ∧ (∀ hf hp, fX1_readId Fu hf hp (nI T) 1501 fw (nI k) (nI e) = some (-1, f, nI k)) ∧ ∀ hf hfa, fX10_name Fu hf hfa id0 fr0 mt (nI k) (nI e) p3 p4 = some (0, f, nI k, id0, fr0)) ∨
    (∃ n, n = wid (bw fw k) ∧ 1 ≤ n ∧ n ≤ 4 ∧ k + n ≤ e ∧ hiN (bw fw) k n < 2 ^ 29 ∧ (∀ hf hp, fX1_readId Fu hf hp (nI T) 1501 fw (nI k) (nI e) = some (nI (hiN (bw fw) k n), hf, hp)) ∧ ∀ hf hfa, fX10_name Fu hf hfa id0 fr0 mt (nI k) (nI e) p3 p4 = ((fX10_mayStand Fu (nI (hiN (bw fw) k n)) p3 p4).bind fun o3 => if o3 = 0 then some (0, 2, nI k, nI (hiN (bw fw) k n), nI (k + n)) else some (1, hf, hfa, nI (hiN (bw fw) k n), nI (k + n)))) := by
  obtain ⟨w1, w2, w3, w4⟩ := wid_b _ (bw_lt fw k)
  have hb := bw_lt fw k
  have hA : ∀ hf hp, fX1_readId Fu hf hp (nI T) 1501 fw (nI k) (nI e) = if bw fw k < 16 then some (-1, 2, nI k) else if k + wid (bw fw k) ≤ e then some (nI (hiN (bw fw) k (wid (bw fw k))), hf, hp) else some (-1, 1, nI k) := by
    intro hf hp
    unfold fX1_readId fX1_readId_b21 fX1_fail
    rw [at_bw Fu (by omega) (by omega) (by omega) (by omega), Option.bind_some, mw_c _ (bw_lt _ _), Option.bind_some, Option.bind_some]
    by_cases c1 : bw fw k < 16
    · rw [if_pos c1]
      by_cases c9 : wid (bw fw k) = 9
      · rw [if_pos c9, if_pos (rfl : (0 : Int32) = 0)]
      · rw [if_neg c9, if_neg (nI_ne0 (by omega) (by omega)), i4, if_neg (nI_ge (by omega) (by omega))]
    · have hw4 := w3.mp (by omega)
      rw [if_neg c1, if_neg (show ¬ wid (bw fw k) = 9 by omega), if_neg (nI_ne0 (by omega) (by omega)), i4, if_pos (nI_le hw4 (by omega)), pk_sub (by omega)]
      by_cases c2 : k + wid (bw fw k) ≤ e
      · rw [if_pos c2, if_pos (nI_le (by omega) (by omega)), high_bw Fu (by omega) (by omega) (by omega) (by omega) (by omega) (by unfold Fu; omega), Option.bind_some, lN_i]
      · rw [if_neg c2, if_neg (nI_ge (by omega) (by omega)), Option.bind_some]
  have hR : ∀ hf hfa, fX10_name Fu hf hfa id0 fr0 mt (nI k) (nI e) p3 p4 = if bw fw k < 16 then some (0, 2, nI k, id0, fr0) else if k + wid (bw fw k) ≤ e then ((fX10_mayStand Fu (nI (hiN (bw fw) k (wid (bw fw k)))) p3 p4).bind fun o3 => if o3 = 0 then some (0, 2, nI k, nI (hiN (bw fw) k (wid (bw fw k))), nI (k + wid (bw fw k))) else some (1, hf, hfa, nI (hiN (bw fw) k (wid (bw fw k))), nI (k + wid (bw fw k)))) else some (0, 1, nI k, id0, fr0) := by
    intro hf hfa
    unfold fX10_name fX10_fails
    rw [rat_B Fu hm hT (by omega), Option.bind_some, len_r _ (bw_lt _ _), Option.bind_some, Option.bind_some, nI_add]
    by_cases c1 : bw fw k < 16
    · rw [if_pos c1, i16, if_neg (nI_ge c1 (by omega)), Option.bind_some, if_pos isb0]
    · have hw4 := w3.mp (by omega)
      rw [if_neg c1, i16, if_pos (nI_le (by omega) (by omega))]
      by_cases c2 : k + wid (bw fw k) ≤ e
      · rw [if_pos c2, if_pos (nI_le c2 (by omega))]
        exact nm_loop Fu (bw_lt fw) hm hT (by omega) hw4 (fun h => w4 h) hf hfa p3 p4 (wid (bw fw k)) Fu 0 (by omega) (by unfold Fu; omega)
      · rw [if_neg c2, if_neg (nI_ge (by omega) (by omega)), if_pos isb0]
  by_cases c1 : bw fw k < 16
  · exact Or.inl ⟨2, by decide, fun hf hp => by rw [hA, if_pos c1], fun hf hfa => by rw [hR, if_pos c1]⟩
  · have hw4 := w3.mp (by omega)
    by_cases c2 : k + wid (bw fw k) ≤ e
    · right
      exact ⟨wid (bw fw k), rfl, w1, hw4, c2, hiN_id (bw_lt fw) hw4 (fun h => w4 h), fun hf hp => by rw [hA, if_neg c1, if_pos c2], fun hf hfa => by rw [hR, if_neg c1, if_pos c2]⟩
    · exact Or.inl ⟨1, by decide, fun hf hp => by rw [hA, if_neg c1, if_neg c2], fun hf hfa => by rw [hR, if_neg c1, if_neg c2]⟩
-- the size
theorem sizeWidth_c {T p e : Nat} {fw : Nat → Int32} (hT : T ≤ 6000) (hp : p < e) (he : e ≤ T) : fX1_sizeWidth Fu (nI T) 1501 fw (nI p) (nI e) = some (if wid (bw fw p) = 9 then 0 else if p + wid (bw fw p) ≤ e then nI (wid (bw fw p)) else -1) := by
  obtain ⟨w1, w2, w3, w4⟩ := wid_b _ (bw_lt fw p)
  unfold fX1_sizeWidth fX1_sizeWidth_b31
  rw [if_pos (nI_lt hp (by omega)), at_bw Fu (by omega) (by omega) (by omega) (by omega), Option.bind_some, mw_c _ (bw_lt _ _), Option.bind_some, pk_sub (by omega)]
  by_cases c9 : wid (bw fw p) = 9
  · rw [if_pos c9, if_pos c9, if_pos (nI_pos' (by omega))]
  · rw [if_neg c9, if_neg c9]
    by_cases c2 : p + wid (bw fw p) ≤ e
    · rw [if_pos c2, if_pos (nI_le (by omega) (by omega))]
    · rw [if_neg c2, if_neg (nI_ge (by omega) (by omega))]
theorem sizeWidth_o (F : Nat) {len : Int32} {fw : Nat → Int32} {p e : Nat} (hp : e ≤ p) (hp2 : p < 2 ^ 31) : fX1_sizeWidth F len 1501 fw (nI p) (nI e) = some (-1) := by
  unfold fX1_sizeWidth
  rw [if_neg (nI_nlt hp hp2)]
def may (i id : Int32) : Prop := (i = 0 ∧ id = 408125543) ∨ (i = 2 ∧ id = 524531317)
theorem size_cases {T p e k : Nat} {fw mt : Nat → Int32} (hm : ∀ k, k < T → mt k &&& 255 = nI (bw fw k)) (hT : T ≤ 6000) (he : e ≤ T) (hp : p ≤ e) {i id : Int32} (hmay : (may i id ↔ (id = 408125543 ∨ id = 524531317))) (bs : Int64) (to0 un0 : Int32) :
    (∃ (f : Int32) (bs' : Int64), 0 < f ∧ (∀ hf hpl, fX1_readSize Fu hf hpl bs (nI T) 1501 fw (nI k) (nI p) (nI e) id = some (-1, f, nI k, bs')) ∧ ∀ hf hfa, ∃ a b c, fX10_head Fu hf hfa id (nI p) to0 un0 mt (nI k) (nI e) i = some (0, f, nI k, a, b, c)) ∨
    (∃ (q to : Nat) (bs' : Int64) (un : Int32), p < q ∧ q ≤ to ∧ to ≤ e ∧ (∀ hf hpl, fX1_readSize Fu hf hpl bs (nI T) 1501 fw (nI k) (nI p) (nI e) id = some (nI q, hf, hpl, bs')) ∧ (∀ hf hfa, fX10_head Fu hf hfa id (nI p) to0 un0 mt (nI k) (nI e) i = some (1, hf, hfa, nI q, nI to, un)) ∧ ((bs' = -1 ∧ un = 1 ∧ to = e ∧ may i id) ∨ (un = 0 ∧ ¬ bs' = -1 ∧ bs' = lN (to - q)))) := by
  rcases Nat.lt_or_ge p e with hpe | hpe
  · obtain ⟨w1, w2, w3, w4⟩ := wid_b _ (bw_lt fw p)
    have hcw := sizeWidth_c hT hpe he (fw := fw)
    by_cases c9 : wid (bw fw p) = 9
    · left
      rw [if_pos c9] at hcw
      refine ⟨3, bs, by decide, fun hf hpl => ?_, fun hf hfa => ⟨nI p, to0, un0, ?_⟩⟩
      · unfold fX1_readSize fX1_fail
        rw [hcw, Option.bind_some, if_neg (show ¬ (0 : Int32) = -1 by decide), if_pos (rfl : (0 : Int32) = 0), Option.bind_some]
      · unfold fX10_head fX10_fails
        rw [if_pos (nI_lt hpe (by omega)), rat_B Fu hm hT (by omega), Option.bind_some, len_r _ (bw_lt _ _), Option.bind_some, c9, if_neg (by decide), Option.bind_some, if_pos isb0]
    rw [if_neg c9] at hcw
    by_cases c2 : p + wid (bw fw p) ≤ e
    · rw [if_pos c2] at hcw
      obtain ⟨n, hn⟩ : ∃ n, n = wid (bw fw p) := ⟨_, rfl⟩
      rw [← hn] at hcw c2 c9 w1 w2
      have hsn := sizeNumber_bw Fu (by unfold Fu; omega) hT (show p + n ≤ T by omega) w1 (show n ≤ 8 by omega) (w := fw)
      have hsa := sizeAt_B Fu (by unfold Fu; omega) (bw_lt fw) hm hT (show p + n ≤ T by omega) w1 (show n ≤ 8 by omega)
      have hsv := szv_lt (bw_lt fw) p w1 (show n ≤ 8 by omega)
      have hp7 := pow7 (show n ≤ 8 by omega)
      obtain ⟨v, hv⟩ : ∃ v, v = SZ (bw fw) p n := ⟨_, rfl⟩
      rw [← hv] at hsn hsa
      have hvv : v = -1 ∨ (¬ v = -1 ∧ v = lN (szv (bw fw) p n)) := by
        rw [hv]
        unfold SZ
        by_cases q : szv (bw fw) p n = 2 ^ (7 * n) - 1
        · rw [if_pos q]; exact Or.inl rfl
        · rw [if_neg q]
          refine Or.inr ⟨fun h => ?_, rfl⟩
          have h2 := congrArg Int64.toInt h
          rw [pk_lT (by omega)] at h2
          have h3 : (-1 : Int64).toInt = -1 := by decide +kernel
          rw [h3] at h2
          omega
      have hcls : ∀ hf hpl, fX1_readSize Fu hf hpl bs (nI T) 1501 fw (nI k) (nI p) (nI e) id = fX1_readSize_b63 Fu hf hpl (nI k) (nI p) (nI e) (nI n) (if id = 408125543 ∨ id = 524531317 then 1 else 0) v := by
        intro hf hpl
        unfold fX1_readSize fX1_readSize_b58
        rw [hcw, Option.bind_some, if_neg (m1_eq (by omega)), if_neg (nI_ne0 (by omega) (by omega)), hsn, Option.bind_some]
        by_cases q1 : id = 408125543
        · rw [if_pos q1, if_pos (Or.inl q1)]
        · rw [if_neg q1]
          by_cases q2 : id = 524531317
          · rw [if_pos q2, if_pos (Or.inr q2)]
          · rw [if_neg q2, if_neg (fun h => h.elim q1 q2)]
      have hmv : ∃ mv : Int32, (mv = 1 ∧ may i id) ∨ (mv = 0 ∧ ¬ may i id) := by
        by_cases q : may i id
        · exact ⟨1, Or.inl ⟨rfl, q⟩⟩
        · exact ⟨0, Or.inr ⟨rfl, q⟩⟩
      obtain ⟨mv, hmv⟩ := hmv
      have hmv2 : (if id = 408125543 ∨ id = 524531317 then (1 : Int32) else 0) = mv := by
        rcases hmv with ⟨h1, h2⟩ | ⟨h1, h2⟩
        · rw [if_pos (hmay.mp h2), h1]
        · rw [if_neg (fun q => h2 (hmay.mpr q)), h1]
      obtain ⟨un, hun⟩ : ∃ un : Int32, (un = 1 ∧ v = -1) ∨ (un = 0 ∧ ¬ v = -1) := by
        by_cases q : v = -1
        · exact ⟨1, Or.inl ⟨rfl, q⟩⟩
        · exact ⟨0, Or.inr ⟨rfl, q⟩⟩
      have hisb : isb un = true := by
        rcases hun with ⟨h, -⟩ | ⟨h, -⟩
        · rw [h]; exact isb1
        · rw [h]; exact isb0
      have href : ∀ hf hfa, fX10_head Fu hf hfa id (nI p) to0 un0 mt (nI k) (nI e) i = fX10_head_b122 Fu hf hfa (nI p) to0 (nI k) (nI e) (nI n) v mv un := by
        intro hf hfa
        have h87 : ∀ u : Int32, isb u = true → fX10_head_b87 Fu hf hfa id (nI p) to0 (nI k) (nI e) i v (nI n) u = fX10_head_b122 Fu hf hfa (nI p) to0 (nI k) (nI e) (nI n) v mv u := by
          intro u hu
          unfold fX10_head_b87 fX10_head_b103 fX10_head_b117 fX10_head_b121
          rw [if_pos hu]
          rcases hmv with ⟨h1, h2⟩ | ⟨h1, h2⟩
          · rw [h1]
            rcases h2 with ⟨q1, q2⟩ | ⟨q1, q2⟩
            · rw [if_pos q1, if_pos q2]
            · rw [if_neg (by rw [q1]; decide), if_pos q1, if_pos q2]
          · rw [h1]
            by_cases q1 : i = 0
            · rw [if_pos q1, if_neg (fun h => h2 (Or.inl ⟨q1, h⟩)), if_neg (by rw [q1]; decide)]
            · rw [if_neg q1]
              by_cases q2 : i = 2
              · rw [if_pos q2, if_neg (fun h => h2 (Or.inr ⟨q2, h⟩))]
              · rw [if_neg q2]
        unfold fX10_head
        rw [if_pos (nI_lt hpe (by omega)), rat_B Fu hm hT (by omega), Option.bind_some, len_r _ (bw_lt _ _), Option.bind_some, ← hn, i8, if_pos (nI_le (by omega) (by omega)), nI_add, if_pos (nI_le c2 (by omega)), hsa, Option.bind_some, ← h87 un hisb]
        rcases hun with ⟨h1, h2⟩ | ⟨h1, h2⟩
        · rw [if_pos h2, h1]
        · rw [if_neg h2, h1]
      have l31 : (2147483647 : Int64) = lN 2147483647 := rfl
      have hen : nI e - (nI p + nI n) = nI (e - (p + n)) := by rw [nI_add, pk_sub c2]
      have hen2 : nI e - nI p - nI n = nI (e - (p + n)) := by rw [pk_sub (by omega), pk_sub (by omega), show e - p - n = e - (p + n) by omega]
      rcases hvv with hv1 | ⟨hv1, hv2⟩
      · -- unknown
        have hu1 : un = 1 := by
          rcases hun with ⟨h1, -⟩ | ⟨-, h2⟩
          · exact h1
          · exact absurd hv1 h2
        rcases hmv with ⟨h1, h2⟩ | ⟨h1, h2⟩
        · right
          refine ⟨p + n, e, -1, 1, by omega, c2, Nat.le_refl _, fun hf hpl => ?_, fun hf hfa => ?_, Or.inl ⟨rfl, rfl, rfl, h2⟩⟩
          · rw [hcls, hmv2, h1, hv1]
            unfold fX1_readSize_b63 fX1_readSize_b99
            rw [if_neg (show ¬ (2147483647 : Int64) < -1 by decide), if_pos (rfl : (-1 : Int64) = -1), if_neg (show ¬ (1 : Int32) = 0 by decide), hen2, nI_l (by omega), if_pos, nI_add]
            rw [Int64.le_iff_toInt_le, pk_lT (by omega)]
            have h3 : (-1 : Int64).toInt = -1 := by decide +kernel
            rw [h3]
            omega
          · rw [href, h1, hu1, hv1]
            unfold fX10_head_b122 fX10_head_b136
            rw [if_neg (show ¬ (1 : Int32) = 0 by decide), if_neg (show ¬ (1 : Int32) = 0 by decide), if_pos (show (-1 : Int64) ≤ 2147483647 by decide), nm_eq, nI_add, if_neg (show ¬ (1 : Int32) = 0 by decide)]
        · left
          refine ⟨3, -1, by decide, fun hf hpl => ?_, fun hf hfa => ⟨nI p, to0, un, ?_⟩⟩
          · rw [hcls, hmv2, h1, hv1]
            unfold fX1_readSize_b63 fX1_readSize_b92 fX1_fail
            rw [if_neg (show ¬ (2147483647 : Int64) < -1 by decide), if_pos (rfl : (-1 : Int64) = -1), if_pos (rfl : (0 : Int32) = 0), Option.bind_some]
          · rw [href, h1, hu1, hv1]
            unfold fX10_head_b122 fX10_head_b145 fX10_fails
            rw [if_neg (show ¬ (1 : Int32) = 0 by decide), if_pos (rfl : (0 : Int32) = 0), Option.bind_some, if_pos isb0]
      · have hu0 : un = 0 := by
          rcases hun with ⟨-, h2⟩ | ⟨h1, -⟩
          · exact absurd h2 hv1
          · exact h1
        obtain ⟨x, hx⟩ : ∃ x, x = szv (bw fw) p n := ⟨_, rfl⟩
        rw [← hx] at hv2 hsv
        by_cases c3 : x ≤ 2147483647
        · by_cases c4 : x ≤ e - (p + n)
          · right
            have hto : nI (p + n) + (lN x).toInt32 = nI (p + n + x) := by rw [lN_i, nI_add]
            refine ⟨p + n, p + n + x, v, 0, by omega, by omega, by omega, fun hf hpl => ?_, fun hf hfa => ?_, Or.inr ⟨rfl, hv1, by rw [hv2, show p + n + x - (p + n) = x by omega]⟩⟩
            · rw [hcls]
              unfold fX1_readSize_b63 fX1_readSize_b99
              rw [if_neg (show ¬ (2147483647 : Int64) < v by rw [hv2, l31, pk_lLT (by omega) (by omega)]; omega), if_neg hv1, hen2, nI_l (by omega), if_pos (by rw [hv2, pk_lLE (by omega) (by omega)]; exact c4), nI_add]
            · rw [href, hu0]
              unfold fX10_head_b122 fX10_head_b136
              rw [if_pos (rfl : (0 : Int32) = 0), if_pos (by rw [hv2, l31, pk_lLE (by omega) (by omega)]; exact c3), nm_eq, if_pos (rfl : (0 : Int32) = 0), hen, nI_l (by omega), if_pos (by rw [hv2, pk_lLE (by omega) (by omega)]; exact c4), nm_eq, nI_add, hv2, hto]
          · left
            refine ⟨1, v, by decide, fun hf hpl => ?_, fun hf hfa => ⟨nI p + nI n, to0, 0, ?_⟩⟩
            · rw [hcls]
              unfold fX1_readSize_b63 fX1_readSize_b99 fX1_fail
              rw [if_neg (show ¬ (2147483647 : Int64) < v by rw [hv2, l31, pk_lLT (by omega) (by omega)]; omega), if_neg hv1, hen2, nI_l (by omega), if_neg (by rw [hv2, pk_lLE (by omega) (by omega)]; exact c4), Option.bind_some]
            · rw [href, hu0]
              unfold fX10_head_b122 fX10_head_b136 fX10_fails
              rw [if_pos (rfl : (0 : Int32) = 0), if_pos (by rw [hv2, l31, pk_lLE (by omega) (by omega)]; exact c3), nm_eq, if_pos (rfl : (0 : Int32) = 0), hen, nI_l (by omega), if_neg (by rw [hv2, pk_lLE (by omega) (by omega)]; exact c4), Option.bind_some, if_pos isb0]
        · left
          refine ⟨3, v, by decide, fun hf hpl => ?_, fun hf hfa => ⟨nI p, to0, 0, ?_⟩⟩
          · rw [hcls]
            unfold fX1_readSize_b63 fX1_readSize_b92 fX1_fail
            rw [if_pos (by rw [hv2, l31, pk_lLT (by omega) (by omega)]; omega), Option.bind_some]
          · rw [href, hu0]
            unfold fX10_head_b122 fX10_head_b136 fX10_head_b145 fX10_fails
            rw [if_pos (rfl : (0 : Int32) = 0), if_neg (by rw [hv2, l31, pk_lLE (by omega) (by omega)]; exact c3), Option.bind_some, if_pos isb0]
    · left
      rw [if_neg c2] at hcw
      refine ⟨1, bs, by decide, fun hf hpl => ?_, fun hf hfa => ⟨nI p, to0, un0, ?_⟩⟩
      · unfold fX1_readSize fX1_fail
        rw [hcw, Option.bind_some, if_pos (rfl : (-1 : Int32) = -1), Option.bind_some]
      · unfold fX10_head fX10_fails
        rw [if_pos (nI_lt hpe (by omega)), rat_B Fu hm hT (by omega), Option.bind_some, len_r _ (bw_lt _ _), Option.bind_some, i8, if_pos (nI_le (by omega) (by omega)), nI_add, if_neg (nI_ge (by omega) (by omega)), Option.bind_some, if_pos isb0]
  · left
    refine ⟨1, bs, by decide, fun hf hpl => ?_, fun hf hfa => ⟨nI p, to0, un0, ?_⟩⟩
    · unfold fX1_readSize fX1_fail
      rw [sizeWidth_o Fu hpe (by omega), Option.bind_some, if_pos (rfl : (-1 : Int32) = -1), Option.bind_some]
    · unfold fX10_head fX10_fails
      rw [if_neg (nI_nlt hpe (by omega)), Option.bind_some, if_pos isb0]
